def R_Row : String := "CoreDesk$Row"
def F_Row : u_T := fun k => match k with
  | 0 => ("CoreDesk$Row", "bytes", "[B", true)
  | _ => ("CoreDesk$Row", "length", "I", false)
def t_Row : Nat → FieldType := fun k => match k with
  | 0 => .array .byte
  | _ => .int
theorem n_Row : ∀ a, a < 2 → ∀ b, b < 2 → a ≠ b → (F_Row a).2.1 ≠ (F_Row b).2.1 := by decide +kernel
theorem t_Row_ok : ∀ k, k < 2 → parseFieldDescriptor (F_Row k).2.2.1 = some (t_Row k) := by decide +kernel
def R_Reg : String := "CoreDesk$Region"
def F_Reg : u_T := fun k => match k with
  | 0 => ("CoreDesk$Region", "bytes", "[B", true)
  | 1 => ("CoreDesk$Region", "address", "I", false)
  | 2 => ("CoreDesk$Region", "size", "I", false)
  | _ => ("CoreDesk$Region", "permissions", "I", false)
def t_Reg : Nat → FieldType := fun k => match k with
  | 0 => .array .byte
  | 1 => .int
  | 2 => .int
  | _ => .int
theorem n_Reg : ∀ a, a < 4 → ∀ b, b < 4 → a ≠ b → (F_Reg a).2.1 ≠ (F_Reg b).2.1 := by decide +kernel
theorem t_Reg_ok : ∀ k, k < 4 → parseFieldDescriptor (F_Reg k).2.2.1 = some (t_Reg k) := by decide +kernel
def R_Tt : String := "CoreDesk$ThreadTable"
def F_Tt : u_T := fun k => match k with
  | 0 => ("CoreDesk$ThreadTable", "ids", "[I", true)
  | 1 => ("CoreDesk$ThreadTable", "values", "[I", true)
  | _ => ("CoreDesk$ThreadTable", "count", "I", false)
def t_Tt : Nat → FieldType := fun k => match k with
  | 0 => .array .int
  | 1 => .array .int
  | _ => .int
theorem n_Tt : ∀ a, a < 3 → ∀ b, b < 3 → a ≠ b → (F_Tt a).2.1 ≠ (F_Tt b).2.1 := by decide +kernel
theorem t_Tt_ok : ∀ k, k < 3 → parseFieldDescriptor (F_Tt k).2.2.1 = some (t_Tt k) := by decide +kernel
def R_Mem : String := "CoreDesk$Memory"
def F_Mem : u_T := fun k => match k with
  | 0 => ("CoreDesk$Memory", "regions", "[LCoreDesk$Region;", true)
  | _ => ("CoreDesk$Memory", "count", "I", false)
def t_Mem : Nat → FieldType := fun k => match k with
  | 0 => .array (.object "CoreDesk$Region")
  | _ => .int
theorem n_Mem : ∀ a, a < 2 → ∀ b, b < 2 → a ≠ b → (F_Mem a).2.1 ≠ (F_Mem b).2.1 := by decide +kernel
theorem t_Mem_ok : ∀ k, k < 2 → parseFieldDescriptor (F_Mem k).2.2.1 = some (t_Mem k) := by decide +kernel
def R_Fw : String := "CoreDesk$FileWriter"
def F_Fw : u_T := fun k => match k with
  | 0 => ("CoreDesk$FileWriter", "file", "LCoreDesk$Row;", true)
  | 1 => ("CoreDesk$FileWriter", "memory", "LCoreDesk$Memory;", true)
  | _ => ("CoreDesk$FileWriter", "threads", "LCoreDesk$ThreadTable;", true)
def t_Fw : Nat → FieldType := fun k => match k with
  | 0 => .object "CoreDesk$Row"
  | 1 => .object "CoreDesk$Memory"
  | _ => .object "CoreDesk$ThreadTable"
theorem n_Fw : ∀ a, a < 3 → ∀ b, b < 3 → a ≠ b → (F_Fw a).2.1 ≠ (F_Fw b).2.1 := by decide +kernel
theorem t_Fw_ok : ∀ k, k < 3 → parseFieldDescriptor (F_Fw k).2.2.1 = some (t_Fw k) := by decide +kernel
def R_Tc : String := "CoreDesk$TapeCheck"
def F_Tc : u_T := fun k => match k with
  | 0 => ("CoreDesk$TapeCheck", "tape", "LCoreDesk$Row;", true)
  | 1 => ("CoreDesk$TapeCheck", "found", "LCoreDesk$ThreadTable;", true)
  | 2 => ("CoreDesk$TapeCheck", "wrong", "I", false)
  | _ => ("CoreDesk$TapeCheck", "place", "I", false)
def t_Tc : Nat → FieldType := fun k => match k with
  | 0 => .object "CoreDesk$Row"
  | 1 => .object "CoreDesk$ThreadTable"
  | 2 => .int
  | _ => .int
theorem n_Tc : ∀ a, a < 4 → ∀ b, b < 4 → a ≠ b → (F_Tc a).2.1 ≠ (F_Tc b).2.1 := by decide +kernel
theorem t_Tc_ok : ∀ k, k < 4 → parseFieldDescriptor (F_Tc k).2.2.1 = some (t_Tc k) := by decide +kernel
def R_Desk : String := "CoreDesk"
def F_Desk : u_T := fun k => match k with
  | 0 => ("CoreDesk", "memory", "LCoreDesk$Memory;", true)
  | 1 => ("CoreDesk", "threads", "LCoreDesk$ThreadTable;", true)
  | 2 => ("CoreDesk", "file", "LCoreDesk$Row;", true)
  | 3 => ("CoreDesk", "writer", "LCoreDesk$FileWriter;", true)
  | 4 => ("CoreDesk", "tape", "LCoreDesk$Row;", true)
  | 5 => ("CoreDesk", "check", "LCoreDesk$TapeCheck;", true)
  | 6 => ("CoreDesk", "coreMemory", "LCoreDesk$Memory;", true)
  | 7 => ("CoreDesk", "coreThreads", "LCoreDesk$ThreadTable;", true)
  | _ => ("CoreDesk", "hasCore", "Z", false)
def t_Desk : Nat → FieldType := fun k => match k with
  | 0 => .object "CoreDesk$Memory"
  | 1 => .object "CoreDesk$ThreadTable"
  | 2 => .object "CoreDesk$Row"
  | 3 => .object "CoreDesk$FileWriter"
  | 4 => .object "CoreDesk$Row"
  | 5 => .object "CoreDesk$TapeCheck"
  | 6 => .object "CoreDesk$Memory"
  | 7 => .object "CoreDesk$ThreadTable"
  | _ => .boolean
theorem n_Desk : ∀ a, a < 9 → ∀ b, b < 9 → a ≠ b → (F_Desk a).2.1 ≠ (F_Desk b).2.1 := by decide +kernel
theorem t_Desk_ok : ∀ k, k < 9 → parseFieldDescriptor (F_Desk k).2.2.1 = some (t_Desk k) := by decide +kernel
def R_Mo : String := "CoreDeskModel"
def F_Mo : u_T := fun k => match k with
  | 0 => ("CoreDeskModel", "thrown", "I", false)
  | 1 => ("CoreDeskModel", "address", "[I", true)
  | 2 => ("CoreDeskModel", "size", "[I", true)
  | 3 => ("CoreDeskModel", "flag", "[I", true)
  | 4 => ("CoreDeskModel", "bytes", "[B", true)
  | 5 => ("CoreDeskModel", "regions", "[I", true)
  | 6 => ("CoreDeskModel", "threads", "[I", true)
  | 7 => ("CoreDeskModel", "id", "[I", true)
  | 8 => ("CoreDeskModel", "register", "[I", true)
  | 9 => ("CoreDeskModel", "file", "[B", true)
  | 10 => ("CoreDeskModel", "fileSize", "I", false)
  | 11 => ("CoreDeskModel", "tape", "[B", true)
  | 12 => ("CoreDeskModel", "tapeSize", "I", false)
  | 13 => ("CoreDeskModel", "hasCore", "Z", false)
  | 14 => ("CoreDeskModel", "wrong", "I", false)
  | _ => ("CoreDeskModel", "where", "I", false)
def t_Mo : Nat → FieldType := fun k => match k with
  | 0 => .int
  | 1 => .array .int
  | 2 => .array .int
  | 3 => .array .int
  | 4 => .array .byte
  | 5 => .array .int
  | 6 => .array .int
  | 7 => .array .int
  | 8 => .array .int
  | 9 => .array .byte
  | 10 => .int
  | 11 => .array .byte
  | 12 => .int
  | 13 => .boolean
  | 14 => .int
  | _ => .int
theorem n_Mo : ∀ a, a < 16 → ∀ b, b < 16 → a ≠ b → (F_Mo a).2.1 ≠ (F_Mo b).2.1 := by decide +kernel
theorem t_Mo_ok : ∀ k, k < 16 → parseFieldDescriptor (F_Mo k).2.2.1 = some (t_Mo k) := by decide +kernel
def R_Law : String := "CoreDeskLaw"
def R_Arr : String := "java/util/Arrays"
abbrev cd_cl : List vw_C := [(R_Row, F_Row, 2), (R_Reg, F_Reg, 4), (R_Tt, F_Tt, 3), (R_Mem, F_Mem, 2), (R_Fw, F_Fw, 3), (R_Tc, F_Tc, 4), (R_Desk, F_Desk, 9), (R_Mo, F_Mo, 16)]
abbrev b_Desk_init : ByteArray := prog_1_method_1_code
def y_Desk_init : MethodName := ⟨"CoreDesk", "<init>", "()V"⟩
abbrev b_Desk_map : ByteArray := prog_1_method_2_code
def y_Desk_map : MethodName := ⟨"CoreDesk", "map", "(III)Z"⟩
abbrev b_Desk_unmap : ByteArray := prog_1_method_3_code
def y_Desk_unmap : MethodName := ⟨"CoreDesk", "unmap", "(I)Z"⟩
abbrev b_Desk_poke : ByteArray := prog_1_method_4_code
def y_Desk_poke : MethodName := ⟨"CoreDesk", "poke", "(II)Z"⟩
abbrev b_Desk_pokeFour : ByteArray := prog_1_method_5_code
def y_Desk_pokeFour : MethodName := ⟨"CoreDesk", "pokeFour", "(II)Z"⟩
abbrev b_Desk_thread : ByteArray := prog_1_method_6_code
def y_Desk_thread : MethodName := ⟨"CoreDesk", "thread", "(I)I"⟩
abbrev b_Desk_set : ByteArray := prog_1_method_7_code
def y_Desk_set : MethodName := ⟨"CoreDesk", "set", "(III)Z"⟩
abbrev b_Desk_dump : ByteArray := prog_1_method_8_code
def y_Desk_dump : MethodName := ⟨"CoreDesk", "dump", "()I"⟩
abbrev b_Desk_byteAt : ByteArray := prog_1_method_9_code
def y_Desk_byteAt : MethodName := ⟨"CoreDesk", "byteAt", "(I)I"⟩
abbrev b_Desk_copy : ByteArray := prog_1_method_10_code
def y_Desk_copy : MethodName := ⟨"CoreDesk", "copy", "()I"⟩
abbrev b_Desk_put : ByteArray := prog_1_method_11_code
def y_Desk_put : MethodName := ⟨"CoreDesk", "put", "(II)Z"⟩
abbrev b_Desk_cut : ByteArray := prog_1_method_12_code
def y_Desk_cut : MethodName := ⟨"CoreDesk", "cut", "(I)Z"⟩
abbrev b_Desk_load : ByteArray := prog_1_method_13_code
def y_Desk_load : MethodName := ⟨"CoreDesk", "load", "()I"⟩
abbrev b_Desk_error : ByteArray := prog_1_method_14_code
def y_Desk_error : MethodName := ⟨"CoreDesk", "error", "(I)I"⟩
abbrev b_Desk_core : ByteArray := prog_1_method_15_code
def y_Desk_core : MethodName := ⟨"CoreDesk", "core", "(I)I"⟩
abbrev b_Desk_peek : ByteArray := prog_1_method_16_code
def y_Desk_peek : MethodName := ⟨"CoreDesk", "peek", "(I)I"⟩
abbrev b_Desk_flags : ByteArray := prog_1_method_17_code
def y_Desk_flags : MethodName := ⟨"CoreDesk", "flags", "(I)I"⟩
abbrev b_Desk_register : ByteArray := prog_1_method_18_code
def y_Desk_register : MethodName := ⟨"CoreDesk", "register", "(II)I"⟩
abbrev b_Desk_find : ByteArray := prog_1_method_19_code
def y_Desk_find : MethodName := ⟨"CoreDesk", "find", "(II)I"⟩
abbrev b_Desk_caller : ByteArray := prog_1_method_20_code
def y_Desk_caller : MethodName := ⟨"CoreDesk", "caller", "(II)I"⟩
abbrev b_Desk_isFrame : ByteArray := prog_1_method_21_code
def y_Desk_isFrame : MethodName := ⟨"CoreDesk", "isFrame", "(II)Z"⟩
abbrev b_Desk_takeCore : ByteArray := prog_1_method_22_code
def y_Desk_takeCore : MethodName := ⟨"CoreDesk", "takeCore", "()V"⟩
abbrev b_Row_init : ByteArray := prog_5_method_1_code
def y_Row_init : MethodName := ⟨"CoreDesk$Row", "<init>", "(I)V"⟩
abbrev b_Row_length : ByteArray := prog_5_method_2_code
def y_Row_length : MethodName := ⟨"CoreDesk$Row", "length", "()I"⟩
abbrev b_Row_at : ByteArray := prog_5_method_3_code
def y_Row_at : MethodName := ⟨"CoreDesk$Row", "at", "(I)I"⟩
abbrev b_Row_number : ByteArray := prog_5_method_4_code
def y_Row_number : MethodName := ⟨"CoreDesk$Row", "number", "(II)I"⟩
abbrev b_Row_change : ByteArray := prog_5_method_5_code
def y_Row_change : MethodName := ⟨"CoreDesk$Row", "change", "(II)Z"⟩
abbrev b_Row_append : ByteArray := prog_5_method_6_code
def y_Row_append : MethodName := ⟨"CoreDesk$Row", "append", "(I)Z"⟩
abbrev b_Row_appendNumber : ByteArray := prog_5_method_7_code
def y_Row_appendNumber : MethodName := ⟨"CoreDesk$Row", "appendNumber", "(II)V"⟩
abbrev b_Row_appendBytes : ByteArray := prog_5_method_8_code
def y_Row_appendBytes : MethodName := ⟨"CoreDesk$Row", "appendBytes", "([BI)V"⟩
abbrev b_Row_giveBytes : ByteArray := prog_5_method_9_code
def y_Row_giveBytes : MethodName := ⟨"CoreDesk$Row", "giveBytes", "(I[BI)V"⟩
abbrev b_Row_shorten : ByteArray := prog_5_method_10_code
def y_Row_shorten : MethodName := ⟨"CoreDesk$Row", "shorten", "(I)Z"⟩
abbrev b_Row_become : ByteArray := prog_5_method_11_code
def y_Row_become : MethodName := ⟨"CoreDesk$Row", "become", "(LCoreDesk$Row;)V"⟩
abbrev b_Reg_init : ByteArray := prog_4_method_1_code
def y_Reg_init : MethodName := ⟨"CoreDesk$Region", "<init>", "()V"⟩
abbrev b_Reg_begin : ByteArray := prog_4_method_2_code
def y_Reg_begin : MethodName := ⟨"CoreDesk$Region", "begin", "(III)V"⟩
abbrev b_Reg_has : ByteArray := prog_4_method_3_code
def y_Reg_has : MethodName := ⟨"CoreDesk$Region", "has", "(I)Z"⟩
abbrev b_Reg_read : ByteArray := prog_4_method_4_code
def y_Reg_read : MethodName := ⟨"CoreDesk$Region", "read", "(I)I"⟩
abbrev b_Reg_write : ByteArray := prog_4_method_5_code
def y_Reg_write : MethodName := ⟨"CoreDesk$Region", "write", "(II)V"⟩
abbrev b_Reg_usedBytes : ByteArray := prog_4_method_6_code
def y_Reg_usedBytes : MethodName := ⟨"CoreDesk$Region", "usedBytes", "()I"⟩
abbrev b_Reg_search : ByteArray := prog_4_method_7_code
def y_Reg_search : MethodName := ⟨"CoreDesk$Region", "search", "(II)I"⟩
abbrev b_Reg_numberAt : ByteArray := prog_4_method_8_code
def y_Reg_numberAt : MethodName := ⟨"CoreDesk$Region", "numberAt", "(I)I"⟩
abbrev b_Mem_init : ByteArray := prog_3_method_1_code
def y_Mem_init : MethodName := ⟨"CoreDesk$Memory", "<init>", "()V"⟩
abbrev b_Mem_count : ByteArray := prog_3_method_2_code
def y_Mem_count : MethodName := ⟨"CoreDesk$Memory", "count", "()I"⟩
abbrev b_Mem_clear : ByteArray := prog_3_method_3_code
def y_Mem_clear : MethodName := ⟨"CoreDesk$Memory", "clear", "()V"⟩
abbrev b_Mem_addRegion : ByteArray := prog_3_method_4_code
def y_Mem_addRegion : MethodName := ⟨"CoreDesk$Memory", "addRegion", "(III)Z"⟩
abbrev b_Mem_removeRegion : ByteArray := prog_3_method_5_code
def y_Mem_removeRegion : MethodName := ⟨"CoreDesk$Memory", "removeRegion", "(I)Z"⟩
abbrev b_Mem_fillRegion : ByteArray := prog_3_method_6_code
def y_Mem_fillRegion : MethodName := ⟨"CoreDesk$Memory", "fillRegion", "(ILCoreDesk$Row;II)V"⟩
abbrev b_Mem_regionAt : ByteArray := prog_3_method_7_code
def y_Mem_regionAt : MethodName := ⟨"CoreDesk$Memory", "regionAt", "(I)LCoreDesk$Region;"⟩
abbrev b_Mem_holds : ByteArray := prog_3_method_8_code
def y_Mem_holds : MethodName := ⟨"CoreDesk$Memory", "holds", "(II)Z"⟩
abbrev b_Mem_readByte : ByteArray := prog_3_method_9_code
def y_Mem_readByte : MethodName := ⟨"CoreDesk$Memory", "readByte", "(I)I"⟩
abbrev b_Mem_readNumber : ByteArray := prog_3_method_10_code
def y_Mem_readNumber : MethodName := ⟨"CoreDesk$Memory", "readNumber", "(I)I"⟩
abbrev b_Mem_flagsAt : ByteArray := prog_3_method_11_code
def y_Mem_flagsAt : MethodName := ⟨"CoreDesk$Memory", "flagsAt", "(I)I"⟩
abbrev b_Mem_writeByte : ByteArray := prog_3_method_12_code
def y_Mem_writeByte : MethodName := ⟨"CoreDesk$Memory", "writeByte", "(II)Z"⟩
abbrev b_Mem_writeNumber : ByteArray := prog_3_method_13_code
def y_Mem_writeNumber : MethodName := ⟨"CoreDesk$Memory", "writeNumber", "(II)Z"⟩
abbrev b_Mem_search : ByteArray := prog_3_method_14_code
def y_Mem_search : MethodName := ⟨"CoreDesk$Memory", "search", "(II)I"⟩
abbrev b_Mem_indexOf : ByteArray := prog_3_method_15_code
def y_Mem_indexOf : MethodName := ⟨"CoreDesk$Memory", "indexOf", "(I)I"⟩
abbrev b_Mem_isSpan : ByteArray := prog_3_method_16_code
def y_Mem_isSpan : MethodName := ⟨"CoreDesk$Memory", "isSpan", "(II)Z"⟩
abbrev b_Mem_overlap : ByteArray := prog_3_method_17_code
def y_Mem_overlap : MethodName := ⟨"CoreDesk$Memory", "overlap", "(IIII)Z"⟩
abbrev b_Tt_init : ByteArray := prog_7_method_1_code
def y_Tt_init : MethodName := ⟨"CoreDesk$ThreadTable", "<init>", "()V"⟩
abbrev b_Tt_count : ByteArray := prog_7_method_2_code
def y_Tt_count : MethodName := ⟨"CoreDesk$ThreadTable", "count", "()I"⟩
abbrev b_Tt_clear : ByteArray := prog_7_method_3_code
def y_Tt_clear : MethodName := ⟨"CoreDesk$ThreadTable", "clear", "()V"⟩
abbrev b_Tt_has : ByteArray := prog_7_method_4_code
def y_Tt_has : MethodName := ⟨"CoreDesk$ThreadTable", "has", "(I)Z"⟩
abbrev b_Tt_hasId : ByteArray := prog_7_method_5_code
def y_Tt_hasId : MethodName := ⟨"CoreDesk$ThreadTable", "hasId", "(I)Z"⟩
abbrev b_Tt_add : ByteArray := prog_7_method_6_code
def y_Tt_add : MethodName := ⟨"CoreDesk$ThreadTable", "add", "(I)I"⟩
abbrev b_Tt_id : ByteArray := prog_7_method_7_code
def y_Tt_id : MethodName := ⟨"CoreDesk$ThreadTable", "id", "(I)I"⟩
abbrev b_Tt_read : ByteArray := prog_7_method_8_code
def y_Tt_read : MethodName := ⟨"CoreDesk$ThreadTable", "read", "(II)I"⟩
abbrev b_Tt_write : ByteArray := prog_7_method_9_code
def y_Tt_write : MethodName := ⟨"CoreDesk$ThreadTable", "write", "(III)Z"⟩
abbrev b_Tt_become : ByteArray := prog_7_method_10_code
def y_Tt_become : MethodName := ⟨"CoreDesk$ThreadTable", "become", "(LCoreDesk$ThreadTable;)V"⟩
abbrev b_Tt_hasValue : ByteArray := prog_7_method_11_code
def y_Tt_hasValue : MethodName := ⟨"CoreDesk$ThreadTable", "hasValue", "(II)Z"⟩
abbrev b_Fw_init : ByteArray := prog_2_method_1_code
def y_Fw_init : MethodName := ⟨"CoreDesk$FileWriter", "<init>", "(LCoreDesk$Row;LCoreDesk$Memory;LCoreDesk$ThreadTable;)V"⟩
abbrev b_Fw_writeFile : ByteArray := prog_2_method_2_code
def y_Fw_writeFile : MethodName := ⟨"CoreDesk$FileWriter", "writeFile", "()V"⟩
abbrev b_Fw_entries : ByteArray := prog_2_method_3_code
def y_Fw_entries : MethodName := ⟨"CoreDesk$FileWriter", "entries", "()I"⟩
abbrev b_Fw_writeHeader : ByteArray := prog_2_method_4_code
def y_Fw_writeHeader : MethodName := ⟨"CoreDesk$FileWriter", "writeHeader", "()V"⟩
abbrev b_Fw_writeEntries : ByteArray := prog_2_method_5_code
def y_Fw_writeEntries : MethodName := ⟨"CoreDesk$FileWriter", "writeEntries", "()V"⟩
abbrev b_Fw_writeNotesEntry : ByteArray := prog_2_method_6_code
def y_Fw_writeNotesEntry : MethodName := ⟨"CoreDesk$FileWriter", "writeNotesEntry", "(II)V"⟩
abbrev b_Fw_writeRegionEntry : ByteArray := prog_2_method_7_code
def y_Fw_writeRegionEntry : MethodName := ⟨"CoreDesk$FileWriter", "writeRegionEntry", "(ILCoreDesk$Region;I)V"⟩
abbrev b_Fw_writeNote : ByteArray := prog_2_method_8_code
def y_Fw_writeNote : MethodName := ⟨"CoreDesk$FileWriter", "writeNote", "(I)V"⟩
abbrev b_Fw_writeFour : ByteArray := prog_2_method_9_code
def y_Fw_writeFour : MethodName := ⟨"CoreDesk$FileWriter", "writeFour", "(I)V"⟩
abbrev b_Tc_init : ByteArray := prog_6_method_1_code
def y_Tc_init : MethodName := ⟨"CoreDesk$TapeCheck", "<init>", "(LCoreDesk$Row;)V"⟩
abbrev b_Tc_wrong : ByteArray := prog_6_method_2_code
def y_Tc_wrong : MethodName := ⟨"CoreDesk$TapeCheck", "wrong", "()I"⟩
abbrev b_Tc_place : ByteArray := prog_6_method_3_code
def y_Tc_place : MethodName := ⟨"CoreDesk$TapeCheck", "place", "()I"⟩
abbrev b_Tc_threadsFound : ByteArray := prog_6_method_4_code
def y_Tc_threadsFound : MethodName := ⟨"CoreDesk$TapeCheck", "threadsFound", "()LCoreDesk$ThreadTable;"⟩
abbrev b_Tc_entries : ByteArray := prog_6_method_5_code
def y_Tc_entries : MethodName := ⟨"CoreDesk$TapeCheck", "entries", "()I"⟩
abbrev b_Tc_entryField : ByteArray := prog_6_method_6_code
def y_Tc_entryField : MethodName := ⟨"CoreDesk$TapeCheck", "entryField", "(II)I"⟩
abbrev b_Tc_passes : ByteArray := prog_6_method_7_code
def y_Tc_passes : MethodName := ⟨"CoreDesk$TapeCheck", "passes", "()Z"⟩
abbrev b_Tc_refuse : ByteArray := prog_6_method_8_code
def y_Tc_refuse : MethodName := ⟨"CoreDesk$TapeCheck", "refuse", "(II)Z"⟩
abbrev b_Tc_fieldPlace : ByteArray := prog_6_method_9_code
def y_Tc_fieldPlace : MethodName := ⟨"CoreDesk$TapeCheck", "fieldPlace", "(II)I"⟩
abbrev b_Tc_headerPasses : ByteArray := prog_6_method_10_code
def y_Tc_headerPasses : MethodName := ⟨"CoreDesk$TapeCheck", "headerPasses", "()Z"⟩
abbrev b_Tc_headerFieldFits : ByteArray := prog_6_method_11_code
def y_Tc_headerFieldFits : MethodName := ⟨"CoreDesk$TapeCheck", "headerFieldFits", "(II)Z"⟩
abbrev b_Tc_entriesPass : ByteArray := prog_6_method_12_code
def y_Tc_entriesPass : MethodName := ⟨"CoreDesk$TapeCheck", "entriesPass", "()Z"⟩
abbrev b_Tc_fieldsPass : ByteArray := prog_6_method_13_code
def y_Tc_fieldsPass : MethodName := ⟨"CoreDesk$TapeCheck", "fieldsPass", "(I)Z"⟩
abbrev b_Tc_notesFieldFits : ByteArray := prog_6_method_14_code
def y_Tc_notesFieldFits : MethodName := ⟨"CoreDesk$TapeCheck", "notesFieldFits", "(II)Z"⟩
abbrev b_Tc_regionFieldFits : ByteArray := prog_6_method_15_code
def y_Tc_regionFieldFits : MethodName := ⟨"CoreDesk$TapeCheck", "regionFieldFits", "(III)Z"⟩
abbrev b_Tc_bytesPass : ByteArray := prog_6_method_16_code
def y_Tc_bytesPass : MethodName := ⟨"CoreDesk$TapeCheck", "bytesPass", "(I)Z"⟩
abbrev b_Tc_addressesPass : ByteArray := prog_6_method_17_code
def y_Tc_addressesPass : MethodName := ⟨"CoreDesk$TapeCheck", "addressesPass", "(I)Z"⟩
abbrev b_Tc_notesPass : ByteArray := prog_6_method_18_code
def y_Tc_notesPass : MethodName := ⟨"CoreDesk$TapeCheck", "notesPass", "()Z"⟩
abbrev b_Tc_noteSize : ByteArray := prog_6_method_19_code
def y_Tc_noteSize : MethodName := ⟨"CoreDesk$TapeCheck", "noteSize", "(I)I"⟩
abbrev b_Tc_padded : ByteArray := prog_6_method_20_code
def y_Tc_padded : MethodName := ⟨"CoreDesk$TapeCheck", "padded", "(I)I"⟩
abbrev b_Tc_noteHeadPasses : ByteArray := prog_6_method_21_code
def y_Tc_noteHeadPasses : MethodName := ⟨"CoreDesk$TapeCheck", "noteHeadPasses", "(II)Z"⟩
abbrev b_Tc_threadPasses : ByteArray := prog_6_method_22_code
def y_Tc_threadPasses : MethodName := ⟨"CoreDesk$TapeCheck", "threadPasses", "(I)Z"⟩
abbrev b_Mo_init : ByteArray := prog_9_method_1_code
def y_Mo_init : MethodName := ⟨"CoreDeskModel", "<init>", "()V"⟩
abbrev b_Mo_thrown : ByteArray := prog_9_method_2_code
def y_Mo_thrown : MethodName := ⟨"CoreDeskModel", "thrown", "()I"⟩
abbrev b_Mo_within : ByteArray := prog_9_method_3_code
def y_Mo_within : MethodName := ⟨"CoreDeskModel", "within", "(IJ)I"⟩
abbrev b_Mo_byteOf : ByteArray := prog_9_method_4_code
def y_Mo_byteOf : MethodName := ⟨"CoreDeskModel", "byteOf", "(IJ)I"⟩
abbrev b_Mo_map : ByteArray := prog_9_method_5_code
def y_Mo_map : MethodName := ⟨"CoreDeskModel", "map", "(III)Z"⟩
abbrev b_Mo_move : ByteArray := prog_9_method_6_code
def y_Mo_move : MethodName := ⟨"CoreDeskModel", "move", "(II)V"⟩
abbrev b_Mo_unmap : ByteArray := prog_9_method_7_code
def y_Mo_unmap : MethodName := ⟨"CoreDeskModel", "unmap", "(I)Z"⟩
abbrev b_Mo_poke : ByteArray := prog_9_method_8_code
def y_Mo_poke : MethodName := ⟨"CoreDeskModel", "poke", "(II)Z"⟩
abbrev b_Mo_pokeFour : ByteArray := prog_9_method_9_code
def y_Mo_pokeFour : MethodName := ⟨"CoreDeskModel", "pokeFour", "(II)Z"⟩
abbrev b_Mo_hasId : ByteArray := prog_9_method_10_code
def y_Mo_hasId : MethodName := ⟨"CoreDeskModel", "hasId", "(II)Z"⟩
abbrev b_Mo_thread : ByteArray := prog_9_method_11_code
def y_Mo_thread : MethodName := ⟨"CoreDeskModel", "thread", "(I)I"⟩
abbrev b_Mo_set : ByteArray := prog_9_method_12_code
def y_Mo_set : MethodName := ⟨"CoreDeskModel", "set", "(III)Z"⟩
abbrev b_Mo_lay : ByteArray := prog_9_method_13_code
def y_Mo_lay : MethodName := ⟨"CoreDeskModel", "lay", "(I)V"⟩
abbrev b_Mo_two : ByteArray := prog_9_method_14_code
def y_Mo_two : MethodName := ⟨"CoreDeskModel", "two", "(I)V"⟩
abbrev b_Mo_four : ByteArray := prog_9_method_15_code
def y_Mo_four : MethodName := ⟨"CoreDeskModel", "four", "(I)V"⟩
abbrev b_Mo_filled : ByteArray := prog_9_method_16_code
def y_Mo_filled : MethodName := ⟨"CoreDeskModel", "filled", "(I)I"⟩
abbrev b_Mo_above : ByteArray := prog_9_method_17_code
def y_Mo_above : MethodName := ⟨"CoreDeskModel", "above", "(I)I"⟩
abbrev b_Mo_programHeader : ByteArray := prog_9_method_18_code
def y_Mo_programHeader : MethodName := ⟨"CoreDeskModel", "programHeader", "(IIIIIII)V"⟩
abbrev b_Mo_header : ByteArray := prog_9_method_19_code
def y_Mo_header : MethodName := ⟨"CoreDeskModel", "header", "()V"⟩
abbrev b_Mo_dump : ByteArray := prog_9_method_20_code
def y_Mo_dump : MethodName := ⟨"CoreDeskModel", "dump", "()I"⟩
abbrev b_Mo_byteAt : ByteArray := prog_9_method_21_code
def y_Mo_byteAt : MethodName := ⟨"CoreDeskModel", "byteAt", "(I)I"⟩
abbrev b_Mo_copy : ByteArray := prog_9_method_22_code
def y_Mo_copy : MethodName := ⟨"CoreDeskModel", "copy", "()I"⟩
abbrev b_Mo_put : ByteArray := prog_9_method_23_code
def y_Mo_put : MethodName := ⟨"CoreDeskModel", "put", "(II)Z"⟩
abbrev b_Mo_cut : ByteArray := prog_9_method_24_code
def y_Mo_cut : MethodName := ⟨"CoreDeskModel", "cut", "(I)Z"⟩
abbrev b_Mo_twoAt : ByteArray := prog_9_method_25_code
def y_Mo_twoAt : MethodName := ⟨"CoreDeskModel", "twoAt", "(I)I"⟩
abbrev b_Mo_fourAt : ByteArray := prog_9_method_26_code
def y_Mo_fourAt : MethodName := ⟨"CoreDeskModel", "fourAt", "(I)I"⟩
abbrev b_Mo_isWrong : ByteArray := prog_9_method_27_code
def y_Mo_isWrong : MethodName := ⟨"CoreDeskModel", "isWrong", "(II)Z"⟩
abbrev b_Mo_headerByte : ByteArray := prog_9_method_28_code
def y_Mo_headerByte : MethodName := ⟨"CoreDeskModel", "headerByte", "(I)I"⟩
abbrev b_Mo_fieldOf : ByteArray := prog_9_method_29_code
def y_Mo_fieldOf : MethodName := ⟨"CoreDeskModel", "fieldOf", "(I)I"⟩
abbrev b_Mo_headerFits : ByteArray := prog_9_method_30_code
def y_Mo_headerFits : MethodName := ⟨"CoreDeskModel", "headerFits", "()Z"⟩
abbrev b_Mo_badField : ByteArray := prog_9_method_31_code
def y_Mo_badField : MethodName := ⟨"CoreDeskModel", "badField", "(IZI)I"⟩
abbrev b_Mo_meet : ByteArray := prog_9_method_32_code
def y_Mo_meet : MethodName := ⟨"CoreDeskModel", "meet", "(JJJJ)Z"⟩
abbrev b_Mo_entryFits : ByteArray := prog_9_method_33_code
def y_Mo_entryFits : MethodName := ⟨"CoreDeskModel", "entryFits", "(II)Z"⟩
abbrev b_Mo_noteByte : ByteArray := prog_9_method_34_code
def y_Mo_noteByte : MethodName := ⟨"CoreDeskModel", "noteByte", "(I)I"⟩
abbrev b_Mo_note : ByteArray := prog_9_method_35_code
def y_Mo_note : MethodName := ⟨"CoreDeskModel", "note", "(II)I"⟩
abbrev b_Mo_notesFit : ByteArray := prog_9_method_36_code
def y_Mo_notesFit : MethodName := ⟨"CoreDeskModel", "notesFit", "()Z"⟩
abbrev b_Mo_readRegions : ByteArray := prog_9_method_37_code
def y_Mo_readRegions : MethodName := ⟨"CoreDeskModel", "readRegions", "(I)V"⟩
abbrev b_Mo_reads : ByteArray := prog_9_method_38_code
def y_Mo_reads : MethodName := ⟨"CoreDeskModel", "reads", "()Z"⟩
abbrev b_Mo_load : ByteArray := prog_9_method_39_code
def y_Mo_load : MethodName := ⟨"CoreDeskModel", "load", "()I"⟩
abbrev b_Mo_error : ByteArray := prog_9_method_40_code
def y_Mo_error : MethodName := ⟨"CoreDeskModel", "error", "(I)I"⟩
abbrev b_Mo_core : ByteArray := prog_9_method_41_code
def y_Mo_core : MethodName := ⟨"CoreDeskModel", "core", "(I)I"⟩
abbrev b_Mo_peek : ByteArray := prog_9_method_42_code
def y_Mo_peek : MethodName := ⟨"CoreDeskModel", "peek", "(I)I"⟩
abbrev b_Mo_flags : ByteArray := prog_9_method_43_code
def y_Mo_flags : MethodName := ⟨"CoreDeskModel", "flags", "(I)I"⟩
abbrev b_Mo_register : ByteArray := prog_9_method_44_code
def y_Mo_register : MethodName := ⟨"CoreDeskModel", "register", "(II)I"⟩
abbrev b_Mo_number : ByteArray := prog_9_method_45_code
def y_Mo_number : MethodName := ⟨"CoreDeskModel", "number", "(J)I"⟩
abbrev b_Mo_find : ByteArray := prog_9_method_46_code
def y_Mo_find : MethodName := ⟨"CoreDeskModel", "find", "(II)I"⟩
abbrev b_Mo_caller : ByteArray := prog_9_method_47_code
def y_Mo_caller : MethodName := ⟨"CoreDeskModel", "caller", "(II)I"⟩
abbrev b_Law_load : ByteArray := method_3_code
def y_Law_load : MethodName := ⟨"CoreDeskLaw", "load", "(LCoreDesk;[J)I"⟩
abbrev b_Law_register : ByteArray := method_4_code
def y_Law_register : MethodName := ⟨"CoreDeskLaw", "register", "(LCoreDesk;II[J)I"⟩
abbrev b_Arr_fill0 : ByteArray := prog_16_method_109_code
def y_Arr_fill0 : MethodName := ⟨"java/util/Arrays", "fill", "([BB)V"⟩
abbrev b_Arr_fill1 : ByteArray := prog_16_method_103_code
def y_Arr_fill1 : MethodName := ⟨"java/util/Arrays", "fill", "([II)V"⟩
def cd_A0 : List Cond := [.initialized "CoreDeskLaw", .initialized "CoreDesk", .initialized "CoreDesk$Memory", .initialized "CoreDesk$Region", .initialized "CoreDesk$ThreadTable", .initialized "CoreDesk$Row", .initialized "CoreDesk$FileWriter", .initialized "CoreDesk$TapeCheck", .initialized "CoreDeskModel", .initialized "java/util/Arrays", .initialized "java/lang/System", .initialized "java/lang/Throwable", .initialized "java/lang/Exception", .initialized "java/lang/RuntimeException", .initialized "java/lang/IllegalArgumentException", .initialized "java/lang/IndexOutOfBoundsException", .classLink "CoreDeskLaw" 8 "CoreDesk", .instantiable "CoreDesk" 9, .methodLink "CoreDeskLaw" 21 y_Desk_init, .instanceMethod y_Desk_init, .code y_Desk_init prog_1_method_1_code 1 none, .methodLink "CoreDesk" 1 objectInit, .instanceMethod objectInit, .code objectInit object_method_1_code 1 none, .classLink "CoreDesk" 7 "CoreDesk$Memory", .instantiable "CoreDesk$Memory" 2, .methodLink "CoreDesk" 9 y_Mem_init, .instanceMethod y_Mem_init, .code y_Mem_init prog_3_method_1_code 2 none, .methodLink "CoreDesk$Memory" 3 objectInit, .classLink "CoreDesk$Memory" 9 "CoreDesk$Region", .instantiable "CoreDesk$Region" 4, .methodLink "CoreDesk$Memory" 17 y_Reg_init, .instanceMethod y_Reg_init, .code y_Reg_init prog_4_method_1_code 1 none, .methodLink "CoreDesk$Region" 3 objectInit, .fieldLink "CoreDesk$Region" 9 "CoreDesk$Region" "bytes" "[B", .fieldLink "CoreDesk$Region" 15 "CoreDesk$Region" "address" "I", .fieldLink "CoreDesk$Region" 19 "CoreDesk$Region" "size" "I", .fieldLink "CoreDesk$Region" 22 "CoreDesk$Region" "permissions" "I", .laysFinal "CoreDesk$Region" "CoreDesk$Region" "bytes" "[B", .lays "CoreDesk$Region" "CoreDesk$Region" "address" "I", .lays "CoreDesk$Region" "CoreDesk$Region" "size" "I", .lays "CoreDesk$Region" "CoreDesk$Region" "permissions" "I", .arrayClass .byte, .fieldLink "CoreDesk$Memory" 11 "CoreDesk$Memory" "regions" "[LCoreDesk$Region;", .fieldLink "CoreDesk$Memory" 18 "CoreDesk$Memory" "count" "I", .laysFinal "CoreDesk$Memory" "CoreDesk$Memory" "regions" "[LCoreDesk$Region;", .lays "CoreDesk$Memory" "CoreDesk$Memory" "count" "I", .classLink "CoreDesk" 16 "CoreDesk$ThreadTable", .instantiable "CoreDesk$ThreadTable" 3, .methodLink "CoreDesk" 18 y_Tt_init, .instanceMethod y_Tt_init, .code y_Tt_init prog_7_method_1_code 1 none, .methodLink "CoreDesk$ThreadTable" 3 objectInit, .fieldLink "CoreDesk$ThreadTable" 9 "CoreDesk$ThreadTable" "ids" "[I", .fieldLink "CoreDesk$ThreadTable" 15 "CoreDesk$ThreadTable" "values" "[I", .fieldLink "CoreDesk$ThreadTable" 18 "CoreDesk$ThreadTable" "count" "I", .laysFinal "CoreDesk$ThreadTable" "CoreDesk$ThreadTable" "ids" "[I", .laysFinal "CoreDesk$ThreadTable" "CoreDesk$ThreadTable" "values" "[I"]
def cd_A1 : List Cond := [.lays "CoreDesk$ThreadTable" "CoreDesk$ThreadTable" "count" "I", .arrayClass .int, .classLink "CoreDesk" 23 "CoreDesk$Row", .instantiable "CoreDesk$Row" 2, .methodLink "CoreDesk" 25 y_Row_init, .instanceMethod y_Row_init, .code y_Row_init prog_5_method_1_code 2 none, .methodLink "CoreDesk$Row" 3 objectInit, .fieldLink "CoreDesk$Row" 9 "CoreDesk$Row" "bytes" "[B", .fieldLink "CoreDesk$Row" 15 "CoreDesk$Row" "length" "I", .laysFinal "CoreDesk$Row" "CoreDesk$Row" "bytes" "[B", .lays "CoreDesk$Row" "CoreDesk$Row" "length" "I", .classLink "CoreDesk" 32 "CoreDesk$FileWriter", .instantiable "CoreDesk$FileWriter" 3, .methodLink "CoreDesk" 34 y_Fw_init, .instanceMethod y_Fw_init, .code y_Fw_init prog_2_method_1_code 4 none, .methodLink "CoreDesk$FileWriter" 3 objectInit, .fieldLink "CoreDesk$FileWriter" 9 "CoreDesk$FileWriter" "file" "LCoreDesk$Row;", .fieldLink "CoreDesk$FileWriter" 15 "CoreDesk$FileWriter" "memory" "LCoreDesk$Memory;", .fieldLink "CoreDesk$FileWriter" 19 "CoreDesk$FileWriter" "threads" "LCoreDesk$ThreadTable;", .laysFinal "CoreDesk$FileWriter" "CoreDesk$FileWriter" "file" "LCoreDesk$Row;", .laysFinal "CoreDesk$FileWriter" "CoreDesk$FileWriter" "memory" "LCoreDesk$Memory;", .laysFinal "CoreDesk$FileWriter" "CoreDesk$FileWriter" "threads" "LCoreDesk$ThreadTable;", .classLink "CoreDesk" 44 "CoreDesk$TapeCheck", .instantiable "CoreDesk$TapeCheck" 4, .methodLink "CoreDesk" 46 y_Tc_init, .instanceMethod y_Tc_init, .code y_Tc_init prog_6_method_1_code 2 none, .methodLink "CoreDesk$TapeCheck" 3 objectInit, .classLink "CoreDesk$TapeCheck" 15 "CoreDesk$ThreadTable", .methodLink "CoreDesk$TapeCheck" 17 y_Tt_init, .fieldLink "CoreDesk$TapeCheck" 9 "CoreDesk$TapeCheck" "tape" "LCoreDesk$Row;", .fieldLink "CoreDesk$TapeCheck" 18 "CoreDesk$TapeCheck" "found" "LCoreDesk$ThreadTable;", .fieldLink "CoreDesk$TapeCheck" 22 "CoreDesk$TapeCheck" "wrong" "I", .fieldLink "CoreDesk$TapeCheck" 26 "CoreDesk$TapeCheck" "place" "I", .laysFinal "CoreDesk$TapeCheck" "CoreDesk$TapeCheck" "tape" "LCoreDesk$Row;", .laysFinal "CoreDesk$TapeCheck" "CoreDesk$TapeCheck" "found" "LCoreDesk$ThreadTable;", .lays "CoreDesk$TapeCheck" "CoreDesk$TapeCheck" "wrong" "I", .lays "CoreDesk$TapeCheck" "CoreDesk$TapeCheck" "place" "I", .fieldLink "CoreDesk" 10 "CoreDesk" "memory" "LCoreDesk$Memory;", .fieldLink "CoreDesk" 19 "CoreDesk" "threads" "LCoreDesk$ThreadTable;", .fieldLink "CoreDesk" 28 "CoreDesk" "file" "LCoreDesk$Row;", .fieldLink "CoreDesk" 37 "CoreDesk" "writer" "LCoreDesk$FileWriter;", .fieldLink "CoreDesk" 41 "CoreDesk" "tape" "LCoreDesk$Row;", .fieldLink "CoreDesk" 49 "CoreDesk" "check" "LCoreDesk$TapeCheck;", .fieldLink "CoreDesk" 53 "CoreDesk" "coreMemory" "LCoreDesk$Memory;", .fieldLink "CoreDesk" 56 "CoreDesk" "coreThreads" "LCoreDesk$ThreadTable;", .fieldLink "CoreDesk" 59 "CoreDesk" "hasCore" "Z", .laysFinal "CoreDesk" "CoreDesk" "memory" "LCoreDesk$Memory;", .laysFinal "CoreDesk" "CoreDesk" "threads" "LCoreDesk$ThreadTable;", .laysFinal "CoreDesk" "CoreDesk" "file" "LCoreDesk$Row;", .laysFinal "CoreDesk" "CoreDesk" "writer" "LCoreDesk$FileWriter;", .laysFinal "CoreDesk" "CoreDesk" "tape" "LCoreDesk$Row;", .laysFinal "CoreDesk" "CoreDesk" "check" "LCoreDesk$TapeCheck;", .laysFinal "CoreDesk" "CoreDesk" "coreMemory" "LCoreDesk$Memory;", .laysFinal "CoreDesk" "CoreDesk" "coreThreads" "LCoreDesk$ThreadTable;", .lays "CoreDesk" "CoreDesk" "hasCore" "Z", .methodLink "CoreDeskLaw" 25 y_Desk_map, .instanceMethod y_Desk_map]
def cd_A2 : List Cond := [.selects "CoreDesk" y_Desk_map y_Desk_map, .code y_Desk_map prog_1_method_2_code 4 (some .boolean), .methodLink "CoreDesk" 63 y_Mem_addRegion, .instanceMethod y_Mem_addRegion, .selects "CoreDesk$Memory" y_Mem_addRegion y_Mem_addRegion, .code y_Mem_addRegion prog_3_method_4_code 7 (some .boolean), .methodLink "CoreDesk$Memory" 22 y_Mem_isSpan, .static y_Mem_isSpan, .code y_Mem_isSpan prog_3_method_16_code 2 (some .boolean), .constant "CoreDesk$Memory" 81 2147483647, .methodLink "CoreDesk$Memory" 32 y_Mem_overlap, .static y_Mem_overlap, .code y_Mem_overlap prog_3_method_17_code 4 (some .boolean), .methodLink "CoreDesk$Memory" 36 y_Reg_begin, .instanceMethod y_Reg_begin, .selects "CoreDesk$Region" y_Reg_begin y_Reg_begin, .code y_Reg_begin prog_4_method_2_code 4 none, .methodLink "CoreDesk$Region" 25 y_Arr_fill0, .static y_Arr_fill0, .code y_Arr_fill0 prog_16_method_109_code 4 none, .methodLink "CoreDeskLaw" 30 y_Desk_unmap, .instanceMethod y_Desk_unmap, .selects "CoreDesk" y_Desk_unmap y_Desk_unmap, .code y_Desk_unmap prog_1_method_3_code 2 (some .boolean), .methodLink "CoreDesk" 67 y_Mem_removeRegion, .instanceMethod y_Mem_removeRegion, .selects "CoreDesk$Memory" y_Mem_removeRegion y_Mem_removeRegion, .code y_Mem_removeRegion prog_3_method_5_code 5 (some .boolean), .methodLink "CoreDesk$Memory" 40 y_Mem_indexOf, .instanceMethod y_Mem_indexOf, .code y_Mem_indexOf prog_3_method_15_code 3 (some .int), .methodLink "CoreDesk$Memory" 77 y_Reg_has, .instanceMethod y_Reg_has, .selects "CoreDesk$Region" y_Reg_has y_Reg_has, .code y_Reg_has prog_4_method_3_code 2 (some .boolean), .methodLink "CoreDeskLaw" 35 y_Desk_poke, .instanceMethod y_Desk_poke, .selects "CoreDesk" y_Desk_poke y_Desk_poke, .code y_Desk_poke prog_1_method_4_code 3 (some .boolean), .methodLink "CoreDesk" 71 y_Mem_writeByte, .instanceMethod y_Mem_writeByte, .selects "CoreDesk$Memory" y_Mem_writeByte y_Mem_writeByte, .code y_Mem_writeByte prog_3_method_12_code 4 (some .boolean), .methodLink "CoreDesk$Memory" 63 y_Reg_write, .instanceMethod y_Reg_write, .selects "CoreDesk$Region" y_Reg_write y_Reg_write, .code y_Reg_write prog_4_method_5_code 3 none, .methodLink "CoreDeskLaw" 40 y_Desk_pokeFour, .instanceMethod y_Desk_pokeFour, .selects "CoreDesk" y_Desk_pokeFour y_Desk_pokeFour, .code y_Desk_pokeFour prog_1_method_5_code 3 (some .boolean), .methodLink "CoreDesk" 75 y_Mem_writeNumber, .instanceMethod y_Mem_writeNumber, .selects "CoreDesk$Memory" y_Mem_writeNumber y_Mem_writeNumber, .code y_Mem_writeNumber prog_3_method_13_code 4 (some .boolean), .methodLink "CoreDesk$Memory" 67 y_Mem_holds, .instanceMethod y_Mem_holds, .selects "CoreDesk$Memory" y_Mem_holds y_Mem_holds, .code y_Mem_holds prog_3_method_8_code 4 (some .boolean), .methodLink "CoreDesk$Memory" 70 y_Mem_writeByte]
def cd_A3 : List Cond := [.methodLink "CoreDeskLaw" 44 y_Desk_thread, .instanceMethod y_Desk_thread, .selects "CoreDesk" y_Desk_thread y_Desk_thread, .code y_Desk_thread prog_1_method_6_code 2 (some .int), .methodLink "CoreDesk" 78 y_Tt_add, .instanceMethod y_Tt_add, .selects "CoreDesk$ThreadTable" y_Tt_add y_Tt_add, .code y_Tt_add prog_7_method_6_code 2 (some .int), .methodLink "CoreDesk$ThreadTable" 28 y_Tt_hasId, .instanceMethod y_Tt_hasId, .selects "CoreDesk$ThreadTable" y_Tt_hasId y_Tt_hasId, .code y_Tt_hasId prog_7_method_5_code 3 (some .boolean), .methodLink "CoreDeskLaw" 49 y_Desk_set, .instanceMethod y_Desk_set, .selects "CoreDesk" y_Desk_set y_Desk_set, .code y_Desk_set prog_1_method_7_code 4 (some .boolean), .methodLink "CoreDesk" 82 y_Tt_write, .instanceMethod y_Tt_write, .selects "CoreDesk$ThreadTable" y_Tt_write y_Tt_write, .code y_Tt_write prog_7_method_9_code 4 (some .boolean), .methodLink "CoreDesk$ThreadTable" 35 y_Tt_hasValue, .instanceMethod y_Tt_hasValue, .code y_Tt_hasValue prog_7_method_11_code 3 (some .boolean), .methodLink "CoreDesk$ThreadTable" 32 y_Tt_has, .instanceMethod y_Tt_has, .selects "CoreDesk$ThreadTable" y_Tt_has y_Tt_has, .code y_Tt_has prog_7_method_4_code 2 (some .boolean), .methodLink "CoreDeskLaw" 53 y_Desk_dump, .instanceMethod y_Desk_dump, .selects "CoreDesk" y_Desk_dump y_Desk_dump, .code y_Desk_dump prog_1_method_8_code 1 (some .int), .methodLink "CoreDesk" 85 y_Fw_writeFile, .instanceMethod y_Fw_writeFile, .selects "CoreDesk$FileWriter" y_Fw_writeFile y_Fw_writeFile, .code y_Fw_writeFile prog_2_method_2_code 3 none, .methodLink "CoreDesk$FileWriter" 23 y_Row_shorten, .instanceMethod y_Row_shorten, .selects "CoreDesk$Row" y_Row_shorten y_Row_shorten, .code y_Row_shorten prog_5_method_10_code 2 (some .boolean), .methodLink "CoreDesk$FileWriter" 29 y_Fw_writeHeader, .instanceMethod y_Fw_writeHeader, .code y_Fw_writeHeader prog_2_method_4_code 3 none, .methodLink "CoreDesk$FileWriter" 72 y_Fw_entries, .instanceMethod y_Fw_entries, .code y_Fw_entries prog_2_method_3_code 1 (some .int), .methodLink "CoreDesk$FileWriter" 45 y_Mem_count, .instanceMethod y_Mem_count, .selects "CoreDesk$Memory" y_Mem_count y_Mem_count, .code y_Mem_count prog_3_method_2_code 1 (some .int), .methodLink "CoreDesk$FileWriter" 75 y_Row_appendNumber, .instanceMethod y_Row_appendNumber, .selects "CoreDesk$Row" y_Row_appendNumber y_Row_appendNumber, .code y_Row_appendNumber prog_5_method_7_code 5 none, .methodLink "CoreDesk$Row" 19 y_Row_append, .instanceMethod y_Row_append, .selects "CoreDesk$Row" y_Row_append y_Row_append, .code y_Row_append prog_5_method_6_code 2 (some .boolean), .methodLink "CoreDesk$FileWriter" 32 y_Fw_writeEntries, .instanceMethod y_Fw_writeEntries, .code y_Fw_writeEntries prog_2_method_5_code 6 none]
def cd_A4 : List Cond := [.methodLink "CoreDesk$FileWriter" 35 y_Tt_count, .instanceMethod y_Tt_count, .selects "CoreDesk$ThreadTable" y_Tt_count y_Tt_count, .code y_Tt_count prog_7_method_2_code 1 (some .int), .methodLink "CoreDesk$FileWriter" 79 y_Fw_writeNotesEntry, .instanceMethod y_Fw_writeNotesEntry, .code y_Fw_writeNotesEntry prog_2_method_6_code 3 none, .methodLink "CoreDesk$FileWriter" 86 y_Fw_writeFour, .instanceMethod y_Fw_writeFour, .code y_Fw_writeFour prog_2_method_9_code 2 none, .methodLink "CoreDesk$FileWriter" 48 y_Mem_regionAt, .instanceMethod y_Mem_regionAt, .selects "CoreDesk$Memory" y_Mem_regionAt y_Mem_regionAt, .code y_Mem_regionAt prog_3_method_7_code 2 (some (.object "CoreDesk$Region")), .methodLink "CoreDesk$FileWriter" 58 y_Reg_usedBytes, .instanceMethod y_Reg_usedBytes, .selects "CoreDesk$Region" y_Reg_usedBytes y_Reg_usedBytes, .code y_Reg_usedBytes prog_4_method_6_code 2 (some .int), .methodLink "CoreDesk$Region" 31 y_Reg_read, .instanceMethod y_Reg_read, .selects "CoreDesk$Region" y_Reg_read y_Reg_read, .code y_Reg_read prog_4_method_4_code 2 (some .int), .methodLink "CoreDesk$FileWriter" 82 y_Fw_writeRegionEntry, .instanceMethod y_Fw_writeRegionEntry, .code y_Fw_writeRegionEntry prog_2_method_7_code 4 none, .methodLink "CoreDesk$FileWriter" 41 y_Fw_writeNote, .instanceMethod y_Fw_writeNote, .code y_Fw_writeNote prog_2_method_8_code 3 none, .methodLink "CoreDesk$FileWriter" 102 y_Row_append, .methodLink "CoreDesk$FileWriter" 105 y_Tt_id, .instanceMethod y_Tt_id, .selects "CoreDesk$ThreadTable" y_Tt_id y_Tt_id, .code y_Tt_id prog_7_method_7_code 2 (some .int), .methodLink "CoreDesk$FileWriter" 109 y_Tt_read, .instanceMethod y_Tt_read, .selects "CoreDesk$ThreadTable" y_Tt_read y_Tt_read, .code y_Tt_read prog_7_method_8_code 3 (some .int), .methodLink "CoreDesk$FileWriter" 61 y_Row_appendBytes, .instanceMethod y_Row_appendBytes, .selects "CoreDesk$Row" y_Row_appendBytes y_Row_appendBytes, .code y_Row_appendBytes prog_5_method_8_code 3 none, .methodLink "CoreDesk$Row" 23 arraycopyName, .static arraycopyName, .native arraycopyName, .methodLink "CoreDesk" 88 y_Row_length, .instanceMethod y_Row_length, .selects "CoreDesk$Row" y_Row_length y_Row_length, .code y_Row_length prog_5_method_2_code 1 (some .int), .methodLink "CoreDeskLaw" 57 y_Desk_byteAt, .instanceMethod y_Desk_byteAt, .selects "CoreDesk" y_Desk_byteAt y_Desk_byteAt, .code y_Desk_byteAt prog_1_method_9_code 2 (some .int), .methodLink "CoreDesk" 92 y_Row_at, .instanceMethod y_Row_at, .selects "CoreDesk$Row" y_Row_at y_Row_at, .code y_Row_at prog_5_method_3_code 2 (some .int), .methodLink "CoreDeskLaw" 61 y_Desk_copy, .instanceMethod y_Desk_copy, .selects "CoreDesk" y_Desk_copy y_Desk_copy, .code y_Desk_copy prog_1_method_10_code 1 (some .int)]
def cd_A5 : List Cond := [.methodLink "CoreDesk" 95 y_Row_become, .instanceMethod y_Row_become, .selects "CoreDesk$Row" y_Row_become y_Row_become, .code y_Row_become prog_5_method_11_code 2 none, .methodLink "CoreDesk$Row" 29 y_Row_appendBytes, .methodLink "CoreDeskLaw" 65 y_Desk_put, .instanceMethod y_Desk_put, .selects "CoreDesk" y_Desk_put y_Desk_put, .code y_Desk_put prog_1_method_11_code 3 (some .boolean), .methodLink "CoreDesk" 98 y_Row_append, .methodLink "CoreDesk" 101 y_Row_change, .instanceMethod y_Row_change, .selects "CoreDesk$Row" y_Row_change y_Row_change, .code y_Row_change prog_5_method_5_code 3 (some .boolean), .methodLink "CoreDeskLaw" 69 y_Desk_cut, .instanceMethod y_Desk_cut, .selects "CoreDesk" y_Desk_cut y_Desk_cut, .code y_Desk_cut prog_1_method_12_code 2 (some .boolean), .methodLink "CoreDesk" 104 y_Row_shorten, .methodLink "CoreDeskLaw" 82 y_Desk_error, .instanceMethod y_Desk_error, .selects "CoreDesk" y_Desk_error y_Desk_error, .code y_Desk_error prog_1_method_14_code 2 (some .int), .methodLink "CoreDesk" 120 y_Tc_wrong, .instanceMethod y_Tc_wrong, .selects "CoreDesk$TapeCheck" y_Tc_wrong y_Tc_wrong, .code y_Tc_wrong prog_6_method_2_code 1 (some .int), .methodLink "CoreDesk" 123 y_Tc_place, .instanceMethod y_Tc_place, .selects "CoreDesk$TapeCheck" y_Tc_place y_Tc_place, .code y_Tc_place prog_6_method_3_code 1 (some .int), .methodLink "CoreDeskLaw" 86 y_Desk_core, .instanceMethod y_Desk_core, .selects "CoreDesk" y_Desk_core y_Desk_core, .code y_Desk_core prog_1_method_15_code 2 (some .int), .methodLink "CoreDesk" 117 y_Mem_count, .methodLink "CoreDesk" 126 y_Tt_count, .methodLink "CoreDeskLaw" 90 y_Desk_peek, .instanceMethod y_Desk_peek, .selects "CoreDesk" y_Desk_peek y_Desk_peek, .code y_Desk_peek prog_1_method_16_code 2 (some .int), .methodLink "CoreDesk" 127 y_Mem_readByte, .instanceMethod y_Mem_readByte, .selects "CoreDesk$Memory" y_Mem_readByte y_Mem_readByte, .code y_Mem_readByte prog_3_method_9_code 3 (some .int), .methodLink "CoreDesk$Memory" 54 y_Reg_read, .methodLink "CoreDeskLaw" 94 y_Desk_flags, .instanceMethod y_Desk_flags, .selects "CoreDesk" y_Desk_flags y_Desk_flags, .code y_Desk_flags prog_1_method_17_code 2 (some .int), .methodLink "CoreDesk" 130 y_Mem_flagsAt, .instanceMethod y_Mem_flagsAt, .selects "CoreDesk$Memory" y_Mem_flagsAt y_Mem_flagsAt, .code y_Mem_flagsAt prog_3_method_11_code 3 (some .int), .methodLink "CoreDeskLaw" 102 y_Desk_find, .instanceMethod y_Desk_find, .selects "CoreDesk" y_Desk_find y_Desk_find, .code y_Desk_find prog_1_method_19_code 3 (some .int), .methodLink "CoreDesk" 146 y_Mem_search, .instanceMethod y_Mem_search]
def cd_A6 : List Cond := [.selects "CoreDesk$Memory" y_Mem_search y_Mem_search, .code y_Mem_search prog_3_method_14_code 5 (some .int), .methodLink "CoreDesk$Memory" 73 y_Reg_search, .instanceMethod y_Reg_search, .selects "CoreDesk$Region" y_Reg_search y_Reg_search, .code y_Reg_search prog_4_method_7_code 5 (some .int), .methodLink "CoreDesk$Region" 35 y_Reg_numberAt, .instanceMethod y_Reg_numberAt, .code y_Reg_numberAt prog_4_method_8_code 2 (some .int), .methodLink "CoreDeskLaw" 106 y_Desk_caller, .instanceMethod y_Desk_caller, .selects "CoreDesk" y_Desk_caller y_Desk_caller, .code y_Desk_caller prog_1_method_20_code 6 (some .int), .methodLink "CoreDesk" 133 y_Tt_has, .methodLink "CoreDesk" 139 y_Tt_read, .methodLink "CoreDesk" 149 y_Desk_isFrame, .instanceMethod y_Desk_isFrame, .code y_Desk_isFrame prog_1_method_21_code 3 (some .boolean), .methodLink "CoreDesk" 155 y_Mem_holds, .methodLink "CoreDesk" 152 y_Mem_readNumber, .instanceMethod y_Mem_readNumber, .selects "CoreDesk$Memory" y_Mem_readNumber y_Mem_readNumber, .code y_Mem_readNumber prog_3_method_10_code 4 (some .int), .methodLink "CoreDesk$Memory" 57 y_Mem_readByte, .methodLink "CoreDeskLaw" 73 y_Law_load, .static y_Law_load, .classLink "CoreDeskLaw" 13 "java/lang/IllegalArgumentException", .methodLink "CoreDeskLaw" 7 y_Desk_load, .instanceMethod y_Desk_load, .selects "CoreDesk" y_Desk_load y_Desk_load, .code y_Desk_load prog_1_method_13_code 1 (some .int), .methodLink "CoreDesk" 107 y_Tc_passes, .instanceMethod y_Tc_passes, .selects "CoreDesk$TapeCheck" y_Tc_passes y_Tc_passes, .code y_Tc_passes prog_6_method_7_code 1 (some .boolean), .methodLink "CoreDesk$TapeCheck" 38 y_Tt_clear, .instanceMethod y_Tt_clear, .selects "CoreDesk$ThreadTable" y_Tt_clear y_Tt_clear, .code y_Tt_clear prog_7_method_3_code 1 none, .methodLink "CoreDesk$ThreadTable" 22 y_Arr_fill1, .static y_Arr_fill1, .code y_Arr_fill1 prog_16_method_103_code 4 none, .methodLink "CoreDesk$TapeCheck" 41 y_Tc_headerPasses, .instanceMethod y_Tc_headerPasses, .code y_Tc_headerPasses prog_6_method_10_code 3 (some .boolean), .methodLink "CoreDesk$TapeCheck" 51 y_Row_length, .methodLink "CoreDesk$TapeCheck" 55 y_Tc_refuse, .instanceMethod y_Tc_refuse, .code y_Tc_refuse prog_6_method_8_code 3 (some .boolean), .methodLink "CoreDesk$TapeCheck" 29 y_Row_number, .instanceMethod y_Row_number, .selects "CoreDesk$Row" y_Row_number y_Row_number, .code y_Row_number prog_5_method_4_code 5 (some .int), .methodLink "CoreDesk$TapeCheck" 66 y_Tc_headerFieldFits, .instanceMethod y_Tc_headerFieldFits, .code y_Tc_headerFieldFits prog_6_method_11_code 3 (some .boolean), .methodLink "CoreDesk$TapeCheck" 69 y_Tc_entries, .instanceMethod y_Tc_entries, .selects "CoreDesk$TapeCheck" y_Tc_entries y_Tc_entries, .code y_Tc_entries prog_6_method_5_code 1 (some .int)]
def cd_A7 : List Cond := [.methodLink "CoreDesk$TapeCheck" 35 y_Tc_fieldPlace, .instanceMethod y_Tc_fieldPlace, .code y_Tc_fieldPlace prog_6_method_9_code 3 (some .int), .methodLink "CoreDesk$TapeCheck" 45 y_Tc_entriesPass, .instanceMethod y_Tc_entriesPass, .code y_Tc_entriesPass prog_6_method_12_code 3 (some .boolean), .methodLink "CoreDesk$TapeCheck" 72 y_Tc_fieldsPass, .instanceMethod y_Tc_fieldsPass, .code y_Tc_fieldsPass prog_6_method_13_code 5 (some .boolean), .methodLink "CoreDesk$TapeCheck" 82 y_Tc_entryField, .instanceMethod y_Tc_entryField, .selects "CoreDesk$TapeCheck" y_Tc_entryField y_Tc_entryField, .code y_Tc_entryField prog_6_method_6_code 3 (some .int), .methodLink "CoreDesk$TapeCheck" 85 y_Tc_notesFieldFits, .instanceMethod y_Tc_notesFieldFits, .code y_Tc_notesFieldFits prog_6_method_14_code 3 (some .boolean), .methodLink "CoreDesk$TapeCheck" 88 y_Tc_regionFieldFits, .instanceMethod y_Tc_regionFieldFits, .code y_Tc_regionFieldFits prog_6_method_15_code 4 (some .boolean), .methodLink "CoreDesk$TapeCheck" 92 y_Mem_isSpan, .methodLink "CoreDesk$TapeCheck" 76 y_Tc_bytesPass, .instanceMethod y_Tc_bytesPass, .code y_Tc_bytesPass prog_6_method_16_code 5 (some .boolean), .methodLink "CoreDesk$TapeCheck" 97 y_Mem_overlap, .methodLink "CoreDesk$TapeCheck" 79 y_Tc_addressesPass, .instanceMethod y_Tc_addressesPass, .code y_Tc_addressesPass prog_6_method_17_code 5 (some .boolean), .methodLink "CoreDesk$TapeCheck" 48 y_Tc_notesPass, .instanceMethod y_Tc_notesPass, .code y_Tc_notesPass prog_6_method_18_code 4 (some .boolean), .methodLink "CoreDesk$TapeCheck" 101 y_Tc_noteHeadPasses, .instanceMethod y_Tc_noteHeadPasses, .code y_Tc_noteHeadPasses prog_6_method_21_code 5 (some .boolean), .methodLink "CoreDesk$TapeCheck" 117 y_Row_at, .methodLink "CoreDesk$TapeCheck" 107 y_Tc_noteSize, .instanceMethod y_Tc_noteSize, .code y_Tc_noteSize prog_6_method_19_code 2 (some .int), .methodLink "CoreDesk$TapeCheck" 111 y_Tc_padded, .instanceMethod y_Tc_padded, .code y_Tc_padded prog_6_method_20_code 2 (some .int), .methodLink "CoreDesk$TapeCheck" 104 y_Tc_threadPasses, .instanceMethod y_Tc_threadPasses, .code y_Tc_threadPasses prog_6_method_22_code 6 (some .boolean), .methodLink "CoreDesk$TapeCheck" 120 y_Tt_hasId, .methodLink "CoreDesk$TapeCheck" 123 y_Tt_add, .methodLink "CoreDesk$TapeCheck" 126 y_Tt_write, .classLink "CoreDesk" 111 "java/lang/IllegalArgumentException", .instantiable "java/lang/IllegalArgumentException" 6, .selects "java/lang/IllegalArgumentException" ⟨"java/lang/Throwable", "fillInStackTrace", "(I)Ljava/lang/Throwable;"⟩ ⟨"java/lang/Throwable", "fillInStackTrace", "(I)Ljava/lang/Throwable;"⟩, .selects "java/lang/IllegalArgumentException" ⟨"java/lang/Throwable", "fillInStackTrace", "()Ljava/lang/Throwable;"⟩ ⟨"java/lang/Throwable", "fillInStackTrace", "()Ljava/lang/Throwable;"⟩, .lays "java/lang/IllegalArgumentException" "java/lang/Throwable" "cause" "Ljava/lang/Throwable;", .lays "java/lang/Throwable" "java/lang/Throwable" "cause" "Ljava/lang/Throwable;", .lays "java/lang/IllegalArgumentException" "java/lang/Throwable" "stackTrace" "[Ljava/lang/StackTraceElement;", .lays "java/lang/Throwable" "java/lang/Throwable" "stackTrace" "[Ljava/lang/StackTraceElement;", .lays "java/lang/IllegalArgumentException" "java/lang/Throwable" "suppressedExceptions" "Ljava/util/List;", .lays "java/lang/Throwable" "java/lang/Throwable" "suppressedExceptions" "Ljava/util/List;", .lays "java/lang/IllegalArgumentException" "java/lang/Throwable" "detailMessage" "Ljava/lang/String;", .lays "java/lang/Throwable" "java/lang/Throwable" "detailMessage" "Ljava/lang/String;", .lays "java/lang/IllegalArgumentException" "java/lang/Throwable" "backtrace" "Ljava/lang/Object;", .lays "java/lang/Throwable" "java/lang/Throwable" "backtrace" "Ljava/lang/Object;"]
def cd_A8 : List Cond := [.fieldLink "java/lang/Throwable" 198 "java/lang/Throwable" "backtrace" "Ljava/lang/Object;", .instanceMethod ⟨"java/lang/Throwable", "<init>", "()V"⟩, .code ⟨"java/lang/Throwable", "<init>", "()V"⟩ prog_15_method_1_code 1 none, .methodLink "java/lang/Throwable" 1 objectInit, .fieldLink "java/lang/Throwable" 13 "java/lang/Throwable" "UNASSIGNED_STACK" "[Ljava/lang/StackTraceElement;", .fieldLink "java/lang/Throwable" 20 "java/lang/Throwable" "SUPPRESSED_SENTINEL" "Ljava/util/List;", .methodLink "java/lang/Throwable" 27 ⟨"java/lang/Throwable", "fillInStackTrace", "()Ljava/lang/Throwable;"⟩, .instanceMethod ⟨"java/lang/Throwable", "fillInStackTrace", "()Ljava/lang/Throwable;"⟩, .selects "java/lang/IndexOutOfBoundsException" ⟨"java/lang/Throwable", "fillInStackTrace", "()Ljava/lang/Throwable;"⟩ ⟨"java/lang/Throwable", "fillInStackTrace", "()Ljava/lang/Throwable;"⟩, .methodLink "java/lang/Throwable" 202 ⟨"java/lang/Throwable", "fillInStackTrace", "(I)Ljava/lang/Throwable;"⟩, .instanceMethod ⟨"java/lang/Throwable", "fillInStackTrace", "(I)Ljava/lang/Throwable;"⟩, .instantiable "java/lang/Throwable" 6, .native ⟨"java/lang/Throwable", "fillInStackTrace", "(I)Ljava/lang/Throwable;"⟩, .methodLink "CoreDesk" 113 ⟨"java/lang/IllegalArgumentException", "<init>", "()V"⟩, .instanceMethod ⟨"java/lang/IllegalArgumentException", "<init>", "()V"⟩, .code ⟨"java/lang/IllegalArgumentException", "<init>", "()V"⟩ prog_11_method_1_code 1 none, .methodLink "java/lang/IllegalArgumentException" 1 ⟨"java/lang/RuntimeException", "<init>", "()V"⟩, .instanceMethod ⟨"java/lang/RuntimeException", "<init>", "()V"⟩, .code ⟨"java/lang/RuntimeException", "<init>", "()V"⟩ prog_13_method_1_code 1 none, .methodLink "java/lang/RuntimeException" 1 ⟨"java/lang/Exception", "<init>", "()V"⟩, .instanceMethod ⟨"java/lang/Exception", "<init>", "()V"⟩, .code ⟨"java/lang/Exception", "<init>", "()V"⟩ prog_10_method_1_code 1 none, .methodLink "java/lang/Exception" 1 ⟨"java/lang/Throwable", "<init>", "()V"⟩, .fieldLink "java/lang/Throwable" 7 "java/lang/Throwable" "cause" "Ljava/lang/Throwable;", .fieldLink "java/lang/Throwable" 17 "java/lang/Throwable" "stackTrace" "[Ljava/lang/StackTraceElement;", .fieldLink "java/lang/Throwable" 24 "java/lang/Throwable" "suppressedExceptions" "Ljava/util/List;", .lays "java/lang/IllegalArgumentException" "java/lang/Throwable" "depth" "I", .methodLink "CoreDesk" 114 y_Desk_takeCore, .instanceMethod y_Desk_takeCore, .code y_Desk_takeCore prog_1_method_22_code 4 none, .methodLink "CoreDesk" 158 y_Mem_clear, .instanceMethod y_Mem_clear, .selects "CoreDesk$Memory" y_Mem_clear y_Mem_clear, .code y_Mem_clear prog_3_method_3_code 1 none, .methodLink "CoreDesk" 161 y_Tc_entries, .methodLink "CoreDesk" 164 y_Tc_entryField, .methodLink "CoreDesk" 167 y_Mem_fillRegion, .instanceMethod y_Mem_fillRegion, .selects "CoreDesk$Memory" y_Mem_fillRegion y_Mem_fillRegion, .code y_Mem_fillRegion prog_3_method_6_code 6 none, .methodLink "CoreDesk$Memory" 48 y_Row_giveBytes, .instanceMethod y_Row_giveBytes, .selects "CoreDesk$Row" y_Row_giveBytes y_Row_giveBytes, .code y_Row_giveBytes prog_5_method_9_code 4 none, .methodLink "CoreDesk" 171 y_Tc_threadsFound, .instanceMethod y_Tc_threadsFound, .selects "CoreDesk$TapeCheck" y_Tc_threadsFound y_Tc_threadsFound, .code y_Tc_threadsFound prog_6_method_4_code 1 (some (.object "CoreDesk$ThreadTable")), .methodLink "CoreDesk" 175 y_Tt_become, .instanceMethod y_Tt_become, .selects "CoreDesk$ThreadTable" y_Tt_become y_Tt_become, .code y_Tt_become prog_7_method_10_code 2 none, .methodLink "CoreDesk$ThreadTable" 39 arraycopyName, .methodLink "CoreDeskLaw" 98 y_Law_register, .static y_Law_register, .classLink "CoreDeskLaw" 19 "java/lang/IndexOutOfBoundsException", .methodLink "CoreDeskLaw" 15 y_Desk_register, .instanceMethod y_Desk_register, .selects "CoreDesk" y_Desk_register y_Desk_register, .code y_Desk_register prog_1_method_18_code 3 (some .int)]
def cd_A9 : List Cond := [.methodLink "CoreDesk" 136 y_Tt_id, .classLink "CoreDesk" 143 "java/lang/IndexOutOfBoundsException", .instantiable "java/lang/IndexOutOfBoundsException" 6, .selects "java/lang/IndexOutOfBoundsException" ⟨"java/lang/Throwable", "fillInStackTrace", "(I)Ljava/lang/Throwable;"⟩ ⟨"java/lang/Throwable", "fillInStackTrace", "(I)Ljava/lang/Throwable;"⟩, .lays "java/lang/IndexOutOfBoundsException" "java/lang/Throwable" "cause" "Ljava/lang/Throwable;", .lays "java/lang/IndexOutOfBoundsException" "java/lang/Throwable" "stackTrace" "[Ljava/lang/StackTraceElement;", .lays "java/lang/IndexOutOfBoundsException" "java/lang/Throwable" "suppressedExceptions" "Ljava/util/List;", .lays "java/lang/IndexOutOfBoundsException" "java/lang/Throwable" "detailMessage" "Ljava/lang/String;", .lays "java/lang/IndexOutOfBoundsException" "java/lang/Throwable" "backtrace" "Ljava/lang/Object;", .methodLink "CoreDesk" 145 ⟨"java/lang/IndexOutOfBoundsException", "<init>", "()V"⟩, .instanceMethod ⟨"java/lang/IndexOutOfBoundsException", "<init>", "()V"⟩, .code ⟨"java/lang/IndexOutOfBoundsException", "<init>", "()V"⟩ prog_12_method_1_code 1 none, .methodLink "java/lang/IndexOutOfBoundsException" 1 ⟨"java/lang/RuntimeException", "<init>", "()V"⟩, .lays "java/lang/IndexOutOfBoundsException" "java/lang/Throwable" "depth" "I", .classLink "CoreDeskLaw" 22 "CoreDeskModel", .instantiable "CoreDeskModel" 16, .methodLink "CoreDeskLaw" 24 y_Mo_init, .instanceMethod y_Mo_init, .code y_Mo_init prog_9_method_1_code 1 none, .methodLink "CoreDeskModel" 1 objectInit, .fieldLink "CoreDeskModel" 45 "CoreDeskModel" "thrown" "I", .fieldLink "CoreDeskModel" 7 "CoreDeskModel" "address" "[I", .fieldLink "CoreDeskModel" 13 "CoreDeskModel" "size" "[I", .fieldLink "CoreDeskModel" 16 "CoreDeskModel" "flag" "[I", .fieldLink "CoreDeskModel" 19 "CoreDeskModel" "bytes" "[B", .fieldLink "CoreDeskModel" 23 "CoreDeskModel" "regions" "[I", .fieldLink "CoreDeskModel" 26 "CoreDeskModel" "threads" "[I", .fieldLink "CoreDeskModel" 29 "CoreDeskModel" "id" "[I", .fieldLink "CoreDeskModel" 32 "CoreDeskModel" "register" "[I", .fieldLink "CoreDeskModel" 35 "CoreDeskModel" "file" "[B", .fieldLink "CoreDeskModel" 38 "CoreDeskModel" "fileSize" "I", .fieldLink "CoreDeskModel" 42 "CoreDeskModel" "tape" "[B", .fieldLink "CoreDeskModel" 86 "CoreDeskModel" "tapeSize" "I", .fieldLink "CoreDeskModel" 147 "CoreDeskModel" "hasCore" "Z", .fieldLink "CoreDeskModel" 92 "CoreDeskModel" "wrong" "I", .fieldLink "CoreDeskModel" 95 "CoreDeskModel" "where" "I", .lays "CoreDeskModel" "CoreDeskModel" "thrown" "I", .laysFinal "CoreDeskModel" "CoreDeskModel" "address" "[I", .laysFinal "CoreDeskModel" "CoreDeskModel" "size" "[I", .laysFinal "CoreDeskModel" "CoreDeskModel" "flag" "[I", .laysFinal "CoreDeskModel" "CoreDeskModel" "bytes" "[B", .laysFinal "CoreDeskModel" "CoreDeskModel" "regions" "[I", .laysFinal "CoreDeskModel" "CoreDeskModel" "threads" "[I", .laysFinal "CoreDeskModel" "CoreDeskModel" "id" "[I", .laysFinal "CoreDeskModel" "CoreDeskModel" "register" "[I", .laysFinal "CoreDeskModel" "CoreDeskModel" "file" "[B", .lays "CoreDeskModel" "CoreDeskModel" "fileSize" "I", .laysFinal "CoreDeskModel" "CoreDeskModel" "tape" "[B", .lays "CoreDeskModel" "CoreDeskModel" "tapeSize" "I", .lays "CoreDeskModel" "CoreDeskModel" "hasCore" "Z", .lays "CoreDeskModel" "CoreDeskModel" "wrong" "I", .lays "CoreDeskModel" "CoreDeskModel" "where" "I", .methodLink "CoreDeskLaw" 79 y_Mo_thrown, .instanceMethod y_Mo_thrown, .selects "CoreDeskModel" y_Mo_thrown y_Mo_thrown, .code y_Mo_thrown prog_9_method_2_code 1 (some .int), .methodLink "CoreDeskLaw" 29 y_Mo_map, .instanceMethod y_Mo_map, .selects "CoreDeskModel" y_Mo_map y_Mo_map, .code y_Mo_map prog_9_method_5_code 6 (some .boolean)]
def cd_A10 : List Cond := [.constantLong "CoreDeskModel" 52 2147483648, .methodLink "CoreDeskModel" 48 y_Mo_within, .instanceMethod y_Mo_within, .code y_Mo_within prog_9_method_3_code 5 (some .int), .methodLink "CoreDeskLaw" 34 y_Mo_unmap, .instanceMethod y_Mo_unmap, .selects "CoreDeskModel" y_Mo_unmap y_Mo_unmap, .code y_Mo_unmap prog_9_method_7_code 4 (some .boolean), .methodLink "CoreDeskModel" 54 y_Mo_move, .instanceMethod y_Mo_move, .code y_Mo_move prog_9_method_6_code 4 none, .methodLink "CoreDeskLaw" 39 y_Mo_poke, .instanceMethod y_Mo_poke, .selects "CoreDeskModel" y_Mo_poke y_Mo_poke, .code y_Mo_poke prog_9_method_8_code 4 (some .boolean), .methodLink "CoreDeskLaw" 43 y_Mo_pokeFour, .instanceMethod y_Mo_pokeFour, .selects "CoreDeskModel" y_Mo_pokeFour y_Mo_pokeFour, .code y_Mo_pokeFour prog_9_method_9_code 5 (some .boolean), .methodLink "CoreDeskLaw" 48 y_Mo_thread, .instanceMethod y_Mo_thread, .selects "CoreDeskModel" y_Mo_thread y_Mo_thread, .code y_Mo_thread prog_9_method_11_code 3 (some .int), .methodLink "CoreDeskModel" 58 y_Mo_hasId, .instanceMethod y_Mo_hasId, .code y_Mo_hasId prog_9_method_10_code 5 (some .boolean), .methodLink "CoreDeskLaw" 52 y_Mo_set, .instanceMethod y_Mo_set, .selects "CoreDeskModel" y_Mo_set y_Mo_set, .code y_Mo_set prog_9_method_12_code 4 (some .boolean), .methodLink "CoreDeskLaw" 56 y_Mo_dump, .instanceMethod y_Mo_dump, .selects "CoreDeskModel" y_Mo_dump y_Mo_dump, .code y_Mo_dump prog_9_method_20_code 5 (some .int), .methodLink "CoreDeskModel" 72 y_Mo_header, .instanceMethod y_Mo_header, .code y_Mo_header prog_9_method_19_code 2 none, .methodLink "CoreDeskModel" 62 y_Mo_lay, .instanceMethod y_Mo_lay, .code y_Mo_lay prog_9_method_13_code 2 none, .methodLink "CoreDeskModel" 66 y_Mo_two, .instanceMethod y_Mo_two, .code y_Mo_two prog_9_method_14_code 2 none, .methodLink "CoreDeskModel" 69 y_Mo_four, .instanceMethod y_Mo_four, .code y_Mo_four prog_9_method_15_code 2 none, .methodLink "CoreDeskModel" 75 y_Mo_programHeader, .instanceMethod y_Mo_programHeader, .code y_Mo_programHeader prog_9_method_18_code 8 none, .methodLink "CoreDeskModel" 79 y_Mo_above, .instanceMethod y_Mo_above, .code y_Mo_above prog_9_method_17_code 4 (some .int), .methodLink "CoreDeskModel" 83 y_Mo_filled, .instanceMethod y_Mo_filled, .code y_Mo_filled prog_9_method_16_code 4 (some .int), .methodLink "CoreDeskLaw" 60 y_Mo_byteAt, .instanceMethod y_Mo_byteAt, .selects "CoreDeskModel" y_Mo_byteAt y_Mo_byteAt, .code y_Mo_byteAt prog_9_method_21_code 2 (some .int), .methodLink "CoreDeskLaw" 64 y_Mo_copy]
def cd_A11 : List Cond := [.instanceMethod y_Mo_copy, .selects "CoreDeskModel" y_Mo_copy y_Mo_copy, .code y_Mo_copy prog_9_method_22_code 2 (some .int), .methodLink "CoreDeskLaw" 68 y_Mo_put, .instanceMethod y_Mo_put, .selects "CoreDeskModel" y_Mo_put y_Mo_put, .code y_Mo_put prog_9_method_23_code 3 (some .boolean), .methodLink "CoreDeskLaw" 72 y_Mo_cut, .instanceMethod y_Mo_cut, .selects "CoreDeskModel" y_Mo_cut y_Mo_cut, .code y_Mo_cut prog_9_method_24_code 2 (some .boolean), .methodLink "CoreDeskLaw" 78 y_Mo_load, .instanceMethod y_Mo_load, .selects "CoreDeskModel" y_Mo_load y_Mo_load, .code y_Mo_load prog_9_method_39_code 3 (some .int), .methodLink "CoreDeskModel" 144 y_Mo_reads, .instanceMethod y_Mo_reads, .code y_Mo_reads prog_9_method_38_code 3 (some .boolean), .methodLink "CoreDeskModel" 131 y_Mo_headerFits, .instanceMethod y_Mo_headerFits, .code y_Mo_headerFits prog_9_method_30_code 3 (some .boolean), .methodLink "CoreDeskModel" 98 y_Mo_isWrong, .instanceMethod y_Mo_isWrong, .code y_Mo_isWrong prog_9_method_27_code 3 (some .boolean), .methodLink "CoreDeskModel" 101 y_Mo_headerByte, .static y_Mo_headerByte, .code y_Mo_headerByte prog_9_method_28_code 1 (some .int), .methodLink "CoreDeskModel" 89 y_Mo_twoAt, .instanceMethod y_Mo_twoAt, .code y_Mo_twoAt prog_9_method_25_code 2 (some .int), .methodLink "CoreDeskModel" 104 y_Mo_fieldOf, .static y_Mo_fieldOf, .code y_Mo_fieldOf prog_9_method_29_code 1 (some .int), .methodLink "CoreDeskModel" 135 y_Mo_entryFits, .instanceMethod y_Mo_entryFits, .code y_Mo_entryFits prog_9_method_33_code 11 (some .boolean), .methodLink "CoreDeskModel" 110 y_Mo_badField, .instanceMethod y_Mo_badField, .code y_Mo_badField prog_9_method_31_code 8 (some .int), .methodLink "CoreDeskModel" 107 y_Mo_fourAt, .instanceMethod y_Mo_fourAt, .code y_Mo_fourAt prog_9_method_26_code 2 (some .int), .methodLink "CoreDeskModel" 114 y_Mo_meet, .static y_Mo_meet, .code y_Mo_meet prog_9_method_32_code 8 (some .boolean), .methodLink "CoreDeskModel" 138 y_Mo_notesFit, .instanceMethod y_Mo_notesFit, .code y_Mo_notesFit prog_9_method_36_code 4 (some .boolean), .methodLink "CoreDeskModel" 127 y_Mo_note, .instanceMethod y_Mo_note, .code y_Mo_note prog_9_method_35_code 8 (some .int), .methodLink "CoreDeskModel" 118 y_Mo_noteByte, .static y_Mo_noteByte, .code y_Mo_noteByte prog_9_method_34_code 1 (some .int), .constantLong "CoreDeskModel" 121 20, .constantLong "CoreDeskModel" 123 3, .constantLong "CoreDeskModel" 125 4, .methodLink "CoreDeskModel" 141 y_Mo_readRegions, .instanceMethod y_Mo_readRegions, .code y_Mo_readRegions prog_9_method_37_code 7 none]
def cd_A12 : List Cond := [.methodLink "CoreDeskLaw" 85 y_Mo_error, .instanceMethod y_Mo_error, .selects "CoreDeskModel" y_Mo_error y_Mo_error, .code y_Mo_error prog_9_method_40_code 2 (some .int), .methodLink "CoreDeskLaw" 89 y_Mo_core, .instanceMethod y_Mo_core, .selects "CoreDeskModel" y_Mo_core y_Mo_core, .code y_Mo_core prog_9_method_41_code 2 (some .int), .methodLink "CoreDeskLaw" 93 y_Mo_peek, .instanceMethod y_Mo_peek, .selects "CoreDeskModel" y_Mo_peek y_Mo_peek, .code y_Mo_peek prog_9_method_42_code 2 (some .int), .methodLink "CoreDeskModel" 151 y_Mo_byteOf, .instanceMethod y_Mo_byteOf, .code y_Mo_byteOf prog_9_method_4_code 5 (some .int), .methodLink "CoreDeskLaw" 97 y_Mo_flags, .instanceMethod y_Mo_flags, .selects "CoreDeskModel" y_Mo_flags y_Mo_flags, .code y_Mo_flags prog_9_method_43_code 3 (some .int), .methodLink "CoreDeskLaw" 101 y_Mo_register, .instanceMethod y_Mo_register, .selects "CoreDeskModel" y_Mo_register y_Mo_register, .code y_Mo_register prog_9_method_44_code 3 (some .int), .methodLink "CoreDeskLaw" 105 y_Mo_find, .instanceMethod y_Mo_find, .selects "CoreDeskModel" y_Mo_find y_Mo_find, .code y_Mo_find prog_9_method_46_code 8 (some .int), .methodLink "CoreDeskModel" 156 y_Mo_number, .instanceMethod y_Mo_number, .code y_Mo_number prog_9_method_45_code 3 (some .int), .constantLong "CoreDeskModel" 154 2, .methodLink "CoreDeskLaw" 109 y_Mo_caller, .instanceMethod y_Mo_caller, .selects "CoreDeskModel" y_Mo_caller y_Mo_caller, .code y_Mo_caller prog_9_method_47_code 9 (some .int), .arrayClass .long, .selects "CoreDesk$Memory" y_Mem_indexOf y_Mem_indexOf, .selects "CoreDesk$ThreadTable" y_Tt_hasValue y_Tt_hasValue, .selects "CoreDesk$FileWriter" y_Fw_writeHeader y_Fw_writeHeader, .selects "CoreDesk$FileWriter" y_Fw_entries y_Fw_entries, .selects "CoreDesk$FileWriter" y_Fw_writeEntries y_Fw_writeEntries, .selects "CoreDesk$FileWriter" y_Fw_writeNotesEntry y_Fw_writeNotesEntry, .selects "CoreDesk$FileWriter" y_Fw_writeFour y_Fw_writeFour, .selects "CoreDesk$FileWriter" y_Fw_writeRegionEntry y_Fw_writeRegionEntry, .selects "CoreDesk$FileWriter" y_Fw_writeNote y_Fw_writeNote, .selects "CoreDesk$Region" y_Reg_numberAt y_Reg_numberAt, .selects "CoreDesk" y_Desk_isFrame y_Desk_isFrame, .selects "CoreDesk$TapeCheck" y_Tc_headerPasses y_Tc_headerPasses, .selects "CoreDesk$TapeCheck" y_Tc_refuse y_Tc_refuse, .selects "CoreDesk$TapeCheck" y_Tc_headerFieldFits y_Tc_headerFieldFits, .selects "CoreDesk$TapeCheck" y_Tc_fieldPlace y_Tc_fieldPlace, .selects "CoreDesk$TapeCheck" y_Tc_entriesPass y_Tc_entriesPass, .selects "CoreDesk$TapeCheck" y_Tc_fieldsPass y_Tc_fieldsPass, .selects "CoreDesk$TapeCheck" y_Tc_notesFieldFits y_Tc_notesFieldFits, .selects "CoreDesk$TapeCheck" y_Tc_regionFieldFits y_Tc_regionFieldFits, .selects "CoreDesk$TapeCheck" y_Tc_bytesPass y_Tc_bytesPass, .selects "CoreDesk$TapeCheck" y_Tc_addressesPass y_Tc_addressesPass, .selects "CoreDesk$TapeCheck" y_Tc_notesPass y_Tc_notesPass, .selects "CoreDesk$TapeCheck" y_Tc_noteHeadPasses y_Tc_noteHeadPasses, .selects "CoreDesk$TapeCheck" y_Tc_noteSize y_Tc_noteSize]
def cd_A13 : List Cond := [.selects "CoreDesk$TapeCheck" y_Tc_padded y_Tc_padded, .selects "CoreDesk$TapeCheck" y_Tc_threadPasses y_Tc_threadPasses, .selects "java/lang/Throwable" ⟨"java/lang/Throwable", "fillInStackTrace", "(I)Ljava/lang/Throwable;"⟩ ⟨"java/lang/Throwable", "fillInStackTrace", "(I)Ljava/lang/Throwable;"⟩, .selects "CoreDesk" y_Desk_takeCore y_Desk_takeCore, .selects "CoreDeskModel" y_Mo_within y_Mo_within, .selects "CoreDeskModel" y_Mo_move y_Mo_move, .selects "CoreDeskModel" y_Mo_hasId y_Mo_hasId, .selects "CoreDeskModel" y_Mo_header y_Mo_header, .selects "CoreDeskModel" y_Mo_lay y_Mo_lay, .selects "CoreDeskModel" y_Mo_two y_Mo_two, .selects "CoreDeskModel" y_Mo_four y_Mo_four, .selects "CoreDeskModel" y_Mo_programHeader y_Mo_programHeader, .selects "CoreDeskModel" y_Mo_above y_Mo_above, .selects "CoreDeskModel" y_Mo_filled y_Mo_filled, .selects "CoreDeskModel" y_Mo_reads y_Mo_reads, .selects "CoreDeskModel" y_Mo_headerFits y_Mo_headerFits, .selects "CoreDeskModel" y_Mo_isWrong y_Mo_isWrong, .selects "CoreDeskModel" y_Mo_twoAt y_Mo_twoAt, .selects "CoreDeskModel" y_Mo_entryFits y_Mo_entryFits, .selects "CoreDeskModel" y_Mo_badField y_Mo_badField, .selects "CoreDeskModel" y_Mo_fourAt y_Mo_fourAt, .selects "CoreDeskModel" y_Mo_notesFit y_Mo_notesFit, .selects "CoreDeskModel" y_Mo_note y_Mo_note, .selects "CoreDeskModel" y_Mo_readRegions y_Mo_readRegions, .selects "CoreDeskModel" y_Mo_byteOf y_Mo_byteOf, .selects "CoreDeskModel" y_Mo_number y_Mo_number]
def cd_AW : List Cond := cd_A0 ++ (cd_A1 ++ (cd_A2 ++ (cd_A3 ++ (cd_A4 ++ (cd_A5 ++ (cd_A6 ++ (cd_A7 ++ (cd_A8 ++ (cd_A9 ++ (cd_A10 ++ (cd_A11 ++ (cd_A12 ++ (cd_A13)))))))))))))
theorem cd_A0_ok : cd_A0.all goodWord = true := by decide +kernel
theorem cd_A0_in : ∀ w ∈ cd_A0, w ∈ cd_AW := fun _ h => List.mem_append_left _ h
theorem cd_A1_ok : cd_A1.all goodWord = true := by decide +kernel
theorem cd_A1_in : ∀ w ∈ cd_A1, w ∈ cd_AW := fun _ h => List.mem_append_right _ (List.mem_append_left _ h)
theorem cd_A2_ok : cd_A2.all goodWord = true := by decide +kernel
theorem cd_A2_in : ∀ w ∈ cd_A2, w ∈ cd_AW := fun _ h => List.mem_append_right _ (List.mem_append_right _ (List.mem_append_left _ h))
theorem cd_A3_ok : cd_A3.all goodWord = true := by decide +kernel
theorem cd_A3_in : ∀ w ∈ cd_A3, w ∈ cd_AW := fun _ h => List.mem_append_right _ (List.mem_append_right _ (List.mem_append_right _ (List.mem_append_left _ h)))
theorem cd_A4_ok : cd_A4.all goodWord = true := by decide +kernel
theorem cd_A4_in : ∀ w ∈ cd_A4, w ∈ cd_AW := fun _ h => List.mem_append_right _ (List.mem_append_right _ (List.mem_append_right _ (List.mem_append_right _ (List.mem_append_left _ h))))
theorem cd_A5_ok : cd_A5.all goodWord = true := by decide +kernel
theorem cd_A5_in : ∀ w ∈ cd_A5, w ∈ cd_AW := fun _ h => List.mem_append_right _ (List.mem_append_right _ (List.mem_append_right _ (List.mem_append_right _ (List.mem_append_right _ (List.mem_append_left _ h)))))
theorem cd_A6_ok : cd_A6.all goodWord = true := by decide +kernel
theorem cd_A6_in : ∀ w ∈ cd_A6, w ∈ cd_AW := fun _ h => List.mem_append_right _ (List.mem_append_right _ (List.mem_append_right _ (List.mem_append_right _ (List.mem_append_right _ (List.mem_append_right _ (List.mem_append_left _ h))))))
theorem cd_A7_ok : cd_A7.all goodWord = true := by decide +kernel
theorem cd_A7_in : ∀ w ∈ cd_A7, w ∈ cd_AW := fun _ h => List.mem_append_right _ (List.mem_append_right _ (List.mem_append_right _ (List.mem_append_right _ (List.mem_append_right _ (List.mem_append_right _ (List.mem_append_right _ (List.mem_append_left _ h)))))))
theorem cd_A8_ok : cd_A8.all goodWord = true := by decide +kernel
theorem cd_A8_in : ∀ w ∈ cd_A8, w ∈ cd_AW := fun _ h => List.mem_append_right _ (List.mem_append_right _ (List.mem_append_right _ (List.mem_append_right _ (List.mem_append_right _ (List.mem_append_right _ (List.mem_append_right _ (List.mem_append_right _ (List.mem_append_left _ h))))))))
theorem cd_A9_ok : cd_A9.all goodWord = true := by decide +kernel
theorem cd_A9_in : ∀ w ∈ cd_A9, w ∈ cd_AW := fun _ h => List.mem_append_right _ (List.mem_append_right _ (List.mem_append_right _ (List.mem_append_right _ (List.mem_append_right _ (List.mem_append_right _ (List.mem_append_right _ (List.mem_append_right _ (List.mem_append_right _ (List.mem_append_left _ h)))))))))
theorem cd_A10_ok : cd_A10.all goodWord = true := by decide +kernel
theorem cd_A10_in : ∀ w ∈ cd_A10, w ∈ cd_AW := fun _ h => List.mem_append_right _ (List.mem_append_right _ (List.mem_append_right _ (List.mem_append_right _ (List.mem_append_right _ (List.mem_append_right _ (List.mem_append_right _ (List.mem_append_right _ (List.mem_append_right _ (List.mem_append_right _ (List.mem_append_left _ h))))))))))
theorem cd_A11_ok : cd_A11.all goodWord = true := by decide +kernel
theorem cd_A11_in : ∀ w ∈ cd_A11, w ∈ cd_AW := fun _ h => List.mem_append_right _ (List.mem_append_right _ (List.mem_append_right _ (List.mem_append_right _ (List.mem_append_right _ (List.mem_append_right _ (List.mem_append_right _ (List.mem_append_right _ (List.mem_append_right _ (List.mem_append_right _ (List.mem_append_right _ (List.mem_append_left _ h)))))))))))
theorem cd_A12_ok : cd_A12.all goodWord = true := by decide +kernel
theorem cd_A12_in : ∀ w ∈ cd_A12, w ∈ cd_AW := fun _ h => List.mem_append_right _ (List.mem_append_right _ (List.mem_append_right _ (List.mem_append_right _ (List.mem_append_right _ (List.mem_append_right _ (List.mem_append_right _ (List.mem_append_right _ (List.mem_append_right _ (List.mem_append_right _ (List.mem_append_right _ (List.mem_append_right _ (List.mem_append_left _ h))))))))))))
theorem cd_A13_ok : cd_A13.all goodWord = true := by decide +kernel
theorem cd_A13_in : ∀ w ∈ cd_A13, w ∈ cd_AW := fun _ h => List.mem_append_right _ (List.mem_append_right _ (List.mem_append_right _ (List.mem_append_right _ (List.mem_append_right _ (List.mem_append_right _ (List.mem_append_right _ (List.mem_append_right _ (List.mem_append_right _ (List.mem_append_right _ (List.mem_append_right _ (List.mem_append_right _ (List.mem_append_right _ (h)))))))))))))
theorem cd_AW_ok : ∀ w ∈ cd_AW, (w.onTables && w.keeps) = true ∨ ∃ ty, w = .arrayClass ty := fun w => fun h => (List.mem_append.mp h).elim (fun h => good_of_word (List.all_eq_true.mp cd_A0_ok w h)) (fun h => (List.mem_append.mp h).elim (fun h => good_of_word (List.all_eq_true.mp cd_A1_ok w h)) (fun h => (List.mem_append.mp h).elim (fun h => good_of_word (List.all_eq_true.mp cd_A2_ok w h)) (fun h => (List.mem_append.mp h).elim (fun h => good_of_word (List.all_eq_true.mp cd_A3_ok w h)) (fun h => (List.mem_append.mp h).elim (fun h => good_of_word (List.all_eq_true.mp cd_A4_ok w h)) (fun h => (List.mem_append.mp h).elim (fun h => good_of_word (List.all_eq_true.mp cd_A5_ok w h)) (fun h => (List.mem_append.mp h).elim (fun h => good_of_word (List.all_eq_true.mp cd_A6_ok w h)) (fun h => (List.mem_append.mp h).elim (fun h => good_of_word (List.all_eq_true.mp cd_A7_ok w h)) (fun h => (List.mem_append.mp h).elim (fun h => good_of_word (List.all_eq_true.mp cd_A8_ok w h)) (fun h => (List.mem_append.mp h).elim (fun h => good_of_word (List.all_eq_true.mp cd_A9_ok w h)) (fun h => (List.mem_append.mp h).elim (fun h => good_of_word (List.all_eq_true.mp cd_A10_ok w h)) (fun h => (List.mem_append.mp h).elim (fun h => good_of_word (List.all_eq_true.mp cd_A11_ok w h)) (fun h => (List.mem_append.mp h).elim (fun h => good_of_word (List.all_eq_true.mp cd_A12_ok w h)) (fun h => good_of_word (List.all_eq_true.mp cd_A13_ok w h))))))))))))))
theorem aw_0 : Cond.initialized "CoreDeskLaw" ∈ cd_AW := cd_A0_in _ (List.mem_of_getElem? (i := 0) rfl)
theorem aw_1 : Cond.initialized "CoreDesk" ∈ cd_AW := cd_A0_in _ (List.mem_of_getElem? (i := 1) rfl)
theorem aw_2 : Cond.initialized "CoreDesk$Memory" ∈ cd_AW := cd_A0_in _ (List.mem_of_getElem? (i := 2) rfl)
theorem aw_3 : Cond.initialized "CoreDesk$Region" ∈ cd_AW := cd_A0_in _ (List.mem_of_getElem? (i := 3) rfl)
theorem aw_4 : Cond.initialized "CoreDesk$ThreadTable" ∈ cd_AW := cd_A0_in _ (List.mem_of_getElem? (i := 4) rfl)
theorem aw_5 : Cond.initialized "CoreDesk$Row" ∈ cd_AW := cd_A0_in _ (List.mem_of_getElem? (i := 5) rfl)
theorem aw_6 : Cond.initialized "CoreDesk$FileWriter" ∈ cd_AW := cd_A0_in _ (List.mem_of_getElem? (i := 6) rfl)
theorem aw_7 : Cond.initialized "CoreDesk$TapeCheck" ∈ cd_AW := cd_A0_in _ (List.mem_of_getElem? (i := 7) rfl)
theorem aw_8 : Cond.initialized "CoreDeskModel" ∈ cd_AW := cd_A0_in _ (List.mem_of_getElem? (i := 8) rfl)
theorem aw_9 : Cond.initialized "java/util/Arrays" ∈ cd_AW := cd_A0_in _ (List.mem_of_getElem? (i := 9) rfl)
theorem aw_10 : Cond.initialized "java/lang/System" ∈ cd_AW := cd_A0_in _ (List.mem_of_getElem? (i := 10) rfl)
theorem aw_11 : Cond.initialized "java/lang/Throwable" ∈ cd_AW := cd_A0_in _ (List.mem_of_getElem? (i := 11) rfl)
theorem aw_12 : Cond.initialized "java/lang/Exception" ∈ cd_AW := cd_A0_in _ (List.mem_of_getElem? (i := 12) rfl)
theorem aw_13 : Cond.initialized "java/lang/RuntimeException" ∈ cd_AW := cd_A0_in _ (List.mem_of_getElem? (i := 13) rfl)
theorem aw_14 : Cond.initialized "java/lang/IllegalArgumentException" ∈ cd_AW := cd_A0_in _ (List.mem_of_getElem? (i := 14) rfl)
theorem aw_15 : Cond.initialized "java/lang/IndexOutOfBoundsException" ∈ cd_AW := cd_A0_in _ (List.mem_of_getElem? (i := 15) rfl)
theorem aw_16 : Cond.classLink "CoreDeskLaw" 8 "CoreDesk" ∈ cd_AW := cd_A0_in _ (List.mem_of_getElem? (i := 16) rfl)
theorem aw_17 : Cond.instantiable "CoreDesk" 9 ∈ cd_AW := cd_A0_in _ (List.mem_of_getElem? (i := 17) rfl)
theorem aw_18 : Cond.methodLink "CoreDeskLaw" 21 y_Desk_init ∈ cd_AW := cd_A0_in _ (List.mem_of_getElem? (i := 18) rfl)
theorem aw_19 : Cond.instanceMethod y_Desk_init ∈ cd_AW := cd_A0_in _ (List.mem_of_getElem? (i := 19) rfl)
theorem aw_20 : Cond.code y_Desk_init prog_1_method_1_code 1 none ∈ cd_AW := cd_A0_in _ (List.mem_of_getElem? (i := 20) rfl)
theorem aw_21 : Cond.methodLink "CoreDesk" 1 objectInit ∈ cd_AW := cd_A0_in _ (List.mem_of_getElem? (i := 21) rfl)
theorem aw_22 : Cond.instanceMethod objectInit ∈ cd_AW := cd_A0_in _ (List.mem_of_getElem? (i := 22) rfl)
theorem aw_23 : Cond.code objectInit object_method_1_code 1 none ∈ cd_AW := cd_A0_in _ (List.mem_of_getElem? (i := 23) rfl)
theorem aw_24 : Cond.classLink "CoreDesk" 7 "CoreDesk$Memory" ∈ cd_AW := cd_A0_in _ (List.mem_of_getElem? (i := 24) rfl)
theorem aw_25 : Cond.instantiable "CoreDesk$Memory" 2 ∈ cd_AW := cd_A0_in _ (List.mem_of_getElem? (i := 25) rfl)
theorem aw_26 : Cond.methodLink "CoreDesk" 9 y_Mem_init ∈ cd_AW := cd_A0_in _ (List.mem_of_getElem? (i := 26) rfl)
theorem aw_27 : Cond.instanceMethod y_Mem_init ∈ cd_AW := cd_A0_in _ (List.mem_of_getElem? (i := 27) rfl)
theorem aw_28 : Cond.code y_Mem_init prog_3_method_1_code 2 none ∈ cd_AW := cd_A0_in _ (List.mem_of_getElem? (i := 28) rfl)
theorem aw_29 : Cond.methodLink "CoreDesk$Memory" 3 objectInit ∈ cd_AW := cd_A0_in _ (List.mem_of_getElem? (i := 29) rfl)
theorem aw_30 : Cond.classLink "CoreDesk$Memory" 9 "CoreDesk$Region" ∈ cd_AW := cd_A0_in _ (List.mem_of_getElem? (i := 30) rfl)
theorem aw_31 : Cond.instantiable "CoreDesk$Region" 4 ∈ cd_AW := cd_A0_in _ (List.mem_of_getElem? (i := 31) rfl)
theorem aw_32 : Cond.methodLink "CoreDesk$Memory" 17 y_Reg_init ∈ cd_AW := cd_A0_in _ (List.mem_of_getElem? (i := 32) rfl)
theorem aw_33 : Cond.instanceMethod y_Reg_init ∈ cd_AW := cd_A0_in _ (List.mem_of_getElem? (i := 33) rfl)
theorem aw_34 : Cond.code y_Reg_init prog_4_method_1_code 1 none ∈ cd_AW := cd_A0_in _ (List.mem_of_getElem? (i := 34) rfl)
theorem aw_35 : Cond.methodLink "CoreDesk$Region" 3 objectInit ∈ cd_AW := cd_A0_in _ (List.mem_of_getElem? (i := 35) rfl)
theorem aw_36 : Cond.fieldLink "CoreDesk$Region" 9 "CoreDesk$Region" "bytes" "[B" ∈ cd_AW := cd_A0_in _ (List.mem_of_getElem? (i := 36) rfl)
theorem aw_37 : Cond.fieldLink "CoreDesk$Region" 15 "CoreDesk$Region" "address" "I" ∈ cd_AW := cd_A0_in _ (List.mem_of_getElem? (i := 37) rfl)
theorem aw_38 : Cond.fieldLink "CoreDesk$Region" 19 "CoreDesk$Region" "size" "I" ∈ cd_AW := cd_A0_in _ (List.mem_of_getElem? (i := 38) rfl)
theorem aw_39 : Cond.fieldLink "CoreDesk$Region" 22 "CoreDesk$Region" "permissions" "I" ∈ cd_AW := cd_A0_in _ (List.mem_of_getElem? (i := 39) rfl)
theorem aw_40 : Cond.laysFinal "CoreDesk$Region" "CoreDesk$Region" "bytes" "[B" ∈ cd_AW := cd_A0_in _ (List.mem_of_getElem? (i := 40) rfl)
theorem aw_41 : Cond.lays "CoreDesk$Region" "CoreDesk$Region" "address" "I" ∈ cd_AW := cd_A0_in _ (List.mem_of_getElem? (i := 41) rfl)
theorem aw_42 : Cond.lays "CoreDesk$Region" "CoreDesk$Region" "size" "I" ∈ cd_AW := cd_A0_in _ (List.mem_of_getElem? (i := 42) rfl)
theorem aw_43 : Cond.lays "CoreDesk$Region" "CoreDesk$Region" "permissions" "I" ∈ cd_AW := cd_A0_in _ (List.mem_of_getElem? (i := 43) rfl)
theorem aw_44 : Cond.arrayClass .byte ∈ cd_AW := cd_A0_in _ (List.mem_of_getElem? (i := 44) rfl)
theorem aw_45 : Cond.fieldLink "CoreDesk$Memory" 11 "CoreDesk$Memory" "regions" "[LCoreDesk$Region;" ∈ cd_AW := cd_A0_in _ (List.mem_of_getElem? (i := 45) rfl)
theorem aw_46 : Cond.fieldLink "CoreDesk$Memory" 18 "CoreDesk$Memory" "count" "I" ∈ cd_AW := cd_A0_in _ (List.mem_of_getElem? (i := 46) rfl)
theorem aw_47 : Cond.laysFinal "CoreDesk$Memory" "CoreDesk$Memory" "regions" "[LCoreDesk$Region;" ∈ cd_AW := cd_A0_in _ (List.mem_of_getElem? (i := 47) rfl)
theorem aw_48 : Cond.lays "CoreDesk$Memory" "CoreDesk$Memory" "count" "I" ∈ cd_AW := cd_A0_in _ (List.mem_of_getElem? (i := 48) rfl)
theorem aw_49 : Cond.classLink "CoreDesk" 16 "CoreDesk$ThreadTable" ∈ cd_AW := cd_A0_in _ (List.mem_of_getElem? (i := 49) rfl)
theorem aw_50 : Cond.instantiable "CoreDesk$ThreadTable" 3 ∈ cd_AW := cd_A0_in _ (List.mem_of_getElem? (i := 50) rfl)
theorem aw_51 : Cond.methodLink "CoreDesk" 18 y_Tt_init ∈ cd_AW := cd_A0_in _ (List.mem_of_getElem? (i := 51) rfl)
theorem aw_52 : Cond.instanceMethod y_Tt_init ∈ cd_AW := cd_A0_in _ (List.mem_of_getElem? (i := 52) rfl)
theorem aw_53 : Cond.code y_Tt_init prog_7_method_1_code 1 none ∈ cd_AW := cd_A0_in _ (List.mem_of_getElem? (i := 53) rfl)
theorem aw_54 : Cond.methodLink "CoreDesk$ThreadTable" 3 objectInit ∈ cd_AW := cd_A0_in _ (List.mem_of_getElem? (i := 54) rfl)
theorem aw_55 : Cond.fieldLink "CoreDesk$ThreadTable" 9 "CoreDesk$ThreadTable" "ids" "[I" ∈ cd_AW := cd_A0_in _ (List.mem_of_getElem? (i := 55) rfl)
theorem aw_56 : Cond.fieldLink "CoreDesk$ThreadTable" 15 "CoreDesk$ThreadTable" "values" "[I" ∈ cd_AW := cd_A0_in _ (List.mem_of_getElem? (i := 56) rfl)
theorem aw_57 : Cond.fieldLink "CoreDesk$ThreadTable" 18 "CoreDesk$ThreadTable" "count" "I" ∈ cd_AW := cd_A0_in _ (List.mem_of_getElem? (i := 57) rfl)
theorem aw_58 : Cond.laysFinal "CoreDesk$ThreadTable" "CoreDesk$ThreadTable" "ids" "[I" ∈ cd_AW := cd_A0_in _ (List.mem_of_getElem? (i := 58) rfl)
theorem aw_59 : Cond.laysFinal "CoreDesk$ThreadTable" "CoreDesk$ThreadTable" "values" "[I" ∈ cd_AW := cd_A0_in _ (List.mem_of_getElem? (i := 59) rfl)
theorem aw_60 : Cond.lays "CoreDesk$ThreadTable" "CoreDesk$ThreadTable" "count" "I" ∈ cd_AW := cd_A1_in _ (List.mem_of_getElem? (i := 0) rfl)
theorem aw_61 : Cond.arrayClass .int ∈ cd_AW := cd_A1_in _ (List.mem_of_getElem? (i := 1) rfl)
theorem aw_62 : Cond.classLink "CoreDesk" 23 "CoreDesk$Row" ∈ cd_AW := cd_A1_in _ (List.mem_of_getElem? (i := 2) rfl)
theorem aw_63 : Cond.instantiable "CoreDesk$Row" 2 ∈ cd_AW := cd_A1_in _ (List.mem_of_getElem? (i := 3) rfl)
theorem aw_64 : Cond.methodLink "CoreDesk" 25 y_Row_init ∈ cd_AW := cd_A1_in _ (List.mem_of_getElem? (i := 4) rfl)
theorem aw_65 : Cond.instanceMethod y_Row_init ∈ cd_AW := cd_A1_in _ (List.mem_of_getElem? (i := 5) rfl)
theorem aw_66 : Cond.code y_Row_init prog_5_method_1_code 2 none ∈ cd_AW := cd_A1_in _ (List.mem_of_getElem? (i := 6) rfl)
theorem aw_67 : Cond.methodLink "CoreDesk$Row" 3 objectInit ∈ cd_AW := cd_A1_in _ (List.mem_of_getElem? (i := 7) rfl)
theorem aw_68 : Cond.fieldLink "CoreDesk$Row" 9 "CoreDesk$Row" "bytes" "[B" ∈ cd_AW := cd_A1_in _ (List.mem_of_getElem? (i := 8) rfl)
theorem aw_69 : Cond.fieldLink "CoreDesk$Row" 15 "CoreDesk$Row" "length" "I" ∈ cd_AW := cd_A1_in _ (List.mem_of_getElem? (i := 9) rfl)
theorem aw_70 : Cond.laysFinal "CoreDesk$Row" "CoreDesk$Row" "bytes" "[B" ∈ cd_AW := cd_A1_in _ (List.mem_of_getElem? (i := 10) rfl)
theorem aw_71 : Cond.lays "CoreDesk$Row" "CoreDesk$Row" "length" "I" ∈ cd_AW := cd_A1_in _ (List.mem_of_getElem? (i := 11) rfl)
theorem aw_72 : Cond.classLink "CoreDesk" 32 "CoreDesk$FileWriter" ∈ cd_AW := cd_A1_in _ (List.mem_of_getElem? (i := 12) rfl)
theorem aw_73 : Cond.instantiable "CoreDesk$FileWriter" 3 ∈ cd_AW := cd_A1_in _ (List.mem_of_getElem? (i := 13) rfl)
theorem aw_74 : Cond.methodLink "CoreDesk" 34 y_Fw_init ∈ cd_AW := cd_A1_in _ (List.mem_of_getElem? (i := 14) rfl)
theorem aw_75 : Cond.instanceMethod y_Fw_init ∈ cd_AW := cd_A1_in _ (List.mem_of_getElem? (i := 15) rfl)
theorem aw_76 : Cond.code y_Fw_init prog_2_method_1_code 4 none ∈ cd_AW := cd_A1_in _ (List.mem_of_getElem? (i := 16) rfl)
theorem aw_77 : Cond.methodLink "CoreDesk$FileWriter" 3 objectInit ∈ cd_AW := cd_A1_in _ (List.mem_of_getElem? (i := 17) rfl)
theorem aw_78 : Cond.fieldLink "CoreDesk$FileWriter" 9 "CoreDesk$FileWriter" "file" "LCoreDesk$Row;" ∈ cd_AW := cd_A1_in _ (List.mem_of_getElem? (i := 18) rfl)
theorem aw_79 : Cond.fieldLink "CoreDesk$FileWriter" 15 "CoreDesk$FileWriter" "memory" "LCoreDesk$Memory;" ∈ cd_AW := cd_A1_in _ (List.mem_of_getElem? (i := 19) rfl)
theorem aw_80 : Cond.fieldLink "CoreDesk$FileWriter" 19 "CoreDesk$FileWriter" "threads" "LCoreDesk$ThreadTable;" ∈ cd_AW := cd_A1_in _ (List.mem_of_getElem? (i := 20) rfl)
theorem aw_81 : Cond.laysFinal "CoreDesk$FileWriter" "CoreDesk$FileWriter" "file" "LCoreDesk$Row;" ∈ cd_AW := cd_A1_in _ (List.mem_of_getElem? (i := 21) rfl)
theorem aw_82 : Cond.laysFinal "CoreDesk$FileWriter" "CoreDesk$FileWriter" "memory" "LCoreDesk$Memory;" ∈ cd_AW := cd_A1_in _ (List.mem_of_getElem? (i := 22) rfl)
theorem aw_83 : Cond.laysFinal "CoreDesk$FileWriter" "CoreDesk$FileWriter" "threads" "LCoreDesk$ThreadTable;" ∈ cd_AW := cd_A1_in _ (List.mem_of_getElem? (i := 23) rfl)
theorem aw_84 : Cond.classLink "CoreDesk" 44 "CoreDesk$TapeCheck" ∈ cd_AW := cd_A1_in _ (List.mem_of_getElem? (i := 24) rfl)
theorem aw_85 : Cond.instantiable "CoreDesk$TapeCheck" 4 ∈ cd_AW := cd_A1_in _ (List.mem_of_getElem? (i := 25) rfl)
theorem aw_86 : Cond.methodLink "CoreDesk" 46 y_Tc_init ∈ cd_AW := cd_A1_in _ (List.mem_of_getElem? (i := 26) rfl)
theorem aw_87 : Cond.instanceMethod y_Tc_init ∈ cd_AW := cd_A1_in _ (List.mem_of_getElem? (i := 27) rfl)
theorem aw_88 : Cond.code y_Tc_init prog_6_method_1_code 2 none ∈ cd_AW := cd_A1_in _ (List.mem_of_getElem? (i := 28) rfl)
theorem aw_89 : Cond.methodLink "CoreDesk$TapeCheck" 3 objectInit ∈ cd_AW := cd_A1_in _ (List.mem_of_getElem? (i := 29) rfl)
theorem aw_90 : Cond.classLink "CoreDesk$TapeCheck" 15 "CoreDesk$ThreadTable" ∈ cd_AW := cd_A1_in _ (List.mem_of_getElem? (i := 30) rfl)
theorem aw_91 : Cond.methodLink "CoreDesk$TapeCheck" 17 y_Tt_init ∈ cd_AW := cd_A1_in _ (List.mem_of_getElem? (i := 31) rfl)
theorem aw_92 : Cond.fieldLink "CoreDesk$TapeCheck" 9 "CoreDesk$TapeCheck" "tape" "LCoreDesk$Row;" ∈ cd_AW := cd_A1_in _ (List.mem_of_getElem? (i := 32) rfl)
theorem aw_93 : Cond.fieldLink "CoreDesk$TapeCheck" 18 "CoreDesk$TapeCheck" "found" "LCoreDesk$ThreadTable;" ∈ cd_AW := cd_A1_in _ (List.mem_of_getElem? (i := 33) rfl)
theorem aw_94 : Cond.fieldLink "CoreDesk$TapeCheck" 22 "CoreDesk$TapeCheck" "wrong" "I" ∈ cd_AW := cd_A1_in _ (List.mem_of_getElem? (i := 34) rfl)
theorem aw_95 : Cond.fieldLink "CoreDesk$TapeCheck" 26 "CoreDesk$TapeCheck" "place" "I" ∈ cd_AW := cd_A1_in _ (List.mem_of_getElem? (i := 35) rfl)
theorem aw_96 : Cond.laysFinal "CoreDesk$TapeCheck" "CoreDesk$TapeCheck" "tape" "LCoreDesk$Row;" ∈ cd_AW := cd_A1_in _ (List.mem_of_getElem? (i := 36) rfl)
theorem aw_97 : Cond.laysFinal "CoreDesk$TapeCheck" "CoreDesk$TapeCheck" "found" "LCoreDesk$ThreadTable;" ∈ cd_AW := cd_A1_in _ (List.mem_of_getElem? (i := 37) rfl)
theorem aw_98 : Cond.lays "CoreDesk$TapeCheck" "CoreDesk$TapeCheck" "wrong" "I" ∈ cd_AW := cd_A1_in _ (List.mem_of_getElem? (i := 38) rfl)
theorem aw_99 : Cond.lays "CoreDesk$TapeCheck" "CoreDesk$TapeCheck" "place" "I" ∈ cd_AW := cd_A1_in _ (List.mem_of_getElem? (i := 39) rfl)
theorem aw_100 : Cond.fieldLink "CoreDesk" 10 "CoreDesk" "memory" "LCoreDesk$Memory;" ∈ cd_AW := cd_A1_in _ (List.mem_of_getElem? (i := 40) rfl)
theorem aw_101 : Cond.fieldLink "CoreDesk" 19 "CoreDesk" "threads" "LCoreDesk$ThreadTable;" ∈ cd_AW := cd_A1_in _ (List.mem_of_getElem? (i := 41) rfl)
theorem aw_102 : Cond.fieldLink "CoreDesk" 28 "CoreDesk" "file" "LCoreDesk$Row;" ∈ cd_AW := cd_A1_in _ (List.mem_of_getElem? (i := 42) rfl)
theorem aw_103 : Cond.fieldLink "CoreDesk" 37 "CoreDesk" "writer" "LCoreDesk$FileWriter;" ∈ cd_AW := cd_A1_in _ (List.mem_of_getElem? (i := 43) rfl)
theorem aw_104 : Cond.fieldLink "CoreDesk" 41 "CoreDesk" "tape" "LCoreDesk$Row;" ∈ cd_AW := cd_A1_in _ (List.mem_of_getElem? (i := 44) rfl)
theorem aw_105 : Cond.fieldLink "CoreDesk" 49 "CoreDesk" "check" "LCoreDesk$TapeCheck;" ∈ cd_AW := cd_A1_in _ (List.mem_of_getElem? (i := 45) rfl)
theorem aw_106 : Cond.fieldLink "CoreDesk" 53 "CoreDesk" "coreMemory" "LCoreDesk$Memory;" ∈ cd_AW := cd_A1_in _ (List.mem_of_getElem? (i := 46) rfl)
theorem aw_107 : Cond.fieldLink "CoreDesk" 56 "CoreDesk" "coreThreads" "LCoreDesk$ThreadTable;" ∈ cd_AW := cd_A1_in _ (List.mem_of_getElem? (i := 47) rfl)
theorem aw_108 : Cond.fieldLink "CoreDesk" 59 "CoreDesk" "hasCore" "Z" ∈ cd_AW := cd_A1_in _ (List.mem_of_getElem? (i := 48) rfl)
theorem aw_109 : Cond.laysFinal "CoreDesk" "CoreDesk" "memory" "LCoreDesk$Memory;" ∈ cd_AW := cd_A1_in _ (List.mem_of_getElem? (i := 49) rfl)
theorem aw_110 : Cond.laysFinal "CoreDesk" "CoreDesk" "threads" "LCoreDesk$ThreadTable;" ∈ cd_AW := cd_A1_in _ (List.mem_of_getElem? (i := 50) rfl)
theorem aw_111 : Cond.laysFinal "CoreDesk" "CoreDesk" "file" "LCoreDesk$Row;" ∈ cd_AW := cd_A1_in _ (List.mem_of_getElem? (i := 51) rfl)
theorem aw_112 : Cond.laysFinal "CoreDesk" "CoreDesk" "writer" "LCoreDesk$FileWriter;" ∈ cd_AW := cd_A1_in _ (List.mem_of_getElem? (i := 52) rfl)
theorem aw_113 : Cond.laysFinal "CoreDesk" "CoreDesk" "tape" "LCoreDesk$Row;" ∈ cd_AW := cd_A1_in _ (List.mem_of_getElem? (i := 53) rfl)
theorem aw_114 : Cond.laysFinal "CoreDesk" "CoreDesk" "check" "LCoreDesk$TapeCheck;" ∈ cd_AW := cd_A1_in _ (List.mem_of_getElem? (i := 54) rfl)
theorem aw_115 : Cond.laysFinal "CoreDesk" "CoreDesk" "coreMemory" "LCoreDesk$Memory;" ∈ cd_AW := cd_A1_in _ (List.mem_of_getElem? (i := 55) rfl)
theorem aw_116 : Cond.laysFinal "CoreDesk" "CoreDesk" "coreThreads" "LCoreDesk$ThreadTable;" ∈ cd_AW := cd_A1_in _ (List.mem_of_getElem? (i := 56) rfl)
theorem aw_117 : Cond.lays "CoreDesk" "CoreDesk" "hasCore" "Z" ∈ cd_AW := cd_A1_in _ (List.mem_of_getElem? (i := 57) rfl)
theorem aw_118 : Cond.methodLink "CoreDeskLaw" 25 y_Desk_map ∈ cd_AW := cd_A1_in _ (List.mem_of_getElem? (i := 58) rfl)
theorem aw_119 : Cond.instanceMethod y_Desk_map ∈ cd_AW := cd_A1_in _ (List.mem_of_getElem? (i := 59) rfl)
theorem aw_120 : Cond.selects "CoreDesk" y_Desk_map y_Desk_map ∈ cd_AW := cd_A2_in _ (List.mem_of_getElem? (i := 0) rfl)
theorem aw_121 : Cond.code y_Desk_map prog_1_method_2_code 4 (some .boolean) ∈ cd_AW := cd_A2_in _ (List.mem_of_getElem? (i := 1) rfl)
theorem aw_122 : Cond.methodLink "CoreDesk" 63 y_Mem_addRegion ∈ cd_AW := cd_A2_in _ (List.mem_of_getElem? (i := 2) rfl)
theorem aw_123 : Cond.instanceMethod y_Mem_addRegion ∈ cd_AW := cd_A2_in _ (List.mem_of_getElem? (i := 3) rfl)
theorem aw_124 : Cond.selects "CoreDesk$Memory" y_Mem_addRegion y_Mem_addRegion ∈ cd_AW := cd_A2_in _ (List.mem_of_getElem? (i := 4) rfl)
theorem aw_125 : Cond.code y_Mem_addRegion prog_3_method_4_code 7 (some .boolean) ∈ cd_AW := cd_A2_in _ (List.mem_of_getElem? (i := 5) rfl)
theorem aw_126 : Cond.methodLink "CoreDesk$Memory" 22 y_Mem_isSpan ∈ cd_AW := cd_A2_in _ (List.mem_of_getElem? (i := 6) rfl)
theorem aw_127 : Cond.static y_Mem_isSpan ∈ cd_AW := cd_A2_in _ (List.mem_of_getElem? (i := 7) rfl)
theorem aw_128 : Cond.code y_Mem_isSpan prog_3_method_16_code 2 (some .boolean) ∈ cd_AW := cd_A2_in _ (List.mem_of_getElem? (i := 8) rfl)
theorem aw_129 : Cond.constant "CoreDesk$Memory" 81 2147483647 ∈ cd_AW := cd_A2_in _ (List.mem_of_getElem? (i := 9) rfl)
theorem aw_130 : Cond.methodLink "CoreDesk$Memory" 32 y_Mem_overlap ∈ cd_AW := cd_A2_in _ (List.mem_of_getElem? (i := 10) rfl)
theorem aw_131 : Cond.static y_Mem_overlap ∈ cd_AW := cd_A2_in _ (List.mem_of_getElem? (i := 11) rfl)
theorem aw_132 : Cond.code y_Mem_overlap prog_3_method_17_code 4 (some .boolean) ∈ cd_AW := cd_A2_in _ (List.mem_of_getElem? (i := 12) rfl)
theorem aw_133 : Cond.methodLink "CoreDesk$Memory" 36 y_Reg_begin ∈ cd_AW := cd_A2_in _ (List.mem_of_getElem? (i := 13) rfl)
theorem aw_134 : Cond.instanceMethod y_Reg_begin ∈ cd_AW := cd_A2_in _ (List.mem_of_getElem? (i := 14) rfl)
theorem aw_135 : Cond.selects "CoreDesk$Region" y_Reg_begin y_Reg_begin ∈ cd_AW := cd_A2_in _ (List.mem_of_getElem? (i := 15) rfl)
theorem aw_136 : Cond.code y_Reg_begin prog_4_method_2_code 4 none ∈ cd_AW := cd_A2_in _ (List.mem_of_getElem? (i := 16) rfl)
theorem aw_137 : Cond.methodLink "CoreDesk$Region" 25 y_Arr_fill0 ∈ cd_AW := cd_A2_in _ (List.mem_of_getElem? (i := 17) rfl)
theorem aw_138 : Cond.static y_Arr_fill0 ∈ cd_AW := cd_A2_in _ (List.mem_of_getElem? (i := 18) rfl)
theorem aw_139 : Cond.code y_Arr_fill0 prog_16_method_109_code 4 none ∈ cd_AW := cd_A2_in _ (List.mem_of_getElem? (i := 19) rfl)
theorem aw_140 : Cond.methodLink "CoreDeskLaw" 30 y_Desk_unmap ∈ cd_AW := cd_A2_in _ (List.mem_of_getElem? (i := 20) rfl)
theorem aw_141 : Cond.instanceMethod y_Desk_unmap ∈ cd_AW := cd_A2_in _ (List.mem_of_getElem? (i := 21) rfl)
theorem aw_142 : Cond.selects "CoreDesk" y_Desk_unmap y_Desk_unmap ∈ cd_AW := cd_A2_in _ (List.mem_of_getElem? (i := 22) rfl)
theorem aw_143 : Cond.code y_Desk_unmap prog_1_method_3_code 2 (some .boolean) ∈ cd_AW := cd_A2_in _ (List.mem_of_getElem? (i := 23) rfl)
theorem aw_144 : Cond.methodLink "CoreDesk" 67 y_Mem_removeRegion ∈ cd_AW := cd_A2_in _ (List.mem_of_getElem? (i := 24) rfl)
theorem aw_145 : Cond.instanceMethod y_Mem_removeRegion ∈ cd_AW := cd_A2_in _ (List.mem_of_getElem? (i := 25) rfl)
theorem aw_146 : Cond.selects "CoreDesk$Memory" y_Mem_removeRegion y_Mem_removeRegion ∈ cd_AW := cd_A2_in _ (List.mem_of_getElem? (i := 26) rfl)
theorem aw_147 : Cond.code y_Mem_removeRegion prog_3_method_5_code 5 (some .boolean) ∈ cd_AW := cd_A2_in _ (List.mem_of_getElem? (i := 27) rfl)
theorem aw_148 : Cond.methodLink "CoreDesk$Memory" 40 y_Mem_indexOf ∈ cd_AW := cd_A2_in _ (List.mem_of_getElem? (i := 28) rfl)
theorem aw_149 : Cond.instanceMethod y_Mem_indexOf ∈ cd_AW := cd_A2_in _ (List.mem_of_getElem? (i := 29) rfl)
theorem aw_150 : Cond.code y_Mem_indexOf prog_3_method_15_code 3 (some .int) ∈ cd_AW := cd_A2_in _ (List.mem_of_getElem? (i := 30) rfl)
theorem aw_151 : Cond.methodLink "CoreDesk$Memory" 77 y_Reg_has ∈ cd_AW := cd_A2_in _ (List.mem_of_getElem? (i := 31) rfl)
theorem aw_152 : Cond.instanceMethod y_Reg_has ∈ cd_AW := cd_A2_in _ (List.mem_of_getElem? (i := 32) rfl)
theorem aw_153 : Cond.selects "CoreDesk$Region" y_Reg_has y_Reg_has ∈ cd_AW := cd_A2_in _ (List.mem_of_getElem? (i := 33) rfl)
theorem aw_154 : Cond.code y_Reg_has prog_4_method_3_code 2 (some .boolean) ∈ cd_AW := cd_A2_in _ (List.mem_of_getElem? (i := 34) rfl)
theorem aw_155 : Cond.methodLink "CoreDeskLaw" 35 y_Desk_poke ∈ cd_AW := cd_A2_in _ (List.mem_of_getElem? (i := 35) rfl)
theorem aw_156 : Cond.instanceMethod y_Desk_poke ∈ cd_AW := cd_A2_in _ (List.mem_of_getElem? (i := 36) rfl)
theorem aw_157 : Cond.selects "CoreDesk" y_Desk_poke y_Desk_poke ∈ cd_AW := cd_A2_in _ (List.mem_of_getElem? (i := 37) rfl)
theorem aw_158 : Cond.code y_Desk_poke prog_1_method_4_code 3 (some .boolean) ∈ cd_AW := cd_A2_in _ (List.mem_of_getElem? (i := 38) rfl)
theorem aw_159 : Cond.methodLink "CoreDesk" 71 y_Mem_writeByte ∈ cd_AW := cd_A2_in _ (List.mem_of_getElem? (i := 39) rfl)
theorem aw_160 : Cond.instanceMethod y_Mem_writeByte ∈ cd_AW := cd_A2_in _ (List.mem_of_getElem? (i := 40) rfl)
theorem aw_161 : Cond.selects "CoreDesk$Memory" y_Mem_writeByte y_Mem_writeByte ∈ cd_AW := cd_A2_in _ (List.mem_of_getElem? (i := 41) rfl)
theorem aw_162 : Cond.code y_Mem_writeByte prog_3_method_12_code 4 (some .boolean) ∈ cd_AW := cd_A2_in _ (List.mem_of_getElem? (i := 42) rfl)
theorem aw_163 : Cond.methodLink "CoreDesk$Memory" 63 y_Reg_write ∈ cd_AW := cd_A2_in _ (List.mem_of_getElem? (i := 43) rfl)
theorem aw_164 : Cond.instanceMethod y_Reg_write ∈ cd_AW := cd_A2_in _ (List.mem_of_getElem? (i := 44) rfl)
theorem aw_165 : Cond.selects "CoreDesk$Region" y_Reg_write y_Reg_write ∈ cd_AW := cd_A2_in _ (List.mem_of_getElem? (i := 45) rfl)
theorem aw_166 : Cond.code y_Reg_write prog_4_method_5_code 3 none ∈ cd_AW := cd_A2_in _ (List.mem_of_getElem? (i := 46) rfl)
theorem aw_167 : Cond.methodLink "CoreDeskLaw" 40 y_Desk_pokeFour ∈ cd_AW := cd_A2_in _ (List.mem_of_getElem? (i := 47) rfl)
theorem aw_168 : Cond.instanceMethod y_Desk_pokeFour ∈ cd_AW := cd_A2_in _ (List.mem_of_getElem? (i := 48) rfl)
theorem aw_169 : Cond.selects "CoreDesk" y_Desk_pokeFour y_Desk_pokeFour ∈ cd_AW := cd_A2_in _ (List.mem_of_getElem? (i := 49) rfl)
theorem aw_170 : Cond.code y_Desk_pokeFour prog_1_method_5_code 3 (some .boolean) ∈ cd_AW := cd_A2_in _ (List.mem_of_getElem? (i := 50) rfl)
theorem aw_171 : Cond.methodLink "CoreDesk" 75 y_Mem_writeNumber ∈ cd_AW := cd_A2_in _ (List.mem_of_getElem? (i := 51) rfl)
theorem aw_172 : Cond.instanceMethod y_Mem_writeNumber ∈ cd_AW := cd_A2_in _ (List.mem_of_getElem? (i := 52) rfl)
theorem aw_173 : Cond.selects "CoreDesk$Memory" y_Mem_writeNumber y_Mem_writeNumber ∈ cd_AW := cd_A2_in _ (List.mem_of_getElem? (i := 53) rfl)
theorem aw_174 : Cond.code y_Mem_writeNumber prog_3_method_13_code 4 (some .boolean) ∈ cd_AW := cd_A2_in _ (List.mem_of_getElem? (i := 54) rfl)
theorem aw_175 : Cond.methodLink "CoreDesk$Memory" 67 y_Mem_holds ∈ cd_AW := cd_A2_in _ (List.mem_of_getElem? (i := 55) rfl)
theorem aw_176 : Cond.instanceMethod y_Mem_holds ∈ cd_AW := cd_A2_in _ (List.mem_of_getElem? (i := 56) rfl)
theorem aw_177 : Cond.selects "CoreDesk$Memory" y_Mem_holds y_Mem_holds ∈ cd_AW := cd_A2_in _ (List.mem_of_getElem? (i := 57) rfl)
theorem aw_178 : Cond.code y_Mem_holds prog_3_method_8_code 4 (some .boolean) ∈ cd_AW := cd_A2_in _ (List.mem_of_getElem? (i := 58) rfl)
theorem aw_179 : Cond.methodLink "CoreDesk$Memory" 70 y_Mem_writeByte ∈ cd_AW := cd_A2_in _ (List.mem_of_getElem? (i := 59) rfl)
theorem aw_180 : Cond.methodLink "CoreDeskLaw" 44 y_Desk_thread ∈ cd_AW := cd_A3_in _ (List.mem_of_getElem? (i := 0) rfl)
theorem aw_181 : Cond.instanceMethod y_Desk_thread ∈ cd_AW := cd_A3_in _ (List.mem_of_getElem? (i := 1) rfl)
theorem aw_182 : Cond.selects "CoreDesk" y_Desk_thread y_Desk_thread ∈ cd_AW := cd_A3_in _ (List.mem_of_getElem? (i := 2) rfl)
theorem aw_183 : Cond.code y_Desk_thread prog_1_method_6_code 2 (some .int) ∈ cd_AW := cd_A3_in _ (List.mem_of_getElem? (i := 3) rfl)
theorem aw_184 : Cond.methodLink "CoreDesk" 78 y_Tt_add ∈ cd_AW := cd_A3_in _ (List.mem_of_getElem? (i := 4) rfl)
theorem aw_185 : Cond.instanceMethod y_Tt_add ∈ cd_AW := cd_A3_in _ (List.mem_of_getElem? (i := 5) rfl)
theorem aw_186 : Cond.selects "CoreDesk$ThreadTable" y_Tt_add y_Tt_add ∈ cd_AW := cd_A3_in _ (List.mem_of_getElem? (i := 6) rfl)
theorem aw_187 : Cond.code y_Tt_add prog_7_method_6_code 2 (some .int) ∈ cd_AW := cd_A3_in _ (List.mem_of_getElem? (i := 7) rfl)
theorem aw_188 : Cond.methodLink "CoreDesk$ThreadTable" 28 y_Tt_hasId ∈ cd_AW := cd_A3_in _ (List.mem_of_getElem? (i := 8) rfl)
theorem aw_189 : Cond.instanceMethod y_Tt_hasId ∈ cd_AW := cd_A3_in _ (List.mem_of_getElem? (i := 9) rfl)
theorem aw_190 : Cond.selects "CoreDesk$ThreadTable" y_Tt_hasId y_Tt_hasId ∈ cd_AW := cd_A3_in _ (List.mem_of_getElem? (i := 10) rfl)
theorem aw_191 : Cond.code y_Tt_hasId prog_7_method_5_code 3 (some .boolean) ∈ cd_AW := cd_A3_in _ (List.mem_of_getElem? (i := 11) rfl)
theorem aw_192 : Cond.methodLink "CoreDeskLaw" 49 y_Desk_set ∈ cd_AW := cd_A3_in _ (List.mem_of_getElem? (i := 12) rfl)
theorem aw_193 : Cond.instanceMethod y_Desk_set ∈ cd_AW := cd_A3_in _ (List.mem_of_getElem? (i := 13) rfl)
theorem aw_194 : Cond.selects "CoreDesk" y_Desk_set y_Desk_set ∈ cd_AW := cd_A3_in _ (List.mem_of_getElem? (i := 14) rfl)
theorem aw_195 : Cond.code y_Desk_set prog_1_method_7_code 4 (some .boolean) ∈ cd_AW := cd_A3_in _ (List.mem_of_getElem? (i := 15) rfl)
theorem aw_196 : Cond.methodLink "CoreDesk" 82 y_Tt_write ∈ cd_AW := cd_A3_in _ (List.mem_of_getElem? (i := 16) rfl)
theorem aw_197 : Cond.instanceMethod y_Tt_write ∈ cd_AW := cd_A3_in _ (List.mem_of_getElem? (i := 17) rfl)
theorem aw_198 : Cond.selects "CoreDesk$ThreadTable" y_Tt_write y_Tt_write ∈ cd_AW := cd_A3_in _ (List.mem_of_getElem? (i := 18) rfl)
theorem aw_199 : Cond.code y_Tt_write prog_7_method_9_code 4 (some .boolean) ∈ cd_AW := cd_A3_in _ (List.mem_of_getElem? (i := 19) rfl)
theorem aw_200 : Cond.methodLink "CoreDesk$ThreadTable" 35 y_Tt_hasValue ∈ cd_AW := cd_A3_in _ (List.mem_of_getElem? (i := 20) rfl)
theorem aw_201 : Cond.instanceMethod y_Tt_hasValue ∈ cd_AW := cd_A3_in _ (List.mem_of_getElem? (i := 21) rfl)
theorem aw_202 : Cond.code y_Tt_hasValue prog_7_method_11_code 3 (some .boolean) ∈ cd_AW := cd_A3_in _ (List.mem_of_getElem? (i := 22) rfl)
theorem aw_203 : Cond.methodLink "CoreDesk$ThreadTable" 32 y_Tt_has ∈ cd_AW := cd_A3_in _ (List.mem_of_getElem? (i := 23) rfl)
theorem aw_204 : Cond.instanceMethod y_Tt_has ∈ cd_AW := cd_A3_in _ (List.mem_of_getElem? (i := 24) rfl)
theorem aw_205 : Cond.selects "CoreDesk$ThreadTable" y_Tt_has y_Tt_has ∈ cd_AW := cd_A3_in _ (List.mem_of_getElem? (i := 25) rfl)
theorem aw_206 : Cond.code y_Tt_has prog_7_method_4_code 2 (some .boolean) ∈ cd_AW := cd_A3_in _ (List.mem_of_getElem? (i := 26) rfl)
theorem aw_207 : Cond.methodLink "CoreDeskLaw" 53 y_Desk_dump ∈ cd_AW := cd_A3_in _ (List.mem_of_getElem? (i := 27) rfl)
theorem aw_208 : Cond.instanceMethod y_Desk_dump ∈ cd_AW := cd_A3_in _ (List.mem_of_getElem? (i := 28) rfl)
theorem aw_209 : Cond.selects "CoreDesk" y_Desk_dump y_Desk_dump ∈ cd_AW := cd_A3_in _ (List.mem_of_getElem? (i := 29) rfl)
theorem aw_210 : Cond.code y_Desk_dump prog_1_method_8_code 1 (some .int) ∈ cd_AW := cd_A3_in _ (List.mem_of_getElem? (i := 30) rfl)
theorem aw_211 : Cond.methodLink "CoreDesk" 85 y_Fw_writeFile ∈ cd_AW := cd_A3_in _ (List.mem_of_getElem? (i := 31) rfl)
theorem aw_212 : Cond.instanceMethod y_Fw_writeFile ∈ cd_AW := cd_A3_in _ (List.mem_of_getElem? (i := 32) rfl)
theorem aw_213 : Cond.selects "CoreDesk$FileWriter" y_Fw_writeFile y_Fw_writeFile ∈ cd_AW := cd_A3_in _ (List.mem_of_getElem? (i := 33) rfl)
theorem aw_214 : Cond.code y_Fw_writeFile prog_2_method_2_code 3 none ∈ cd_AW := cd_A3_in _ (List.mem_of_getElem? (i := 34) rfl)
theorem aw_215 : Cond.methodLink "CoreDesk$FileWriter" 23 y_Row_shorten ∈ cd_AW := cd_A3_in _ (List.mem_of_getElem? (i := 35) rfl)
theorem aw_216 : Cond.instanceMethod y_Row_shorten ∈ cd_AW := cd_A3_in _ (List.mem_of_getElem? (i := 36) rfl)
theorem aw_217 : Cond.selects "CoreDesk$Row" y_Row_shorten y_Row_shorten ∈ cd_AW := cd_A3_in _ (List.mem_of_getElem? (i := 37) rfl)
theorem aw_218 : Cond.code y_Row_shorten prog_5_method_10_code 2 (some .boolean) ∈ cd_AW := cd_A3_in _ (List.mem_of_getElem? (i := 38) rfl)
theorem aw_219 : Cond.methodLink "CoreDesk$FileWriter" 29 y_Fw_writeHeader ∈ cd_AW := cd_A3_in _ (List.mem_of_getElem? (i := 39) rfl)
theorem aw_220 : Cond.instanceMethod y_Fw_writeHeader ∈ cd_AW := cd_A3_in _ (List.mem_of_getElem? (i := 40) rfl)
theorem aw_221 : Cond.code y_Fw_writeHeader prog_2_method_4_code 3 none ∈ cd_AW := cd_A3_in _ (List.mem_of_getElem? (i := 41) rfl)
theorem aw_222 : Cond.methodLink "CoreDesk$FileWriter" 72 y_Fw_entries ∈ cd_AW := cd_A3_in _ (List.mem_of_getElem? (i := 42) rfl)
theorem aw_223 : Cond.instanceMethod y_Fw_entries ∈ cd_AW := cd_A3_in _ (List.mem_of_getElem? (i := 43) rfl)
theorem aw_224 : Cond.code y_Fw_entries prog_2_method_3_code 1 (some .int) ∈ cd_AW := cd_A3_in _ (List.mem_of_getElem? (i := 44) rfl)
theorem aw_225 : Cond.methodLink "CoreDesk$FileWriter" 45 y_Mem_count ∈ cd_AW := cd_A3_in _ (List.mem_of_getElem? (i := 45) rfl)
theorem aw_226 : Cond.instanceMethod y_Mem_count ∈ cd_AW := cd_A3_in _ (List.mem_of_getElem? (i := 46) rfl)
theorem aw_227 : Cond.selects "CoreDesk$Memory" y_Mem_count y_Mem_count ∈ cd_AW := cd_A3_in _ (List.mem_of_getElem? (i := 47) rfl)
theorem aw_228 : Cond.code y_Mem_count prog_3_method_2_code 1 (some .int) ∈ cd_AW := cd_A3_in _ (List.mem_of_getElem? (i := 48) rfl)
theorem aw_229 : Cond.methodLink "CoreDesk$FileWriter" 75 y_Row_appendNumber ∈ cd_AW := cd_A3_in _ (List.mem_of_getElem? (i := 49) rfl)
theorem aw_230 : Cond.instanceMethod y_Row_appendNumber ∈ cd_AW := cd_A3_in _ (List.mem_of_getElem? (i := 50) rfl)
theorem aw_231 : Cond.selects "CoreDesk$Row" y_Row_appendNumber y_Row_appendNumber ∈ cd_AW := cd_A3_in _ (List.mem_of_getElem? (i := 51) rfl)
theorem aw_232 : Cond.code y_Row_appendNumber prog_5_method_7_code 5 none ∈ cd_AW := cd_A3_in _ (List.mem_of_getElem? (i := 52) rfl)
theorem aw_233 : Cond.methodLink "CoreDesk$Row" 19 y_Row_append ∈ cd_AW := cd_A3_in _ (List.mem_of_getElem? (i := 53) rfl)
theorem aw_234 : Cond.instanceMethod y_Row_append ∈ cd_AW := cd_A3_in _ (List.mem_of_getElem? (i := 54) rfl)
theorem aw_235 : Cond.selects "CoreDesk$Row" y_Row_append y_Row_append ∈ cd_AW := cd_A3_in _ (List.mem_of_getElem? (i := 55) rfl)
theorem aw_236 : Cond.code y_Row_append prog_5_method_6_code 2 (some .boolean) ∈ cd_AW := cd_A3_in _ (List.mem_of_getElem? (i := 56) rfl)
theorem aw_237 : Cond.methodLink "CoreDesk$FileWriter" 32 y_Fw_writeEntries ∈ cd_AW := cd_A3_in _ (List.mem_of_getElem? (i := 57) rfl)
theorem aw_238 : Cond.instanceMethod y_Fw_writeEntries ∈ cd_AW := cd_A3_in _ (List.mem_of_getElem? (i := 58) rfl)
theorem aw_239 : Cond.code y_Fw_writeEntries prog_2_method_5_code 6 none ∈ cd_AW := cd_A3_in _ (List.mem_of_getElem? (i := 59) rfl)
theorem aw_240 : Cond.methodLink "CoreDesk$FileWriter" 35 y_Tt_count ∈ cd_AW := cd_A4_in _ (List.mem_of_getElem? (i := 0) rfl)
theorem aw_241 : Cond.instanceMethod y_Tt_count ∈ cd_AW := cd_A4_in _ (List.mem_of_getElem? (i := 1) rfl)
theorem aw_242 : Cond.selects "CoreDesk$ThreadTable" y_Tt_count y_Tt_count ∈ cd_AW := cd_A4_in _ (List.mem_of_getElem? (i := 2) rfl)
theorem aw_243 : Cond.code y_Tt_count prog_7_method_2_code 1 (some .int) ∈ cd_AW := cd_A4_in _ (List.mem_of_getElem? (i := 3) rfl)
theorem aw_244 : Cond.methodLink "CoreDesk$FileWriter" 79 y_Fw_writeNotesEntry ∈ cd_AW := cd_A4_in _ (List.mem_of_getElem? (i := 4) rfl)
theorem aw_245 : Cond.instanceMethod y_Fw_writeNotesEntry ∈ cd_AW := cd_A4_in _ (List.mem_of_getElem? (i := 5) rfl)
theorem aw_246 : Cond.code y_Fw_writeNotesEntry prog_2_method_6_code 3 none ∈ cd_AW := cd_A4_in _ (List.mem_of_getElem? (i := 6) rfl)
theorem aw_247 : Cond.methodLink "CoreDesk$FileWriter" 86 y_Fw_writeFour ∈ cd_AW := cd_A4_in _ (List.mem_of_getElem? (i := 7) rfl)
theorem aw_248 : Cond.instanceMethod y_Fw_writeFour ∈ cd_AW := cd_A4_in _ (List.mem_of_getElem? (i := 8) rfl)
theorem aw_249 : Cond.code y_Fw_writeFour prog_2_method_9_code 2 none ∈ cd_AW := cd_A4_in _ (List.mem_of_getElem? (i := 9) rfl)
theorem aw_250 : Cond.methodLink "CoreDesk$FileWriter" 48 y_Mem_regionAt ∈ cd_AW := cd_A4_in _ (List.mem_of_getElem? (i := 10) rfl)
theorem aw_251 : Cond.instanceMethod y_Mem_regionAt ∈ cd_AW := cd_A4_in _ (List.mem_of_getElem? (i := 11) rfl)
theorem aw_252 : Cond.selects "CoreDesk$Memory" y_Mem_regionAt y_Mem_regionAt ∈ cd_AW := cd_A4_in _ (List.mem_of_getElem? (i := 12) rfl)
theorem aw_253 : Cond.code y_Mem_regionAt prog_3_method_7_code 2 (some (.object "CoreDesk$Region")) ∈ cd_AW := cd_A4_in _ (List.mem_of_getElem? (i := 13) rfl)
theorem aw_254 : Cond.methodLink "CoreDesk$FileWriter" 58 y_Reg_usedBytes ∈ cd_AW := cd_A4_in _ (List.mem_of_getElem? (i := 14) rfl)
theorem aw_255 : Cond.instanceMethod y_Reg_usedBytes ∈ cd_AW := cd_A4_in _ (List.mem_of_getElem? (i := 15) rfl)
theorem aw_256 : Cond.selects "CoreDesk$Region" y_Reg_usedBytes y_Reg_usedBytes ∈ cd_AW := cd_A4_in _ (List.mem_of_getElem? (i := 16) rfl)
theorem aw_257 : Cond.code y_Reg_usedBytes prog_4_method_6_code 2 (some .int) ∈ cd_AW := cd_A4_in _ (List.mem_of_getElem? (i := 17) rfl)
theorem aw_258 : Cond.methodLink "CoreDesk$Region" 31 y_Reg_read ∈ cd_AW := cd_A4_in _ (List.mem_of_getElem? (i := 18) rfl)
theorem aw_259 : Cond.instanceMethod y_Reg_read ∈ cd_AW := cd_A4_in _ (List.mem_of_getElem? (i := 19) rfl)
theorem aw_260 : Cond.selects "CoreDesk$Region" y_Reg_read y_Reg_read ∈ cd_AW := cd_A4_in _ (List.mem_of_getElem? (i := 20) rfl)
theorem aw_261 : Cond.code y_Reg_read prog_4_method_4_code 2 (some .int) ∈ cd_AW := cd_A4_in _ (List.mem_of_getElem? (i := 21) rfl)
theorem aw_262 : Cond.methodLink "CoreDesk$FileWriter" 82 y_Fw_writeRegionEntry ∈ cd_AW := cd_A4_in _ (List.mem_of_getElem? (i := 22) rfl)
theorem aw_263 : Cond.instanceMethod y_Fw_writeRegionEntry ∈ cd_AW := cd_A4_in _ (List.mem_of_getElem? (i := 23) rfl)
theorem aw_264 : Cond.code y_Fw_writeRegionEntry prog_2_method_7_code 4 none ∈ cd_AW := cd_A4_in _ (List.mem_of_getElem? (i := 24) rfl)
theorem aw_265 : Cond.methodLink "CoreDesk$FileWriter" 41 y_Fw_writeNote ∈ cd_AW := cd_A4_in _ (List.mem_of_getElem? (i := 25) rfl)
theorem aw_266 : Cond.instanceMethod y_Fw_writeNote ∈ cd_AW := cd_A4_in _ (List.mem_of_getElem? (i := 26) rfl)
theorem aw_267 : Cond.code y_Fw_writeNote prog_2_method_8_code 3 none ∈ cd_AW := cd_A4_in _ (List.mem_of_getElem? (i := 27) rfl)
theorem aw_268 : Cond.methodLink "CoreDesk$FileWriter" 102 y_Row_append ∈ cd_AW := cd_A4_in _ (List.mem_of_getElem? (i := 28) rfl)
theorem aw_269 : Cond.methodLink "CoreDesk$FileWriter" 105 y_Tt_id ∈ cd_AW := cd_A4_in _ (List.mem_of_getElem? (i := 29) rfl)
theorem aw_270 : Cond.instanceMethod y_Tt_id ∈ cd_AW := cd_A4_in _ (List.mem_of_getElem? (i := 30) rfl)
theorem aw_271 : Cond.selects "CoreDesk$ThreadTable" y_Tt_id y_Tt_id ∈ cd_AW := cd_A4_in _ (List.mem_of_getElem? (i := 31) rfl)
theorem aw_272 : Cond.code y_Tt_id prog_7_method_7_code 2 (some .int) ∈ cd_AW := cd_A4_in _ (List.mem_of_getElem? (i := 32) rfl)
theorem aw_273 : Cond.methodLink "CoreDesk$FileWriter" 109 y_Tt_read ∈ cd_AW := cd_A4_in _ (List.mem_of_getElem? (i := 33) rfl)
theorem aw_274 : Cond.instanceMethod y_Tt_read ∈ cd_AW := cd_A4_in _ (List.mem_of_getElem? (i := 34) rfl)
theorem aw_275 : Cond.selects "CoreDesk$ThreadTable" y_Tt_read y_Tt_read ∈ cd_AW := cd_A4_in _ (List.mem_of_getElem? (i := 35) rfl)
theorem aw_276 : Cond.code y_Tt_read prog_7_method_8_code 3 (some .int) ∈ cd_AW := cd_A4_in _ (List.mem_of_getElem? (i := 36) rfl)
theorem aw_277 : Cond.methodLink "CoreDesk$FileWriter" 61 y_Row_appendBytes ∈ cd_AW := cd_A4_in _ (List.mem_of_getElem? (i := 37) rfl)
theorem aw_278 : Cond.instanceMethod y_Row_appendBytes ∈ cd_AW := cd_A4_in _ (List.mem_of_getElem? (i := 38) rfl)
theorem aw_279 : Cond.selects "CoreDesk$Row" y_Row_appendBytes y_Row_appendBytes ∈ cd_AW := cd_A4_in _ (List.mem_of_getElem? (i := 39) rfl)
theorem aw_280 : Cond.code y_Row_appendBytes prog_5_method_8_code 3 none ∈ cd_AW := cd_A4_in _ (List.mem_of_getElem? (i := 40) rfl)
theorem aw_281 : Cond.methodLink "CoreDesk$Row" 23 arraycopyName ∈ cd_AW := cd_A4_in _ (List.mem_of_getElem? (i := 41) rfl)
theorem aw_282 : Cond.static arraycopyName ∈ cd_AW := cd_A4_in _ (List.mem_of_getElem? (i := 42) rfl)
theorem aw_283 : Cond.native arraycopyName ∈ cd_AW := cd_A4_in _ (List.mem_of_getElem? (i := 43) rfl)
theorem aw_284 : Cond.methodLink "CoreDesk" 88 y_Row_length ∈ cd_AW := cd_A4_in _ (List.mem_of_getElem? (i := 44) rfl)
theorem aw_285 : Cond.instanceMethod y_Row_length ∈ cd_AW := cd_A4_in _ (List.mem_of_getElem? (i := 45) rfl)
theorem aw_286 : Cond.selects "CoreDesk$Row" y_Row_length y_Row_length ∈ cd_AW := cd_A4_in _ (List.mem_of_getElem? (i := 46) rfl)
theorem aw_287 : Cond.code y_Row_length prog_5_method_2_code 1 (some .int) ∈ cd_AW := cd_A4_in _ (List.mem_of_getElem? (i := 47) rfl)
theorem aw_288 : Cond.methodLink "CoreDeskLaw" 57 y_Desk_byteAt ∈ cd_AW := cd_A4_in _ (List.mem_of_getElem? (i := 48) rfl)
theorem aw_289 : Cond.instanceMethod y_Desk_byteAt ∈ cd_AW := cd_A4_in _ (List.mem_of_getElem? (i := 49) rfl)
theorem aw_290 : Cond.selects "CoreDesk" y_Desk_byteAt y_Desk_byteAt ∈ cd_AW := cd_A4_in _ (List.mem_of_getElem? (i := 50) rfl)
theorem aw_291 : Cond.code y_Desk_byteAt prog_1_method_9_code 2 (some .int) ∈ cd_AW := cd_A4_in _ (List.mem_of_getElem? (i := 51) rfl)
theorem aw_292 : Cond.methodLink "CoreDesk" 92 y_Row_at ∈ cd_AW := cd_A4_in _ (List.mem_of_getElem? (i := 52) rfl)
theorem aw_293 : Cond.instanceMethod y_Row_at ∈ cd_AW := cd_A4_in _ (List.mem_of_getElem? (i := 53) rfl)
theorem aw_294 : Cond.selects "CoreDesk$Row" y_Row_at y_Row_at ∈ cd_AW := cd_A4_in _ (List.mem_of_getElem? (i := 54) rfl)
theorem aw_295 : Cond.code y_Row_at prog_5_method_3_code 2 (some .int) ∈ cd_AW := cd_A4_in _ (List.mem_of_getElem? (i := 55) rfl)
theorem aw_296 : Cond.methodLink "CoreDeskLaw" 61 y_Desk_copy ∈ cd_AW := cd_A4_in _ (List.mem_of_getElem? (i := 56) rfl)
theorem aw_297 : Cond.instanceMethod y_Desk_copy ∈ cd_AW := cd_A4_in _ (List.mem_of_getElem? (i := 57) rfl)
theorem aw_298 : Cond.selects "CoreDesk" y_Desk_copy y_Desk_copy ∈ cd_AW := cd_A4_in _ (List.mem_of_getElem? (i := 58) rfl)
theorem aw_299 : Cond.code y_Desk_copy prog_1_method_10_code 1 (some .int) ∈ cd_AW := cd_A4_in _ (List.mem_of_getElem? (i := 59) rfl)
theorem aw_300 : Cond.methodLink "CoreDesk" 95 y_Row_become ∈ cd_AW := cd_A5_in _ (List.mem_of_getElem? (i := 0) rfl)
theorem aw_301 : Cond.instanceMethod y_Row_become ∈ cd_AW := cd_A5_in _ (List.mem_of_getElem? (i := 1) rfl)
theorem aw_302 : Cond.selects "CoreDesk$Row" y_Row_become y_Row_become ∈ cd_AW := cd_A5_in _ (List.mem_of_getElem? (i := 2) rfl)
theorem aw_303 : Cond.code y_Row_become prog_5_method_11_code 2 none ∈ cd_AW := cd_A5_in _ (List.mem_of_getElem? (i := 3) rfl)
theorem aw_304 : Cond.methodLink "CoreDesk$Row" 29 y_Row_appendBytes ∈ cd_AW := cd_A5_in _ (List.mem_of_getElem? (i := 4) rfl)
theorem aw_305 : Cond.methodLink "CoreDeskLaw" 65 y_Desk_put ∈ cd_AW := cd_A5_in _ (List.mem_of_getElem? (i := 5) rfl)
theorem aw_306 : Cond.instanceMethod y_Desk_put ∈ cd_AW := cd_A5_in _ (List.mem_of_getElem? (i := 6) rfl)
theorem aw_307 : Cond.selects "CoreDesk" y_Desk_put y_Desk_put ∈ cd_AW := cd_A5_in _ (List.mem_of_getElem? (i := 7) rfl)
theorem aw_308 : Cond.code y_Desk_put prog_1_method_11_code 3 (some .boolean) ∈ cd_AW := cd_A5_in _ (List.mem_of_getElem? (i := 8) rfl)
theorem aw_309 : Cond.methodLink "CoreDesk" 98 y_Row_append ∈ cd_AW := cd_A5_in _ (List.mem_of_getElem? (i := 9) rfl)
theorem aw_310 : Cond.methodLink "CoreDesk" 101 y_Row_change ∈ cd_AW := cd_A5_in _ (List.mem_of_getElem? (i := 10) rfl)
theorem aw_311 : Cond.instanceMethod y_Row_change ∈ cd_AW := cd_A5_in _ (List.mem_of_getElem? (i := 11) rfl)
theorem aw_312 : Cond.selects "CoreDesk$Row" y_Row_change y_Row_change ∈ cd_AW := cd_A5_in _ (List.mem_of_getElem? (i := 12) rfl)
theorem aw_313 : Cond.code y_Row_change prog_5_method_5_code 3 (some .boolean) ∈ cd_AW := cd_A5_in _ (List.mem_of_getElem? (i := 13) rfl)
theorem aw_314 : Cond.methodLink "CoreDeskLaw" 69 y_Desk_cut ∈ cd_AW := cd_A5_in _ (List.mem_of_getElem? (i := 14) rfl)
theorem aw_315 : Cond.instanceMethod y_Desk_cut ∈ cd_AW := cd_A5_in _ (List.mem_of_getElem? (i := 15) rfl)
theorem aw_316 : Cond.selects "CoreDesk" y_Desk_cut y_Desk_cut ∈ cd_AW := cd_A5_in _ (List.mem_of_getElem? (i := 16) rfl)
theorem aw_317 : Cond.code y_Desk_cut prog_1_method_12_code 2 (some .boolean) ∈ cd_AW := cd_A5_in _ (List.mem_of_getElem? (i := 17) rfl)
theorem aw_318 : Cond.methodLink "CoreDesk" 104 y_Row_shorten ∈ cd_AW := cd_A5_in _ (List.mem_of_getElem? (i := 18) rfl)
theorem aw_319 : Cond.methodLink "CoreDeskLaw" 82 y_Desk_error ∈ cd_AW := cd_A5_in _ (List.mem_of_getElem? (i := 19) rfl)
theorem aw_320 : Cond.instanceMethod y_Desk_error ∈ cd_AW := cd_A5_in _ (List.mem_of_getElem? (i := 20) rfl)
theorem aw_321 : Cond.selects "CoreDesk" y_Desk_error y_Desk_error ∈ cd_AW := cd_A5_in _ (List.mem_of_getElem? (i := 21) rfl)
theorem aw_322 : Cond.code y_Desk_error prog_1_method_14_code 2 (some .int) ∈ cd_AW := cd_A5_in _ (List.mem_of_getElem? (i := 22) rfl)
theorem aw_323 : Cond.methodLink "CoreDesk" 120 y_Tc_wrong ∈ cd_AW := cd_A5_in _ (List.mem_of_getElem? (i := 23) rfl)
theorem aw_324 : Cond.instanceMethod y_Tc_wrong ∈ cd_AW := cd_A5_in _ (List.mem_of_getElem? (i := 24) rfl)
theorem aw_325 : Cond.selects "CoreDesk$TapeCheck" y_Tc_wrong y_Tc_wrong ∈ cd_AW := cd_A5_in _ (List.mem_of_getElem? (i := 25) rfl)
theorem aw_326 : Cond.code y_Tc_wrong prog_6_method_2_code 1 (some .int) ∈ cd_AW := cd_A5_in _ (List.mem_of_getElem? (i := 26) rfl)
theorem aw_327 : Cond.methodLink "CoreDesk" 123 y_Tc_place ∈ cd_AW := cd_A5_in _ (List.mem_of_getElem? (i := 27) rfl)
theorem aw_328 : Cond.instanceMethod y_Tc_place ∈ cd_AW := cd_A5_in _ (List.mem_of_getElem? (i := 28) rfl)
theorem aw_329 : Cond.selects "CoreDesk$TapeCheck" y_Tc_place y_Tc_place ∈ cd_AW := cd_A5_in _ (List.mem_of_getElem? (i := 29) rfl)
theorem aw_330 : Cond.code y_Tc_place prog_6_method_3_code 1 (some .int) ∈ cd_AW := cd_A5_in _ (List.mem_of_getElem? (i := 30) rfl)
theorem aw_331 : Cond.methodLink "CoreDeskLaw" 86 y_Desk_core ∈ cd_AW := cd_A5_in _ (List.mem_of_getElem? (i := 31) rfl)
theorem aw_332 : Cond.instanceMethod y_Desk_core ∈ cd_AW := cd_A5_in _ (List.mem_of_getElem? (i := 32) rfl)
theorem aw_333 : Cond.selects "CoreDesk" y_Desk_core y_Desk_core ∈ cd_AW := cd_A5_in _ (List.mem_of_getElem? (i := 33) rfl)
theorem aw_334 : Cond.code y_Desk_core prog_1_method_15_code 2 (some .int) ∈ cd_AW := cd_A5_in _ (List.mem_of_getElem? (i := 34) rfl)
theorem aw_335 : Cond.methodLink "CoreDesk" 117 y_Mem_count ∈ cd_AW := cd_A5_in _ (List.mem_of_getElem? (i := 35) rfl)
theorem aw_336 : Cond.methodLink "CoreDesk" 126 y_Tt_count ∈ cd_AW := cd_A5_in _ (List.mem_of_getElem? (i := 36) rfl)
theorem aw_337 : Cond.methodLink "CoreDeskLaw" 90 y_Desk_peek ∈ cd_AW := cd_A5_in _ (List.mem_of_getElem? (i := 37) rfl)
theorem aw_338 : Cond.instanceMethod y_Desk_peek ∈ cd_AW := cd_A5_in _ (List.mem_of_getElem? (i := 38) rfl)
theorem aw_339 : Cond.selects "CoreDesk" y_Desk_peek y_Desk_peek ∈ cd_AW := cd_A5_in _ (List.mem_of_getElem? (i := 39) rfl)
theorem aw_340 : Cond.code y_Desk_peek prog_1_method_16_code 2 (some .int) ∈ cd_AW := cd_A5_in _ (List.mem_of_getElem? (i := 40) rfl)
theorem aw_341 : Cond.methodLink "CoreDesk" 127 y_Mem_readByte ∈ cd_AW := cd_A5_in _ (List.mem_of_getElem? (i := 41) rfl)
theorem aw_342 : Cond.instanceMethod y_Mem_readByte ∈ cd_AW := cd_A5_in _ (List.mem_of_getElem? (i := 42) rfl)
theorem aw_343 : Cond.selects "CoreDesk$Memory" y_Mem_readByte y_Mem_readByte ∈ cd_AW := cd_A5_in _ (List.mem_of_getElem? (i := 43) rfl)
theorem aw_344 : Cond.code y_Mem_readByte prog_3_method_9_code 3 (some .int) ∈ cd_AW := cd_A5_in _ (List.mem_of_getElem? (i := 44) rfl)
theorem aw_345 : Cond.methodLink "CoreDesk$Memory" 54 y_Reg_read ∈ cd_AW := cd_A5_in _ (List.mem_of_getElem? (i := 45) rfl)
theorem aw_346 : Cond.methodLink "CoreDeskLaw" 94 y_Desk_flags ∈ cd_AW := cd_A5_in _ (List.mem_of_getElem? (i := 46) rfl)
theorem aw_347 : Cond.instanceMethod y_Desk_flags ∈ cd_AW := cd_A5_in _ (List.mem_of_getElem? (i := 47) rfl)
theorem aw_348 : Cond.selects "CoreDesk" y_Desk_flags y_Desk_flags ∈ cd_AW := cd_A5_in _ (List.mem_of_getElem? (i := 48) rfl)
theorem aw_349 : Cond.code y_Desk_flags prog_1_method_17_code 2 (some .int) ∈ cd_AW := cd_A5_in _ (List.mem_of_getElem? (i := 49) rfl)
theorem aw_350 : Cond.methodLink "CoreDesk" 130 y_Mem_flagsAt ∈ cd_AW := cd_A5_in _ (List.mem_of_getElem? (i := 50) rfl)
theorem aw_351 : Cond.instanceMethod y_Mem_flagsAt ∈ cd_AW := cd_A5_in _ (List.mem_of_getElem? (i := 51) rfl)
theorem aw_352 : Cond.selects "CoreDesk$Memory" y_Mem_flagsAt y_Mem_flagsAt ∈ cd_AW := cd_A5_in _ (List.mem_of_getElem? (i := 52) rfl)
theorem aw_353 : Cond.code y_Mem_flagsAt prog_3_method_11_code 3 (some .int) ∈ cd_AW := cd_A5_in _ (List.mem_of_getElem? (i := 53) rfl)
theorem aw_354 : Cond.methodLink "CoreDeskLaw" 102 y_Desk_find ∈ cd_AW := cd_A5_in _ (List.mem_of_getElem? (i := 54) rfl)
theorem aw_355 : Cond.instanceMethod y_Desk_find ∈ cd_AW := cd_A5_in _ (List.mem_of_getElem? (i := 55) rfl)
theorem aw_356 : Cond.selects "CoreDesk" y_Desk_find y_Desk_find ∈ cd_AW := cd_A5_in _ (List.mem_of_getElem? (i := 56) rfl)
theorem aw_357 : Cond.code y_Desk_find prog_1_method_19_code 3 (some .int) ∈ cd_AW := cd_A5_in _ (List.mem_of_getElem? (i := 57) rfl)
theorem aw_358 : Cond.methodLink "CoreDesk" 146 y_Mem_search ∈ cd_AW := cd_A5_in _ (List.mem_of_getElem? (i := 58) rfl)
theorem aw_359 : Cond.instanceMethod y_Mem_search ∈ cd_AW := cd_A5_in _ (List.mem_of_getElem? (i := 59) rfl)
theorem aw_360 : Cond.selects "CoreDesk$Memory" y_Mem_search y_Mem_search ∈ cd_AW := cd_A6_in _ (List.mem_of_getElem? (i := 0) rfl)
theorem aw_361 : Cond.code y_Mem_search prog_3_method_14_code 5 (some .int) ∈ cd_AW := cd_A6_in _ (List.mem_of_getElem? (i := 1) rfl)
theorem aw_362 : Cond.methodLink "CoreDesk$Memory" 73 y_Reg_search ∈ cd_AW := cd_A6_in _ (List.mem_of_getElem? (i := 2) rfl)
theorem aw_363 : Cond.instanceMethod y_Reg_search ∈ cd_AW := cd_A6_in _ (List.mem_of_getElem? (i := 3) rfl)
theorem aw_364 : Cond.selects "CoreDesk$Region" y_Reg_search y_Reg_search ∈ cd_AW := cd_A6_in _ (List.mem_of_getElem? (i := 4) rfl)
theorem aw_365 : Cond.code y_Reg_search prog_4_method_7_code 5 (some .int) ∈ cd_AW := cd_A6_in _ (List.mem_of_getElem? (i := 5) rfl)
theorem aw_366 : Cond.methodLink "CoreDesk$Region" 35 y_Reg_numberAt ∈ cd_AW := cd_A6_in _ (List.mem_of_getElem? (i := 6) rfl)
theorem aw_367 : Cond.instanceMethod y_Reg_numberAt ∈ cd_AW := cd_A6_in _ (List.mem_of_getElem? (i := 7) rfl)
theorem aw_368 : Cond.code y_Reg_numberAt prog_4_method_8_code 2 (some .int) ∈ cd_AW := cd_A6_in _ (List.mem_of_getElem? (i := 8) rfl)
theorem aw_369 : Cond.methodLink "CoreDeskLaw" 106 y_Desk_caller ∈ cd_AW := cd_A6_in _ (List.mem_of_getElem? (i := 9) rfl)
theorem aw_370 : Cond.instanceMethod y_Desk_caller ∈ cd_AW := cd_A6_in _ (List.mem_of_getElem? (i := 10) rfl)
theorem aw_371 : Cond.selects "CoreDesk" y_Desk_caller y_Desk_caller ∈ cd_AW := cd_A6_in _ (List.mem_of_getElem? (i := 11) rfl)
theorem aw_372 : Cond.code y_Desk_caller prog_1_method_20_code 6 (some .int) ∈ cd_AW := cd_A6_in _ (List.mem_of_getElem? (i := 12) rfl)
theorem aw_373 : Cond.methodLink "CoreDesk" 133 y_Tt_has ∈ cd_AW := cd_A6_in _ (List.mem_of_getElem? (i := 13) rfl)
theorem aw_374 : Cond.methodLink "CoreDesk" 139 y_Tt_read ∈ cd_AW := cd_A6_in _ (List.mem_of_getElem? (i := 14) rfl)
theorem aw_375 : Cond.methodLink "CoreDesk" 149 y_Desk_isFrame ∈ cd_AW := cd_A6_in _ (List.mem_of_getElem? (i := 15) rfl)
theorem aw_376 : Cond.instanceMethod y_Desk_isFrame ∈ cd_AW := cd_A6_in _ (List.mem_of_getElem? (i := 16) rfl)
theorem aw_377 : Cond.code y_Desk_isFrame prog_1_method_21_code 3 (some .boolean) ∈ cd_AW := cd_A6_in _ (List.mem_of_getElem? (i := 17) rfl)
theorem aw_378 : Cond.methodLink "CoreDesk" 155 y_Mem_holds ∈ cd_AW := cd_A6_in _ (List.mem_of_getElem? (i := 18) rfl)
theorem aw_379 : Cond.methodLink "CoreDesk" 152 y_Mem_readNumber ∈ cd_AW := cd_A6_in _ (List.mem_of_getElem? (i := 19) rfl)
theorem aw_380 : Cond.instanceMethod y_Mem_readNumber ∈ cd_AW := cd_A6_in _ (List.mem_of_getElem? (i := 20) rfl)
theorem aw_381 : Cond.selects "CoreDesk$Memory" y_Mem_readNumber y_Mem_readNumber ∈ cd_AW := cd_A6_in _ (List.mem_of_getElem? (i := 21) rfl)
theorem aw_382 : Cond.code y_Mem_readNumber prog_3_method_10_code 4 (some .int) ∈ cd_AW := cd_A6_in _ (List.mem_of_getElem? (i := 22) rfl)
theorem aw_383 : Cond.methodLink "CoreDesk$Memory" 57 y_Mem_readByte ∈ cd_AW := cd_A6_in _ (List.mem_of_getElem? (i := 23) rfl)
theorem aw_384 : Cond.methodLink "CoreDeskLaw" 73 y_Law_load ∈ cd_AW := cd_A6_in _ (List.mem_of_getElem? (i := 24) rfl)
theorem aw_385 : Cond.static y_Law_load ∈ cd_AW := cd_A6_in _ (List.mem_of_getElem? (i := 25) rfl)
theorem aw_386 : Cond.classLink "CoreDeskLaw" 13 "java/lang/IllegalArgumentException" ∈ cd_AW := cd_A6_in _ (List.mem_of_getElem? (i := 26) rfl)
theorem aw_387 : Cond.methodLink "CoreDeskLaw" 7 y_Desk_load ∈ cd_AW := cd_A6_in _ (List.mem_of_getElem? (i := 27) rfl)
theorem aw_388 : Cond.instanceMethod y_Desk_load ∈ cd_AW := cd_A6_in _ (List.mem_of_getElem? (i := 28) rfl)
theorem aw_389 : Cond.selects "CoreDesk" y_Desk_load y_Desk_load ∈ cd_AW := cd_A6_in _ (List.mem_of_getElem? (i := 29) rfl)
theorem aw_390 : Cond.code y_Desk_load prog_1_method_13_code 1 (some .int) ∈ cd_AW := cd_A6_in _ (List.mem_of_getElem? (i := 30) rfl)
theorem aw_391 : Cond.methodLink "CoreDesk" 107 y_Tc_passes ∈ cd_AW := cd_A6_in _ (List.mem_of_getElem? (i := 31) rfl)
theorem aw_392 : Cond.instanceMethod y_Tc_passes ∈ cd_AW := cd_A6_in _ (List.mem_of_getElem? (i := 32) rfl)
theorem aw_393 : Cond.selects "CoreDesk$TapeCheck" y_Tc_passes y_Tc_passes ∈ cd_AW := cd_A6_in _ (List.mem_of_getElem? (i := 33) rfl)
theorem aw_394 : Cond.code y_Tc_passes prog_6_method_7_code 1 (some .boolean) ∈ cd_AW := cd_A6_in _ (List.mem_of_getElem? (i := 34) rfl)
theorem aw_395 : Cond.methodLink "CoreDesk$TapeCheck" 38 y_Tt_clear ∈ cd_AW := cd_A6_in _ (List.mem_of_getElem? (i := 35) rfl)
theorem aw_396 : Cond.instanceMethod y_Tt_clear ∈ cd_AW := cd_A6_in _ (List.mem_of_getElem? (i := 36) rfl)
theorem aw_397 : Cond.selects "CoreDesk$ThreadTable" y_Tt_clear y_Tt_clear ∈ cd_AW := cd_A6_in _ (List.mem_of_getElem? (i := 37) rfl)
theorem aw_398 : Cond.code y_Tt_clear prog_7_method_3_code 1 none ∈ cd_AW := cd_A6_in _ (List.mem_of_getElem? (i := 38) rfl)
theorem aw_399 : Cond.methodLink "CoreDesk$ThreadTable" 22 y_Arr_fill1 ∈ cd_AW := cd_A6_in _ (List.mem_of_getElem? (i := 39) rfl)
theorem aw_400 : Cond.static y_Arr_fill1 ∈ cd_AW := cd_A6_in _ (List.mem_of_getElem? (i := 40) rfl)
theorem aw_401 : Cond.code y_Arr_fill1 prog_16_method_103_code 4 none ∈ cd_AW := cd_A6_in _ (List.mem_of_getElem? (i := 41) rfl)
theorem aw_402 : Cond.methodLink "CoreDesk$TapeCheck" 41 y_Tc_headerPasses ∈ cd_AW := cd_A6_in _ (List.mem_of_getElem? (i := 42) rfl)
theorem aw_403 : Cond.instanceMethod y_Tc_headerPasses ∈ cd_AW := cd_A6_in _ (List.mem_of_getElem? (i := 43) rfl)
theorem aw_404 : Cond.code y_Tc_headerPasses prog_6_method_10_code 3 (some .boolean) ∈ cd_AW := cd_A6_in _ (List.mem_of_getElem? (i := 44) rfl)
theorem aw_405 : Cond.methodLink "CoreDesk$TapeCheck" 51 y_Row_length ∈ cd_AW := cd_A6_in _ (List.mem_of_getElem? (i := 45) rfl)
theorem aw_406 : Cond.methodLink "CoreDesk$TapeCheck" 55 y_Tc_refuse ∈ cd_AW := cd_A6_in _ (List.mem_of_getElem? (i := 46) rfl)
theorem aw_407 : Cond.instanceMethod y_Tc_refuse ∈ cd_AW := cd_A6_in _ (List.mem_of_getElem? (i := 47) rfl)
theorem aw_408 : Cond.code y_Tc_refuse prog_6_method_8_code 3 (some .boolean) ∈ cd_AW := cd_A6_in _ (List.mem_of_getElem? (i := 48) rfl)
theorem aw_409 : Cond.methodLink "CoreDesk$TapeCheck" 29 y_Row_number ∈ cd_AW := cd_A6_in _ (List.mem_of_getElem? (i := 49) rfl)
theorem aw_410 : Cond.instanceMethod y_Row_number ∈ cd_AW := cd_A6_in _ (List.mem_of_getElem? (i := 50) rfl)
theorem aw_411 : Cond.selects "CoreDesk$Row" y_Row_number y_Row_number ∈ cd_AW := cd_A6_in _ (List.mem_of_getElem? (i := 51) rfl)
theorem aw_412 : Cond.code y_Row_number prog_5_method_4_code 5 (some .int) ∈ cd_AW := cd_A6_in _ (List.mem_of_getElem? (i := 52) rfl)
theorem aw_413 : Cond.methodLink "CoreDesk$TapeCheck" 66 y_Tc_headerFieldFits ∈ cd_AW := cd_A6_in _ (List.mem_of_getElem? (i := 53) rfl)
theorem aw_414 : Cond.instanceMethod y_Tc_headerFieldFits ∈ cd_AW := cd_A6_in _ (List.mem_of_getElem? (i := 54) rfl)
theorem aw_415 : Cond.code y_Tc_headerFieldFits prog_6_method_11_code 3 (some .boolean) ∈ cd_AW := cd_A6_in _ (List.mem_of_getElem? (i := 55) rfl)
theorem aw_416 : Cond.methodLink "CoreDesk$TapeCheck" 69 y_Tc_entries ∈ cd_AW := cd_A6_in _ (List.mem_of_getElem? (i := 56) rfl)
theorem aw_417 : Cond.instanceMethod y_Tc_entries ∈ cd_AW := cd_A6_in _ (List.mem_of_getElem? (i := 57) rfl)
theorem aw_418 : Cond.selects "CoreDesk$TapeCheck" y_Tc_entries y_Tc_entries ∈ cd_AW := cd_A6_in _ (List.mem_of_getElem? (i := 58) rfl)
theorem aw_419 : Cond.code y_Tc_entries prog_6_method_5_code 1 (some .int) ∈ cd_AW := cd_A6_in _ (List.mem_of_getElem? (i := 59) rfl)
theorem aw_420 : Cond.methodLink "CoreDesk$TapeCheck" 35 y_Tc_fieldPlace ∈ cd_AW := cd_A7_in _ (List.mem_of_getElem? (i := 0) rfl)
theorem aw_421 : Cond.instanceMethod y_Tc_fieldPlace ∈ cd_AW := cd_A7_in _ (List.mem_of_getElem? (i := 1) rfl)
theorem aw_422 : Cond.code y_Tc_fieldPlace prog_6_method_9_code 3 (some .int) ∈ cd_AW := cd_A7_in _ (List.mem_of_getElem? (i := 2) rfl)
theorem aw_423 : Cond.methodLink "CoreDesk$TapeCheck" 45 y_Tc_entriesPass ∈ cd_AW := cd_A7_in _ (List.mem_of_getElem? (i := 3) rfl)
theorem aw_424 : Cond.instanceMethod y_Tc_entriesPass ∈ cd_AW := cd_A7_in _ (List.mem_of_getElem? (i := 4) rfl)
theorem aw_425 : Cond.code y_Tc_entriesPass prog_6_method_12_code 3 (some .boolean) ∈ cd_AW := cd_A7_in _ (List.mem_of_getElem? (i := 5) rfl)
theorem aw_426 : Cond.methodLink "CoreDesk$TapeCheck" 72 y_Tc_fieldsPass ∈ cd_AW := cd_A7_in _ (List.mem_of_getElem? (i := 6) rfl)
theorem aw_427 : Cond.instanceMethod y_Tc_fieldsPass ∈ cd_AW := cd_A7_in _ (List.mem_of_getElem? (i := 7) rfl)
theorem aw_428 : Cond.code y_Tc_fieldsPass prog_6_method_13_code 5 (some .boolean) ∈ cd_AW := cd_A7_in _ (List.mem_of_getElem? (i := 8) rfl)
theorem aw_429 : Cond.methodLink "CoreDesk$TapeCheck" 82 y_Tc_entryField ∈ cd_AW := cd_A7_in _ (List.mem_of_getElem? (i := 9) rfl)
theorem aw_430 : Cond.instanceMethod y_Tc_entryField ∈ cd_AW := cd_A7_in _ (List.mem_of_getElem? (i := 10) rfl)
theorem aw_431 : Cond.selects "CoreDesk$TapeCheck" y_Tc_entryField y_Tc_entryField ∈ cd_AW := cd_A7_in _ (List.mem_of_getElem? (i := 11) rfl)
theorem aw_432 : Cond.code y_Tc_entryField prog_6_method_6_code 3 (some .int) ∈ cd_AW := cd_A7_in _ (List.mem_of_getElem? (i := 12) rfl)
theorem aw_433 : Cond.methodLink "CoreDesk$TapeCheck" 85 y_Tc_notesFieldFits ∈ cd_AW := cd_A7_in _ (List.mem_of_getElem? (i := 13) rfl)
theorem aw_434 : Cond.instanceMethod y_Tc_notesFieldFits ∈ cd_AW := cd_A7_in _ (List.mem_of_getElem? (i := 14) rfl)
theorem aw_435 : Cond.code y_Tc_notesFieldFits prog_6_method_14_code 3 (some .boolean) ∈ cd_AW := cd_A7_in _ (List.mem_of_getElem? (i := 15) rfl)
theorem aw_436 : Cond.methodLink "CoreDesk$TapeCheck" 88 y_Tc_regionFieldFits ∈ cd_AW := cd_A7_in _ (List.mem_of_getElem? (i := 16) rfl)
theorem aw_437 : Cond.instanceMethod y_Tc_regionFieldFits ∈ cd_AW := cd_A7_in _ (List.mem_of_getElem? (i := 17) rfl)
theorem aw_438 : Cond.code y_Tc_regionFieldFits prog_6_method_15_code 4 (some .boolean) ∈ cd_AW := cd_A7_in _ (List.mem_of_getElem? (i := 18) rfl)
theorem aw_439 : Cond.methodLink "CoreDesk$TapeCheck" 92 y_Mem_isSpan ∈ cd_AW := cd_A7_in _ (List.mem_of_getElem? (i := 19) rfl)
theorem aw_440 : Cond.methodLink "CoreDesk$TapeCheck" 76 y_Tc_bytesPass ∈ cd_AW := cd_A7_in _ (List.mem_of_getElem? (i := 20) rfl)
theorem aw_441 : Cond.instanceMethod y_Tc_bytesPass ∈ cd_AW := cd_A7_in _ (List.mem_of_getElem? (i := 21) rfl)
theorem aw_442 : Cond.code y_Tc_bytesPass prog_6_method_16_code 5 (some .boolean) ∈ cd_AW := cd_A7_in _ (List.mem_of_getElem? (i := 22) rfl)
theorem aw_443 : Cond.methodLink "CoreDesk$TapeCheck" 97 y_Mem_overlap ∈ cd_AW := cd_A7_in _ (List.mem_of_getElem? (i := 23) rfl)
theorem aw_444 : Cond.methodLink "CoreDesk$TapeCheck" 79 y_Tc_addressesPass ∈ cd_AW := cd_A7_in _ (List.mem_of_getElem? (i := 24) rfl)
theorem aw_445 : Cond.instanceMethod y_Tc_addressesPass ∈ cd_AW := cd_A7_in _ (List.mem_of_getElem? (i := 25) rfl)
theorem aw_446 : Cond.code y_Tc_addressesPass prog_6_method_17_code 5 (some .boolean) ∈ cd_AW := cd_A7_in _ (List.mem_of_getElem? (i := 26) rfl)
theorem aw_447 : Cond.methodLink "CoreDesk$TapeCheck" 48 y_Tc_notesPass ∈ cd_AW := cd_A7_in _ (List.mem_of_getElem? (i := 27) rfl)
theorem aw_448 : Cond.instanceMethod y_Tc_notesPass ∈ cd_AW := cd_A7_in _ (List.mem_of_getElem? (i := 28) rfl)
theorem aw_449 : Cond.code y_Tc_notesPass prog_6_method_18_code 4 (some .boolean) ∈ cd_AW := cd_A7_in _ (List.mem_of_getElem? (i := 29) rfl)
theorem aw_450 : Cond.methodLink "CoreDesk$TapeCheck" 101 y_Tc_noteHeadPasses ∈ cd_AW := cd_A7_in _ (List.mem_of_getElem? (i := 30) rfl)
theorem aw_451 : Cond.instanceMethod y_Tc_noteHeadPasses ∈ cd_AW := cd_A7_in _ (List.mem_of_getElem? (i := 31) rfl)
theorem aw_452 : Cond.code y_Tc_noteHeadPasses prog_6_method_21_code 5 (some .boolean) ∈ cd_AW := cd_A7_in _ (List.mem_of_getElem? (i := 32) rfl)
theorem aw_453 : Cond.methodLink "CoreDesk$TapeCheck" 117 y_Row_at ∈ cd_AW := cd_A7_in _ (List.mem_of_getElem? (i := 33) rfl)
theorem aw_454 : Cond.methodLink "CoreDesk$TapeCheck" 107 y_Tc_noteSize ∈ cd_AW := cd_A7_in _ (List.mem_of_getElem? (i := 34) rfl)
theorem aw_455 : Cond.instanceMethod y_Tc_noteSize ∈ cd_AW := cd_A7_in _ (List.mem_of_getElem? (i := 35) rfl)
theorem aw_456 : Cond.code y_Tc_noteSize prog_6_method_19_code 2 (some .int) ∈ cd_AW := cd_A7_in _ (List.mem_of_getElem? (i := 36) rfl)
theorem aw_457 : Cond.methodLink "CoreDesk$TapeCheck" 111 y_Tc_padded ∈ cd_AW := cd_A7_in _ (List.mem_of_getElem? (i := 37) rfl)
theorem aw_458 : Cond.instanceMethod y_Tc_padded ∈ cd_AW := cd_A7_in _ (List.mem_of_getElem? (i := 38) rfl)
theorem aw_459 : Cond.code y_Tc_padded prog_6_method_20_code 2 (some .int) ∈ cd_AW := cd_A7_in _ (List.mem_of_getElem? (i := 39) rfl)
theorem aw_460 : Cond.methodLink "CoreDesk$TapeCheck" 104 y_Tc_threadPasses ∈ cd_AW := cd_A7_in _ (List.mem_of_getElem? (i := 40) rfl)
theorem aw_461 : Cond.instanceMethod y_Tc_threadPasses ∈ cd_AW := cd_A7_in _ (List.mem_of_getElem? (i := 41) rfl)
theorem aw_462 : Cond.code y_Tc_threadPasses prog_6_method_22_code 6 (some .boolean) ∈ cd_AW := cd_A7_in _ (List.mem_of_getElem? (i := 42) rfl)
theorem aw_463 : Cond.methodLink "CoreDesk$TapeCheck" 120 y_Tt_hasId ∈ cd_AW := cd_A7_in _ (List.mem_of_getElem? (i := 43) rfl)
theorem aw_464 : Cond.methodLink "CoreDesk$TapeCheck" 123 y_Tt_add ∈ cd_AW := cd_A7_in _ (List.mem_of_getElem? (i := 44) rfl)
theorem aw_465 : Cond.methodLink "CoreDesk$TapeCheck" 126 y_Tt_write ∈ cd_AW := cd_A7_in _ (List.mem_of_getElem? (i := 45) rfl)
theorem aw_466 : Cond.classLink "CoreDesk" 111 "java/lang/IllegalArgumentException" ∈ cd_AW := cd_A7_in _ (List.mem_of_getElem? (i := 46) rfl)
theorem aw_467 : Cond.instantiable "java/lang/IllegalArgumentException" 6 ∈ cd_AW := cd_A7_in _ (List.mem_of_getElem? (i := 47) rfl)
theorem aw_468 : Cond.selects "java/lang/IllegalArgumentException" ⟨"java/lang/Throwable", "fillInStackTrace", "(I)Ljava/lang/Throwable;"⟩ ⟨"java/lang/Throwable", "fillInStackTrace", "(I)Ljava/lang/Throwable;"⟩ ∈ cd_AW := cd_A7_in _ (List.mem_of_getElem? (i := 48) rfl)
theorem aw_469 : Cond.selects "java/lang/IllegalArgumentException" ⟨"java/lang/Throwable", "fillInStackTrace", "()Ljava/lang/Throwable;"⟩ ⟨"java/lang/Throwable", "fillInStackTrace", "()Ljava/lang/Throwable;"⟩ ∈ cd_AW := cd_A7_in _ (List.mem_of_getElem? (i := 49) rfl)
theorem aw_470 : Cond.lays "java/lang/IllegalArgumentException" "java/lang/Throwable" "cause" "Ljava/lang/Throwable;" ∈ cd_AW := cd_A7_in _ (List.mem_of_getElem? (i := 50) rfl)
theorem aw_471 : Cond.lays "java/lang/Throwable" "java/lang/Throwable" "cause" "Ljava/lang/Throwable;" ∈ cd_AW := cd_A7_in _ (List.mem_of_getElem? (i := 51) rfl)
theorem aw_472 : Cond.lays "java/lang/IllegalArgumentException" "java/lang/Throwable" "stackTrace" "[Ljava/lang/StackTraceElement;" ∈ cd_AW := cd_A7_in _ (List.mem_of_getElem? (i := 52) rfl)
theorem aw_473 : Cond.lays "java/lang/Throwable" "java/lang/Throwable" "stackTrace" "[Ljava/lang/StackTraceElement;" ∈ cd_AW := cd_A7_in _ (List.mem_of_getElem? (i := 53) rfl)
theorem aw_474 : Cond.lays "java/lang/IllegalArgumentException" "java/lang/Throwable" "suppressedExceptions" "Ljava/util/List;" ∈ cd_AW := cd_A7_in _ (List.mem_of_getElem? (i := 54) rfl)
theorem aw_475 : Cond.lays "java/lang/Throwable" "java/lang/Throwable" "suppressedExceptions" "Ljava/util/List;" ∈ cd_AW := cd_A7_in _ (List.mem_of_getElem? (i := 55) rfl)
theorem aw_476 : Cond.lays "java/lang/IllegalArgumentException" "java/lang/Throwable" "detailMessage" "Ljava/lang/String;" ∈ cd_AW := cd_A7_in _ (List.mem_of_getElem? (i := 56) rfl)
theorem aw_477 : Cond.lays "java/lang/Throwable" "java/lang/Throwable" "detailMessage" "Ljava/lang/String;" ∈ cd_AW := cd_A7_in _ (List.mem_of_getElem? (i := 57) rfl)
theorem aw_478 : Cond.lays "java/lang/IllegalArgumentException" "java/lang/Throwable" "backtrace" "Ljava/lang/Object;" ∈ cd_AW := cd_A7_in _ (List.mem_of_getElem? (i := 58) rfl)
theorem aw_479 : Cond.lays "java/lang/Throwable" "java/lang/Throwable" "backtrace" "Ljava/lang/Object;" ∈ cd_AW := cd_A7_in _ (List.mem_of_getElem? (i := 59) rfl)
theorem aw_480 : Cond.fieldLink "java/lang/Throwable" 198 "java/lang/Throwable" "backtrace" "Ljava/lang/Object;" ∈ cd_AW := cd_A8_in _ (List.mem_of_getElem? (i := 0) rfl)
theorem aw_481 : Cond.instanceMethod ⟨"java/lang/Throwable", "<init>", "()V"⟩ ∈ cd_AW := cd_A8_in _ (List.mem_of_getElem? (i := 1) rfl)
theorem aw_482 : Cond.code ⟨"java/lang/Throwable", "<init>", "()V"⟩ prog_15_method_1_code 1 none ∈ cd_AW := cd_A8_in _ (List.mem_of_getElem? (i := 2) rfl)
theorem aw_483 : Cond.methodLink "java/lang/Throwable" 1 objectInit ∈ cd_AW := cd_A8_in _ (List.mem_of_getElem? (i := 3) rfl)
theorem aw_484 : Cond.fieldLink "java/lang/Throwable" 13 "java/lang/Throwable" "UNASSIGNED_STACK" "[Ljava/lang/StackTraceElement;" ∈ cd_AW := cd_A8_in _ (List.mem_of_getElem? (i := 4) rfl)
theorem aw_485 : Cond.fieldLink "java/lang/Throwable" 20 "java/lang/Throwable" "SUPPRESSED_SENTINEL" "Ljava/util/List;" ∈ cd_AW := cd_A8_in _ (List.mem_of_getElem? (i := 5) rfl)
theorem aw_486 : Cond.methodLink "java/lang/Throwable" 27 ⟨"java/lang/Throwable", "fillInStackTrace", "()Ljava/lang/Throwable;"⟩ ∈ cd_AW := cd_A8_in _ (List.mem_of_getElem? (i := 6) rfl)
theorem aw_487 : Cond.instanceMethod ⟨"java/lang/Throwable", "fillInStackTrace", "()Ljava/lang/Throwable;"⟩ ∈ cd_AW := cd_A8_in _ (List.mem_of_getElem? (i := 7) rfl)
theorem aw_488 : Cond.selects "java/lang/IndexOutOfBoundsException" ⟨"java/lang/Throwable", "fillInStackTrace", "()Ljava/lang/Throwable;"⟩ ⟨"java/lang/Throwable", "fillInStackTrace", "()Ljava/lang/Throwable;"⟩ ∈ cd_AW := cd_A8_in _ (List.mem_of_getElem? (i := 8) rfl)
theorem aw_489 : Cond.methodLink "java/lang/Throwable" 202 ⟨"java/lang/Throwable", "fillInStackTrace", "(I)Ljava/lang/Throwable;"⟩ ∈ cd_AW := cd_A8_in _ (List.mem_of_getElem? (i := 9) rfl)
theorem aw_490 : Cond.instanceMethod ⟨"java/lang/Throwable", "fillInStackTrace", "(I)Ljava/lang/Throwable;"⟩ ∈ cd_AW := cd_A8_in _ (List.mem_of_getElem? (i := 10) rfl)
theorem aw_491 : Cond.instantiable "java/lang/Throwable" 6 ∈ cd_AW := cd_A8_in _ (List.mem_of_getElem? (i := 11) rfl)
theorem aw_492 : Cond.native ⟨"java/lang/Throwable", "fillInStackTrace", "(I)Ljava/lang/Throwable;"⟩ ∈ cd_AW := cd_A8_in _ (List.mem_of_getElem? (i := 12) rfl)
theorem aw_493 : Cond.methodLink "CoreDesk" 113 ⟨"java/lang/IllegalArgumentException", "<init>", "()V"⟩ ∈ cd_AW := cd_A8_in _ (List.mem_of_getElem? (i := 13) rfl)
theorem aw_494 : Cond.instanceMethod ⟨"java/lang/IllegalArgumentException", "<init>", "()V"⟩ ∈ cd_AW := cd_A8_in _ (List.mem_of_getElem? (i := 14) rfl)
theorem aw_495 : Cond.code ⟨"java/lang/IllegalArgumentException", "<init>", "()V"⟩ prog_11_method_1_code 1 none ∈ cd_AW := cd_A8_in _ (List.mem_of_getElem? (i := 15) rfl)
theorem aw_496 : Cond.methodLink "java/lang/IllegalArgumentException" 1 ⟨"java/lang/RuntimeException", "<init>", "()V"⟩ ∈ cd_AW := cd_A8_in _ (List.mem_of_getElem? (i := 16) rfl)
theorem aw_497 : Cond.instanceMethod ⟨"java/lang/RuntimeException", "<init>", "()V"⟩ ∈ cd_AW := cd_A8_in _ (List.mem_of_getElem? (i := 17) rfl)
theorem aw_498 : Cond.code ⟨"java/lang/RuntimeException", "<init>", "()V"⟩ prog_13_method_1_code 1 none ∈ cd_AW := cd_A8_in _ (List.mem_of_getElem? (i := 18) rfl)
theorem aw_499 : Cond.methodLink "java/lang/RuntimeException" 1 ⟨"java/lang/Exception", "<init>", "()V"⟩ ∈ cd_AW := cd_A8_in _ (List.mem_of_getElem? (i := 19) rfl)
theorem aw_500 : Cond.instanceMethod ⟨"java/lang/Exception", "<init>", "()V"⟩ ∈ cd_AW := cd_A8_in _ (List.mem_of_getElem? (i := 20) rfl)
theorem aw_501 : Cond.code ⟨"java/lang/Exception", "<init>", "()V"⟩ prog_10_method_1_code 1 none ∈ cd_AW := cd_A8_in _ (List.mem_of_getElem? (i := 21) rfl)
theorem aw_502 : Cond.methodLink "java/lang/Exception" 1 ⟨"java/lang/Throwable", "<init>", "()V"⟩ ∈ cd_AW := cd_A8_in _ (List.mem_of_getElem? (i := 22) rfl)
theorem aw_503 : Cond.fieldLink "java/lang/Throwable" 7 "java/lang/Throwable" "cause" "Ljava/lang/Throwable;" ∈ cd_AW := cd_A8_in _ (List.mem_of_getElem? (i := 23) rfl)
theorem aw_504 : Cond.fieldLink "java/lang/Throwable" 17 "java/lang/Throwable" "stackTrace" "[Ljava/lang/StackTraceElement;" ∈ cd_AW := cd_A8_in _ (List.mem_of_getElem? (i := 24) rfl)
theorem aw_505 : Cond.fieldLink "java/lang/Throwable" 24 "java/lang/Throwable" "suppressedExceptions" "Ljava/util/List;" ∈ cd_AW := cd_A8_in _ (List.mem_of_getElem? (i := 25) rfl)
theorem aw_506 : Cond.lays "java/lang/IllegalArgumentException" "java/lang/Throwable" "depth" "I" ∈ cd_AW := cd_A8_in _ (List.mem_of_getElem? (i := 26) rfl)
theorem aw_507 : Cond.methodLink "CoreDesk" 114 y_Desk_takeCore ∈ cd_AW := cd_A8_in _ (List.mem_of_getElem? (i := 27) rfl)
theorem aw_508 : Cond.instanceMethod y_Desk_takeCore ∈ cd_AW := cd_A8_in _ (List.mem_of_getElem? (i := 28) rfl)
theorem aw_509 : Cond.code y_Desk_takeCore prog_1_method_22_code 4 none ∈ cd_AW := cd_A8_in _ (List.mem_of_getElem? (i := 29) rfl)
theorem aw_510 : Cond.methodLink "CoreDesk" 158 y_Mem_clear ∈ cd_AW := cd_A8_in _ (List.mem_of_getElem? (i := 30) rfl)
theorem aw_511 : Cond.instanceMethod y_Mem_clear ∈ cd_AW := cd_A8_in _ (List.mem_of_getElem? (i := 31) rfl)
theorem aw_512 : Cond.selects "CoreDesk$Memory" y_Mem_clear y_Mem_clear ∈ cd_AW := cd_A8_in _ (List.mem_of_getElem? (i := 32) rfl)
theorem aw_513 : Cond.code y_Mem_clear prog_3_method_3_code 1 none ∈ cd_AW := cd_A8_in _ (List.mem_of_getElem? (i := 33) rfl)
theorem aw_514 : Cond.methodLink "CoreDesk" 161 y_Tc_entries ∈ cd_AW := cd_A8_in _ (List.mem_of_getElem? (i := 34) rfl)
theorem aw_515 : Cond.methodLink "CoreDesk" 164 y_Tc_entryField ∈ cd_AW := cd_A8_in _ (List.mem_of_getElem? (i := 35) rfl)
theorem aw_516 : Cond.methodLink "CoreDesk" 167 y_Mem_fillRegion ∈ cd_AW := cd_A8_in _ (List.mem_of_getElem? (i := 36) rfl)
theorem aw_517 : Cond.instanceMethod y_Mem_fillRegion ∈ cd_AW := cd_A8_in _ (List.mem_of_getElem? (i := 37) rfl)
theorem aw_518 : Cond.selects "CoreDesk$Memory" y_Mem_fillRegion y_Mem_fillRegion ∈ cd_AW := cd_A8_in _ (List.mem_of_getElem? (i := 38) rfl)
theorem aw_519 : Cond.code y_Mem_fillRegion prog_3_method_6_code 6 none ∈ cd_AW := cd_A8_in _ (List.mem_of_getElem? (i := 39) rfl)
theorem aw_520 : Cond.methodLink "CoreDesk$Memory" 48 y_Row_giveBytes ∈ cd_AW := cd_A8_in _ (List.mem_of_getElem? (i := 40) rfl)
theorem aw_521 : Cond.instanceMethod y_Row_giveBytes ∈ cd_AW := cd_A8_in _ (List.mem_of_getElem? (i := 41) rfl)
theorem aw_522 : Cond.selects "CoreDesk$Row" y_Row_giveBytes y_Row_giveBytes ∈ cd_AW := cd_A8_in _ (List.mem_of_getElem? (i := 42) rfl)
theorem aw_523 : Cond.code y_Row_giveBytes prog_5_method_9_code 4 none ∈ cd_AW := cd_A8_in _ (List.mem_of_getElem? (i := 43) rfl)
theorem aw_524 : Cond.methodLink "CoreDesk" 171 y_Tc_threadsFound ∈ cd_AW := cd_A8_in _ (List.mem_of_getElem? (i := 44) rfl)
theorem aw_525 : Cond.instanceMethod y_Tc_threadsFound ∈ cd_AW := cd_A8_in _ (List.mem_of_getElem? (i := 45) rfl)
theorem aw_526 : Cond.selects "CoreDesk$TapeCheck" y_Tc_threadsFound y_Tc_threadsFound ∈ cd_AW := cd_A8_in _ (List.mem_of_getElem? (i := 46) rfl)
theorem aw_527 : Cond.code y_Tc_threadsFound prog_6_method_4_code 1 (some (.object "CoreDesk$ThreadTable")) ∈ cd_AW := cd_A8_in _ (List.mem_of_getElem? (i := 47) rfl)
theorem aw_528 : Cond.methodLink "CoreDesk" 175 y_Tt_become ∈ cd_AW := cd_A8_in _ (List.mem_of_getElem? (i := 48) rfl)
theorem aw_529 : Cond.instanceMethod y_Tt_become ∈ cd_AW := cd_A8_in _ (List.mem_of_getElem? (i := 49) rfl)
theorem aw_530 : Cond.selects "CoreDesk$ThreadTable" y_Tt_become y_Tt_become ∈ cd_AW := cd_A8_in _ (List.mem_of_getElem? (i := 50) rfl)
theorem aw_531 : Cond.code y_Tt_become prog_7_method_10_code 2 none ∈ cd_AW := cd_A8_in _ (List.mem_of_getElem? (i := 51) rfl)
theorem aw_532 : Cond.methodLink "CoreDesk$ThreadTable" 39 arraycopyName ∈ cd_AW := cd_A8_in _ (List.mem_of_getElem? (i := 52) rfl)
theorem aw_533 : Cond.methodLink "CoreDeskLaw" 98 y_Law_register ∈ cd_AW := cd_A8_in _ (List.mem_of_getElem? (i := 53) rfl)
theorem aw_534 : Cond.static y_Law_register ∈ cd_AW := cd_A8_in _ (List.mem_of_getElem? (i := 54) rfl)
theorem aw_535 : Cond.classLink "CoreDeskLaw" 19 "java/lang/IndexOutOfBoundsException" ∈ cd_AW := cd_A8_in _ (List.mem_of_getElem? (i := 55) rfl)
theorem aw_536 : Cond.methodLink "CoreDeskLaw" 15 y_Desk_register ∈ cd_AW := cd_A8_in _ (List.mem_of_getElem? (i := 56) rfl)
theorem aw_537 : Cond.instanceMethod y_Desk_register ∈ cd_AW := cd_A8_in _ (List.mem_of_getElem? (i := 57) rfl)
theorem aw_538 : Cond.selects "CoreDesk" y_Desk_register y_Desk_register ∈ cd_AW := cd_A8_in _ (List.mem_of_getElem? (i := 58) rfl)
theorem aw_539 : Cond.code y_Desk_register prog_1_method_18_code 3 (some .int) ∈ cd_AW := cd_A8_in _ (List.mem_of_getElem? (i := 59) rfl)
theorem aw_540 : Cond.methodLink "CoreDesk" 136 y_Tt_id ∈ cd_AW := cd_A9_in _ (List.mem_of_getElem? (i := 0) rfl)
theorem aw_541 : Cond.classLink "CoreDesk" 143 "java/lang/IndexOutOfBoundsException" ∈ cd_AW := cd_A9_in _ (List.mem_of_getElem? (i := 1) rfl)
theorem aw_542 : Cond.instantiable "java/lang/IndexOutOfBoundsException" 6 ∈ cd_AW := cd_A9_in _ (List.mem_of_getElem? (i := 2) rfl)
theorem aw_543 : Cond.selects "java/lang/IndexOutOfBoundsException" ⟨"java/lang/Throwable", "fillInStackTrace", "(I)Ljava/lang/Throwable;"⟩ ⟨"java/lang/Throwable", "fillInStackTrace", "(I)Ljava/lang/Throwable;"⟩ ∈ cd_AW := cd_A9_in _ (List.mem_of_getElem? (i := 3) rfl)
theorem aw_544 : Cond.lays "java/lang/IndexOutOfBoundsException" "java/lang/Throwable" "cause" "Ljava/lang/Throwable;" ∈ cd_AW := cd_A9_in _ (List.mem_of_getElem? (i := 4) rfl)
theorem aw_545 : Cond.lays "java/lang/IndexOutOfBoundsException" "java/lang/Throwable" "stackTrace" "[Ljava/lang/StackTraceElement;" ∈ cd_AW := cd_A9_in _ (List.mem_of_getElem? (i := 5) rfl)
theorem aw_546 : Cond.lays "java/lang/IndexOutOfBoundsException" "java/lang/Throwable" "suppressedExceptions" "Ljava/util/List;" ∈ cd_AW := cd_A9_in _ (List.mem_of_getElem? (i := 6) rfl)
theorem aw_547 : Cond.lays "java/lang/IndexOutOfBoundsException" "java/lang/Throwable" "detailMessage" "Ljava/lang/String;" ∈ cd_AW := cd_A9_in _ (List.mem_of_getElem? (i := 7) rfl)
theorem aw_548 : Cond.lays "java/lang/IndexOutOfBoundsException" "java/lang/Throwable" "backtrace" "Ljava/lang/Object;" ∈ cd_AW := cd_A9_in _ (List.mem_of_getElem? (i := 8) rfl)
theorem aw_549 : Cond.methodLink "CoreDesk" 145 ⟨"java/lang/IndexOutOfBoundsException", "<init>", "()V"⟩ ∈ cd_AW := cd_A9_in _ (List.mem_of_getElem? (i := 9) rfl)
theorem aw_550 : Cond.instanceMethod ⟨"java/lang/IndexOutOfBoundsException", "<init>", "()V"⟩ ∈ cd_AW := cd_A9_in _ (List.mem_of_getElem? (i := 10) rfl)
theorem aw_551 : Cond.code ⟨"java/lang/IndexOutOfBoundsException", "<init>", "()V"⟩ prog_12_method_1_code 1 none ∈ cd_AW := cd_A9_in _ (List.mem_of_getElem? (i := 11) rfl)
theorem aw_552 : Cond.methodLink "java/lang/IndexOutOfBoundsException" 1 ⟨"java/lang/RuntimeException", "<init>", "()V"⟩ ∈ cd_AW := cd_A9_in _ (List.mem_of_getElem? (i := 12) rfl)
theorem aw_553 : Cond.lays "java/lang/IndexOutOfBoundsException" "java/lang/Throwable" "depth" "I" ∈ cd_AW := cd_A9_in _ (List.mem_of_getElem? (i := 13) rfl)
theorem aw_554 : Cond.classLink "CoreDeskLaw" 22 "CoreDeskModel" ∈ cd_AW := cd_A9_in _ (List.mem_of_getElem? (i := 14) rfl)
theorem aw_555 : Cond.instantiable "CoreDeskModel" 16 ∈ cd_AW := cd_A9_in _ (List.mem_of_getElem? (i := 15) rfl)
theorem aw_556 : Cond.methodLink "CoreDeskLaw" 24 y_Mo_init ∈ cd_AW := cd_A9_in _ (List.mem_of_getElem? (i := 16) rfl)
theorem aw_557 : Cond.instanceMethod y_Mo_init ∈ cd_AW := cd_A9_in _ (List.mem_of_getElem? (i := 17) rfl)
theorem aw_558 : Cond.code y_Mo_init prog_9_method_1_code 1 none ∈ cd_AW := cd_A9_in _ (List.mem_of_getElem? (i := 18) rfl)
theorem aw_559 : Cond.methodLink "CoreDeskModel" 1 objectInit ∈ cd_AW := cd_A9_in _ (List.mem_of_getElem? (i := 19) rfl)
theorem aw_560 : Cond.fieldLink "CoreDeskModel" 45 "CoreDeskModel" "thrown" "I" ∈ cd_AW := cd_A9_in _ (List.mem_of_getElem? (i := 20) rfl)
theorem aw_561 : Cond.fieldLink "CoreDeskModel" 7 "CoreDeskModel" "address" "[I" ∈ cd_AW := cd_A9_in _ (List.mem_of_getElem? (i := 21) rfl)
theorem aw_562 : Cond.fieldLink "CoreDeskModel" 13 "CoreDeskModel" "size" "[I" ∈ cd_AW := cd_A9_in _ (List.mem_of_getElem? (i := 22) rfl)
theorem aw_563 : Cond.fieldLink "CoreDeskModel" 16 "CoreDeskModel" "flag" "[I" ∈ cd_AW := cd_A9_in _ (List.mem_of_getElem? (i := 23) rfl)
theorem aw_564 : Cond.fieldLink "CoreDeskModel" 19 "CoreDeskModel" "bytes" "[B" ∈ cd_AW := cd_A9_in _ (List.mem_of_getElem? (i := 24) rfl)
theorem aw_565 : Cond.fieldLink "CoreDeskModel" 23 "CoreDeskModel" "regions" "[I" ∈ cd_AW := cd_A9_in _ (List.mem_of_getElem? (i := 25) rfl)
theorem aw_566 : Cond.fieldLink "CoreDeskModel" 26 "CoreDeskModel" "threads" "[I" ∈ cd_AW := cd_A9_in _ (List.mem_of_getElem? (i := 26) rfl)
theorem aw_567 : Cond.fieldLink "CoreDeskModel" 29 "CoreDeskModel" "id" "[I" ∈ cd_AW := cd_A9_in _ (List.mem_of_getElem? (i := 27) rfl)
theorem aw_568 : Cond.fieldLink "CoreDeskModel" 32 "CoreDeskModel" "register" "[I" ∈ cd_AW := cd_A9_in _ (List.mem_of_getElem? (i := 28) rfl)
theorem aw_569 : Cond.fieldLink "CoreDeskModel" 35 "CoreDeskModel" "file" "[B" ∈ cd_AW := cd_A9_in _ (List.mem_of_getElem? (i := 29) rfl)
theorem aw_570 : Cond.fieldLink "CoreDeskModel" 38 "CoreDeskModel" "fileSize" "I" ∈ cd_AW := cd_A9_in _ (List.mem_of_getElem? (i := 30) rfl)
theorem aw_571 : Cond.fieldLink "CoreDeskModel" 42 "CoreDeskModel" "tape" "[B" ∈ cd_AW := cd_A9_in _ (List.mem_of_getElem? (i := 31) rfl)
theorem aw_572 : Cond.fieldLink "CoreDeskModel" 86 "CoreDeskModel" "tapeSize" "I" ∈ cd_AW := cd_A9_in _ (List.mem_of_getElem? (i := 32) rfl)
theorem aw_573 : Cond.fieldLink "CoreDeskModel" 147 "CoreDeskModel" "hasCore" "Z" ∈ cd_AW := cd_A9_in _ (List.mem_of_getElem? (i := 33) rfl)
theorem aw_574 : Cond.fieldLink "CoreDeskModel" 92 "CoreDeskModel" "wrong" "I" ∈ cd_AW := cd_A9_in _ (List.mem_of_getElem? (i := 34) rfl)
theorem aw_575 : Cond.fieldLink "CoreDeskModel" 95 "CoreDeskModel" "where" "I" ∈ cd_AW := cd_A9_in _ (List.mem_of_getElem? (i := 35) rfl)
theorem aw_576 : Cond.lays "CoreDeskModel" "CoreDeskModel" "thrown" "I" ∈ cd_AW := cd_A9_in _ (List.mem_of_getElem? (i := 36) rfl)
theorem aw_577 : Cond.laysFinal "CoreDeskModel" "CoreDeskModel" "address" "[I" ∈ cd_AW := cd_A9_in _ (List.mem_of_getElem? (i := 37) rfl)
theorem aw_578 : Cond.laysFinal "CoreDeskModel" "CoreDeskModel" "size" "[I" ∈ cd_AW := cd_A9_in _ (List.mem_of_getElem? (i := 38) rfl)
theorem aw_579 : Cond.laysFinal "CoreDeskModel" "CoreDeskModel" "flag" "[I" ∈ cd_AW := cd_A9_in _ (List.mem_of_getElem? (i := 39) rfl)
theorem aw_580 : Cond.laysFinal "CoreDeskModel" "CoreDeskModel" "bytes" "[B" ∈ cd_AW := cd_A9_in _ (List.mem_of_getElem? (i := 40) rfl)
theorem aw_581 : Cond.laysFinal "CoreDeskModel" "CoreDeskModel" "regions" "[I" ∈ cd_AW := cd_A9_in _ (List.mem_of_getElem? (i := 41) rfl)
theorem aw_582 : Cond.laysFinal "CoreDeskModel" "CoreDeskModel" "threads" "[I" ∈ cd_AW := cd_A9_in _ (List.mem_of_getElem? (i := 42) rfl)
theorem aw_583 : Cond.laysFinal "CoreDeskModel" "CoreDeskModel" "id" "[I" ∈ cd_AW := cd_A9_in _ (List.mem_of_getElem? (i := 43) rfl)
theorem aw_584 : Cond.laysFinal "CoreDeskModel" "CoreDeskModel" "register" "[I" ∈ cd_AW := cd_A9_in _ (List.mem_of_getElem? (i := 44) rfl)
theorem aw_585 : Cond.laysFinal "CoreDeskModel" "CoreDeskModel" "file" "[B" ∈ cd_AW := cd_A9_in _ (List.mem_of_getElem? (i := 45) rfl)
theorem aw_586 : Cond.lays "CoreDeskModel" "CoreDeskModel" "fileSize" "I" ∈ cd_AW := cd_A9_in _ (List.mem_of_getElem? (i := 46) rfl)
theorem aw_587 : Cond.laysFinal "CoreDeskModel" "CoreDeskModel" "tape" "[B" ∈ cd_AW := cd_A9_in _ (List.mem_of_getElem? (i := 47) rfl)
theorem aw_588 : Cond.lays "CoreDeskModel" "CoreDeskModel" "tapeSize" "I" ∈ cd_AW := cd_A9_in _ (List.mem_of_getElem? (i := 48) rfl)
theorem aw_589 : Cond.lays "CoreDeskModel" "CoreDeskModel" "hasCore" "Z" ∈ cd_AW := cd_A9_in _ (List.mem_of_getElem? (i := 49) rfl)
theorem aw_590 : Cond.lays "CoreDeskModel" "CoreDeskModel" "wrong" "I" ∈ cd_AW := cd_A9_in _ (List.mem_of_getElem? (i := 50) rfl)
theorem aw_591 : Cond.lays "CoreDeskModel" "CoreDeskModel" "where" "I" ∈ cd_AW := cd_A9_in _ (List.mem_of_getElem? (i := 51) rfl)
theorem aw_592 : Cond.methodLink "CoreDeskLaw" 79 y_Mo_thrown ∈ cd_AW := cd_A9_in _ (List.mem_of_getElem? (i := 52) rfl)
theorem aw_593 : Cond.instanceMethod y_Mo_thrown ∈ cd_AW := cd_A9_in _ (List.mem_of_getElem? (i := 53) rfl)
theorem aw_594 : Cond.selects "CoreDeskModel" y_Mo_thrown y_Mo_thrown ∈ cd_AW := cd_A9_in _ (List.mem_of_getElem? (i := 54) rfl)
theorem aw_595 : Cond.code y_Mo_thrown prog_9_method_2_code 1 (some .int) ∈ cd_AW := cd_A9_in _ (List.mem_of_getElem? (i := 55) rfl)
theorem aw_596 : Cond.methodLink "CoreDeskLaw" 29 y_Mo_map ∈ cd_AW := cd_A9_in _ (List.mem_of_getElem? (i := 56) rfl)
theorem aw_597 : Cond.instanceMethod y_Mo_map ∈ cd_AW := cd_A9_in _ (List.mem_of_getElem? (i := 57) rfl)
theorem aw_598 : Cond.selects "CoreDeskModel" y_Mo_map y_Mo_map ∈ cd_AW := cd_A9_in _ (List.mem_of_getElem? (i := 58) rfl)
theorem aw_599 : Cond.code y_Mo_map prog_9_method_5_code 6 (some .boolean) ∈ cd_AW := cd_A9_in _ (List.mem_of_getElem? (i := 59) rfl)
theorem aw_600 : Cond.constantLong "CoreDeskModel" 52 2147483648 ∈ cd_AW := cd_A10_in _ (List.mem_of_getElem? (i := 0) rfl)
theorem aw_601 : Cond.methodLink "CoreDeskModel" 48 y_Mo_within ∈ cd_AW := cd_A10_in _ (List.mem_of_getElem? (i := 1) rfl)
theorem aw_602 : Cond.instanceMethod y_Mo_within ∈ cd_AW := cd_A10_in _ (List.mem_of_getElem? (i := 2) rfl)
theorem aw_603 : Cond.code y_Mo_within prog_9_method_3_code 5 (some .int) ∈ cd_AW := cd_A10_in _ (List.mem_of_getElem? (i := 3) rfl)
theorem aw_604 : Cond.methodLink "CoreDeskLaw" 34 y_Mo_unmap ∈ cd_AW := cd_A10_in _ (List.mem_of_getElem? (i := 4) rfl)
theorem aw_605 : Cond.instanceMethod y_Mo_unmap ∈ cd_AW := cd_A10_in _ (List.mem_of_getElem? (i := 5) rfl)
theorem aw_606 : Cond.selects "CoreDeskModel" y_Mo_unmap y_Mo_unmap ∈ cd_AW := cd_A10_in _ (List.mem_of_getElem? (i := 6) rfl)
theorem aw_607 : Cond.code y_Mo_unmap prog_9_method_7_code 4 (some .boolean) ∈ cd_AW := cd_A10_in _ (List.mem_of_getElem? (i := 7) rfl)
theorem aw_608 : Cond.methodLink "CoreDeskModel" 54 y_Mo_move ∈ cd_AW := cd_A10_in _ (List.mem_of_getElem? (i := 8) rfl)
theorem aw_609 : Cond.instanceMethod y_Mo_move ∈ cd_AW := cd_A10_in _ (List.mem_of_getElem? (i := 9) rfl)
theorem aw_610 : Cond.code y_Mo_move prog_9_method_6_code 4 none ∈ cd_AW := cd_A10_in _ (List.mem_of_getElem? (i := 10) rfl)
theorem aw_611 : Cond.methodLink "CoreDeskLaw" 39 y_Mo_poke ∈ cd_AW := cd_A10_in _ (List.mem_of_getElem? (i := 11) rfl)
theorem aw_612 : Cond.instanceMethod y_Mo_poke ∈ cd_AW := cd_A10_in _ (List.mem_of_getElem? (i := 12) rfl)
theorem aw_613 : Cond.selects "CoreDeskModel" y_Mo_poke y_Mo_poke ∈ cd_AW := cd_A10_in _ (List.mem_of_getElem? (i := 13) rfl)
theorem aw_614 : Cond.code y_Mo_poke prog_9_method_8_code 4 (some .boolean) ∈ cd_AW := cd_A10_in _ (List.mem_of_getElem? (i := 14) rfl)
theorem aw_615 : Cond.methodLink "CoreDeskLaw" 43 y_Mo_pokeFour ∈ cd_AW := cd_A10_in _ (List.mem_of_getElem? (i := 15) rfl)
theorem aw_616 : Cond.instanceMethod y_Mo_pokeFour ∈ cd_AW := cd_A10_in _ (List.mem_of_getElem? (i := 16) rfl)
theorem aw_617 : Cond.selects "CoreDeskModel" y_Mo_pokeFour y_Mo_pokeFour ∈ cd_AW := cd_A10_in _ (List.mem_of_getElem? (i := 17) rfl)
theorem aw_618 : Cond.code y_Mo_pokeFour prog_9_method_9_code 5 (some .boolean) ∈ cd_AW := cd_A10_in _ (List.mem_of_getElem? (i := 18) rfl)
theorem aw_619 : Cond.methodLink "CoreDeskLaw" 48 y_Mo_thread ∈ cd_AW := cd_A10_in _ (List.mem_of_getElem? (i := 19) rfl)
theorem aw_620 : Cond.instanceMethod y_Mo_thread ∈ cd_AW := cd_A10_in _ (List.mem_of_getElem? (i := 20) rfl)
theorem aw_621 : Cond.selects "CoreDeskModel" y_Mo_thread y_Mo_thread ∈ cd_AW := cd_A10_in _ (List.mem_of_getElem? (i := 21) rfl)
theorem aw_622 : Cond.code y_Mo_thread prog_9_method_11_code 3 (some .int) ∈ cd_AW := cd_A10_in _ (List.mem_of_getElem? (i := 22) rfl)
theorem aw_623 : Cond.methodLink "CoreDeskModel" 58 y_Mo_hasId ∈ cd_AW := cd_A10_in _ (List.mem_of_getElem? (i := 23) rfl)
theorem aw_624 : Cond.instanceMethod y_Mo_hasId ∈ cd_AW := cd_A10_in _ (List.mem_of_getElem? (i := 24) rfl)
theorem aw_625 : Cond.code y_Mo_hasId prog_9_method_10_code 5 (some .boolean) ∈ cd_AW := cd_A10_in _ (List.mem_of_getElem? (i := 25) rfl)
theorem aw_626 : Cond.methodLink "CoreDeskLaw" 52 y_Mo_set ∈ cd_AW := cd_A10_in _ (List.mem_of_getElem? (i := 26) rfl)
theorem aw_627 : Cond.instanceMethod y_Mo_set ∈ cd_AW := cd_A10_in _ (List.mem_of_getElem? (i := 27) rfl)
theorem aw_628 : Cond.selects "CoreDeskModel" y_Mo_set y_Mo_set ∈ cd_AW := cd_A10_in _ (List.mem_of_getElem? (i := 28) rfl)
theorem aw_629 : Cond.code y_Mo_set prog_9_method_12_code 4 (some .boolean) ∈ cd_AW := cd_A10_in _ (List.mem_of_getElem? (i := 29) rfl)
theorem aw_630 : Cond.methodLink "CoreDeskLaw" 56 y_Mo_dump ∈ cd_AW := cd_A10_in _ (List.mem_of_getElem? (i := 30) rfl)
theorem aw_631 : Cond.instanceMethod y_Mo_dump ∈ cd_AW := cd_A10_in _ (List.mem_of_getElem? (i := 31) rfl)
theorem aw_632 : Cond.selects "CoreDeskModel" y_Mo_dump y_Mo_dump ∈ cd_AW := cd_A10_in _ (List.mem_of_getElem? (i := 32) rfl)
theorem aw_633 : Cond.code y_Mo_dump prog_9_method_20_code 5 (some .int) ∈ cd_AW := cd_A10_in _ (List.mem_of_getElem? (i := 33) rfl)
theorem aw_634 : Cond.methodLink "CoreDeskModel" 72 y_Mo_header ∈ cd_AW := cd_A10_in _ (List.mem_of_getElem? (i := 34) rfl)
theorem aw_635 : Cond.instanceMethod y_Mo_header ∈ cd_AW := cd_A10_in _ (List.mem_of_getElem? (i := 35) rfl)
theorem aw_636 : Cond.code y_Mo_header prog_9_method_19_code 2 none ∈ cd_AW := cd_A10_in _ (List.mem_of_getElem? (i := 36) rfl)
theorem aw_637 : Cond.methodLink "CoreDeskModel" 62 y_Mo_lay ∈ cd_AW := cd_A10_in _ (List.mem_of_getElem? (i := 37) rfl)
theorem aw_638 : Cond.instanceMethod y_Mo_lay ∈ cd_AW := cd_A10_in _ (List.mem_of_getElem? (i := 38) rfl)
theorem aw_639 : Cond.code y_Mo_lay prog_9_method_13_code 2 none ∈ cd_AW := cd_A10_in _ (List.mem_of_getElem? (i := 39) rfl)
theorem aw_640 : Cond.methodLink "CoreDeskModel" 66 y_Mo_two ∈ cd_AW := cd_A10_in _ (List.mem_of_getElem? (i := 40) rfl)
theorem aw_641 : Cond.instanceMethod y_Mo_two ∈ cd_AW := cd_A10_in _ (List.mem_of_getElem? (i := 41) rfl)
theorem aw_642 : Cond.code y_Mo_two prog_9_method_14_code 2 none ∈ cd_AW := cd_A10_in _ (List.mem_of_getElem? (i := 42) rfl)
theorem aw_643 : Cond.methodLink "CoreDeskModel" 69 y_Mo_four ∈ cd_AW := cd_A10_in _ (List.mem_of_getElem? (i := 43) rfl)
theorem aw_644 : Cond.instanceMethod y_Mo_four ∈ cd_AW := cd_A10_in _ (List.mem_of_getElem? (i := 44) rfl)
theorem aw_645 : Cond.code y_Mo_four prog_9_method_15_code 2 none ∈ cd_AW := cd_A10_in _ (List.mem_of_getElem? (i := 45) rfl)
theorem aw_646 : Cond.methodLink "CoreDeskModel" 75 y_Mo_programHeader ∈ cd_AW := cd_A10_in _ (List.mem_of_getElem? (i := 46) rfl)
theorem aw_647 : Cond.instanceMethod y_Mo_programHeader ∈ cd_AW := cd_A10_in _ (List.mem_of_getElem? (i := 47) rfl)
theorem aw_648 : Cond.code y_Mo_programHeader prog_9_method_18_code 8 none ∈ cd_AW := cd_A10_in _ (List.mem_of_getElem? (i := 48) rfl)
theorem aw_649 : Cond.methodLink "CoreDeskModel" 79 y_Mo_above ∈ cd_AW := cd_A10_in _ (List.mem_of_getElem? (i := 49) rfl)
theorem aw_650 : Cond.instanceMethod y_Mo_above ∈ cd_AW := cd_A10_in _ (List.mem_of_getElem? (i := 50) rfl)
theorem aw_651 : Cond.code y_Mo_above prog_9_method_17_code 4 (some .int) ∈ cd_AW := cd_A10_in _ (List.mem_of_getElem? (i := 51) rfl)
theorem aw_652 : Cond.methodLink "CoreDeskModel" 83 y_Mo_filled ∈ cd_AW := cd_A10_in _ (List.mem_of_getElem? (i := 52) rfl)
theorem aw_653 : Cond.instanceMethod y_Mo_filled ∈ cd_AW := cd_A10_in _ (List.mem_of_getElem? (i := 53) rfl)
theorem aw_654 : Cond.code y_Mo_filled prog_9_method_16_code 4 (some .int) ∈ cd_AW := cd_A10_in _ (List.mem_of_getElem? (i := 54) rfl)
theorem aw_655 : Cond.methodLink "CoreDeskLaw" 60 y_Mo_byteAt ∈ cd_AW := cd_A10_in _ (List.mem_of_getElem? (i := 55) rfl)
theorem aw_656 : Cond.instanceMethod y_Mo_byteAt ∈ cd_AW := cd_A10_in _ (List.mem_of_getElem? (i := 56) rfl)
theorem aw_657 : Cond.selects "CoreDeskModel" y_Mo_byteAt y_Mo_byteAt ∈ cd_AW := cd_A10_in _ (List.mem_of_getElem? (i := 57) rfl)
theorem aw_658 : Cond.code y_Mo_byteAt prog_9_method_21_code 2 (some .int) ∈ cd_AW := cd_A10_in _ (List.mem_of_getElem? (i := 58) rfl)
theorem aw_659 : Cond.methodLink "CoreDeskLaw" 64 y_Mo_copy ∈ cd_AW := cd_A10_in _ (List.mem_of_getElem? (i := 59) rfl)
theorem aw_660 : Cond.instanceMethod y_Mo_copy ∈ cd_AW := cd_A11_in _ (List.mem_of_getElem? (i := 0) rfl)
theorem aw_661 : Cond.selects "CoreDeskModel" y_Mo_copy y_Mo_copy ∈ cd_AW := cd_A11_in _ (List.mem_of_getElem? (i := 1) rfl)
theorem aw_662 : Cond.code y_Mo_copy prog_9_method_22_code 2 (some .int) ∈ cd_AW := cd_A11_in _ (List.mem_of_getElem? (i := 2) rfl)
theorem aw_663 : Cond.methodLink "CoreDeskLaw" 68 y_Mo_put ∈ cd_AW := cd_A11_in _ (List.mem_of_getElem? (i := 3) rfl)
theorem aw_664 : Cond.instanceMethod y_Mo_put ∈ cd_AW := cd_A11_in _ (List.mem_of_getElem? (i := 4) rfl)
theorem aw_665 : Cond.selects "CoreDeskModel" y_Mo_put y_Mo_put ∈ cd_AW := cd_A11_in _ (List.mem_of_getElem? (i := 5) rfl)
theorem aw_666 : Cond.code y_Mo_put prog_9_method_23_code 3 (some .boolean) ∈ cd_AW := cd_A11_in _ (List.mem_of_getElem? (i := 6) rfl)
theorem aw_667 : Cond.methodLink "CoreDeskLaw" 72 y_Mo_cut ∈ cd_AW := cd_A11_in _ (List.mem_of_getElem? (i := 7) rfl)
theorem aw_668 : Cond.instanceMethod y_Mo_cut ∈ cd_AW := cd_A11_in _ (List.mem_of_getElem? (i := 8) rfl)
theorem aw_669 : Cond.selects "CoreDeskModel" y_Mo_cut y_Mo_cut ∈ cd_AW := cd_A11_in _ (List.mem_of_getElem? (i := 9) rfl)
theorem aw_670 : Cond.code y_Mo_cut prog_9_method_24_code 2 (some .boolean) ∈ cd_AW := cd_A11_in _ (List.mem_of_getElem? (i := 10) rfl)
theorem aw_671 : Cond.methodLink "CoreDeskLaw" 78 y_Mo_load ∈ cd_AW := cd_A11_in _ (List.mem_of_getElem? (i := 11) rfl)
theorem aw_672 : Cond.instanceMethod y_Mo_load ∈ cd_AW := cd_A11_in _ (List.mem_of_getElem? (i := 12) rfl)
theorem aw_673 : Cond.selects "CoreDeskModel" y_Mo_load y_Mo_load ∈ cd_AW := cd_A11_in _ (List.mem_of_getElem? (i := 13) rfl)
theorem aw_674 : Cond.code y_Mo_load prog_9_method_39_code 3 (some .int) ∈ cd_AW := cd_A11_in _ (List.mem_of_getElem? (i := 14) rfl)
theorem aw_675 : Cond.methodLink "CoreDeskModel" 144 y_Mo_reads ∈ cd_AW := cd_A11_in _ (List.mem_of_getElem? (i := 15) rfl)
theorem aw_676 : Cond.instanceMethod y_Mo_reads ∈ cd_AW := cd_A11_in _ (List.mem_of_getElem? (i := 16) rfl)
theorem aw_677 : Cond.code y_Mo_reads prog_9_method_38_code 3 (some .boolean) ∈ cd_AW := cd_A11_in _ (List.mem_of_getElem? (i := 17) rfl)
theorem aw_678 : Cond.methodLink "CoreDeskModel" 131 y_Mo_headerFits ∈ cd_AW := cd_A11_in _ (List.mem_of_getElem? (i := 18) rfl)
theorem aw_679 : Cond.instanceMethod y_Mo_headerFits ∈ cd_AW := cd_A11_in _ (List.mem_of_getElem? (i := 19) rfl)
theorem aw_680 : Cond.code y_Mo_headerFits prog_9_method_30_code 3 (some .boolean) ∈ cd_AW := cd_A11_in _ (List.mem_of_getElem? (i := 20) rfl)
theorem aw_681 : Cond.methodLink "CoreDeskModel" 98 y_Mo_isWrong ∈ cd_AW := cd_A11_in _ (List.mem_of_getElem? (i := 21) rfl)
theorem aw_682 : Cond.instanceMethod y_Mo_isWrong ∈ cd_AW := cd_A11_in _ (List.mem_of_getElem? (i := 22) rfl)
theorem aw_683 : Cond.code y_Mo_isWrong prog_9_method_27_code 3 (some .boolean) ∈ cd_AW := cd_A11_in _ (List.mem_of_getElem? (i := 23) rfl)
theorem aw_684 : Cond.methodLink "CoreDeskModel" 101 y_Mo_headerByte ∈ cd_AW := cd_A11_in _ (List.mem_of_getElem? (i := 24) rfl)
theorem aw_685 : Cond.static y_Mo_headerByte ∈ cd_AW := cd_A11_in _ (List.mem_of_getElem? (i := 25) rfl)
theorem aw_686 : Cond.code y_Mo_headerByte prog_9_method_28_code 1 (some .int) ∈ cd_AW := cd_A11_in _ (List.mem_of_getElem? (i := 26) rfl)
theorem aw_687 : Cond.methodLink "CoreDeskModel" 89 y_Mo_twoAt ∈ cd_AW := cd_A11_in _ (List.mem_of_getElem? (i := 27) rfl)
theorem aw_688 : Cond.instanceMethod y_Mo_twoAt ∈ cd_AW := cd_A11_in _ (List.mem_of_getElem? (i := 28) rfl)
theorem aw_689 : Cond.code y_Mo_twoAt prog_9_method_25_code 2 (some .int) ∈ cd_AW := cd_A11_in _ (List.mem_of_getElem? (i := 29) rfl)
theorem aw_690 : Cond.methodLink "CoreDeskModel" 104 y_Mo_fieldOf ∈ cd_AW := cd_A11_in _ (List.mem_of_getElem? (i := 30) rfl)
theorem aw_691 : Cond.static y_Mo_fieldOf ∈ cd_AW := cd_A11_in _ (List.mem_of_getElem? (i := 31) rfl)
theorem aw_692 : Cond.code y_Mo_fieldOf prog_9_method_29_code 1 (some .int) ∈ cd_AW := cd_A11_in _ (List.mem_of_getElem? (i := 32) rfl)
theorem aw_693 : Cond.methodLink "CoreDeskModel" 135 y_Mo_entryFits ∈ cd_AW := cd_A11_in _ (List.mem_of_getElem? (i := 33) rfl)
theorem aw_694 : Cond.instanceMethod y_Mo_entryFits ∈ cd_AW := cd_A11_in _ (List.mem_of_getElem? (i := 34) rfl)
theorem aw_695 : Cond.code y_Mo_entryFits prog_9_method_33_code 11 (some .boolean) ∈ cd_AW := cd_A11_in _ (List.mem_of_getElem? (i := 35) rfl)
theorem aw_696 : Cond.methodLink "CoreDeskModel" 110 y_Mo_badField ∈ cd_AW := cd_A11_in _ (List.mem_of_getElem? (i := 36) rfl)
theorem aw_697 : Cond.instanceMethod y_Mo_badField ∈ cd_AW := cd_A11_in _ (List.mem_of_getElem? (i := 37) rfl)
theorem aw_698 : Cond.code y_Mo_badField prog_9_method_31_code 8 (some .int) ∈ cd_AW := cd_A11_in _ (List.mem_of_getElem? (i := 38) rfl)
theorem aw_699 : Cond.methodLink "CoreDeskModel" 107 y_Mo_fourAt ∈ cd_AW := cd_A11_in _ (List.mem_of_getElem? (i := 39) rfl)
theorem aw_700 : Cond.instanceMethod y_Mo_fourAt ∈ cd_AW := cd_A11_in _ (List.mem_of_getElem? (i := 40) rfl)
theorem aw_701 : Cond.code y_Mo_fourAt prog_9_method_26_code 2 (some .int) ∈ cd_AW := cd_A11_in _ (List.mem_of_getElem? (i := 41) rfl)
theorem aw_702 : Cond.methodLink "CoreDeskModel" 114 y_Mo_meet ∈ cd_AW := cd_A11_in _ (List.mem_of_getElem? (i := 42) rfl)
theorem aw_703 : Cond.static y_Mo_meet ∈ cd_AW := cd_A11_in _ (List.mem_of_getElem? (i := 43) rfl)
theorem aw_704 : Cond.code y_Mo_meet prog_9_method_32_code 8 (some .boolean) ∈ cd_AW := cd_A11_in _ (List.mem_of_getElem? (i := 44) rfl)
theorem aw_705 : Cond.methodLink "CoreDeskModel" 138 y_Mo_notesFit ∈ cd_AW := cd_A11_in _ (List.mem_of_getElem? (i := 45) rfl)
theorem aw_706 : Cond.instanceMethod y_Mo_notesFit ∈ cd_AW := cd_A11_in _ (List.mem_of_getElem? (i := 46) rfl)
theorem aw_707 : Cond.code y_Mo_notesFit prog_9_method_36_code 4 (some .boolean) ∈ cd_AW := cd_A11_in _ (List.mem_of_getElem? (i := 47) rfl)
theorem aw_708 : Cond.methodLink "CoreDeskModel" 127 y_Mo_note ∈ cd_AW := cd_A11_in _ (List.mem_of_getElem? (i := 48) rfl)
theorem aw_709 : Cond.instanceMethod y_Mo_note ∈ cd_AW := cd_A11_in _ (List.mem_of_getElem? (i := 49) rfl)
theorem aw_710 : Cond.code y_Mo_note prog_9_method_35_code 8 (some .int) ∈ cd_AW := cd_A11_in _ (List.mem_of_getElem? (i := 50) rfl)
theorem aw_711 : Cond.methodLink "CoreDeskModel" 118 y_Mo_noteByte ∈ cd_AW := cd_A11_in _ (List.mem_of_getElem? (i := 51) rfl)
theorem aw_712 : Cond.static y_Mo_noteByte ∈ cd_AW := cd_A11_in _ (List.mem_of_getElem? (i := 52) rfl)
theorem aw_713 : Cond.code y_Mo_noteByte prog_9_method_34_code 1 (some .int) ∈ cd_AW := cd_A11_in _ (List.mem_of_getElem? (i := 53) rfl)
theorem aw_714 : Cond.constantLong "CoreDeskModel" 121 20 ∈ cd_AW := cd_A11_in _ (List.mem_of_getElem? (i := 54) rfl)
theorem aw_715 : Cond.constantLong "CoreDeskModel" 123 3 ∈ cd_AW := cd_A11_in _ (List.mem_of_getElem? (i := 55) rfl)
theorem aw_716 : Cond.constantLong "CoreDeskModel" 125 4 ∈ cd_AW := cd_A11_in _ (List.mem_of_getElem? (i := 56) rfl)
theorem aw_717 : Cond.methodLink "CoreDeskModel" 141 y_Mo_readRegions ∈ cd_AW := cd_A11_in _ (List.mem_of_getElem? (i := 57) rfl)
theorem aw_718 : Cond.instanceMethod y_Mo_readRegions ∈ cd_AW := cd_A11_in _ (List.mem_of_getElem? (i := 58) rfl)
theorem aw_719 : Cond.code y_Mo_readRegions prog_9_method_37_code 7 none ∈ cd_AW := cd_A11_in _ (List.mem_of_getElem? (i := 59) rfl)
theorem aw_720 : Cond.methodLink "CoreDeskLaw" 85 y_Mo_error ∈ cd_AW := cd_A12_in _ (List.mem_of_getElem? (i := 0) rfl)
theorem aw_721 : Cond.instanceMethod y_Mo_error ∈ cd_AW := cd_A12_in _ (List.mem_of_getElem? (i := 1) rfl)
theorem aw_722 : Cond.selects "CoreDeskModel" y_Mo_error y_Mo_error ∈ cd_AW := cd_A12_in _ (List.mem_of_getElem? (i := 2) rfl)
theorem aw_723 : Cond.code y_Mo_error prog_9_method_40_code 2 (some .int) ∈ cd_AW := cd_A12_in _ (List.mem_of_getElem? (i := 3) rfl)
theorem aw_724 : Cond.methodLink "CoreDeskLaw" 89 y_Mo_core ∈ cd_AW := cd_A12_in _ (List.mem_of_getElem? (i := 4) rfl)
theorem aw_725 : Cond.instanceMethod y_Mo_core ∈ cd_AW := cd_A12_in _ (List.mem_of_getElem? (i := 5) rfl)
theorem aw_726 : Cond.selects "CoreDeskModel" y_Mo_core y_Mo_core ∈ cd_AW := cd_A12_in _ (List.mem_of_getElem? (i := 6) rfl)
theorem aw_727 : Cond.code y_Mo_core prog_9_method_41_code 2 (some .int) ∈ cd_AW := cd_A12_in _ (List.mem_of_getElem? (i := 7) rfl)
theorem aw_728 : Cond.methodLink "CoreDeskLaw" 93 y_Mo_peek ∈ cd_AW := cd_A12_in _ (List.mem_of_getElem? (i := 8) rfl)
theorem aw_729 : Cond.instanceMethod y_Mo_peek ∈ cd_AW := cd_A12_in _ (List.mem_of_getElem? (i := 9) rfl)
theorem aw_730 : Cond.selects "CoreDeskModel" y_Mo_peek y_Mo_peek ∈ cd_AW := cd_A12_in _ (List.mem_of_getElem? (i := 10) rfl)
theorem aw_731 : Cond.code y_Mo_peek prog_9_method_42_code 2 (some .int) ∈ cd_AW := cd_A12_in _ (List.mem_of_getElem? (i := 11) rfl)
theorem aw_732 : Cond.methodLink "CoreDeskModel" 151 y_Mo_byteOf ∈ cd_AW := cd_A12_in _ (List.mem_of_getElem? (i := 12) rfl)
theorem aw_733 : Cond.instanceMethod y_Mo_byteOf ∈ cd_AW := cd_A12_in _ (List.mem_of_getElem? (i := 13) rfl)
theorem aw_734 : Cond.code y_Mo_byteOf prog_9_method_4_code 5 (some .int) ∈ cd_AW := cd_A12_in _ (List.mem_of_getElem? (i := 14) rfl)
theorem aw_735 : Cond.methodLink "CoreDeskLaw" 97 y_Mo_flags ∈ cd_AW := cd_A12_in _ (List.mem_of_getElem? (i := 15) rfl)
theorem aw_736 : Cond.instanceMethod y_Mo_flags ∈ cd_AW := cd_A12_in _ (List.mem_of_getElem? (i := 16) rfl)
theorem aw_737 : Cond.selects "CoreDeskModel" y_Mo_flags y_Mo_flags ∈ cd_AW := cd_A12_in _ (List.mem_of_getElem? (i := 17) rfl)
theorem aw_738 : Cond.code y_Mo_flags prog_9_method_43_code 3 (some .int) ∈ cd_AW := cd_A12_in _ (List.mem_of_getElem? (i := 18) rfl)
theorem aw_739 : Cond.methodLink "CoreDeskLaw" 101 y_Mo_register ∈ cd_AW := cd_A12_in _ (List.mem_of_getElem? (i := 19) rfl)
theorem aw_740 : Cond.instanceMethod y_Mo_register ∈ cd_AW := cd_A12_in _ (List.mem_of_getElem? (i := 20) rfl)
theorem aw_741 : Cond.selects "CoreDeskModel" y_Mo_register y_Mo_register ∈ cd_AW := cd_A12_in _ (List.mem_of_getElem? (i := 21) rfl)
theorem aw_742 : Cond.code y_Mo_register prog_9_method_44_code 3 (some .int) ∈ cd_AW := cd_A12_in _ (List.mem_of_getElem? (i := 22) rfl)
theorem aw_743 : Cond.methodLink "CoreDeskLaw" 105 y_Mo_find ∈ cd_AW := cd_A12_in _ (List.mem_of_getElem? (i := 23) rfl)
theorem aw_744 : Cond.instanceMethod y_Mo_find ∈ cd_AW := cd_A12_in _ (List.mem_of_getElem? (i := 24) rfl)
theorem aw_745 : Cond.selects "CoreDeskModel" y_Mo_find y_Mo_find ∈ cd_AW := cd_A12_in _ (List.mem_of_getElem? (i := 25) rfl)
theorem aw_746 : Cond.code y_Mo_find prog_9_method_46_code 8 (some .int) ∈ cd_AW := cd_A12_in _ (List.mem_of_getElem? (i := 26) rfl)
theorem aw_747 : Cond.methodLink "CoreDeskModel" 156 y_Mo_number ∈ cd_AW := cd_A12_in _ (List.mem_of_getElem? (i := 27) rfl)
theorem aw_748 : Cond.instanceMethod y_Mo_number ∈ cd_AW := cd_A12_in _ (List.mem_of_getElem? (i := 28) rfl)
theorem aw_749 : Cond.code y_Mo_number prog_9_method_45_code 3 (some .int) ∈ cd_AW := cd_A12_in _ (List.mem_of_getElem? (i := 29) rfl)
theorem aw_750 : Cond.constantLong "CoreDeskModel" 154 2 ∈ cd_AW := cd_A12_in _ (List.mem_of_getElem? (i := 30) rfl)
theorem aw_751 : Cond.methodLink "CoreDeskLaw" 109 y_Mo_caller ∈ cd_AW := cd_A12_in _ (List.mem_of_getElem? (i := 31) rfl)
theorem aw_752 : Cond.instanceMethod y_Mo_caller ∈ cd_AW := cd_A12_in _ (List.mem_of_getElem? (i := 32) rfl)
theorem aw_753 : Cond.selects "CoreDeskModel" y_Mo_caller y_Mo_caller ∈ cd_AW := cd_A12_in _ (List.mem_of_getElem? (i := 33) rfl)
theorem aw_754 : Cond.code y_Mo_caller prog_9_method_47_code 9 (some .int) ∈ cd_AW := cd_A12_in _ (List.mem_of_getElem? (i := 34) rfl)
theorem aw_755 : Cond.arrayClass .long ∈ cd_AW := cd_A12_in _ (List.mem_of_getElem? (i := 35) rfl)
theorem aw_756 : Cond.selects "CoreDesk$Memory" y_Mem_indexOf y_Mem_indexOf ∈ cd_AW := cd_A12_in _ (List.mem_of_getElem? (i := 36) rfl)
theorem aw_757 : Cond.selects "CoreDesk$ThreadTable" y_Tt_hasValue y_Tt_hasValue ∈ cd_AW := cd_A12_in _ (List.mem_of_getElem? (i := 37) rfl)
theorem aw_758 : Cond.selects "CoreDesk$FileWriter" y_Fw_writeHeader y_Fw_writeHeader ∈ cd_AW := cd_A12_in _ (List.mem_of_getElem? (i := 38) rfl)
theorem aw_759 : Cond.selects "CoreDesk$FileWriter" y_Fw_entries y_Fw_entries ∈ cd_AW := cd_A12_in _ (List.mem_of_getElem? (i := 39) rfl)
theorem aw_760 : Cond.selects "CoreDesk$FileWriter" y_Fw_writeEntries y_Fw_writeEntries ∈ cd_AW := cd_A12_in _ (List.mem_of_getElem? (i := 40) rfl)
theorem aw_761 : Cond.selects "CoreDesk$FileWriter" y_Fw_writeNotesEntry y_Fw_writeNotesEntry ∈ cd_AW := cd_A12_in _ (List.mem_of_getElem? (i := 41) rfl)
theorem aw_762 : Cond.selects "CoreDesk$FileWriter" y_Fw_writeFour y_Fw_writeFour ∈ cd_AW := cd_A12_in _ (List.mem_of_getElem? (i := 42) rfl)
theorem aw_763 : Cond.selects "CoreDesk$FileWriter" y_Fw_writeRegionEntry y_Fw_writeRegionEntry ∈ cd_AW := cd_A12_in _ (List.mem_of_getElem? (i := 43) rfl)
theorem aw_764 : Cond.selects "CoreDesk$FileWriter" y_Fw_writeNote y_Fw_writeNote ∈ cd_AW := cd_A12_in _ (List.mem_of_getElem? (i := 44) rfl)
theorem aw_765 : Cond.selects "CoreDesk$Region" y_Reg_numberAt y_Reg_numberAt ∈ cd_AW := cd_A12_in _ (List.mem_of_getElem? (i := 45) rfl)
theorem aw_766 : Cond.selects "CoreDesk" y_Desk_isFrame y_Desk_isFrame ∈ cd_AW := cd_A12_in _ (List.mem_of_getElem? (i := 46) rfl)
theorem aw_767 : Cond.selects "CoreDesk$TapeCheck" y_Tc_headerPasses y_Tc_headerPasses ∈ cd_AW := cd_A12_in _ (List.mem_of_getElem? (i := 47) rfl)
theorem aw_768 : Cond.selects "CoreDesk$TapeCheck" y_Tc_refuse y_Tc_refuse ∈ cd_AW := cd_A12_in _ (List.mem_of_getElem? (i := 48) rfl)
theorem aw_769 : Cond.selects "CoreDesk$TapeCheck" y_Tc_headerFieldFits y_Tc_headerFieldFits ∈ cd_AW := cd_A12_in _ (List.mem_of_getElem? (i := 49) rfl)
theorem aw_770 : Cond.selects "CoreDesk$TapeCheck" y_Tc_fieldPlace y_Tc_fieldPlace ∈ cd_AW := cd_A12_in _ (List.mem_of_getElem? (i := 50) rfl)
theorem aw_771 : Cond.selects "CoreDesk$TapeCheck" y_Tc_entriesPass y_Tc_entriesPass ∈ cd_AW := cd_A12_in _ (List.mem_of_getElem? (i := 51) rfl)
theorem aw_772 : Cond.selects "CoreDesk$TapeCheck" y_Tc_fieldsPass y_Tc_fieldsPass ∈ cd_AW := cd_A12_in _ (List.mem_of_getElem? (i := 52) rfl)
theorem aw_773 : Cond.selects "CoreDesk$TapeCheck" y_Tc_notesFieldFits y_Tc_notesFieldFits ∈ cd_AW := cd_A12_in _ (List.mem_of_getElem? (i := 53) rfl)
theorem aw_774 : Cond.selects "CoreDesk$TapeCheck" y_Tc_regionFieldFits y_Tc_regionFieldFits ∈ cd_AW := cd_A12_in _ (List.mem_of_getElem? (i := 54) rfl)
theorem aw_775 : Cond.selects "CoreDesk$TapeCheck" y_Tc_bytesPass y_Tc_bytesPass ∈ cd_AW := cd_A12_in _ (List.mem_of_getElem? (i := 55) rfl)
theorem aw_776 : Cond.selects "CoreDesk$TapeCheck" y_Tc_addressesPass y_Tc_addressesPass ∈ cd_AW := cd_A12_in _ (List.mem_of_getElem? (i := 56) rfl)
theorem aw_777 : Cond.selects "CoreDesk$TapeCheck" y_Tc_notesPass y_Tc_notesPass ∈ cd_AW := cd_A12_in _ (List.mem_of_getElem? (i := 57) rfl)
theorem aw_778 : Cond.selects "CoreDesk$TapeCheck" y_Tc_noteHeadPasses y_Tc_noteHeadPasses ∈ cd_AW := cd_A12_in _ (List.mem_of_getElem? (i := 58) rfl)
theorem aw_779 : Cond.selects "CoreDesk$TapeCheck" y_Tc_noteSize y_Tc_noteSize ∈ cd_AW := cd_A12_in _ (List.mem_of_getElem? (i := 59) rfl)
theorem aw_780 : Cond.selects "CoreDesk$TapeCheck" y_Tc_padded y_Tc_padded ∈ cd_AW := cd_A13_in _ (List.mem_of_getElem? (i := 0) rfl)
theorem aw_781 : Cond.selects "CoreDesk$TapeCheck" y_Tc_threadPasses y_Tc_threadPasses ∈ cd_AW := cd_A13_in _ (List.mem_of_getElem? (i := 1) rfl)
theorem aw_782 : Cond.selects "java/lang/Throwable" ⟨"java/lang/Throwable", "fillInStackTrace", "(I)Ljava/lang/Throwable;"⟩ ⟨"java/lang/Throwable", "fillInStackTrace", "(I)Ljava/lang/Throwable;"⟩ ∈ cd_AW := cd_A13_in _ (List.mem_of_getElem? (i := 2) rfl)
theorem aw_783 : Cond.selects "CoreDesk" y_Desk_takeCore y_Desk_takeCore ∈ cd_AW := cd_A13_in _ (List.mem_of_getElem? (i := 3) rfl)
theorem aw_784 : Cond.selects "CoreDeskModel" y_Mo_within y_Mo_within ∈ cd_AW := cd_A13_in _ (List.mem_of_getElem? (i := 4) rfl)
theorem aw_785 : Cond.selects "CoreDeskModel" y_Mo_move y_Mo_move ∈ cd_AW := cd_A13_in _ (List.mem_of_getElem? (i := 5) rfl)
theorem aw_786 : Cond.selects "CoreDeskModel" y_Mo_hasId y_Mo_hasId ∈ cd_AW := cd_A13_in _ (List.mem_of_getElem? (i := 6) rfl)
theorem aw_787 : Cond.selects "CoreDeskModel" y_Mo_header y_Mo_header ∈ cd_AW := cd_A13_in _ (List.mem_of_getElem? (i := 7) rfl)
theorem aw_788 : Cond.selects "CoreDeskModel" y_Mo_lay y_Mo_lay ∈ cd_AW := cd_A13_in _ (List.mem_of_getElem? (i := 8) rfl)
theorem aw_789 : Cond.selects "CoreDeskModel" y_Mo_two y_Mo_two ∈ cd_AW := cd_A13_in _ (List.mem_of_getElem? (i := 9) rfl)
theorem aw_790 : Cond.selects "CoreDeskModel" y_Mo_four y_Mo_four ∈ cd_AW := cd_A13_in _ (List.mem_of_getElem? (i := 10) rfl)
theorem aw_791 : Cond.selects "CoreDeskModel" y_Mo_programHeader y_Mo_programHeader ∈ cd_AW := cd_A13_in _ (List.mem_of_getElem? (i := 11) rfl)
theorem aw_792 : Cond.selects "CoreDeskModel" y_Mo_above y_Mo_above ∈ cd_AW := cd_A13_in _ (List.mem_of_getElem? (i := 12) rfl)
theorem aw_793 : Cond.selects "CoreDeskModel" y_Mo_filled y_Mo_filled ∈ cd_AW := cd_A13_in _ (List.mem_of_getElem? (i := 13) rfl)
theorem aw_794 : Cond.selects "CoreDeskModel" y_Mo_reads y_Mo_reads ∈ cd_AW := cd_A13_in _ (List.mem_of_getElem? (i := 14) rfl)
theorem aw_795 : Cond.selects "CoreDeskModel" y_Mo_headerFits y_Mo_headerFits ∈ cd_AW := cd_A13_in _ (List.mem_of_getElem? (i := 15) rfl)
theorem aw_796 : Cond.selects "CoreDeskModel" y_Mo_isWrong y_Mo_isWrong ∈ cd_AW := cd_A13_in _ (List.mem_of_getElem? (i := 16) rfl)
theorem aw_797 : Cond.selects "CoreDeskModel" y_Mo_twoAt y_Mo_twoAt ∈ cd_AW := cd_A13_in _ (List.mem_of_getElem? (i := 17) rfl)
theorem aw_798 : Cond.selects "CoreDeskModel" y_Mo_entryFits y_Mo_entryFits ∈ cd_AW := cd_A13_in _ (List.mem_of_getElem? (i := 18) rfl)
theorem aw_799 : Cond.selects "CoreDeskModel" y_Mo_badField y_Mo_badField ∈ cd_AW := cd_A13_in _ (List.mem_of_getElem? (i := 19) rfl)
theorem aw_800 : Cond.selects "CoreDeskModel" y_Mo_fourAt y_Mo_fourAt ∈ cd_AW := cd_A13_in _ (List.mem_of_getElem? (i := 20) rfl)
theorem aw_801 : Cond.selects "CoreDeskModel" y_Mo_notesFit y_Mo_notesFit ∈ cd_AW := cd_A13_in _ (List.mem_of_getElem? (i := 21) rfl)
theorem aw_802 : Cond.selects "CoreDeskModel" y_Mo_note y_Mo_note ∈ cd_AW := cd_A13_in _ (List.mem_of_getElem? (i := 22) rfl)
theorem aw_803 : Cond.selects "CoreDeskModel" y_Mo_readRegions y_Mo_readRegions ∈ cd_AW := cd_A13_in _ (List.mem_of_getElem? (i := 23) rfl)
theorem aw_804 : Cond.selects "CoreDeskModel" y_Mo_byteOf y_Mo_byteOf ∈ cd_AW := cd_A13_in _ (List.mem_of_getElem? (i := 24) rfl)
theorem aw_805 : Cond.selects "CoreDeskModel" y_Mo_number y_Mo_number ∈ cd_AW := cd_A13_in _ (List.mem_of_getElem? (i := 25) rfl)
def cd_nest : List (String × Nat × String × String × String × String) := [("CoreDesk$FileWriter", 52, "CoreDesk$Region", "bytes", "[B", "CoreDesk"), ("CoreDesk$Memory", 44, "CoreDesk$Region", "bytes", "[B", "CoreDesk"), ("CoreDesk$Memory", 26, "CoreDesk$Region", "address", "I", "CoreDesk"), ("CoreDesk$FileWriter", 89, "CoreDesk$Region", "address", "I", "CoreDesk"), ("CoreDesk$Memory", 29, "CoreDesk$Region", "size", "I", "CoreDesk"), ("CoreDesk$FileWriter", 93, "CoreDesk$Region", "size", "I", "CoreDesk"), ("CoreDesk$FileWriter", 96, "CoreDesk$Region", "permissions", "I", "CoreDesk"), ("CoreDesk$Memory", 60, "CoreDesk$Region", "permissions", "I", "CoreDesk"), ("CoreDesk$FileWriter", 65, "CoreDesk", "HEADER_VALUES", "[I", "CoreDesk"), ("CoreDesk$FileWriter", 69, "CoreDesk", "HEADER_WIDTHS", "[I", "CoreDesk"), ("CoreDesk$FileWriter", 99, "CoreDesk", "NOTE_NAME", "[I", "CoreDesk"), ("CoreDesk$TapeCheck", 59, "CoreDesk", "HEADER_VALUES", "[I", "CoreDesk"), ("CoreDesk$TapeCheck", 63, "CoreDesk", "HEADER_WIDTHS", "[I", "CoreDesk"), ("CoreDesk$TapeCheck", 114, "CoreDesk", "NOTE_NAME", "[I", "CoreDesk")]
def cd_N (U : State) : Prop := ∀ t ∈ cd_nest, va_Nw (.fieldLinkNest t.1 t.2.1 t.2.2.1 t.2.2.2.1 t.2.2.2.2.1 t.2.2.2.2.2) U
theorem nw_0 {U : State} (h : cd_N U) : va_Nw (.fieldLinkNest "CoreDesk$FileWriter" 52 "CoreDesk$Region" "bytes" "[B" "CoreDesk") U := h ("CoreDesk$FileWriter", 52, "CoreDesk$Region", "bytes", "[B", "CoreDesk") (List.mem_of_getElem? (i := 0) rfl)
theorem nw_1 {U : State} (h : cd_N U) : va_Nw (.fieldLinkNest "CoreDesk$Memory" 44 "CoreDesk$Region" "bytes" "[B" "CoreDesk") U := h ("CoreDesk$Memory", 44, "CoreDesk$Region", "bytes", "[B", "CoreDesk") (List.mem_of_getElem? (i := 1) rfl)
theorem nw_2 {U : State} (h : cd_N U) : va_Nw (.fieldLinkNest "CoreDesk$Memory" 26 "CoreDesk$Region" "address" "I" "CoreDesk") U := h ("CoreDesk$Memory", 26, "CoreDesk$Region", "address", "I", "CoreDesk") (List.mem_of_getElem? (i := 2) rfl)
theorem nw_3 {U : State} (h : cd_N U) : va_Nw (.fieldLinkNest "CoreDesk$FileWriter" 89 "CoreDesk$Region" "address" "I" "CoreDesk") U := h ("CoreDesk$FileWriter", 89, "CoreDesk$Region", "address", "I", "CoreDesk") (List.mem_of_getElem? (i := 3) rfl)
theorem nw_4 {U : State} (h : cd_N U) : va_Nw (.fieldLinkNest "CoreDesk$Memory" 29 "CoreDesk$Region" "size" "I" "CoreDesk") U := h ("CoreDesk$Memory", 29, "CoreDesk$Region", "size", "I", "CoreDesk") (List.mem_of_getElem? (i := 4) rfl)
theorem nw_5 {U : State} (h : cd_N U) : va_Nw (.fieldLinkNest "CoreDesk$FileWriter" 93 "CoreDesk$Region" "size" "I" "CoreDesk") U := h ("CoreDesk$FileWriter", 93, "CoreDesk$Region", "size", "I", "CoreDesk") (List.mem_of_getElem? (i := 5) rfl)
theorem nw_6 {U : State} (h : cd_N U) : va_Nw (.fieldLinkNest "CoreDesk$FileWriter" 96 "CoreDesk$Region" "permissions" "I" "CoreDesk") U := h ("CoreDesk$FileWriter", 96, "CoreDesk$Region", "permissions", "I", "CoreDesk") (List.mem_of_getElem? (i := 6) rfl)
theorem nw_7 {U : State} (h : cd_N U) : va_Nw (.fieldLinkNest "CoreDesk$Memory" 60 "CoreDesk$Region" "permissions" "I" "CoreDesk") U := h ("CoreDesk$Memory", 60, "CoreDesk$Region", "permissions", "I", "CoreDesk") (List.mem_of_getElem? (i := 7) rfl)
theorem nw_8 {U : State} (h : cd_N U) : va_Nw (.fieldLinkNest "CoreDesk$FileWriter" 65 "CoreDesk" "HEADER_VALUES" "[I" "CoreDesk") U := h ("CoreDesk$FileWriter", 65, "CoreDesk", "HEADER_VALUES", "[I", "CoreDesk") (List.mem_of_getElem? (i := 8) rfl)
theorem nw_9 {U : State} (h : cd_N U) : va_Nw (.fieldLinkNest "CoreDesk$FileWriter" 69 "CoreDesk" "HEADER_WIDTHS" "[I" "CoreDesk") U := h ("CoreDesk$FileWriter", 69, "CoreDesk", "HEADER_WIDTHS", "[I", "CoreDesk") (List.mem_of_getElem? (i := 9) rfl)
theorem nw_10 {U : State} (h : cd_N U) : va_Nw (.fieldLinkNest "CoreDesk$FileWriter" 99 "CoreDesk" "NOTE_NAME" "[I" "CoreDesk") U := h ("CoreDesk$FileWriter", 99, "CoreDesk", "NOTE_NAME", "[I", "CoreDesk") (List.mem_of_getElem? (i := 10) rfl)
theorem nw_11 {U : State} (h : cd_N U) : va_Nw (.fieldLinkNest "CoreDesk$TapeCheck" 59 "CoreDesk" "HEADER_VALUES" "[I" "CoreDesk") U := h ("CoreDesk$TapeCheck", 59, "CoreDesk", "HEADER_VALUES", "[I", "CoreDesk") (List.mem_of_getElem? (i := 11) rfl)
theorem nw_12 {U : State} (h : cd_N U) : va_Nw (.fieldLinkNest "CoreDesk$TapeCheck" 63 "CoreDesk" "HEADER_WIDTHS" "[I" "CoreDesk") U := h ("CoreDesk$TapeCheck", 63, "CoreDesk", "HEADER_WIDTHS", "[I", "CoreDesk") (List.mem_of_getElem? (i := 12) rfl)
theorem nw_13 {U : State} (h : cd_N U) : va_Nw (.fieldLinkNest "CoreDesk$TapeCheck" 114 "CoreDesk" "NOTE_NAME" "[I" "CoreDesk") U := h ("CoreDesk$TapeCheck", 114, "CoreDesk", "NOTE_NAME", "[I", "CoreDesk") (List.mem_of_getElem? (i := 13) rfl)
theorem in_Row : ∀ w ∈ u_ws R_Row F_Row 2, w ∈ cd_AW := by
  intro w hw
  have h : w ∈ ([.laysFinal "CoreDesk$Row" "CoreDesk$Row" "bytes" "[B", .lays "CoreDesk$Row" "CoreDesk$Row" "length" "I"] : List Cond) := hw
  simp only [List.mem_cons, List.not_mem_nil, or_false] at h
  rcases h with rfl | rfl
  · exact aw_70
  · exact aw_71
theorem in_Reg : ∀ w ∈ u_ws R_Reg F_Reg 4, w ∈ cd_AW := by
  intro w hw
  have h : w ∈ ([.laysFinal "CoreDesk$Region" "CoreDesk$Region" "bytes" "[B", .lays "CoreDesk$Region" "CoreDesk$Region" "address" "I", .lays "CoreDesk$Region" "CoreDesk$Region" "size" "I", .lays "CoreDesk$Region" "CoreDesk$Region" "permissions" "I"] : List Cond) := hw
  simp only [List.mem_cons, List.not_mem_nil, or_false] at h
  rcases h with rfl | rfl | rfl | rfl
  · exact aw_40
  · exact aw_41
  · exact aw_42
  · exact aw_43
theorem in_Tt : ∀ w ∈ u_ws R_Tt F_Tt 3, w ∈ cd_AW := by
  intro w hw
  have h : w ∈ ([.laysFinal "CoreDesk$ThreadTable" "CoreDesk$ThreadTable" "ids" "[I", .laysFinal "CoreDesk$ThreadTable" "CoreDesk$ThreadTable" "values" "[I", .lays "CoreDesk$ThreadTable" "CoreDesk$ThreadTable" "count" "I"] : List Cond) := hw
  simp only [List.mem_cons, List.not_mem_nil, or_false] at h
  rcases h with rfl | rfl | rfl
  · exact aw_58
  · exact aw_59
  · exact aw_60
theorem in_Mem : ∀ w ∈ u_ws R_Mem F_Mem 2, w ∈ cd_AW := by
  intro w hw
  have h : w ∈ ([.laysFinal "CoreDesk$Memory" "CoreDesk$Memory" "regions" "[LCoreDesk$Region;", .lays "CoreDesk$Memory" "CoreDesk$Memory" "count" "I"] : List Cond) := hw
  simp only [List.mem_cons, List.not_mem_nil, or_false] at h
  rcases h with rfl | rfl
  · exact aw_47
  · exact aw_48
theorem in_Fw : ∀ w ∈ u_ws R_Fw F_Fw 3, w ∈ cd_AW := by
  intro w hw
  have h : w ∈ ([.laysFinal "CoreDesk$FileWriter" "CoreDesk$FileWriter" "file" "LCoreDesk$Row;", .laysFinal "CoreDesk$FileWriter" "CoreDesk$FileWriter" "memory" "LCoreDesk$Memory;", .laysFinal "CoreDesk$FileWriter" "CoreDesk$FileWriter" "threads" "LCoreDesk$ThreadTable;"] : List Cond) := hw
  simp only [List.mem_cons, List.not_mem_nil, or_false] at h
  rcases h with rfl | rfl | rfl
  · exact aw_81
  · exact aw_82
  · exact aw_83
theorem in_Tc : ∀ w ∈ u_ws R_Tc F_Tc 4, w ∈ cd_AW := by
  intro w hw
  have h : w ∈ ([.laysFinal "CoreDesk$TapeCheck" "CoreDesk$TapeCheck" "tape" "LCoreDesk$Row;", .laysFinal "CoreDesk$TapeCheck" "CoreDesk$TapeCheck" "found" "LCoreDesk$ThreadTable;", .lays "CoreDesk$TapeCheck" "CoreDesk$TapeCheck" "wrong" "I", .lays "CoreDesk$TapeCheck" "CoreDesk$TapeCheck" "place" "I"] : List Cond) := hw
  simp only [List.mem_cons, List.not_mem_nil, or_false] at h
  rcases h with rfl | rfl | rfl | rfl
  · exact aw_96
  · exact aw_97
  · exact aw_98
  · exact aw_99
theorem in_Desk : ∀ w ∈ u_ws R_Desk F_Desk 9, w ∈ cd_AW := by
  intro w hw
  have h : w ∈ ([.laysFinal "CoreDesk" "CoreDesk" "memory" "LCoreDesk$Memory;", .laysFinal "CoreDesk" "CoreDesk" "threads" "LCoreDesk$ThreadTable;", .laysFinal "CoreDesk" "CoreDesk" "file" "LCoreDesk$Row;", .laysFinal "CoreDesk" "CoreDesk" "writer" "LCoreDesk$FileWriter;", .laysFinal "CoreDesk" "CoreDesk" "tape" "LCoreDesk$Row;", .laysFinal "CoreDesk" "CoreDesk" "check" "LCoreDesk$TapeCheck;", .laysFinal "CoreDesk" "CoreDesk" "coreMemory" "LCoreDesk$Memory;", .laysFinal "CoreDesk" "CoreDesk" "coreThreads" "LCoreDesk$ThreadTable;", .lays "CoreDesk" "CoreDesk" "hasCore" "Z"] : List Cond) := hw
  simp only [List.mem_cons, List.not_mem_nil, or_false] at h
  rcases h with rfl | rfl | rfl | rfl | rfl | rfl | rfl | rfl | rfl
  · exact aw_109
  · exact aw_110
  · exact aw_111
  · exact aw_112
  · exact aw_113
  · exact aw_114
  · exact aw_115
  · exact aw_116
  · exact aw_117
theorem in_Mo : ∀ w ∈ u_ws R_Mo F_Mo 16, w ∈ cd_AW := by
  intro w hw
  have h : w ∈ ([.lays "CoreDeskModel" "CoreDeskModel" "thrown" "I", .laysFinal "CoreDeskModel" "CoreDeskModel" "address" "[I", .laysFinal "CoreDeskModel" "CoreDeskModel" "size" "[I", .laysFinal "CoreDeskModel" "CoreDeskModel" "flag" "[I", .laysFinal "CoreDeskModel" "CoreDeskModel" "bytes" "[B", .laysFinal "CoreDeskModel" "CoreDeskModel" "regions" "[I", .laysFinal "CoreDeskModel" "CoreDeskModel" "threads" "[I", .laysFinal "CoreDeskModel" "CoreDeskModel" "id" "[I", .laysFinal "CoreDeskModel" "CoreDeskModel" "register" "[I", .laysFinal "CoreDeskModel" "CoreDeskModel" "file" "[B", .lays "CoreDeskModel" "CoreDeskModel" "fileSize" "I", .laysFinal "CoreDeskModel" "CoreDeskModel" "tape" "[B", .lays "CoreDeskModel" "CoreDeskModel" "tapeSize" "I", .lays "CoreDeskModel" "CoreDeskModel" "hasCore" "Z", .lays "CoreDeskModel" "CoreDeskModel" "wrong" "I", .lays "CoreDeskModel" "CoreDeskModel" "where" "I"] : List Cond) := hw
  simp only [List.mem_cons, List.not_mem_nil, or_false] at h
  rcases h with rfl | rfl | rfl | rfl | rfl | rfl | rfl | rfl | rfl | rfl | rfl | rfl | rfl | rfl | rfl | rfl
  · exact aw_576
  · exact aw_577
  · exact aw_578
  · exact aw_579
  · exact aw_580
  · exact aw_581
  · exact aw_582
  · exact aw_583
  · exact aw_584
  · exact aw_585
  · exact aw_586
  · exact aw_587
  · exact aw_588
  · exact aw_589
  · exact aw_590
  · exact aw_591
def w_Desk_init : List Cond := .code y_Desk_init b_Desk_init 1 none :: cd_AW
def w_Desk_map : List Cond := .code y_Desk_map b_Desk_map 4 (some .boolean) :: cd_AW
def w_Desk_unmap : List Cond := .code y_Desk_unmap b_Desk_unmap 2 (some .boolean) :: cd_AW
def w_Desk_poke : List Cond := .code y_Desk_poke b_Desk_poke 3 (some .boolean) :: cd_AW
def w_Desk_pokeFour : List Cond := .code y_Desk_pokeFour b_Desk_pokeFour 3 (some .boolean) :: cd_AW
def w_Desk_thread : List Cond := .code y_Desk_thread b_Desk_thread 2 (some .int) :: cd_AW
def w_Desk_set : List Cond := .code y_Desk_set b_Desk_set 4 (some .boolean) :: cd_AW
def w_Desk_dump : List Cond := .code y_Desk_dump b_Desk_dump 1 (some .int) :: cd_AW
def w_Desk_byteAt : List Cond := .code y_Desk_byteAt b_Desk_byteAt 2 (some .int) :: cd_AW
def w_Desk_copy : List Cond := .code y_Desk_copy b_Desk_copy 1 (some .int) :: cd_AW
def w_Desk_put : List Cond := .code y_Desk_put b_Desk_put 3 (some .boolean) :: cd_AW
def w_Desk_cut : List Cond := .code y_Desk_cut b_Desk_cut 2 (some .boolean) :: cd_AW
def w_Desk_load : List Cond := .code y_Desk_load b_Desk_load 1 (some .int) :: cd_AW
def w_Desk_error : List Cond := .code y_Desk_error b_Desk_error 2 (some .int) :: cd_AW
def w_Desk_core : List Cond := .code y_Desk_core b_Desk_core 2 (some .int) :: cd_AW
def w_Desk_peek : List Cond := .code y_Desk_peek b_Desk_peek 2 (some .int) :: cd_AW
def w_Desk_flags : List Cond := .code y_Desk_flags b_Desk_flags 2 (some .int) :: cd_AW
def w_Desk_register : List Cond := .code y_Desk_register b_Desk_register 3 (some .int) :: cd_AW
def w_Desk_find : List Cond := .code y_Desk_find b_Desk_find 3 (some .int) :: cd_AW
def w_Desk_caller : List Cond := .code y_Desk_caller b_Desk_caller 6 (some .int) :: cd_AW
def w_Desk_isFrame : List Cond := .code y_Desk_isFrame b_Desk_isFrame 3 (some .boolean) :: cd_AW
def w_Desk_takeCore : List Cond := .code y_Desk_takeCore b_Desk_takeCore 4 none :: cd_AW
def w_Row_init : List Cond := .code y_Row_init b_Row_init 2 none :: cd_AW
def w_Row_length : List Cond := .code y_Row_length b_Row_length 1 (some .int) :: cd_AW
def w_Row_at : List Cond := .code y_Row_at b_Row_at 2 (some .int) :: cd_AW
def w_Row_number : List Cond := .code y_Row_number b_Row_number 5 (some .int) :: cd_AW
def w_Row_change : List Cond := .code y_Row_change b_Row_change 3 (some .boolean) :: cd_AW
def w_Row_append : List Cond := .code y_Row_append b_Row_append 2 (some .boolean) :: cd_AW
def w_Row_appendNumber : List Cond := .code y_Row_appendNumber b_Row_appendNumber 5 none :: cd_AW
def w_Row_appendBytes : List Cond := .code y_Row_appendBytes b_Row_appendBytes 3 none :: cd_AW
def w_Row_giveBytes : List Cond := .code y_Row_giveBytes b_Row_giveBytes 4 none :: cd_AW
def w_Row_shorten : List Cond := .code y_Row_shorten b_Row_shorten 2 (some .boolean) :: cd_AW
def w_Row_become : List Cond := .code y_Row_become b_Row_become 2 none :: cd_AW
def w_Reg_init : List Cond := .code y_Reg_init b_Reg_init 1 none :: cd_AW
def w_Reg_begin : List Cond := .code y_Reg_begin b_Reg_begin 4 none :: cd_AW
def w_Reg_has : List Cond := .code y_Reg_has b_Reg_has 2 (some .boolean) :: cd_AW
def w_Reg_read : List Cond := .code y_Reg_read b_Reg_read 2 (some .int) :: cd_AW
def w_Reg_write : List Cond := .code y_Reg_write b_Reg_write 3 none :: cd_AW
def w_Reg_usedBytes : List Cond := .code y_Reg_usedBytes b_Reg_usedBytes 2 (some .int) :: cd_AW
def w_Reg_search : List Cond := .code y_Reg_search b_Reg_search 5 (some .int) :: cd_AW
def w_Reg_numberAt : List Cond := .code y_Reg_numberAt b_Reg_numberAt 2 (some .int) :: cd_AW
def w_Mem_init : List Cond := .code y_Mem_init b_Mem_init 2 none :: cd_AW
def w_Mem_count : List Cond := .code y_Mem_count b_Mem_count 1 (some .int) :: cd_AW
def w_Mem_clear : List Cond := .code y_Mem_clear b_Mem_clear 1 none :: cd_AW
def w_Mem_addRegion : List Cond := .code y_Mem_addRegion b_Mem_addRegion 7 (some .boolean) :: cd_AW
def w_Mem_removeRegion : List Cond := .code y_Mem_removeRegion b_Mem_removeRegion 5 (some .boolean) :: cd_AW
def w_Mem_fillRegion : List Cond := .code y_Mem_fillRegion b_Mem_fillRegion 6 none :: cd_AW
def w_Mem_regionAt : List Cond := .code y_Mem_regionAt b_Mem_regionAt 2 (some (.object "CoreDesk$Region")) :: cd_AW
def w_Mem_holds : List Cond := .code y_Mem_holds b_Mem_holds 4 (some .boolean) :: cd_AW
def w_Mem_readByte : List Cond := .code y_Mem_readByte b_Mem_readByte 3 (some .int) :: cd_AW
def w_Mem_readNumber : List Cond := .code y_Mem_readNumber b_Mem_readNumber 4 (some .int) :: cd_AW
def w_Mem_flagsAt : List Cond := .code y_Mem_flagsAt b_Mem_flagsAt 3 (some .int) :: cd_AW
def w_Mem_writeByte : List Cond := .code y_Mem_writeByte b_Mem_writeByte 4 (some .boolean) :: cd_AW
def w_Mem_writeNumber : List Cond := .code y_Mem_writeNumber b_Mem_writeNumber 4 (some .boolean) :: cd_AW
def w_Mem_search : List Cond := .code y_Mem_search b_Mem_search 5 (some .int) :: cd_AW
def w_Mem_indexOf : List Cond := .code y_Mem_indexOf b_Mem_indexOf 3 (some .int) :: cd_AW
def w_Mem_isSpan : List Cond := .code y_Mem_isSpan b_Mem_isSpan 2 (some .boolean) :: cd_AW
def w_Mem_overlap : List Cond := .code y_Mem_overlap b_Mem_overlap 4 (some .boolean) :: cd_AW
def w_Tt_init : List Cond := .code y_Tt_init b_Tt_init 1 none :: cd_AW
def w_Tt_count : List Cond := .code y_Tt_count b_Tt_count 1 (some .int) :: cd_AW
def w_Tt_clear : List Cond := .code y_Tt_clear b_Tt_clear 1 none :: cd_AW
def w_Tt_has : List Cond := .code y_Tt_has b_Tt_has 2 (some .boolean) :: cd_AW
def w_Tt_hasId : List Cond := .code y_Tt_hasId b_Tt_hasId 3 (some .boolean) :: cd_AW
def w_Tt_add : List Cond := .code y_Tt_add b_Tt_add 2 (some .int) :: cd_AW
def w_Tt_id : List Cond := .code y_Tt_id b_Tt_id 2 (some .int) :: cd_AW
def w_Tt_read : List Cond := .code y_Tt_read b_Tt_read 3 (some .int) :: cd_AW
def w_Tt_write : List Cond := .code y_Tt_write b_Tt_write 4 (some .boolean) :: cd_AW
def w_Tt_become : List Cond := .code y_Tt_become b_Tt_become 2 none :: cd_AW
def w_Tt_hasValue : List Cond := .code y_Tt_hasValue b_Tt_hasValue 3 (some .boolean) :: cd_AW
def w_Fw_init : List Cond := .code y_Fw_init b_Fw_init 4 none :: cd_AW
def w_Fw_writeFile : List Cond := .code y_Fw_writeFile b_Fw_writeFile 3 none :: cd_AW
def w_Fw_entries : List Cond := .code y_Fw_entries b_Fw_entries 1 (some .int) :: cd_AW
def w_Fw_writeHeader : List Cond := .code y_Fw_writeHeader b_Fw_writeHeader 3 none :: cd_AW
def w_Fw_writeEntries : List Cond := .code y_Fw_writeEntries b_Fw_writeEntries 6 none :: cd_AW
def w_Fw_writeNotesEntry : List Cond := .code y_Fw_writeNotesEntry b_Fw_writeNotesEntry 3 none :: cd_AW
def w_Fw_writeRegionEntry : List Cond := .code y_Fw_writeRegionEntry b_Fw_writeRegionEntry 4 none :: cd_AW
def w_Fw_writeNote : List Cond := .code y_Fw_writeNote b_Fw_writeNote 3 none :: cd_AW
def w_Fw_writeFour : List Cond := .code y_Fw_writeFour b_Fw_writeFour 2 none :: cd_AW
def w_Tc_init : List Cond := .code y_Tc_init b_Tc_init 2 none :: cd_AW
def w_Tc_wrong : List Cond := .code y_Tc_wrong b_Tc_wrong 1 (some .int) :: cd_AW
def w_Tc_place : List Cond := .code y_Tc_place b_Tc_place 1 (some .int) :: cd_AW
def w_Tc_threadsFound : List Cond := .code y_Tc_threadsFound b_Tc_threadsFound 1 (some (.object "CoreDesk$ThreadTable")) :: cd_AW
def w_Tc_entries : List Cond := .code y_Tc_entries b_Tc_entries 1 (some .int) :: cd_AW
def w_Tc_entryField : List Cond := .code y_Tc_entryField b_Tc_entryField 3 (some .int) :: cd_AW
def w_Tc_passes : List Cond := .code y_Tc_passes b_Tc_passes 1 (some .boolean) :: cd_AW
def w_Tc_refuse : List Cond := .code y_Tc_refuse b_Tc_refuse 3 (some .boolean) :: cd_AW
def w_Tc_fieldPlace : List Cond := .code y_Tc_fieldPlace b_Tc_fieldPlace 3 (some .int) :: cd_AW
def w_Tc_headerPasses : List Cond := .code y_Tc_headerPasses b_Tc_headerPasses 3 (some .boolean) :: cd_AW
def w_Tc_headerFieldFits : List Cond := .code y_Tc_headerFieldFits b_Tc_headerFieldFits 3 (some .boolean) :: cd_AW
def w_Tc_entriesPass : List Cond := .code y_Tc_entriesPass b_Tc_entriesPass 3 (some .boolean) :: cd_AW
def w_Tc_fieldsPass : List Cond := .code y_Tc_fieldsPass b_Tc_fieldsPass 5 (some .boolean) :: cd_AW
def w_Tc_notesFieldFits : List Cond := .code y_Tc_notesFieldFits b_Tc_notesFieldFits 3 (some .boolean) :: cd_AW
def w_Tc_regionFieldFits : List Cond := .code y_Tc_regionFieldFits b_Tc_regionFieldFits 4 (some .boolean) :: cd_AW
def w_Tc_bytesPass : List Cond := .code y_Tc_bytesPass b_Tc_bytesPass 5 (some .boolean) :: cd_AW
def w_Tc_addressesPass : List Cond := .code y_Tc_addressesPass b_Tc_addressesPass 5 (some .boolean) :: cd_AW
def w_Tc_notesPass : List Cond := .code y_Tc_notesPass b_Tc_notesPass 4 (some .boolean) :: cd_AW
def w_Tc_noteSize : List Cond := .code y_Tc_noteSize b_Tc_noteSize 2 (some .int) :: cd_AW
def w_Tc_padded : List Cond := .code y_Tc_padded b_Tc_padded 2 (some .int) :: cd_AW
def w_Tc_noteHeadPasses : List Cond := .code y_Tc_noteHeadPasses b_Tc_noteHeadPasses 5 (some .boolean) :: cd_AW
def w_Tc_threadPasses : List Cond := .code y_Tc_threadPasses b_Tc_threadPasses 6 (some .boolean) :: cd_AW
def w_Mo_init : List Cond := .code y_Mo_init b_Mo_init 1 none :: cd_AW
def w_Mo_thrown : List Cond := .code y_Mo_thrown b_Mo_thrown 1 (some .int) :: cd_AW
def w_Mo_within : List Cond := .code y_Mo_within b_Mo_within 5 (some .int) :: cd_AW
def w_Mo_byteOf : List Cond := .code y_Mo_byteOf b_Mo_byteOf 5 (some .int) :: cd_AW
def w_Mo_map : List Cond := .code y_Mo_map b_Mo_map 6 (some .boolean) :: cd_AW
def w_Mo_move : List Cond := .code y_Mo_move b_Mo_move 4 none :: cd_AW
def w_Mo_unmap : List Cond := .code y_Mo_unmap b_Mo_unmap 4 (some .boolean) :: cd_AW
def w_Mo_poke : List Cond := .code y_Mo_poke b_Mo_poke 4 (some .boolean) :: cd_AW
def w_Mo_pokeFour : List Cond := .code y_Mo_pokeFour b_Mo_pokeFour 5 (some .boolean) :: cd_AW
def w_Mo_hasId : List Cond := .code y_Mo_hasId b_Mo_hasId 5 (some .boolean) :: cd_AW
def w_Mo_thread : List Cond := .code y_Mo_thread b_Mo_thread 3 (some .int) :: cd_AW
def w_Mo_set : List Cond := .code y_Mo_set b_Mo_set 4 (some .boolean) :: cd_AW
def w_Mo_lay : List Cond := .code y_Mo_lay b_Mo_lay 2 none :: cd_AW
def w_Mo_two : List Cond := .code y_Mo_two b_Mo_two 2 none :: cd_AW
def w_Mo_four : List Cond := .code y_Mo_four b_Mo_four 2 none :: cd_AW
def w_Mo_filled : List Cond := .code y_Mo_filled b_Mo_filled 4 (some .int) :: cd_AW
def w_Mo_above : List Cond := .code y_Mo_above b_Mo_above 4 (some .int) :: cd_AW
def w_Mo_programHeader : List Cond := .code y_Mo_programHeader b_Mo_programHeader 8 none :: cd_AW
def w_Mo_header : List Cond := .code y_Mo_header b_Mo_header 2 none :: cd_AW
def w_Mo_dump : List Cond := .code y_Mo_dump b_Mo_dump 5 (some .int) :: cd_AW
def w_Mo_byteAt : List Cond := .code y_Mo_byteAt b_Mo_byteAt 2 (some .int) :: cd_AW
def w_Mo_copy : List Cond := .code y_Mo_copy b_Mo_copy 2 (some .int) :: cd_AW
def w_Mo_put : List Cond := .code y_Mo_put b_Mo_put 3 (some .boolean) :: cd_AW
def w_Mo_cut : List Cond := .code y_Mo_cut b_Mo_cut 2 (some .boolean) :: cd_AW
def w_Mo_twoAt : List Cond := .code y_Mo_twoAt b_Mo_twoAt 2 (some .int) :: cd_AW
def w_Mo_fourAt : List Cond := .code y_Mo_fourAt b_Mo_fourAt 2 (some .int) :: cd_AW
def w_Mo_isWrong : List Cond := .code y_Mo_isWrong b_Mo_isWrong 3 (some .boolean) :: cd_AW
def w_Mo_headerByte : List Cond := .code y_Mo_headerByte b_Mo_headerByte 1 (some .int) :: cd_AW
def w_Mo_fieldOf : List Cond := .code y_Mo_fieldOf b_Mo_fieldOf 1 (some .int) :: cd_AW
def w_Mo_headerFits : List Cond := .code y_Mo_headerFits b_Mo_headerFits 3 (some .boolean) :: cd_AW
def w_Mo_badField : List Cond := .code y_Mo_badField b_Mo_badField 8 (some .int) :: cd_AW
def w_Mo_meet : List Cond := .code y_Mo_meet b_Mo_meet 8 (some .boolean) :: cd_AW
def w_Mo_entryFits : List Cond := .code y_Mo_entryFits b_Mo_entryFits 11 (some .boolean) :: cd_AW
def w_Mo_noteByte : List Cond := .code y_Mo_noteByte b_Mo_noteByte 1 (some .int) :: cd_AW
def w_Mo_note : List Cond := .code y_Mo_note b_Mo_note 8 (some .int) :: cd_AW
def w_Mo_notesFit : List Cond := .code y_Mo_notesFit b_Mo_notesFit 4 (some .boolean) :: cd_AW
def w_Mo_readRegions : List Cond := .code y_Mo_readRegions b_Mo_readRegions 7 none :: cd_AW
def w_Mo_reads : List Cond := .code y_Mo_reads b_Mo_reads 3 (some .boolean) :: cd_AW
def w_Mo_load : List Cond := .code y_Mo_load b_Mo_load 3 (some .int) :: cd_AW
def w_Mo_error : List Cond := .code y_Mo_error b_Mo_error 2 (some .int) :: cd_AW
def w_Mo_core : List Cond := .code y_Mo_core b_Mo_core 2 (some .int) :: cd_AW
def w_Mo_peek : List Cond := .code y_Mo_peek b_Mo_peek 2 (some .int) :: cd_AW
def w_Mo_flags : List Cond := .code y_Mo_flags b_Mo_flags 3 (some .int) :: cd_AW
def w_Mo_register : List Cond := .code y_Mo_register b_Mo_register 3 (some .int) :: cd_AW
def w_Mo_number : List Cond := .code y_Mo_number b_Mo_number 3 (some .int) :: cd_AW
def w_Mo_find : List Cond := .code y_Mo_find b_Mo_find 8 (some .int) :: cd_AW
def w_Mo_caller : List Cond := .code y_Mo_caller b_Mo_caller 9 (some .int) :: cd_AW
def w_Law_load : List Cond := .code y_Law_load b_Law_load 3 (some .int) :: cd_AW
def w_Law_register : List Cond := .code y_Law_register b_Law_register 5 (some .int) :: cd_AW
def w_Arr_fill0 : List Cond := .code y_Arr_fill0 b_Arr_fill0 4 none :: cd_AW
def w_Arr_fill1 : List Cond := .code y_Arr_fill1 b_Arr_fill1 4 none :: cd_AW
