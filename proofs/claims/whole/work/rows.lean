section
def R_Row : String := "CoreDesk$Row"
def F_Row : u_T := fun k => match k with
  | 0 => ("CoreDesk$Row", "bytes", "[B", true)
  | _ => ("CoreDesk$Row", "length", "I", false)
def t_Row : Nat → FieldType := fun k => match k with
  | 0 => .array .byte
  | _ => .int
theorem n_Row : ∀ a, a < 2 → ∀ b, b < 2 → a ≠ b → (F_Row a).2.1 ≠ (F_Row b).2.1 := by decide +kernel
theorem t_Row_ok : ∀ k, k < 2 → parseFieldDescriptor (F_Row k).2.2.1 = some (t_Row k) := by decide +kernel
def R_Reg : String := "CoreDesk$Region"
def F_Reg : u_T := fun k => match k with
  | 0 => ("CoreDesk$Region", "bytes", "[B", true)
  | 1 => ("CoreDesk$Region", "address", "I", false)
  | 2 => ("CoreDesk$Region", "size", "I", false)
  | _ => ("CoreDesk$Region", "permissions", "I", false)
def t_Reg : Nat → FieldType := fun k => match k with
  | 0 => .array .byte
  | 1 => .int
  | 2 => .int
  | _ => .int
theorem n_Reg : ∀ a, a < 4 → ∀ b, b < 4 → a ≠ b → (F_Reg a).2.1 ≠ (F_Reg b).2.1 := by decide +kernel
theorem t_Reg_ok : ∀ k, k < 4 → parseFieldDescriptor (F_Reg k).2.2.1 = some (t_Reg k) := by decide +kernel
def R_Tt : String := "CoreDesk$ThreadTable"
def F_Tt : u_T := fun k => match k with
  | 0 => ("CoreDesk$ThreadTable", "ids", "[I", true)
  | 1 => ("CoreDesk$ThreadTable", "values", "[I", true)
  | _ => ("CoreDesk$ThreadTable", "count", "I", false)
def t_Tt : Nat → FieldType := fun k => match k with
  | 0 => .array .int
  | 1 => .array .int
  | _ => .int
theorem n_Tt : ∀ a, a < 3 → ∀ b, b < 3 → a ≠ b → (F_Tt a).2.1 ≠ (F_Tt b).2.1 := by decide +kernel
theorem t_Tt_ok : ∀ k, k < 3 → parseFieldDescriptor (F_Tt k).2.2.1 = some (t_Tt k) := by decide +kernel
def R_Mem : String := "CoreDesk$Memory"
def F_Mem : u_T := fun k => match k with
  | 0 => ("CoreDesk$Memory", "regions", "[LCoreDesk$Region;", true)
  | _ => ("CoreDesk$Memory", "count", "I", false)
def t_Mem : Nat → FieldType := fun k => match k with
  | 0 => .array (.object "CoreDesk$Region")
  | _ => .int
theorem n_Mem : ∀ a, a < 2 → ∀ b, b < 2 → a ≠ b → (F_Mem a).2.1 ≠ (F_Mem b).2.1 := by decide +kernel
theorem t_Mem_ok : ∀ k, k < 2 → parseFieldDescriptor (F_Mem k).2.2.1 = some (t_Mem k) := by decide +kernel
def R_Fw : String := "CoreDesk$FileWriter"
def F_Fw : u_T := fun k => match k with
  | 0 => ("CoreDesk$FileWriter", "file", "LCoreDesk$Row;", true)
  | 1 => ("CoreDesk$FileWriter", "memory", "LCoreDesk$Memory;", true)
  | _ => ("CoreDesk$FileWriter", "threads", "LCoreDesk$ThreadTable;", true)
def t_Fw : Nat → FieldType := fun k => match k with
  | 0 => .object "CoreDesk$Row"
  | 1 => .object "CoreDesk$Memory"
  | _ => .object "CoreDesk$ThreadTable"
theorem n_Fw : ∀ a, a < 3 → ∀ b, b < 3 → a ≠ b → (F_Fw a).2.1 ≠ (F_Fw b).2.1 := by decide +kernel
theorem t_Fw_ok : ∀ k, k < 3 → parseFieldDescriptor (F_Fw k).2.2.1 = some (t_Fw k) := by decide +kernel
def R_Tc : String := "CoreDesk$TapeCheck"
def F_Tc : u_T := fun k => match k with
  | 0 => ("CoreDesk$TapeCheck", "tape", "LCoreDesk$Row;", true)
  | 1 => ("CoreDesk$TapeCheck", "found", "LCoreDesk$ThreadTable;", true)
  | 2 => ("CoreDesk$TapeCheck", "wrong", "I", false)
  | _ => ("CoreDesk$TapeCheck", "place", "I", false)
def t_Tc : Nat → FieldType := fun k => match k with
  | 0 => .object "CoreDesk$Row"
  | 1 => .object "CoreDesk$ThreadTable"
  | 2 => .int
  | _ => .int
theorem n_Tc : ∀ a, a < 4 → ∀ b, b < 4 → a ≠ b → (F_Tc a).2.1 ≠ (F_Tc b).2.1 := by decide +kernel
theorem t_Tc_ok : ∀ k, k < 4 → parseFieldDescriptor (F_Tc k).2.2.1 = some (t_Tc k) := by decide +kernel
def R_Desk : String := "CoreDesk"
def F_Desk : u_T := fun k => match k with
  | 0 => ("CoreDesk", "memory", "LCoreDesk$Memory;", true)
  | 1 => ("CoreDesk", "threads", "LCoreDesk$ThreadTable;", true)
  | 2 => ("CoreDesk", "file", "LCoreDesk$Row;", true)
  | 3 => ("CoreDesk", "writer", "LCoreDesk$FileWriter;", true)
  | 4 => ("CoreDesk", "tape", "LCoreDesk$Row;", true)
  | 5 => ("CoreDesk", "check", "LCoreDesk$TapeCheck;", true)
  | 6 => ("CoreDesk", "coreMemory", "LCoreDesk$Memory;", true)
  | 7 => ("CoreDesk", "coreThreads", "LCoreDesk$ThreadTable;", true)
  | _ => ("CoreDesk", "hasCore", "Z", false)
def t_Desk : Nat → FieldType := fun k => match k with
  | 0 => .object "CoreDesk$Memory"
  | 1 => .object "CoreDesk$ThreadTable"
  | 2 => .object "CoreDesk$Row"
  | 3 => .object "CoreDesk$FileWriter"
  | 4 => .object "CoreDesk$Row"
  | 5 => .object "CoreDesk$TapeCheck"
  | 6 => .object "CoreDesk$Memory"
  | 7 => .object "CoreDesk$ThreadTable"
  | _ => .boolean
theorem n_Desk : ∀ a, a < 9 → ∀ b, b < 9 → a ≠ b → (F_Desk a).2.1 ≠ (F_Desk b).2.1 := by decide +kernel
theorem t_Desk_ok : ∀ k, k < 9 → parseFieldDescriptor (F_Desk k).2.2.1 = some (t_Desk k) := by decide +kernel
def R_Mo : String := "CoreDeskModel"
def F_Mo : u_T := fun k => match k with
  | 0 => ("CoreDeskModel", "thrown", "I", false)
  | 1 => ("CoreDeskModel", "address", "[I", true)
  | 2 => ("CoreDeskModel", "size", "[I", true)
  | 3 => ("CoreDeskModel", "flag", "[I", true)
  | 4 => ("CoreDeskModel", "bytes", "[B", true)
  | 5 => ("CoreDeskModel", "regions", "[I", true)
  | 6 => ("CoreDeskModel", "threads", "[I", true)
  | 7 => ("CoreDeskModel", "id", "[I", true)
  | 8 => ("CoreDeskModel", "register", "[I", true)
  | 9 => ("CoreDeskModel", "file", "[B", true)
  | 10 => ("CoreDeskModel", "fileSize", "I", false)
  | 11 => ("CoreDeskModel", "tape", "[B", true)
  | 12 => ("CoreDeskModel", "tapeSize", "I", false)
  | 13 => ("CoreDeskModel", "hasCore", "Z", false)
  | 14 => ("CoreDeskModel", "wrong", "I", false)
  | _ => ("CoreDeskModel", "where", "I", false)
def t_Mo : Nat → FieldType := fun k => match k with
  | 0 => .int
  | 1 => .array .int
  | 2 => .array .int
  | 3 => .array .int
  | 4 => .array .byte
  | 5 => .array .int
  | 6 => .array .int
  | 7 => .array .int
  | 8 => .array .int
  | 9 => .array .byte
  | 10 => .int
  | 11 => .array .byte
  | 12 => .int
  | 13 => .boolean
  | 14 => .int
  | _ => .int
theorem n_Mo : ∀ a, a < 16 → ∀ b, b < 16 → a ≠ b → (F_Mo a).2.1 ≠ (F_Mo b).2.1 := by decide +kernel
theorem t_Mo_ok : ∀ k, k < 16 → parseFieldDescriptor (F_Mo k).2.2.1 = some (t_Mo k) := by decide +kernel
def R_Law : String := "CoreDeskLaw"
def R_Arr : String := "java/util/Arrays"
abbrev cd_cl : List vw_C := [(R_Row, F_Row, 2), (R_Reg, F_Reg, 4), (R_Tt, F_Tt, 3), (R_Mem, F_Mem, 2), (R_Fw, F_Fw, 3), (R_Tc, F_Tc, 4), (R_Desk, F_Desk, 9), (R_Mo, F_Mo, 16)]
abbrev b_Desk_init : ByteArray := prog_1_method_1_code
def y_Desk_init : MethodName := ⟨"CoreDesk", "<init>", "()V"⟩
abbrev b_Desk_map : ByteArray := prog_1_method_2_code
def y_Desk_map : MethodName := ⟨"CoreDesk", "map", "(III)Z"⟩
abbrev b_Desk_unmap : ByteArray := prog_1_method_3_code
def y_Desk_unmap : MethodName := ⟨"CoreDesk", "unmap", "(I)Z"⟩
abbrev b_Desk_poke : ByteArray := prog_1_method_4_code
def y_Desk_poke : MethodName := ⟨"CoreDesk", "poke", "(II)Z"⟩
abbrev b_Desk_pokeFour : ByteArray := prog_1_method_5_code
def y_Desk_pokeFour : MethodName := ⟨"CoreDesk", "pokeFour", "(II)Z"⟩
abbrev b_Desk_thread : ByteArray := prog_1_method_6_code
def y_Desk_thread : MethodName := ⟨"CoreDesk", "thread", "(I)I"⟩
abbrev b_Desk_set : ByteArray := prog_1_method_7_code
def y_Desk_set : MethodName := ⟨"CoreDesk", "set", "(III)Z"⟩
abbrev b_Desk_dump : ByteArray := prog_1_method_8_code
def y_Desk_dump : MethodName := ⟨"CoreDesk", "dump", "()I"⟩
abbrev b_Desk_byteAt : ByteArray := prog_1_method_9_code
def y_Desk_byteAt : MethodName := ⟨"CoreDesk", "byteAt", "(I)I"⟩
abbrev b_Desk_copy : ByteArray := prog_1_method_10_code
def y_Desk_copy : MethodName := ⟨"CoreDesk", "copy", "()I"⟩
abbrev b_Desk_put : ByteArray := prog_1_method_11_code
def y_Desk_put : MethodName := ⟨"CoreDesk", "put", "(II)Z"⟩
abbrev b_Desk_cut : ByteArray := prog_1_method_12_code
def y_Desk_cut : MethodName := ⟨"CoreDesk", "cut", "(I)Z"⟩
abbrev b_Desk_load : ByteArray := prog_1_method_13_code
def y_Desk_load : MethodName := ⟨"CoreDesk", "load", "()I"⟩
abbrev b_Desk_error : ByteArray := prog_1_method_14_code
def y_Desk_error : MethodName := ⟨"CoreDesk", "error", "(I)I"⟩
abbrev b_Desk_core : ByteArray := prog_1_method_15_code
def y_Desk_core : MethodName := ⟨"CoreDesk", "core", "(I)I"⟩
abbrev b_Desk_peek : ByteArray := prog_1_method_16_code
def y_Desk_peek : MethodName := ⟨"CoreDesk", "peek", "(I)I"⟩
abbrev b_Desk_flags : ByteArray := prog_1_method_17_code
def y_Desk_flags : MethodName := ⟨"CoreDesk", "flags", "(I)I"⟩
abbrev b_Desk_register : ByteArray := prog_1_method_18_code
def y_Desk_register : MethodName := ⟨"CoreDesk", "register", "(II)I"⟩
abbrev b_Desk_find : ByteArray := prog_1_method_19_code
def y_Desk_find : MethodName := ⟨"CoreDesk", "find", "(II)I"⟩
abbrev b_Desk_caller : ByteArray := prog_1_method_20_code
def y_Desk_caller : MethodName := ⟨"CoreDesk", "caller", "(II)I"⟩
abbrev b_Desk_isFrame : ByteArray := prog_1_method_21_code
def y_Desk_isFrame : MethodName := ⟨"CoreDesk", "isFrame", "(II)Z"⟩
abbrev b_Desk_takeCore : ByteArray := prog_1_method_22_code
def y_Desk_takeCore : MethodName := ⟨"CoreDesk", "takeCore", "()V"⟩
abbrev b_Row_init : ByteArray := prog_5_method_1_code
def y_Row_init : MethodName := ⟨"CoreDesk$Row", "<init>", "(I)V"⟩
abbrev b_Row_length : ByteArray := prog_5_method_2_code
def y_Row_length : MethodName := ⟨"CoreDesk$Row", "length", "()I"⟩
abbrev b_Row_at : ByteArray := prog_5_method_3_code
def y_Row_at : MethodName := ⟨"CoreDesk$Row", "at", "(I)I"⟩
abbrev b_Row_number : ByteArray := prog_5_method_4_code
def y_Row_number : MethodName := ⟨"CoreDesk$Row", "number", "(II)I"⟩
abbrev b_Row_change : ByteArray := prog_5_method_5_code
def y_Row_change : MethodName := ⟨"CoreDesk$Row", "change", "(II)Z"⟩
abbrev b_Row_append : ByteArray := prog_5_method_6_code
def y_Row_append : MethodName := ⟨"CoreDesk$Row", "append", "(I)Z"⟩
abbrev b_Row_appendNumber : ByteArray := prog_5_method_7_code
def y_Row_appendNumber : MethodName := ⟨"CoreDesk$Row", "appendNumber", "(II)V"⟩
abbrev b_Row_appendBytes : ByteArray := prog_5_method_8_code
def y_Row_appendBytes : MethodName := ⟨"CoreDesk$Row", "appendBytes", "([BI)V"⟩
abbrev b_Row_giveBytes : ByteArray := prog_5_method_9_code
def y_Row_giveBytes : MethodName := ⟨"CoreDesk$Row", "giveBytes", "(I[BI)V"⟩
abbrev b_Row_shorten : ByteArray := prog_5_method_10_code
def y_Row_shorten : MethodName := ⟨"CoreDesk$Row", "shorten", "(I)Z"⟩
abbrev b_Row_become : ByteArray := prog_5_method_11_code
def y_Row_become : MethodName := ⟨"CoreDesk$Row", "become", "(LCoreDesk$Row;)V"⟩
abbrev b_Reg_init : ByteArray := prog_4_method_1_code
def y_Reg_init : MethodName := ⟨"CoreDesk$Region", "<init>", "()V"⟩
abbrev b_Reg_begin : ByteArray := prog_4_method_2_code
def y_Reg_begin : MethodName := ⟨"CoreDesk$Region", "begin", "(III)V"⟩
abbrev b_Reg_has : ByteArray := prog_4_method_3_code
def y_Reg_has : MethodName := ⟨"CoreDesk$Region", "has", "(I)Z"⟩
abbrev b_Reg_read : ByteArray := prog_4_method_4_code
def y_Reg_read : MethodName := ⟨"CoreDesk$Region", "read", "(I)I"⟩
abbrev b_Reg_write : ByteArray := prog_4_method_5_code
def y_Reg_write : MethodName := ⟨"CoreDesk$Region", "write", "(II)V"⟩
abbrev b_Reg_usedBytes : ByteArray := prog_4_method_6_code
def y_Reg_usedBytes : MethodName := ⟨"CoreDesk$Region", "usedBytes", "()I"⟩
abbrev b_Reg_search : ByteArray := prog_4_method_7_code
def y_Reg_search : MethodName := ⟨"CoreDesk$Region", "search", "(II)I"⟩
abbrev b_Reg_numberAt : ByteArray := prog_4_method_8_code
def y_Reg_numberAt : MethodName := ⟨"CoreDesk$Region", "numberAt", "(I)I"⟩
abbrev b_Mem_init : ByteArray := prog_3_method_1_code
def y_Mem_init : MethodName := ⟨"CoreDesk$Memory", "<init>", "()V"⟩
abbrev b_Mem_count : ByteArray := prog_3_method_2_code
def y_Mem_count : MethodName := ⟨"CoreDesk$Memory", "count", "()I"⟩
abbrev b_Mem_clear : ByteArray := prog_3_method_3_code
def y_Mem_clear : MethodName := ⟨"CoreDesk$Memory", "clear", "()V"⟩
abbrev b_Mem_addRegion : ByteArray := prog_3_method_4_code
def y_Mem_addRegion : MethodName := ⟨"CoreDesk$Memory", "addRegion", "(III)Z"⟩
abbrev b_Mem_removeRegion : ByteArray := prog_3_method_5_code
def y_Mem_removeRegion : MethodName := ⟨"CoreDesk$Memory", "removeRegion", "(I)Z"⟩
abbrev b_Mem_fillRegion : ByteArray := prog_3_method_6_code
def y_Mem_fillRegion : MethodName := ⟨"CoreDesk$Memory", "fillRegion", "(ILCoreDesk$Row;II)V"⟩
abbrev b_Mem_regionAt : ByteArray := prog_3_method_7_code
def y_Mem_regionAt : MethodName := ⟨"CoreDesk$Memory", "regionAt", "(I)LCoreDesk$Region;"⟩
abbrev b_Mem_holds : ByteArray := prog_3_method_8_code
def y_Mem_holds : MethodName := ⟨"CoreDesk$Memory", "holds", "(II)Z"⟩
abbrev b_Mem_readByte : ByteArray := prog_3_method_9_code
def y_Mem_readByte : MethodName := ⟨"CoreDesk$Memory", "readByte", "(I)I"⟩
abbrev b_Mem_readNumber : ByteArray := prog_3_method_10_code
def y_Mem_readNumber : MethodName := ⟨"CoreDesk$Memory", "readNumber", "(I)I"⟩
abbrev b_Mem_flagsAt : ByteArray := prog_3_method_11_code
def y_Mem_flagsAt : MethodName := ⟨"CoreDesk$Memory", "flagsAt", "(I)I"⟩
abbrev b_Mem_writeByte : ByteArray := prog_3_method_12_code
def y_Mem_writeByte : MethodName := ⟨"CoreDesk$Memory", "writeByte", "(II)Z"⟩
abbrev b_Mem_writeNumber : ByteArray := prog_3_method_13_code
def y_Mem_writeNumber : MethodName := ⟨"CoreDesk$Memory", "writeNumber", "(II)Z"⟩
abbrev b_Mem_search : ByteArray := prog_3_method_14_code
def y_Mem_search : MethodName := ⟨"CoreDesk$Memory", "search", "(II)I"⟩
abbrev b_Mem_indexOf : ByteArray := prog_3_method_15_code
def y_Mem_indexOf : MethodName := ⟨"CoreDesk$Memory", "indexOf", "(I)I"⟩
abbrev b_Mem_isSpan : ByteArray := prog_3_method_16_code
def y_Mem_isSpan : MethodName := ⟨"CoreDesk$Memory", "isSpan", "(II)Z"⟩
abbrev b_Mem_overlap : ByteArray := prog_3_method_17_code
def y_Mem_overlap : MethodName := ⟨"CoreDesk$Memory", "overlap", "(IIII)Z"⟩
abbrev b_Tt_init : ByteArray := prog_7_method_1_code
def y_Tt_init : MethodName := ⟨"CoreDesk$ThreadTable", "<init>", "()V"⟩
abbrev b_Tt_count : ByteArray := prog_7_method_2_code
def y_Tt_count : MethodName := ⟨"CoreDesk$ThreadTable", "count", "()I"⟩
abbrev b_Tt_clear : ByteArray := prog_7_method_3_code
def y_Tt_clear : MethodName := ⟨"CoreDesk$ThreadTable", "clear", "()V"⟩
abbrev b_Tt_has : ByteArray := prog_7_method_4_code
def y_Tt_has : MethodName := ⟨"CoreDesk$ThreadTable", "has", "(I)Z"⟩
abbrev b_Tt_hasId : ByteArray := prog_7_method_5_code
def y_Tt_hasId : MethodName := ⟨"CoreDesk$ThreadTable", "hasId", "(I)Z"⟩
abbrev b_Tt_add : ByteArray := prog_7_method_6_code
def y_Tt_add : MethodName := ⟨"CoreDesk$ThreadTable", "add", "(I)I"⟩
abbrev b_Tt_id : ByteArray := prog_7_method_7_code
def y_Tt_id : MethodName := ⟨"CoreDesk$ThreadTable", "id", "(I)I"⟩
abbrev b_Tt_read : ByteArray := prog_7_method_8_code
def y_Tt_read : MethodName := ⟨"CoreDesk$ThreadTable", "read", "(II)I"⟩
abbrev b_Tt_write : ByteArray := prog_7_method_9_code
def y_Tt_write : MethodName := ⟨"CoreDesk$ThreadTable", "write", "(III)Z"⟩
abbrev b_Tt_become : ByteArray := prog_7_method_10_code
def y_Tt_become : MethodName := ⟨"CoreDesk$ThreadTable", "become", "(LCoreDesk$ThreadTable;)V"⟩
abbrev b_Tt_hasValue : ByteArray := prog_7_method_11_code
def y_Tt_hasValue : MethodName := ⟨"CoreDesk$ThreadTable", "hasValue", "(II)Z"⟩
abbrev b_Fw_init : ByteArray := prog_2_method_1_code
def y_Fw_init : MethodName := ⟨"CoreDesk$FileWriter", "<init>", "(LCoreDesk$Row;LCoreDesk$Memory;LCoreDesk$ThreadTable;)V"⟩
abbrev b_Fw_writeFile : ByteArray := prog_2_method_2_code
def y_Fw_writeFile : MethodName := ⟨"CoreDesk$FileWriter", "writeFile", "()V"⟩
abbrev b_Fw_entries : ByteArray := prog_2_method_3_code
def y_Fw_entries : MethodName := ⟨"CoreDesk$FileWriter", "entries", "()I"⟩
abbrev b_Fw_writeHeader : ByteArray := prog_2_method_4_code
def y_Fw_writeHeader : MethodName := ⟨"CoreDesk$FileWriter", "writeHeader", "()V"⟩
abbrev b_Fw_writeEntries : ByteArray := prog_2_method_5_code
def y_Fw_writeEntries : MethodName := ⟨"CoreDesk$FileWriter", "writeEntries", "()V"⟩
abbrev b_Fw_writeNotesEntry : ByteArray := prog_2_method_6_code
def y_Fw_writeNotesEntry : MethodName := ⟨"CoreDesk$FileWriter", "writeNotesEntry", "(II)V"⟩
abbrev b_Fw_writeRegionEntry : ByteArray := prog_2_method_7_code
def y_Fw_writeRegionEntry : MethodName := ⟨"CoreDesk$FileWriter", "writeRegionEntry", "(ILCoreDesk$Region;I)V"⟩
abbrev b_Fw_writeNote : ByteArray := prog_2_method_8_code
def y_Fw_writeNote : MethodName := ⟨"CoreDesk$FileWriter", "writeNote", "(I)V"⟩
abbrev b_Fw_writeFour : ByteArray := prog_2_method_9_code
def y_Fw_writeFour : MethodName := ⟨"CoreDesk$FileWriter", "writeFour", "(I)V"⟩
abbrev b_Tc_init : ByteArray := prog_6_method_1_code
def y_Tc_init : MethodName := ⟨"CoreDesk$TapeCheck", "<init>", "(LCoreDesk$Row;)V"⟩
abbrev b_Tc_wrong : ByteArray := prog_6_method_2_code
def y_Tc_wrong : MethodName := ⟨"CoreDesk$TapeCheck", "wrong", "()I"⟩
abbrev b_Tc_place : ByteArray := prog_6_method_3_code
def y_Tc_place : MethodName := ⟨"CoreDesk$TapeCheck", "place", "()I"⟩
abbrev b_Tc_threadsFound : ByteArray := prog_6_method_4_code
def y_Tc_threadsFound : MethodName := ⟨"CoreDesk$TapeCheck", "threadsFound", "()LCoreDesk$ThreadTable;"⟩
abbrev b_Tc_entries : ByteArray := prog_6_method_5_code
def y_Tc_entries : MethodName := ⟨"CoreDesk$TapeCheck", "entries", "()I"⟩
abbrev b_Tc_entryField : ByteArray := prog_6_method_6_code
def y_Tc_entryField : MethodName := ⟨"CoreDesk$TapeCheck", "entryField", "(II)I"⟩
abbrev b_Tc_passes : ByteArray := prog_6_method_7_code
def y_Tc_passes : MethodName := ⟨"CoreDesk$TapeCheck", "passes", "()Z"⟩
abbrev b_Tc_refuse : ByteArray := prog_6_method_8_code
def y_Tc_refuse : MethodName := ⟨"CoreDesk$TapeCheck", "refuse", "(II)Z"⟩
abbrev b_Tc_fieldPlace : ByteArray := prog_6_method_9_code
def y_Tc_fieldPlace : MethodName := ⟨"CoreDesk$TapeCheck", "fieldPlace", "(II)I"⟩
abbrev b_Tc_headerPasses : ByteArray := prog_6_method_10_code
def y_Tc_headerPasses : MethodName := ⟨"CoreDesk$TapeCheck", "headerPasses", "()Z"⟩
abbrev b_Tc_headerFieldFits : ByteArray := prog_6_method_11_code
def y_Tc_headerFieldFits : MethodName := ⟨"CoreDesk$TapeCheck", "headerFieldFits", "(II)Z"⟩
abbrev b_Tc_entriesPass : ByteArray := prog_6_method_12_code
def y_Tc_entriesPass : MethodName := ⟨"CoreDesk$TapeCheck", "entriesPass", "()Z"⟩
abbrev b_Tc_fieldsPass : ByteArray := prog_6_method_13_code
def y_Tc_fieldsPass : MethodName := ⟨"CoreDesk$TapeCheck", "fieldsPass", "(I)Z"⟩
abbrev b_Tc_notesFieldFits : ByteArray := prog_6_method_14_code
def y_Tc_notesFieldFits : MethodName := ⟨"CoreDesk$TapeCheck", "notesFieldFits", "(II)Z"⟩
abbrev b_Tc_regionFieldFits : ByteArray := prog_6_method_15_code
def y_Tc_regionFieldFits : MethodName := ⟨"CoreDesk$TapeCheck", "regionFieldFits", "(III)Z"⟩
abbrev b_Tc_bytesPass : ByteArray := prog_6_method_16_code
def y_Tc_bytesPass : MethodName := ⟨"CoreDesk$TapeCheck", "bytesPass", "(I)Z"⟩
abbrev b_Tc_addressesPass : ByteArray := prog_6_method_17_code
def y_Tc_addressesPass : MethodName := ⟨"CoreDesk$TapeCheck", "addressesPass", "(I)Z"⟩
abbrev b_Tc_notesPass : ByteArray := prog_6_method_18_code
def y_Tc_notesPass : MethodName := ⟨"CoreDesk$TapeCheck", "notesPass", "()Z"⟩
abbrev b_Tc_noteSize : ByteArray := prog_6_method_19_code
def y_Tc_noteSize : MethodName := ⟨"CoreDesk$TapeCheck", "noteSize", "(I)I"⟩
abbrev b_Tc_padded : ByteArray := prog_6_method_20_code
def y_Tc_padded : MethodName := ⟨"CoreDesk$TapeCheck", "padded", "(I)I"⟩
abbrev b_Tc_noteHeadPasses : ByteArray := prog_6_method_21_code
def y_Tc_noteHeadPasses : MethodName := ⟨"CoreDesk$TapeCheck", "noteHeadPasses", "(II)Z"⟩
abbrev b_Tc_threadPasses : ByteArray := prog_6_method_22_code
def y_Tc_threadPasses : MethodName := ⟨"CoreDesk$TapeCheck", "threadPasses", "(I)Z"⟩
abbrev b_Mo_init : ByteArray := prog_9_method_1_code
def y_Mo_init : MethodName := ⟨"CoreDeskModel", "<init>", "()V"⟩
abbrev b_Mo_thrown : ByteArray := prog_9_method_2_code
def y_Mo_thrown : MethodName := ⟨"CoreDeskModel", "thrown", "()I"⟩
abbrev b_Mo_within : ByteArray := prog_9_method_3_code
def y_Mo_within : MethodName := ⟨"CoreDeskModel", "within", "(IJ)I"⟩
abbrev b_Mo_byteOf : ByteArray := prog_9_method_4_code
def y_Mo_byteOf : MethodName := ⟨"CoreDeskModel", "byteOf", "(IJ)I"⟩
abbrev b_Mo_map : ByteArray := prog_9_method_5_code
def y_Mo_map : MethodName := ⟨"CoreDeskModel", "map", "(III)Z"⟩
abbrev b_Mo_move : ByteArray := prog_9_method_6_code
def y_Mo_move : MethodName := ⟨"CoreDeskModel", "move", "(II)V"⟩
abbrev b_Mo_unmap : ByteArray := prog_9_method_7_code
def y_Mo_unmap : MethodName := ⟨"CoreDeskModel", "unmap", "(I)Z"⟩
abbrev b_Mo_poke : ByteArray := prog_9_method_8_code
def y_Mo_poke : MethodName := ⟨"CoreDeskModel", "poke", "(II)Z"⟩
abbrev b_Mo_pokeFour : ByteArray := prog_9_method_9_code
def y_Mo_pokeFour : MethodName := ⟨"CoreDeskModel", "pokeFour", "(II)Z"⟩
abbrev b_Mo_hasId : ByteArray := prog_9_method_10_code
def y_Mo_hasId : MethodName := ⟨"CoreDeskModel", "hasId", "(II)Z"⟩
abbrev b_Mo_thread : ByteArray := prog_9_method_11_code
def y_Mo_thread : MethodName := ⟨"CoreDeskModel", "thread", "(I)I"⟩
abbrev b_Mo_set : ByteArray := prog_9_method_12_code
def y_Mo_set : MethodName := ⟨"CoreDeskModel", "set", "(III)Z"⟩
abbrev b_Mo_lay : ByteArray := prog_9_method_13_code
def y_Mo_lay : MethodName := ⟨"CoreDeskModel", "lay", "(I)V"⟩
abbrev b_Mo_two : ByteArray := prog_9_method_14_code
def y_Mo_two : MethodName := ⟨"CoreDeskModel", "two", "(I)V"⟩
abbrev b_Mo_four : ByteArray := prog_9_method_15_code
def y_Mo_four : MethodName := ⟨"CoreDeskModel", "four", "(I)V"⟩
abbrev b_Mo_filled : ByteArray := prog_9_method_16_code
def y_Mo_filled : MethodName := ⟨"CoreDeskModel", "filled", "(I)I"⟩
abbrev b_Mo_above : ByteArray := prog_9_method_17_code
def y_Mo_above : MethodName := ⟨"CoreDeskModel", "above", "(I)I"⟩
abbrev b_Mo_programHeader : ByteArray := prog_9_method_18_code
def y_Mo_programHeader : MethodName := ⟨"CoreDeskModel", "programHeader", "(IIIIIII)V"⟩
abbrev b_Mo_header : ByteArray := prog_9_method_19_code
def y_Mo_header : MethodName := ⟨"CoreDeskModel", "header", "()V"⟩
abbrev b_Mo_dump : ByteArray := prog_9_method_20_code
def y_Mo_dump : MethodName := ⟨"CoreDeskModel", "dump", "()I"⟩
abbrev b_Mo_byteAt : ByteArray := prog_9_method_21_code
def y_Mo_byteAt : MethodName := ⟨"CoreDeskModel", "byteAt", "(I)I"⟩
abbrev b_Mo_copy : ByteArray := prog_9_method_22_code
def y_Mo_copy : MethodName := ⟨"CoreDeskModel", "copy", "()I"⟩
abbrev b_Mo_put : ByteArray := prog_9_method_23_code
def y_Mo_put : MethodName := ⟨"CoreDeskModel", "put", "(II)Z"⟩
abbrev b_Mo_cut : ByteArray := prog_9_method_24_code
def y_Mo_cut : MethodName := ⟨"CoreDeskModel", "cut", "(I)Z"⟩
abbrev b_Mo_twoAt : ByteArray := prog_9_method_25_code
def y_Mo_twoAt : MethodName := ⟨"CoreDeskModel", "twoAt", "(I)I"⟩
abbrev b_Mo_fourAt : ByteArray := prog_9_method_26_code
def y_Mo_fourAt : MethodName := ⟨"CoreDeskModel", "fourAt", "(I)I"⟩
abbrev b_Mo_isWrong : ByteArray := prog_9_method_27_code
def y_Mo_isWrong : MethodName := ⟨"CoreDeskModel", "isWrong", "(II)Z"⟩
abbrev b_Mo_headerByte : ByteArray := prog_9_method_28_code
def y_Mo_headerByte : MethodName := ⟨"CoreDeskModel", "headerByte", "(I)I"⟩
abbrev b_Mo_fieldOf : ByteArray := prog_9_method_29_code
def y_Mo_fieldOf : MethodName := ⟨"CoreDeskModel", "fieldOf", "(I)I"⟩
abbrev b_Mo_headerFits : ByteArray := prog_9_method_30_code
def y_Mo_headerFits : MethodName := ⟨"CoreDeskModel", "headerFits", "()Z"⟩
abbrev b_Mo_badField : ByteArray := prog_9_method_31_code
def y_Mo_badField : MethodName := ⟨"CoreDeskModel", "badField", "(IZI)I"⟩
abbrev b_Mo_meet : ByteArray := prog_9_method_32_code
def y_Mo_meet : MethodName := ⟨"CoreDeskModel", "meet", "(JJJJ)Z"⟩
abbrev b_Mo_entryFits : ByteArray := prog_9_method_33_code
def y_Mo_entryFits : MethodName := ⟨"CoreDeskModel", "entryFits", "(II)Z"⟩
abbrev b_Mo_noteByte : ByteArray := prog_9_method_34_code
def y_Mo_noteByte : MethodName := ⟨"CoreDeskModel", "noteByte", "(I)I"⟩
abbrev b_Mo_note : ByteArray := prog_9_method_35_code
def y_Mo_note : MethodName := ⟨"CoreDeskModel", "note", "(II)I"⟩
abbrev b_Mo_notesFit : ByteArray := prog_9_method_36_code
def y_Mo_notesFit : MethodName := ⟨"CoreDeskModel", "notesFit", "()Z"⟩
abbrev b_Mo_readRegions : ByteArray := prog_9_method_37_code
def y_Mo_readRegions : MethodName := ⟨"CoreDeskModel", "readRegions", "(I)V"⟩
abbrev b_Mo_reads : ByteArray := prog_9_method_38_code
def y_Mo_reads : MethodName := ⟨"CoreDeskModel", "reads", "()Z"⟩
abbrev b_Mo_load : ByteArray := prog_9_method_39_code
def y_Mo_load : MethodName := ⟨"CoreDeskModel", "load", "()I"⟩
abbrev b_Mo_error : ByteArray := prog_9_method_40_code
def y_Mo_error : MethodName := ⟨"CoreDeskModel", "error", "(I)I"⟩
abbrev b_Mo_core : ByteArray := prog_9_method_41_code
def y_Mo_core : MethodName := ⟨"CoreDeskModel", "core", "(I)I"⟩
abbrev b_Mo_peek : ByteArray := prog_9_method_42_code
def y_Mo_peek : MethodName := ⟨"CoreDeskModel", "peek", "(I)I"⟩
abbrev b_Mo_flags : ByteArray := prog_9_method_43_code
def y_Mo_flags : MethodName := ⟨"CoreDeskModel", "flags", "(I)I"⟩
abbrev b_Mo_register : ByteArray := prog_9_method_44_code
def y_Mo_register : MethodName := ⟨"CoreDeskModel", "register", "(II)I"⟩
abbrev b_Mo_number : ByteArray := prog_9_method_45_code
def y_Mo_number : MethodName := ⟨"CoreDeskModel", "number", "(J)I"⟩
abbrev b_Mo_find : ByteArray := prog_9_method_46_code
def y_Mo_find : MethodName := ⟨"CoreDeskModel", "find", "(II)I"⟩
abbrev b_Mo_caller : ByteArray := prog_9_method_47_code
def y_Mo_caller : MethodName := ⟨"CoreDeskModel", "caller", "(II)I"⟩
abbrev b_Law_load : ByteArray := method_3_code
def y_Law_load : MethodName := ⟨"CoreDeskLaw", "load", "(LCoreDesk;[J)I"⟩
abbrev b_Law_register : ByteArray := method_4_code
def y_Law_register : MethodName := ⟨"CoreDeskLaw", "register", "(LCoreDesk;II[J)I"⟩
abbrev b_Arr_fill0 : ByteArray := prog_16_method_109_code
def y_Arr_fill0 : MethodName := ⟨"java/util/Arrays", "fill", "([BB)V"⟩
abbrev b_Arr_fill1 : ByteArray := prog_16_method_103_code
def y_Arr_fill1 : MethodName := ⟨"java/util/Arrays", "fill", "([II)V"⟩
def cd_A0 : List Cond := [.initialized "CoreDeskLaw", .initialized "CoreDesk", .initialized "CoreDesk$Memory", .initialized "CoreDesk$Region", .initialized "CoreDesk$ThreadTable", .initialized "CoreDesk$Row", .initialized "CoreDesk$FileWriter", .initialized "CoreDesk$TapeCheck", .initialized "CoreDeskModel", .initialized "java/util/Arrays", .initialized "java/lang/System", .initialized "java/lang/Throwable", .initialized "java/lang/Exception", .initialized "java/lang/RuntimeException", .initialized "java/lang/IllegalArgumentException", .initialized "java/lang/IndexOutOfBoundsException", .classLink "CoreDeskLaw" 8 "CoreDesk", .instantiable "CoreDesk" 9, .methodLink "CoreDeskLaw" 21 y_Desk_init, .instanceMethod y_Desk_init, .code y_Desk_init prog_1_method_1_code 1 none, .methodLink "CoreDesk" 1 objectInit, .instanceMethod objectInit, .code objectInit object_method_1_code 1 none, .classLink "CoreDesk" 7 "CoreDesk$Memory", .instantiable "CoreDesk$Memory" 2, .methodLink "CoreDesk" 9 y_Mem_init, .instanceMethod y_Mem_init, .code y_Mem_init prog_3_method_1_code 2 none, .methodLink "CoreDesk$Memory" 3 objectInit, .classLink "CoreDesk$Memory" 9 "CoreDesk$Region", .instantiable "CoreDesk$Region" 4, .methodLink "CoreDesk$Memory" 17 y_Reg_init, .instanceMethod y_Reg_init, .code y_Reg_init prog_4_method_1_code 1 none, .methodLink "CoreDesk$Region" 3 objectInit, .fieldLink "CoreDesk$Region" 9 "CoreDesk$Region" "bytes" "[B", .fieldLink "CoreDesk$Region" 15 "CoreDesk$Region" "address" "I", .fieldLink "CoreDesk$Region" 19 "CoreDesk$Region" "size" "I", .fieldLink "CoreDesk$Region" 22 "CoreDesk$Region" "permissions" "I", .laysFinal "CoreDesk$Region" "CoreDesk$Region" "bytes" "[B", .lays "CoreDesk$Region" "CoreDesk$Region" "address" "I", .lays "CoreDesk$Region" "CoreDesk$Region" "size" "I", .lays "CoreDesk$Region" "CoreDesk$Region" "permissions" "I", .arrayClass .byte, .fieldLink "CoreDesk$Memory" 11 "CoreDesk$Memory" "regions" "[LCoreDesk$Region;", .fieldLink "CoreDesk$Memory" 18 "CoreDesk$Memory" "count" "I", .laysFinal "CoreDesk$Memory" "CoreDesk$Memory" "regions" "[LCoreDesk$Region;", .lays "CoreDesk$Memory" "CoreDesk$Memory" "count" "I", .classLink "CoreDesk" 16 "CoreDesk$ThreadTable", .instantiable "CoreDesk$ThreadTable" 3, .methodLink "CoreDesk" 18 y_Tt_init, .instanceMethod y_Tt_init, .code y_Tt_init prog_7_method_1_code 1 none, .methodLink "CoreDesk$ThreadTable" 3 objectInit, .fieldLink "CoreDesk$ThreadTable" 9 "CoreDesk$ThreadTable" "ids" "[I", .fieldLink "CoreDesk$ThreadTable" 15 "CoreDesk$ThreadTable" "values" "[I", .fieldLink "CoreDesk$ThreadTable" 18 "CoreDesk$ThreadTable" "count" "I", .laysFinal "CoreDesk$ThreadTable" "CoreDesk$ThreadTable" "ids" "[I", .laysFinal "CoreDesk$ThreadTable" "CoreDesk$ThreadTable" "values" "[I"]
def cd_A1 : List Cond := [.lays "CoreDesk$ThreadTable" "CoreDesk$ThreadTable" "count" "I", .arrayClass .int, .classLink "CoreDesk" 23 "CoreDesk$Row", .instantiable "CoreDesk$Row" 2, .methodLink "CoreDesk" 25 y_Row_init, .instanceMethod y_Row_init, .code y_Row_init prog_5_method_1_code 2 none, .methodLink "CoreDesk$Row" 3 objectInit, .fieldLink "CoreDesk$Row" 9 "CoreDesk$Row" "bytes" "[B", .fieldLink "CoreDesk$Row" 15 "CoreDesk$Row" "length" "I", .laysFinal "CoreDesk$Row" "CoreDesk$Row" "bytes" "[B", .lays "CoreDesk$Row" "CoreDesk$Row" "length" "I", .classLink "CoreDesk" 32 "CoreDesk$FileWriter", .instantiable "CoreDesk$FileWriter" 3, .methodLink "CoreDesk" 34 y_Fw_init, .instanceMethod y_Fw_init, .code y_Fw_init prog_2_method_1_code 4 none, .methodLink "CoreDesk$FileWriter" 3 objectInit, .fieldLink "CoreDesk$FileWriter" 9 "CoreDesk$FileWriter" "file" "LCoreDesk$Row;", .fieldLink "CoreDesk$FileWriter" 15 "CoreDesk$FileWriter" "memory" "LCoreDesk$Memory;", .fieldLink "CoreDesk$FileWriter" 19 "CoreDesk$FileWriter" "threads" "LCoreDesk$ThreadTable;", .laysFinal "CoreDesk$FileWriter" "CoreDesk$FileWriter" "file" "LCoreDesk$Row;", .laysFinal "CoreDesk$FileWriter" "CoreDesk$FileWriter" "memory" "LCoreDesk$Memory;", .laysFinal "CoreDesk$FileWriter" "CoreDesk$FileWriter" "threads" "LCoreDesk$ThreadTable;", .classLink "CoreDesk" 44 "CoreDesk$TapeCheck", .instantiable "CoreDesk$TapeCheck" 4, .methodLink "CoreDesk" 46 y_Tc_init, .instanceMethod y_Tc_init, .code y_Tc_init prog_6_method_1_code 2 none, .methodLink "CoreDesk$TapeCheck" 3 objectInit, .classLink "CoreDesk$TapeCheck" 15 "CoreDesk$ThreadTable", .methodLink "CoreDesk$TapeCheck" 17 y_Tt_init, .fieldLink "CoreDesk$TapeCheck" 9 "CoreDesk$TapeCheck" "tape" "LCoreDesk$Row;", .fieldLink "CoreDesk$TapeCheck" 18 "CoreDesk$TapeCheck" "found" "LCoreDesk$ThreadTable;", .fieldLink "CoreDesk$TapeCheck" 22 "CoreDesk$TapeCheck" "wrong" "I", .fieldLink "CoreDesk$TapeCheck" 26 "CoreDesk$TapeCheck" "place" "I", .laysFinal "CoreDesk$TapeCheck" "CoreDesk$TapeCheck" "tape" "LCoreDesk$Row;", .laysFinal "CoreDesk$TapeCheck" "CoreDesk$TapeCheck" "found" "LCoreDesk$ThreadTable;", .lays "CoreDesk$TapeCheck" "CoreDesk$TapeCheck" "wrong" "I", .lays "CoreDesk$TapeCheck" "CoreDesk$TapeCheck" "place" "I", .fieldLink "CoreDesk" 10 "CoreDesk" "memory" "LCoreDesk$Memory;", .fieldLink "CoreDesk" 19 "CoreDesk" "threads" "LCoreDesk$ThreadTable;", .fieldLink "CoreDesk" 28 "CoreDesk" "file" "LCoreDesk$Row;", .fieldLink "CoreDesk" 37 "CoreDesk" "writer" "LCoreDesk$FileWriter;", .fieldLink "CoreDesk" 41 "CoreDesk" "tape" "LCoreDesk$Row;", .fieldLink "CoreDesk" 49 "CoreDesk" "check" "LCoreDesk$TapeCheck;", .fieldLink "CoreDesk" 53 "CoreDesk" "coreMemory" "LCoreDesk$Memory;", .fieldLink "CoreDesk" 56 "CoreDesk" "coreThreads" "LCoreDesk$ThreadTable;", .fieldLink "CoreDesk" 59 "CoreDesk" "hasCore" "Z", .laysFinal "CoreDesk" "CoreDesk" "memory" "LCoreDesk$Memory;", .laysFinal "CoreDesk" "CoreDesk" "threads" "LCoreDesk$ThreadTable;", .laysFinal "CoreDesk" "CoreDesk" "file" "LCoreDesk$Row;", .laysFinal "CoreDesk" "CoreDesk" "writer" "LCoreDesk$FileWriter;", .laysFinal "CoreDesk" "CoreDesk" "tape" "LCoreDesk$Row;", .laysFinal "CoreDesk" "CoreDesk" "check" "LCoreDesk$TapeCheck;", .laysFinal "CoreDesk" "CoreDesk" "coreMemory" "LCoreDesk$Memory;", .laysFinal "CoreDesk" "CoreDesk" "coreThreads" "LCoreDesk$ThreadTable;", .lays "CoreDesk" "CoreDesk" "hasCore" "Z", .methodLink "CoreDeskLaw" 25 y_Desk_map, .instanceMethod y_Desk_map]
def cd_A2 : List Cond := [.selects "CoreDesk" y_Desk_map y_Desk_map, .code y_Desk_map prog_1_method_2_code 4 (some .boolean), .methodLink "CoreDesk" 63 y_Mem_addRegion, .instanceMethod y_Mem_addRegion, .selects "CoreDesk$Memory" y_Mem_addRegion y_Mem_addRegion, .code y_Mem_addRegion prog_3_method_4_code 7 (some .boolean), .methodLink "CoreDesk$Memory" 22 y_Mem_isSpan, .static y_Mem_isSpan, .code y_Mem_isSpan prog_3_method_16_code 2 (some .boolean), .constant "CoreDesk$Memory" 81 2147483647, .methodLink "CoreDesk$Memory" 32 y_Mem_overlap, .static y_Mem_overlap, .code y_Mem_overlap prog_3_method_17_code 4 (some .boolean), .methodLink "CoreDesk$Memory" 36 y_Reg_begin, .instanceMethod y_Reg_begin, .selects "CoreDesk$Region" y_Reg_begin y_Reg_begin, .code y_Reg_begin prog_4_method_2_code 4 none, .methodLink "CoreDesk$Region" 25 y_Arr_fill0, .static y_Arr_fill0, .code y_Arr_fill0 prog_16_method_109_code 4 none, .methodLink "CoreDeskLaw" 30 y_Desk_unmap, .instanceMethod y_Desk_unmap, .selects "CoreDesk" y_Desk_unmap y_Desk_unmap, .code y_Desk_unmap prog_1_method_3_code 2 (some .boolean), .methodLink "CoreDesk" 67 y_Mem_removeRegion, .instanceMethod y_Mem_removeRegion, .selects "CoreDesk$Memory" y_Mem_removeRegion y_Mem_removeRegion, .code y_Mem_removeRegion prog_3_method_5_code 5 (some .boolean), .methodLink "CoreDesk$Memory" 40 y_Mem_indexOf, .instanceMethod y_Mem_indexOf, .code y_Mem_indexOf prog_3_method_15_code 3 (some .int), .methodLink "CoreDesk$Memory" 77 y_Reg_has, .instanceMethod y_Reg_has, .selects "CoreDesk$Region" y_Reg_has y_Reg_has, .code y_Reg_has prog_4_method_3_code 2 (some .boolean), .methodLink "CoreDeskLaw" 35 y_Desk_poke, .instanceMethod y_Desk_poke, .selects "CoreDesk" y_Desk_poke y_Desk_poke, .code y_Desk_poke prog_1_method_4_code 3 (some .boolean), .methodLink "CoreDesk" 71 y_Mem_writeByte, .instanceMethod y_Mem_writeByte, .selects "CoreDesk$Memory" y_Mem_writeByte y_Mem_writeByte, .code y_Mem_writeByte prog_3_method_12_code 4 (some .boolean), .methodLink "CoreDesk$Memory" 63 y_Reg_write, .instanceMethod y_Reg_write, .selects "CoreDesk$Region" y_Reg_write y_Reg_write, .code y_Reg_write prog_4_method_5_code 3 none, .methodLink "CoreDeskLaw" 40 y_Desk_pokeFour, .instanceMethod y_Desk_pokeFour, .selects "CoreDesk" y_Desk_pokeFour y_Desk_pokeFour, .code y_Desk_pokeFour prog_1_method_5_code 3 (some .boolean), .methodLink "CoreDesk" 75 y_Mem_writeNumber, .instanceMethod y_Mem_writeNumber, .selects "CoreDesk$Memory" y_Mem_writeNumber y_Mem_writeNumber, .code y_Mem_writeNumber prog_3_method_13_code 4 (some .boolean), .methodLink "CoreDesk$Memory" 67 y_Mem_holds, .instanceMethod y_Mem_holds, .selects "CoreDesk$Memory" y_Mem_holds y_Mem_holds, .code y_Mem_holds prog_3_method_8_code 4 (some .boolean), .methodLink "CoreDesk$Memory" 70 y_Mem_writeByte]
def cd_A3 : List Cond := [.methodLink "CoreDeskLaw" 44 y_Desk_thread, .instanceMethod y_Desk_thread, .selects "CoreDesk" y_Desk_thread y_Desk_thread, .code y_Desk_thread prog_1_method_6_code 2 (some .int), .methodLink "CoreDesk" 78 y_Tt_add, .instanceMethod y_Tt_add, .selects "CoreDesk$ThreadTable" y_Tt_add y_Tt_add, .code y_Tt_add prog_7_method_6_code 2 (some .int), .methodLink "CoreDesk$ThreadTable" 28 y_Tt_hasId, .instanceMethod y_Tt_hasId, .selects "CoreDesk$ThreadTable" y_Tt_hasId y_Tt_hasId, .code y_Tt_hasId prog_7_method_5_code 3 (some .boolean), .methodLink "CoreDeskLaw" 49 y_Desk_set, .instanceMethod y_Desk_set, .selects "CoreDesk" y_Desk_set y_Desk_set, .code y_Desk_set prog_1_method_7_code 4 (some .boolean), .methodLink "CoreDesk" 82 y_Tt_write, .instanceMethod y_Tt_write, .selects "CoreDesk$ThreadTable" y_Tt_write y_Tt_write, .code y_Tt_write prog_7_method_9_code 4 (some .boolean), .methodLink "CoreDesk$ThreadTable" 35 y_Tt_hasValue, .instanceMethod y_Tt_hasValue, .code y_Tt_hasValue prog_7_method_11_code 3 (some .boolean), .methodLink "CoreDesk$ThreadTable" 32 y_Tt_has, .instanceMethod y_Tt_has, .selects "CoreDesk$ThreadTable" y_Tt_has y_Tt_has, .code y_Tt_has prog_7_method_4_code 2 (some .boolean), .methodLink "CoreDeskLaw" 53 y_Desk_dump, .instanceMethod y_Desk_dump, .selects "CoreDesk" y_Desk_dump y_Desk_dump, .code y_Desk_dump prog_1_method_8_code 1 (some .int), .methodLink "CoreDesk" 85 y_Fw_writeFile, .instanceMethod y_Fw_writeFile, .selects "CoreDesk$FileWriter" y_Fw_writeFile y_Fw_writeFile, .code y_Fw_writeFile prog_2_method_2_code 3 none, .methodLink "CoreDesk$FileWriter" 23 y_Row_shorten, .instanceMethod y_Row_shorten, .selects "CoreDesk$Row" y_Row_shorten y_Row_shorten, .code y_Row_shorten prog_5_method_10_code 2 (some .boolean), .methodLink "CoreDesk$FileWriter" 29 y_Fw_writeHeader, .instanceMethod y_Fw_writeHeader, .code y_Fw_writeHeader prog_2_method_4_code 3 none, .methodLink "CoreDesk$FileWriter" 72 y_Fw_entries, .instanceMethod y_Fw_entries, .code y_Fw_entries prog_2_method_3_code 1 (some .int), .methodLink "CoreDesk$FileWriter" 45 y_Mem_count, .instanceMethod y_Mem_count, .selects "CoreDesk$Memory" y_Mem_count y_Mem_count, .code y_Mem_count prog_3_method_2_code 1 (some .int), .methodLink "CoreDesk$FileWriter" 75 y_Row_appendNumber, .instanceMethod y_Row_appendNumber, .selects "CoreDesk$Row" y_Row_appendNumber y_Row_appendNumber, .code y_Row_appendNumber prog_5_method_7_code 5 none, .methodLink "CoreDesk$Row" 19 y_Row_append, .instanceMethod y_Row_append, .selects "CoreDesk$Row" y_Row_append y_Row_append, .code y_Row_append prog_5_method_6_code 2 (some .boolean), .methodLink "CoreDesk$FileWriter" 32 y_Fw_writeEntries, .instanceMethod y_Fw_writeEntries, .code y_Fw_writeEntries prog_2_method_5_code 6 none]
def cd_A4 : List Cond := [.methodLink "CoreDesk$FileWriter" 35 y_Tt_count, .instanceMethod y_Tt_count, .selects "CoreDesk$ThreadTable" y_Tt_count y_Tt_count, .code y_Tt_count prog_7_method_2_code 1 (some .int), .methodLink "CoreDesk$FileWriter" 79 y_Fw_writeNotesEntry, .instanceMethod y_Fw_writeNotesEntry, .code y_Fw_writeNotesEntry prog_2_method_6_code 3 none, .methodLink "CoreDesk$FileWriter" 86 y_Fw_writeFour, .instanceMethod y_Fw_writeFour, .code y_Fw_writeFour prog_2_method_9_code 2 none, .methodLink "CoreDesk$FileWriter" 48 y_Mem_regionAt, .instanceMethod y_Mem_regionAt, .selects "CoreDesk$Memory" y_Mem_regionAt y_Mem_regionAt, .code y_Mem_regionAt prog_3_method_7_code 2 (some (.object "CoreDesk$Region")), .methodLink "CoreDesk$FileWriter" 58 y_Reg_usedBytes, .instanceMethod y_Reg_usedBytes, .selects "CoreDesk$Region" y_Reg_usedBytes y_Reg_usedBytes, .code y_Reg_usedBytes prog_4_method_6_code 2 (some .int), .methodLink "CoreDesk$Region" 31 y_Reg_read, .instanceMethod y_Reg_read, .selects "CoreDesk$Region" y_Reg_read y_Reg_read, .code y_Reg_read prog_4_method_4_code 2 (some .int), .methodLink "CoreDesk$FileWriter" 82 y_Fw_writeRegionEntry, .instanceMethod y_Fw_writeRegionEntry, .code y_Fw_writeRegionEntry prog_2_method_7_code 4 none, .methodLink "CoreDesk$FileWriter" 41 y_Fw_writeNote, .instanceMethod y_Fw_writeNote, .code y_Fw_writeNote prog_2_method_8_code 3 none, .methodLink "CoreDesk$FileWriter" 102 y_Row_append, .methodLink "CoreDesk$FileWriter" 105 y_Tt_id, .instanceMethod y_Tt_id, .selects "CoreDesk$ThreadTable" y_Tt_id y_Tt_id, .code y_Tt_id prog_7_method_7_code 2 (some .int), .methodLink "CoreDesk$FileWriter" 109 y_Tt_read, .instanceMethod y_Tt_read, .selects "CoreDesk$ThreadTable" y_Tt_read y_Tt_read, .code y_Tt_read prog_7_method_8_code 3 (some .int), .methodLink "CoreDesk$FileWriter" 61 y_Row_appendBytes, .instanceMethod y_Row_appendBytes, .selects "CoreDesk$Row" y_Row_appendBytes y_Row_appendBytes, .code y_Row_appendBytes prog_5_method_8_code 3 none, .methodLink "CoreDesk$Row" 23 arraycopyName, .static arraycopyName, .native arraycopyName, .methodLink "CoreDesk" 88 y_Row_length, .instanceMethod y_Row_length, .selects "CoreDesk$Row" y_Row_length y_Row_length, .code y_Row_length prog_5_method_2_code 1 (some .int), .methodLink "CoreDeskLaw" 57 y_Desk_byteAt, .instanceMethod y_Desk_byteAt, .selects "CoreDesk" y_Desk_byteAt y_Desk_byteAt, .code y_Desk_byteAt prog_1_method_9_code 2 (some .int), .methodLink "CoreDesk" 92 y_Row_at, .instanceMethod y_Row_at, .selects "CoreDesk$Row" y_Row_at y_Row_at, .code y_Row_at prog_5_method_3_code 2 (some .int), .methodLink "CoreDeskLaw" 61 y_Desk_copy, .instanceMethod y_Desk_copy, .selects "CoreDesk" y_Desk_copy y_Desk_copy, .code y_Desk_copy prog_1_method_10_code 1 (some .int)]
def cd_A5 : List Cond := [.methodLink "CoreDesk" 95 y_Row_become, .instanceMethod y_Row_become, .selects "CoreDesk$Row" y_Row_become y_Row_become, .code y_Row_become prog_5_method_11_code 2 none, .methodLink "CoreDesk$Row" 29 y_Row_appendBytes, .methodLink "CoreDeskLaw" 65 y_Desk_put, .instanceMethod y_Desk_put, .selects "CoreDesk" y_Desk_put y_Desk_put, .code y_Desk_put prog_1_method_11_code 3 (some .boolean), .methodLink "CoreDesk" 98 y_Row_append, .methodLink "CoreDesk" 101 y_Row_change, .instanceMethod y_Row_change, .selects "CoreDesk$Row" y_Row_change y_Row_change, .code y_Row_change prog_5_method_5_code 3 (some .boolean), .methodLink "CoreDeskLaw" 69 y_Desk_cut, .instanceMethod y_Desk_cut, .selects "CoreDesk" y_Desk_cut y_Desk_cut, .code y_Desk_cut prog_1_method_12_code 2 (some .boolean), .methodLink "CoreDesk" 104 y_Row_shorten, .methodLink "CoreDeskLaw" 82 y_Desk_error, .instanceMethod y_Desk_error, .selects "CoreDesk" y_Desk_error y_Desk_error, .code y_Desk_error prog_1_method_14_code 2 (some .int), .methodLink "CoreDesk" 120 y_Tc_wrong, .instanceMethod y_Tc_wrong, .selects "CoreDesk$TapeCheck" y_Tc_wrong y_Tc_wrong, .code y_Tc_wrong prog_6_method_2_code 1 (some .int), .methodLink "CoreDesk" 123 y_Tc_place, .instanceMethod y_Tc_place, .selects "CoreDesk$TapeCheck" y_Tc_place y_Tc_place, .code y_Tc_place prog_6_method_3_code 1 (some .int), .methodLink "CoreDeskLaw" 86 y_Desk_core, .instanceMethod y_Desk_core, .selects "CoreDesk" y_Desk_core y_Desk_core, .code y_Desk_core prog_1_method_15_code 2 (some .int), .methodLink "CoreDesk" 117 y_Mem_count, .methodLink "CoreDesk" 126 y_Tt_count, .methodLink "CoreDeskLaw" 90 y_Desk_peek, .instanceMethod y_Desk_peek, .selects "CoreDesk" y_Desk_peek y_Desk_peek, .code y_Desk_peek prog_1_method_16_code 2 (some .int), .methodLink "CoreDesk" 127 y_Mem_readByte, .instanceMethod y_Mem_readByte, .selects "CoreDesk$Memory" y_Mem_readByte y_Mem_readByte, .code y_Mem_readByte prog_3_method_9_code 3 (some .int), .methodLink "CoreDesk$Memory" 54 y_Reg_read, .methodLink "CoreDeskLaw" 94 y_Desk_flags, .instanceMethod y_Desk_flags, .selects "CoreDesk" y_Desk_flags y_Desk_flags, .code y_Desk_flags prog_1_method_17_code 2 (some .int), .methodLink "CoreDesk" 130 y_Mem_flagsAt, .instanceMethod y_Mem_flagsAt, .selects "CoreDesk$Memory" y_Mem_flagsAt y_Mem_flagsAt, .code y_Mem_flagsAt prog_3_method_11_code 3 (some .int), .methodLink "CoreDeskLaw" 102 y_Desk_find, .instanceMethod y_Desk_find, .selects "CoreDesk" y_Desk_find y_Desk_find, .code y_Desk_find prog_1_method_19_code 3 (some .int), .methodLink "CoreDesk" 146 y_Mem_search, .instanceMethod y_Mem_search]
def cd_A6 : List Cond := [.selects "CoreDesk$Memory" y_Mem_search y_Mem_search, .code y_Mem_search prog_3_method_14_code 5 (some .int), .methodLink "CoreDesk$Memory" 73 y_Reg_search, .instanceMethod y_Reg_search, .selects "CoreDesk$Region" y_Reg_search y_Reg_search, .code y_Reg_search prog_4_method_7_code 5 (some .int), .methodLink "CoreDesk$Region" 35 y_Reg_numberAt, .instanceMethod y_Reg_numberAt, .code y_Reg_numberAt prog_4_method_8_code 2 (some .int), .methodLink "CoreDeskLaw" 106 y_Desk_caller, .instanceMethod y_Desk_caller, .selects "CoreDesk" y_Desk_caller y_Desk_caller, .code y_Desk_caller prog_1_method_20_code 6 (some .int), .methodLink "CoreDesk" 133 y_Tt_has, .methodLink "CoreDesk" 139 y_Tt_read, .methodLink "CoreDesk" 149 y_Desk_isFrame, .instanceMethod y_Desk_isFrame, .code y_Desk_isFrame prog_1_method_21_code 3 (some .boolean), .methodLink "CoreDesk" 155 y_Mem_holds, .methodLink "CoreDesk" 152 y_Mem_readNumber, .instanceMethod y_Mem_readNumber, .selects "CoreDesk$Memory" y_Mem_readNumber y_Mem_readNumber, .code y_Mem_readNumber prog_3_method_10_code 4 (some .int), .methodLink "CoreDesk$Memory" 57 y_Mem_readByte, .methodLink "CoreDeskLaw" 73 y_Law_load, .static y_Law_load, .classLink "CoreDeskLaw" 13 "java/lang/IllegalArgumentException", .methodLink "CoreDeskLaw" 7 y_Desk_load, .instanceMethod y_Desk_load, .selects "CoreDesk" y_Desk_load y_Desk_load, .code y_Desk_load prog_1_method_13_code 1 (some .int), .methodLink "CoreDesk" 107 y_Tc_passes, .instanceMethod y_Tc_passes, .selects "CoreDesk$TapeCheck" y_Tc_passes y_Tc_passes, .code y_Tc_passes prog_6_method_7_code 1 (some .boolean), .methodLink "CoreDesk$TapeCheck" 38 y_Tt_clear, .instanceMethod y_Tt_clear, .selects "CoreDesk$ThreadTable" y_Tt_clear y_Tt_clear, .code y_Tt_clear prog_7_method_3_code 1 none, .methodLink "CoreDesk$ThreadTable" 22 y_Arr_fill1, .static y_Arr_fill1, .code y_Arr_fill1 prog_16_method_103_code 4 none, .methodLink "CoreDesk$TapeCheck" 41 y_Tc_headerPasses, .instanceMethod y_Tc_headerPasses, .code y_Tc_headerPasses prog_6_method_10_code 3 (some .boolean), .methodLink "CoreDesk$TapeCheck" 51 y_Row_length, .methodLink "CoreDesk$TapeCheck" 55 y_Tc_refuse, .instanceMethod y_Tc_refuse, .code y_Tc_refuse prog_6_method_8_code 3 (some .boolean), .methodLink "CoreDesk$TapeCheck" 29 y_Row_number, .instanceMethod y_Row_number, .selects "CoreDesk$Row" y_Row_number y_Row_number, .code y_Row_number prog_5_method_4_code 5 (some .int), .methodLink "CoreDesk$TapeCheck" 66 y_Tc_headerFieldFits, .instanceMethod y_Tc_headerFieldFits, .code y_Tc_headerFieldFits prog_6_method_11_code 3 (some .boolean), .methodLink "CoreDesk$TapeCheck" 69 y_Tc_entries, .instanceMethod y_Tc_entries, .selects "CoreDesk$TapeCheck" y_Tc_entries y_Tc_entries, .code y_Tc_entries prog_6_method_5_code 1 (some .int)]
def cd_A7 : List Cond := [.methodLink "CoreDesk$TapeCheck" 35 y_Tc_fieldPlace, .instanceMethod y_Tc_fieldPlace, .code y_Tc_fieldPlace prog_6_method_9_code 3 (some .int), .methodLink "CoreDesk$TapeCheck" 45 y_Tc_entriesPass, .instanceMethod y_Tc_entriesPass, .code y_Tc_entriesPass prog_6_method_12_code 3 (some .boolean), .methodLink "CoreDesk$TapeCheck" 72 y_Tc_fieldsPass, .instanceMethod y_Tc_fieldsPass, .code y_Tc_fieldsPass prog_6_method_13_code 5 (some .boolean), .methodLink "CoreDesk$TapeCheck" 82 y_Tc_entryField, .instanceMethod y_Tc_entryField, .selects "CoreDesk$TapeCheck" y_Tc_entryField y_Tc_entryField, .code y_Tc_entryField prog_6_method_6_code 3 (some .int), .methodLink "CoreDesk$TapeCheck" 85 y_Tc_notesFieldFits, .instanceMethod y_Tc_notesFieldFits, .code y_Tc_notesFieldFits prog_6_method_14_code 3 (some .boolean), .methodLink "CoreDesk$TapeCheck" 88 y_Tc_regionFieldFits, .instanceMethod y_Tc_regionFieldFits, .code y_Tc_regionFieldFits prog_6_method_15_code 4 (some .boolean), .methodLink "CoreDesk$TapeCheck" 92 y_Mem_isSpan, .methodLink "CoreDesk$TapeCheck" 76 y_Tc_bytesPass, .instanceMethod y_Tc_bytesPass, .code y_Tc_bytesPass prog_6_method_16_code 5 (some .boolean), .methodLink "CoreDesk$TapeCheck" 97 y_Mem_overlap, .methodLink "CoreDesk$TapeCheck" 79 y_Tc_addressesPass, .instanceMethod y_Tc_addressesPass, .code y_Tc_addressesPass prog_6_method_17_code 5 (some .boolean), .methodLink "CoreDesk$TapeCheck" 48 y_Tc_notesPass, .instanceMethod y_Tc_notesPass, .code y_Tc_notesPass prog_6_method_18_code 4 (some .boolean), .methodLink "CoreDesk$TapeCheck" 101 y_Tc_noteHeadPasses, .instanceMethod y_Tc_noteHeadPasses, .code y_Tc_noteHeadPasses prog_6_method_21_code 5 (some .boolean), .methodLink "CoreDesk$TapeCheck" 117 y_Row_at, .methodLink "CoreDesk$TapeCheck" 107 y_Tc_noteSize, .instanceMethod y_Tc_noteSize, .code y_Tc_noteSize prog_6_method_19_code 2 (some .int), .methodLink "CoreDesk$TapeCheck" 111 y_Tc_padded, .instanceMethod y_Tc_padded, .code y_Tc_padded prog_6_method_20_code 2 (some .int), .methodLink "CoreDesk$TapeCheck" 104 y_Tc_threadPasses, .instanceMethod y_Tc_threadPasses, .code y_Tc_threadPasses prog_6_method_22_code 6 (some .boolean), .methodLink "CoreDesk$TapeCheck" 120 y_Tt_hasId, .methodLink "CoreDesk$TapeCheck" 123 y_Tt_add, .methodLink "CoreDesk$TapeCheck" 126 y_Tt_write, .classLink "CoreDesk" 111 "java/lang/IllegalArgumentException", .instantiable "java/lang/IllegalArgumentException" 6, .selects "java/lang/IllegalArgumentException" ⟨"java/lang/Throwable", "fillInStackTrace", "(I)Ljava/lang/Throwable;"⟩ ⟨"java/lang/Throwable", "fillInStackTrace", "(I)Ljava/lang/Throwable;"⟩, .selects "java/lang/IllegalArgumentException" ⟨"java/lang/Throwable", "fillInStackTrace", "()Ljava/lang/Throwable;"⟩ ⟨"java/lang/Throwable", "fillInStackTrace", "()Ljava/lang/Throwable;"⟩, .lays "java/lang/IllegalArgumentException" "java/lang/Throwable" "cause" "Ljava/lang/Throwable;", .lays "java/lang/Throwable" "java/lang/Throwable" "cause" "Ljava/lang/Throwable;", .lays "java/lang/IllegalArgumentException" "java/lang/Throwable" "stackTrace" "[Ljava/lang/StackTraceElement;", .lays "java/lang/Throwable" "java/lang/Throwable" "stackTrace" "[Ljava/lang/StackTraceElement;", .lays "java/lang/IllegalArgumentException" "java/lang/Throwable" "suppressedExceptions" "Ljava/util/List;", .lays "java/lang/Throwable" "java/lang/Throwable" "suppressedExceptions" "Ljava/util/List;", .lays "java/lang/IllegalArgumentException" "java/lang/Throwable" "detailMessage" "Ljava/lang/String;", .lays "java/lang/Throwable" "java/lang/Throwable" "detailMessage" "Ljava/lang/String;", .lays "java/lang/IllegalArgumentException" "java/lang/Throwable" "backtrace" "Ljava/lang/Object;", .lays "java/lang/Throwable" "java/lang/Throwable" "backtrace" "Ljava/lang/Object;"]
def cd_A8 : List Cond := [.fieldLink "java/lang/Throwable" 198 "java/lang/Throwable" "backtrace" "Ljava/lang/Object;", .instanceMethod ⟨"java/lang/Throwable", "<init>", "()V"⟩, .code ⟨"java/lang/Throwable", "<init>", "()V"⟩ prog_15_method_1_code 1 none, .methodLink "java/lang/Throwable" 1 objectInit, .fieldLink "java/lang/Throwable" 13 "java/lang/Throwable" "UNASSIGNED_STACK" "[Ljava/lang/StackTraceElement;", .fieldLink "java/lang/Throwable" 20 "java/lang/Throwable" "SUPPRESSED_SENTINEL" "Ljava/util/List;", .methodLink "java/lang/Throwable" 27 ⟨"java/lang/Throwable", "fillInStackTrace", "()Ljava/lang/Throwable;"⟩, .instanceMethod ⟨"java/lang/Throwable", "fillInStackTrace", "()Ljava/lang/Throwable;"⟩, .selects "java/lang/IndexOutOfBoundsException" ⟨"java/lang/Throwable", "fillInStackTrace", "()Ljava/lang/Throwable;"⟩ ⟨"java/lang/Throwable", "fillInStackTrace", "()Ljava/lang/Throwable;"⟩, .methodLink "java/lang/Throwable" 202 ⟨"java/lang/Throwable", "fillInStackTrace", "(I)Ljava/lang/Throwable;"⟩, .instanceMethod ⟨"java/lang/Throwable", "fillInStackTrace", "(I)Ljava/lang/Throwable;"⟩, .instantiable "java/lang/Throwable" 6, .native ⟨"java/lang/Throwable", "fillInStackTrace", "(I)Ljava/lang/Throwable;"⟩, .methodLink "CoreDesk" 113 ⟨"java/lang/IllegalArgumentException", "<init>", "()V"⟩, .instanceMethod ⟨"java/lang/IllegalArgumentException", "<init>", "()V"⟩, .code ⟨"java/lang/IllegalArgumentException", "<init>", "()V"⟩ prog_11_method_1_code 1 none, .methodLink "java/lang/IllegalArgumentException" 1 ⟨"java/lang/RuntimeException", "<init>", "()V"⟩, .instanceMethod ⟨"java/lang/RuntimeException", "<init>", "()V"⟩, .code ⟨"java/lang/RuntimeException", "<init>", "()V"⟩ prog_13_method_1_code 1 none, .methodLink "java/lang/RuntimeException" 1 ⟨"java/lang/Exception", "<init>", "()V"⟩, .instanceMethod ⟨"java/lang/Exception", "<init>", "()V"⟩, .code ⟨"java/lang/Exception", "<init>", "()V"⟩ prog_10_method_1_code 1 none, .methodLink "java/lang/Exception" 1 ⟨"java/lang/Throwable", "<init>", "()V"⟩, .fieldLink "java/lang/Throwable" 7 "java/lang/Throwable" "cause" "Ljava/lang/Throwable;", .fieldLink "java/lang/Throwable" 17 "java/lang/Throwable" "stackTrace" "[Ljava/lang/StackTraceElement;", .fieldLink "java/lang/Throwable" 24 "java/lang/Throwable" "suppressedExceptions" "Ljava/util/List;", .lays "java/lang/IllegalArgumentException" "java/lang/Throwable" "depth" "I", .methodLink "CoreDesk" 114 y_Desk_takeCore, .instanceMethod y_Desk_takeCore, .code y_Desk_takeCore prog_1_method_22_code 4 none, .methodLink "CoreDesk" 158 y_Mem_clear, .instanceMethod y_Mem_clear, .selects "CoreDesk$Memory" y_Mem_clear y_Mem_clear, .code y_Mem_clear prog_3_method_3_code 1 none, .methodLink "CoreDesk" 161 y_Tc_entries, .methodLink "CoreDesk" 164 y_Tc_entryField, .methodLink "CoreDesk" 167 y_Mem_fillRegion, .instanceMethod y_Mem_fillRegion, .selects "CoreDesk$Memory" y_Mem_fillRegion y_Mem_fillRegion, .code y_Mem_fillRegion prog_3_method_6_code 6 none, .methodLink "CoreDesk$Memory" 48 y_Row_giveBytes, .instanceMethod y_Row_giveBytes, .selects "CoreDesk$Row" y_Row_giveBytes y_Row_giveBytes, .code y_Row_giveBytes prog_5_method_9_code 4 none, .methodLink "CoreDesk" 171 y_Tc_threadsFound, .instanceMethod y_Tc_threadsFound, .selects "CoreDesk$TapeCheck" y_Tc_threadsFound y_Tc_threadsFound, .code y_Tc_threadsFound prog_6_method_4_code 1 (some (.object "CoreDesk$ThreadTable")), .methodLink "CoreDesk" 175 y_Tt_become, .instanceMethod y_Tt_become, .selects "CoreDesk$ThreadTable" y_Tt_become y_Tt_become, .code y_Tt_become prog_7_method_10_code 2 none, .methodLink "CoreDesk$ThreadTable" 39 arraycopyName, .methodLink "CoreDeskLaw" 98 y_Law_register, .static y_Law_register, .classLink "CoreDeskLaw" 19 "java/lang/IndexOutOfBoundsException", .methodLink "CoreDeskLaw" 15 y_Desk_register, .instanceMethod y_Desk_register, .selects "CoreDesk" y_Desk_register y_Desk_register, .code y_Desk_register prog_1_method_18_code 3 (some .int)]
def cd_A9 : List Cond := [.methodLink "CoreDesk" 136 y_Tt_id, .classLink "CoreDesk" 143 "java/lang/IndexOutOfBoundsException", .instantiable "java/lang/IndexOutOfBoundsException" 6, .selects "java/lang/IndexOutOfBoundsException" ⟨"java/lang/Throwable", "fillInStackTrace", "(I)Ljava/lang/Throwable;"⟩ ⟨"java/lang/Throwable", "fillInStackTrace", "(I)Ljava/lang/Throwable;"⟩, .lays "java/lang/IndexOutOfBoundsException" "java/lang/Throwable" "cause" "Ljava/lang/Throwable;", .lays "java/lang/IndexOutOfBoundsException" "java/lang/Throwable" "stackTrace" "[Ljava/lang/StackTraceElement;", .lays "java/lang/IndexOutOfBoundsException" "java/lang/Throwable" "suppressedExceptions" "Ljava/util/List;", .lays "java/lang/IndexOutOfBoundsException" "java/lang/Throwable" "detailMessage" "Ljava/lang/String;", .lays "java/lang/IndexOutOfBoundsException" "java/lang/Throwable" "backtrace" "Ljava/lang/Object;", .methodLink "CoreDesk" 145 ⟨"java/lang/IndexOutOfBoundsException", "<init>", "()V"⟩, .instanceMethod ⟨"java/lang/IndexOutOfBoundsException", "<init>", "()V"⟩, .code ⟨"java/lang/IndexOutOfBoundsException", "<init>", "()V"⟩ prog_12_method_1_code 1 none, .methodLink "java/lang/IndexOutOfBoundsException" 1 ⟨"java/lang/RuntimeException", "<init>", "()V"⟩, .lays "java/lang/IndexOutOfBoundsException" "java/lang/Throwable" "depth" "I", .classLink "CoreDeskLaw" 22 "CoreDeskModel", .instantiable "CoreDeskModel" 16, .methodLink "CoreDeskLaw" 24 y_Mo_init, .instanceMethod y_Mo_init, .code y_Mo_init prog_9_method_1_code 1 none, .methodLink "CoreDeskModel" 1 objectInit, .fieldLink "CoreDeskModel" 45 "CoreDeskModel" "thrown" "I", .fieldLink "CoreDeskModel" 7 "CoreDeskModel" "address" "[I", .fieldLink "CoreDeskModel" 13 "CoreDeskModel" "size" "[I", .fieldLink "CoreDeskModel" 16 "CoreDeskModel" "flag" "[I", .fieldLink "CoreDeskModel" 19 "CoreDeskModel" "bytes" "[B", .fieldLink "CoreDeskModel" 23 "CoreDeskModel" "regions" "[I", .fieldLink "CoreDeskModel" 26 "CoreDeskModel" "threads" "[I", .fieldLink "CoreDeskModel" 29 "CoreDeskModel" "id" "[I", .fieldLink "CoreDeskModel" 32 "CoreDeskModel" "register" "[I", .fieldLink "CoreDeskModel" 35 "CoreDeskModel" "file" "[B", .fieldLink "CoreDeskModel" 38 "CoreDeskModel" "fileSize" "I", .fieldLink "CoreDeskModel" 42 "CoreDeskModel" "tape" "[B", .fieldLink "CoreDeskModel" 86 "CoreDeskModel" "tapeSize" "I", .fieldLink "CoreDeskModel" 147 "CoreDeskModel" "hasCore" "Z", .fieldLink "CoreDeskModel" 92 "CoreDeskModel" "wrong" "I", .fieldLink "CoreDeskModel" 95 "CoreDeskModel" "where" "I", .lays "CoreDeskModel" "CoreDeskModel" "thrown" "I", .laysFinal "CoreDeskModel" "CoreDeskModel" "address" "[I", .laysFinal "CoreDeskModel" "CoreDeskModel" "size" "[I", .laysFinal "CoreDeskModel" "CoreDeskModel" "flag" "[I", .laysFinal "CoreDeskModel" "CoreDeskModel" "bytes" "[B", .laysFinal "CoreDeskModel" "CoreDeskModel" "regions" "[I", .laysFinal "CoreDeskModel" "CoreDeskModel" "threads" "[I", .laysFinal "CoreDeskModel" "CoreDeskModel" "id" "[I", .laysFinal "CoreDeskModel" "CoreDeskModel" "register" "[I", .laysFinal "CoreDeskModel" "CoreDeskModel" "file" "[B", .lays "CoreDeskModel" "CoreDeskModel" "fileSize" "I", .laysFinal "CoreDeskModel" "CoreDeskModel" "tape" "[B", .lays "CoreDeskModel" "CoreDeskModel" "tapeSize" "I", .lays "CoreDeskModel" "CoreDeskModel" "hasCore" "Z", .lays "CoreDeskModel" "CoreDeskModel" "wrong" "I", .lays "CoreDeskModel" "CoreDeskModel" "where" "I", .methodLink "CoreDeskLaw" 79 y_Mo_thrown, .instanceMethod y_Mo_thrown, .selects "CoreDeskModel" y_Mo_thrown y_Mo_thrown, .code y_Mo_thrown prog_9_method_2_code 1 (some .int), .methodLink "CoreDeskLaw" 29 y_Mo_map, .instanceMethod y_Mo_map, .selects "CoreDeskModel" y_Mo_map y_Mo_map, .code y_Mo_map prog_9_method_5_code 6 (some .boolean)]
def cd_A10 : List Cond := [.constantLong "CoreDeskModel" 52 2147483648, .methodLink "CoreDeskModel" 48 y_Mo_within, .instanceMethod y_Mo_within, .code y_Mo_within prog_9_method_3_code 5 (some .int), .methodLink "CoreDeskLaw" 34 y_Mo_unmap, .instanceMethod y_Mo_unmap, .selects "CoreDeskModel" y_Mo_unmap y_Mo_unmap, .code y_Mo_unmap prog_9_method_7_code 4 (some .boolean), .methodLink "CoreDeskModel" 54 y_Mo_move, .instanceMethod y_Mo_move, .code y_Mo_move prog_9_method_6_code 4 none, .methodLink "CoreDeskLaw" 39 y_Mo_poke, .instanceMethod y_Mo_poke, .selects "CoreDeskModel" y_Mo_poke y_Mo_poke, .code y_Mo_poke prog_9_method_8_code 4 (some .boolean), .methodLink "CoreDeskLaw" 43 y_Mo_pokeFour, .instanceMethod y_Mo_pokeFour, .selects "CoreDeskModel" y_Mo_pokeFour y_Mo_pokeFour, .code y_Mo_pokeFour prog_9_method_9_code 5 (some .boolean), .methodLink "CoreDeskLaw" 48 y_Mo_thread, .instanceMethod y_Mo_thread, .selects "CoreDeskModel" y_Mo_thread y_Mo_thread, .code y_Mo_thread prog_9_method_11_code 3 (some .int), .methodLink "CoreDeskModel" 58 y_Mo_hasId, .instanceMethod y_Mo_hasId, .code y_Mo_hasId prog_9_method_10_code 5 (some .boolean), .methodLink "CoreDeskLaw" 52 y_Mo_set, .instanceMethod y_Mo_set, .selects "CoreDeskModel" y_Mo_set y_Mo_set, .code y_Mo_set prog_9_method_12_code 4 (some .boolean), .methodLink "CoreDeskLaw" 56 y_Mo_dump, .instanceMethod y_Mo_dump, .selects "CoreDeskModel" y_Mo_dump y_Mo_dump, .code y_Mo_dump prog_9_method_20_code 5 (some .int), .methodLink "CoreDeskModel" 72 y_Mo_header, .instanceMethod y_Mo_header, .code y_Mo_header prog_9_method_19_code 2 none, .methodLink "CoreDeskModel" 62 y_Mo_lay, .instanceMethod y_Mo_lay, .code y_Mo_lay prog_9_method_13_code 2 none, .methodLink "CoreDeskModel" 66 y_Mo_two, .instanceMethod y_Mo_two, .code y_Mo_two prog_9_method_14_code 2 none, .methodLink "CoreDeskModel" 69 y_Mo_four, .instanceMethod y_Mo_four, .code y_Mo_four prog_9_method_15_code 2 none, .methodLink "CoreDeskModel" 75 y_Mo_programHeader, .instanceMethod y_Mo_programHeader, .code y_Mo_programHeader prog_9_method_18_code 8 none, .methodLink "CoreDeskModel" 79 y_Mo_above, .instanceMethod y_Mo_above, .code y_Mo_above prog_9_method_17_code 4 (some .int), .methodLink "CoreDeskModel" 83 y_Mo_filled, .instanceMethod y_Mo_filled, .code y_Mo_filled prog_9_method_16_code 4 (some .int), .methodLink "CoreDeskLaw" 60 y_Mo_byteAt, .instanceMethod y_Mo_byteAt, .selects "CoreDeskModel" y_Mo_byteAt y_Mo_byteAt, .code y_Mo_byteAt prog_9_method_21_code 2 (some .int), .methodLink "CoreDeskLaw" 64 y_Mo_copy]
def cd_A11 : List Cond := [.instanceMethod y_Mo_copy, .selects "CoreDeskModel" y_Mo_copy y_Mo_copy, .code y_Mo_copy prog_9_method_22_code 2 (some .int), .methodLink "CoreDeskLaw" 68 y_Mo_put, .instanceMethod y_Mo_put, .selects "CoreDeskModel" y_Mo_put y_Mo_put, .code y_Mo_put prog_9_method_23_code 3 (some .boolean), .methodLink "CoreDeskLaw" 72 y_Mo_cut, .instanceMethod y_Mo_cut, .selects "CoreDeskModel" y_Mo_cut y_Mo_cut, .code y_Mo_cut prog_9_method_24_code 2 (some .boolean), .methodLink "CoreDeskLaw" 78 y_Mo_load, .instanceMethod y_Mo_load, .selects "CoreDeskModel" y_Mo_load y_Mo_load, .code y_Mo_load prog_9_method_39_code 3 (some .int), .methodLink "CoreDeskModel" 144 y_Mo_reads, .instanceMethod y_Mo_reads, .code y_Mo_reads prog_9_method_38_code 3 (some .boolean), .methodLink "CoreDeskModel" 131 y_Mo_headerFits, .instanceMethod y_Mo_headerFits, .code y_Mo_headerFits prog_9_method_30_code 3 (some .boolean), .methodLink "CoreDeskModel" 98 y_Mo_isWrong, .instanceMethod y_Mo_isWrong, .code y_Mo_isWrong prog_9_method_27_code 3 (some .boolean), .methodLink "CoreDeskModel" 101 y_Mo_headerByte, .static y_Mo_headerByte, .code y_Mo_headerByte prog_9_method_28_code 1 (some .int), .methodLink "CoreDeskModel" 89 y_Mo_twoAt, .instanceMethod y_Mo_twoAt, .code y_Mo_twoAt prog_9_method_25_code 2 (some .int), .methodLink "CoreDeskModel" 104 y_Mo_fieldOf, .static y_Mo_fieldOf, .code y_Mo_fieldOf prog_9_method_29_code 1 (some .int), .methodLink "CoreDeskModel" 135 y_Mo_entryFits, .instanceMethod y_Mo_entryFits, .code y_Mo_entryFits prog_9_method_33_code 11 (some .boolean), .methodLink "CoreDeskModel" 110 y_Mo_badField, .instanceMethod y_Mo_badField, .code y_Mo_badField prog_9_method_31_code 8 (some .int), .methodLink "CoreDeskModel" 107 y_Mo_fourAt, .instanceMethod y_Mo_fourAt, .code y_Mo_fourAt prog_9_method_26_code 2 (some .int), .methodLink "CoreDeskModel" 114 y_Mo_meet, .static y_Mo_meet, .code y_Mo_meet prog_9_method_32_code 8 (some .boolean), .methodLink "CoreDeskModel" 138 y_Mo_notesFit, .instanceMethod y_Mo_notesFit, .code y_Mo_notesFit prog_9_method_36_code 4 (some .boolean), .methodLink "CoreDeskModel" 127 y_Mo_note, .instanceMethod y_Mo_note, .code y_Mo_note prog_9_method_35_code 8 (some .int), .methodLink "CoreDeskModel" 118 y_Mo_noteByte, .static y_Mo_noteByte, .code y_Mo_noteByte prog_9_method_34_code 1 (some .int), .constantLong "CoreDeskModel" 121 20, .constantLong "CoreDeskModel" 123 3, .constantLong "CoreDeskModel" 125 4, .methodLink "CoreDeskModel" 141 y_Mo_readRegions, .instanceMethod y_Mo_readRegions, .code y_Mo_readRegions prog_9_method_37_code 7 none]
def cd_A12 : List Cond := [.methodLink "CoreDeskLaw" 85 y_Mo_error, .instanceMethod y_Mo_error, .selects "CoreDeskModel" y_Mo_error y_Mo_error, .code y_Mo_error prog_9_method_40_code 2 (some .int), .methodLink "CoreDeskLaw" 89 y_Mo_core, .instanceMethod y_Mo_core, .selects "CoreDeskModel" y_Mo_core y_Mo_core, .code y_Mo_core prog_9_method_41_code 2 (some .int), .methodLink "CoreDeskLaw" 93 y_Mo_peek, .instanceMethod y_Mo_peek, .selects "CoreDeskModel" y_Mo_peek y_Mo_peek, .code y_Mo_peek prog_9_method_42_code 2 (some .int), .methodLink "CoreDeskModel" 151 y_Mo_byteOf, .instanceMethod y_Mo_byteOf, .code y_Mo_byteOf prog_9_method_4_code 5 (some .int), .methodLink "CoreDeskLaw" 97 y_Mo_flags, .instanceMethod y_Mo_flags, .selects "CoreDeskModel" y_Mo_flags y_Mo_flags, .code y_Mo_flags prog_9_method_43_code 3 (some .int), .methodLink "CoreDeskLaw" 101 y_Mo_register, .instanceMethod y_Mo_register, .selects "CoreDeskModel" y_Mo_register y_Mo_register, .code y_Mo_register prog_9_method_44_code 3 (some .int), .methodLink "CoreDeskLaw" 105 y_Mo_find, .instanceMethod y_Mo_find, .selects "CoreDeskModel" y_Mo_find y_Mo_find, .code y_Mo_find prog_9_method_46_code 8 (some .int), .methodLink "CoreDeskModel" 156 y_Mo_number, .instanceMethod y_Mo_number, .code y_Mo_number prog_9_method_45_code 3 (some .int), .constantLong "CoreDeskModel" 154 2, .methodLink "CoreDeskLaw" 109 y_Mo_caller, .instanceMethod y_Mo_caller, .selects "CoreDeskModel" y_Mo_caller y_Mo_caller, .code y_Mo_caller prog_9_method_47_code 9 (some .int), .arrayClass .long, .selects "CoreDesk$Memory" y_Mem_indexOf y_Mem_indexOf, .selects "CoreDesk$ThreadTable" y_Tt_hasValue y_Tt_hasValue, .selects "CoreDesk$FileWriter" y_Fw_writeHeader y_Fw_writeHeader, .selects "CoreDesk$FileWriter" y_Fw_entries y_Fw_entries, .selects "CoreDesk$FileWriter" y_Fw_writeEntries y_Fw_writeEntries, .selects "CoreDesk$FileWriter" y_Fw_writeNotesEntry y_Fw_writeNotesEntry, .selects "CoreDesk$FileWriter" y_Fw_writeFour y_Fw_writeFour, .selects "CoreDesk$FileWriter" y_Fw_writeRegionEntry y_Fw_writeRegionEntry, .selects "CoreDesk$FileWriter" y_Fw_writeNote y_Fw_writeNote, .selects "CoreDesk$Region" y_Reg_numberAt y_Reg_numberAt, .selects "CoreDesk" y_Desk_isFrame y_Desk_isFrame, .selects "CoreDesk$TapeCheck" y_Tc_headerPasses y_Tc_headerPasses, .selects "CoreDesk$TapeCheck" y_Tc_refuse y_Tc_refuse, .selects "CoreDesk$TapeCheck" y_Tc_headerFieldFits y_Tc_headerFieldFits, .selects "CoreDesk$TapeCheck" y_Tc_fieldPlace y_Tc_fieldPlace, .selects "CoreDesk$TapeCheck" y_Tc_entriesPass y_Tc_entriesPass, .selects "CoreDesk$TapeCheck" y_Tc_fieldsPass y_Tc_fieldsPass, .selects "CoreDesk$TapeCheck" y_Tc_notesFieldFits y_Tc_notesFieldFits, .selects "CoreDesk$TapeCheck" y_Tc_regionFieldFits y_Tc_regionFieldFits, .selects "CoreDesk$TapeCheck" y_Tc_bytesPass y_Tc_bytesPass, .selects "CoreDesk$TapeCheck" y_Tc_addressesPass y_Tc_addressesPass, .selects "CoreDesk$TapeCheck" y_Tc_notesPass y_Tc_notesPass, .selects "CoreDesk$TapeCheck" y_Tc_noteHeadPasses y_Tc_noteHeadPasses, .selects "CoreDesk$TapeCheck" y_Tc_noteSize y_Tc_noteSize]
def cd_A13 : List Cond := [.selects "CoreDesk$TapeCheck" y_Tc_padded y_Tc_padded, .selects "CoreDesk$TapeCheck" y_Tc_threadPasses y_Tc_threadPasses, .selects "java/lang/Throwable" ⟨"java/lang/Throwable", "fillInStackTrace", "(I)Ljava/lang/Throwable;"⟩ ⟨"java/lang/Throwable", "fillInStackTrace", "(I)Ljava/lang/Throwable;"⟩, .selects "CoreDesk" y_Desk_takeCore y_Desk_takeCore, .selects "CoreDeskModel" y_Mo_within y_Mo_within, .selects "CoreDeskModel" y_Mo_move y_Mo_move, .selects "CoreDeskModel" y_Mo_hasId y_Mo_hasId, .selects "CoreDeskModel" y_Mo_header y_Mo_header, .selects "CoreDeskModel" y_Mo_lay y_Mo_lay, .selects "CoreDeskModel" y_Mo_two y_Mo_two, .selects "CoreDeskModel" y_Mo_four y_Mo_four, .selects "CoreDeskModel" y_Mo_programHeader y_Mo_programHeader, .selects "CoreDeskModel" y_Mo_above y_Mo_above, .selects "CoreDeskModel" y_Mo_filled y_Mo_filled, .selects "CoreDeskModel" y_Mo_reads y_Mo_reads, .selects "CoreDeskModel" y_Mo_headerFits y_Mo_headerFits, .selects "CoreDeskModel" y_Mo_isWrong y_Mo_isWrong, .selects "CoreDeskModel" y_Mo_twoAt y_Mo_twoAt, .selects "CoreDeskModel" y_Mo_entryFits y_Mo_entryFits, .selects "CoreDeskModel" y_Mo_badField y_Mo_badField, .selects "CoreDeskModel" y_Mo_fourAt y_Mo_fourAt, .selects "CoreDeskModel" y_Mo_notesFit y_Mo_notesFit, .selects "CoreDeskModel" y_Mo_note y_Mo_note, .selects "CoreDeskModel" y_Mo_readRegions y_Mo_readRegions, .selects "CoreDeskModel" y_Mo_byteOf y_Mo_byteOf, .selects "CoreDeskModel" y_Mo_number y_Mo_number]
def cd_AW : List Cond := cd_A0 ++ (cd_A1 ++ (cd_A2 ++ (cd_A3 ++ (cd_A4 ++ (cd_A5 ++ (cd_A6 ++ (cd_A7 ++ (cd_A8 ++ (cd_A9 ++ (cd_A10 ++ (cd_A11 ++ (cd_A12 ++ (cd_A13)))))))))))))
theorem cd_A0_ok : cd_A0.all goodWord = true := by decide +kernel
theorem cd_A0_in : ∀ w ∈ cd_A0, w ∈ cd_AW := fun _ h => List.mem_append_left _ h
theorem cd_A1_ok : cd_A1.all goodWord = true := by decide +kernel
theorem cd_A1_in : ∀ w ∈ cd_A1, w ∈ cd_AW := fun _ h => List.mem_append_right _ (List.mem_append_left _ h)
theorem cd_A2_ok : cd_A2.all goodWord = true := by decide +kernel
theorem cd_A2_in : ∀ w ∈ cd_A2, w ∈ cd_AW := fun _ h => List.mem_append_right _ (List.mem_append_right _ (List.mem_append_left _ h))
theorem cd_A3_ok : cd_A3.all goodWord = true := by decide +kernel
theorem cd_A3_in : ∀ w ∈ cd_A3, w ∈ cd_AW := fun _ h => List.mem_append_right _ (List.mem_append_right _ (List.mem_append_right _ (List.mem_append_left _ h)))
theorem cd_A4_ok : cd_A4.all goodWord = true := by decide +kernel
theorem cd_A4_in : ∀ w ∈ cd_A4, w ∈ cd_AW := fun _ h => List.mem_append_right _ (List.mem_append_right _ (List.mem_append_right _ (List.mem_append_right _ (List.mem_append_left _ h))))
theorem cd_A5_ok : cd_A5.all goodWord = true := by decide +kernel
theorem cd_A5_in : ∀ w ∈ cd_A5, w ∈ cd_AW := fun _ h => List.mem_append_right _ (List.mem_append_right _ (List.mem_append_right _ (List.mem_append_right _ (List.mem_append_right _ (List.mem_append_left _ h)))))
theorem cd_A6_ok : cd_A6.all goodWord = true := by decide +kernel
theorem cd_A6_in : ∀ w ∈ cd_A6, w ∈ cd_AW := fun _ h => List.mem_append_right _ (List.mem_append_right _ (List.mem_append_right _ (List.mem_append_right _ (List.mem_append_right _ (List.mem_append_right _ (List.mem_append_left _ h))))))
theorem cd_A7_ok : cd_A7.all goodWord = true := by decide +kernel
theorem cd_A7_in : ∀ w ∈ cd_A7, w ∈ cd_AW := fun _ h => List.mem_append_right _ (List.mem_append_right _ (List.mem_append_right _ (List.mem_append_right _ (List.mem_append_right _ (List.mem_append_right _ (List.mem_append_right _ (List.mem_append_left _ h)))))))
theorem cd_A8_ok : cd_A8.all goodWord = true := by decide +kernel
theorem cd_A8_in : ∀ w ∈ cd_A8, w ∈ cd_AW := fun _ h => List.mem_append_right _ (List.mem_append_right _ (List.mem_append_right _ (List.mem_append_right _ (List.mem_append_right _ (List.mem_append_right _ (List.mem_append_right _ (List.mem_append_right _ (List.mem_append_left _ h))))))))
theorem cd_A9_ok : cd_A9.all goodWord = true := by decide +kernel
theorem cd_A9_in : ∀ w ∈ cd_A9, w ∈ cd_AW := fun _ h => List.mem_append_right _ (List.mem_append_right _ (List.mem_append_right _ (List.mem_append_right _ (List.mem_append_right _ (List.mem_append_right _ (List.mem_append_right _ (List.mem_append_right _ (List.mem_append_right _ (List.mem_append_left _ h)))))))))
theorem cd_A10_ok : cd_A10.all goodWord = true := by decide +kernel
theorem cd_A10_in : ∀ w ∈ cd_A10, w ∈ cd_AW := fun _ h => List.mem_append_right _ (List.mem_append_right _ (List.mem_append_right _ (List.mem_append_right _ (List.mem_append_right _ (List.mem_append_right _ (List.mem_append_right _ (List.mem_append_right _ (List.mem_append_right _ (List.mem_append_right _ (List.mem_append_left _ h))))))))))
theorem cd_A11_ok : cd_A11.all goodWord = true := by decide +kernel
theorem cd_A11_in : ∀ w ∈ cd_A11, w ∈ cd_AW := fun _ h => List.mem_append_right _ (List.mem_append_right _ (List.mem_append_right _ (List.mem_append_right _ (List.mem_append_right _ (List.mem_append_right _ (List.mem_append_right _ (List.mem_append_right _ (List.mem_append_right _ (List.mem_append_right _ (List.mem_append_right _ (List.mem_append_left _ h)))))))))))
theorem cd_A12_ok : cd_A12.all goodWord = true := by decide +kernel
theorem cd_A12_in : ∀ w ∈ cd_A12, w ∈ cd_AW := fun _ h => List.mem_append_right _ (List.mem_append_right _ (List.mem_append_right _ (List.mem_append_right _ (List.mem_append_right _ (List.mem_append_right _ (List.mem_append_right _ (List.mem_append_right _ (List.mem_append_right _ (List.mem_append_right _ (List.mem_append_right _ (List.mem_append_right _ (List.mem_append_left _ h))))))))))))
theorem cd_A13_ok : cd_A13.all goodWord = true := by decide +kernel
theorem cd_A13_in : ∀ w ∈ cd_A13, w ∈ cd_AW := fun _ h => List.mem_append_right _ (List.mem_append_right _ (List.mem_append_right _ (List.mem_append_right _ (List.mem_append_right _ (List.mem_append_right _ (List.mem_append_right _ (List.mem_append_right _ (List.mem_append_right _ (List.mem_append_right _ (List.mem_append_right _ (List.mem_append_right _ (List.mem_append_right _ (h)))))))))))))
theorem cd_AW_ok : ∀ w ∈ cd_AW, (w.onTables && w.keeps) = true ∨ ∃ ty, w = .arrayClass ty := fun w => fun h => (List.mem_append.mp h).elim (fun h => good_of_word (List.all_eq_true.mp cd_A0_ok w h)) (fun h => (List.mem_append.mp h).elim (fun h => good_of_word (List.all_eq_true.mp cd_A1_ok w h)) (fun h => (List.mem_append.mp h).elim (fun h => good_of_word (List.all_eq_true.mp cd_A2_ok w h)) (fun h => (List.mem_append.mp h).elim (fun h => good_of_word (List.all_eq_true.mp cd_A3_ok w h)) (fun h => (List.mem_append.mp h).elim (fun h => good_of_word (List.all_eq_true.mp cd_A4_ok w h)) (fun h => (List.mem_append.mp h).elim (fun h => good_of_word (List.all_eq_true.mp cd_A5_ok w h)) (fun h => (List.mem_append.mp h).elim (fun h => good_of_word (List.all_eq_true.mp cd_A6_ok w h)) (fun h => (List.mem_append.mp h).elim (fun h => good_of_word (List.all_eq_true.mp cd_A7_ok w h)) (fun h => (List.mem_append.mp h).elim (fun h => good_of_word (List.all_eq_true.mp cd_A8_ok w h)) (fun h => (List.mem_append.mp h).elim (fun h => good_of_word (List.all_eq_true.mp cd_A9_ok w h)) (fun h => (List.mem_append.mp h).elim (fun h => good_of_word (List.all_eq_true.mp cd_A10_ok w h)) (fun h => (List.mem_append.mp h).elim (fun h => good_of_word (List.all_eq_true.mp cd_A11_ok w h)) (fun h => (List.mem_append.mp h).elim (fun h => good_of_word (List.all_eq_true.mp cd_A12_ok w h)) (fun h => good_of_word (List.all_eq_true.mp cd_A13_ok w h))))))))))))))
theorem aw_0 : Cond.initialized "CoreDeskLaw" ∈ cd_AW := cd_A0_in _ (List.mem_of_getElem? (i := 0) rfl)
theorem aw_1 : Cond.initialized "CoreDesk" ∈ cd_AW := cd_A0_in _ (List.mem_of_getElem? (i := 1) rfl)
theorem aw_2 : Cond.initialized "CoreDesk$Memory" ∈ cd_AW := cd_A0_in _ (List.mem_of_getElem? (i := 2) rfl)
theorem aw_3 : Cond.initialized "CoreDesk$Region" ∈ cd_AW := cd_A0_in _ (List.mem_of_getElem? (i := 3) rfl)
theorem aw_4 : Cond.initialized "CoreDesk$ThreadTable" ∈ cd_AW := cd_A0_in _ (List.mem_of_getElem? (i := 4) rfl)
theorem aw_5 : Cond.initialized "CoreDesk$Row" ∈ cd_AW := cd_A0_in _ (List.mem_of_getElem? (i := 5) rfl)
theorem aw_6 : Cond.initialized "CoreDesk$FileWriter" ∈ cd_AW := cd_A0_in _ (List.mem_of_getElem? (i := 6) rfl)
theorem aw_7 : Cond.initialized "CoreDesk$TapeCheck" ∈ cd_AW := cd_A0_in _ (List.mem_of_getElem? (i := 7) rfl)
theorem aw_8 : Cond.initialized "CoreDeskModel" ∈ cd_AW := cd_A0_in _ (List.mem_of_getElem? (i := 8) rfl)
theorem aw_9 : Cond.initialized "java/util/Arrays" ∈ cd_AW := cd_A0_in _ (List.mem_of_getElem? (i := 9) rfl)
theorem aw_10 : Cond.initialized "java/lang/System" ∈ cd_AW := cd_A0_in _ (List.mem_of_getElem? (i := 10) rfl)
theorem aw_11 : Cond.initialized "java/lang/Throwable" ∈ cd_AW := cd_A0_in _ (List.mem_of_getElem? (i := 11) rfl)
theorem aw_12 : Cond.initialized "java/lang/Exception" ∈ cd_AW := cd_A0_in _ (List.mem_of_getElem? (i := 12) rfl)
theorem aw_13 : Cond.initialized "java/lang/RuntimeException" ∈ cd_AW := cd_A0_in _ (List.mem_of_getElem? (i := 13) rfl)
theorem aw_14 : Cond.initialized "java/lang/IllegalArgumentException" ∈ cd_AW := cd_A0_in _ (List.mem_of_getElem? (i := 14) rfl)
theorem aw_15 : Cond.initialized "java/lang/IndexOutOfBoundsException" ∈ cd_AW := cd_A0_in _ (List.mem_of_getElem? (i := 15) rfl)
theorem aw_16 : Cond.classLink "CoreDeskLaw" 8 "CoreDesk" ∈ cd_AW := cd_A0_in _ (List.mem_of_getElem? (i := 16) rfl)
theorem aw_17 : Cond.instantiable "CoreDesk" 9 ∈ cd_AW := cd_A0_in _ (List.mem_of_getElem? (i := 17) rfl)
theorem aw_18 : Cond.methodLink "CoreDeskLaw" 21 y_Desk_init ∈ cd_AW := cd_A0_in _ (List.mem_of_getElem? (i := 18) rfl)
theorem aw_19 : Cond.instanceMethod y_Desk_init ∈ cd_AW := cd_A0_in _ (List.mem_of_getElem? (i := 19) rfl)
theorem aw_20 : Cond.code y_Desk_init prog_1_method_1_code 1 none ∈ cd_AW := cd_A0_in _ (List.mem_of_getElem? (i := 20) rfl)
theorem aw_21 : Cond.methodLink "CoreDesk" 1 objectInit ∈ cd_AW := cd_A0_in _ (List.mem_of_getElem? (i := 21) rfl)
theorem aw_22 : Cond.instanceMethod objectInit ∈ cd_AW := cd_A0_in _ (List.mem_of_getElem? (i := 22) rfl)
theorem aw_23 : Cond.code objectInit object_method_1_code 1 none ∈ cd_AW := cd_A0_in _ (List.mem_of_getElem? (i := 23) rfl)
theorem aw_24 : Cond.classLink "CoreDesk" 7 "CoreDesk$Memory" ∈ cd_AW := cd_A0_in _ (List.mem_of_getElem? (i := 24) rfl)
theorem aw_25 : Cond.instantiable "CoreDesk$Memory" 2 ∈ cd_AW := cd_A0_in _ (List.mem_of_getElem? (i := 25) rfl)
theorem aw_26 : Cond.methodLink "CoreDesk" 9 y_Mem_init ∈ cd_AW := cd_A0_in _ (List.mem_of_getElem? (i := 26) rfl)
theorem aw_27 : Cond.instanceMethod y_Mem_init ∈ cd_AW := cd_A0_in _ (List.mem_of_getElem? (i := 27) rfl)
theorem aw_28 : Cond.code y_Mem_init prog_3_method_1_code 2 none ∈ cd_AW := cd_A0_in _ (List.mem_of_getElem? (i := 28) rfl)
theorem aw_29 : Cond.methodLink "CoreDesk$Memory" 3 objectInit ∈ cd_AW := cd_A0_in _ (List.mem_of_getElem? (i := 29) rfl)
theorem aw_30 : Cond.classLink "CoreDesk$Memory" 9 "CoreDesk$Region" ∈ cd_AW := cd_A0_in _ (List.mem_of_getElem? (i := 30) rfl)
theorem aw_31 : Cond.instantiable "CoreDesk$Region" 4 ∈ cd_AW := cd_A0_in _ (List.mem_of_getElem? (i := 31) rfl)
theorem aw_32 : Cond.methodLink "CoreDesk$Memory" 17 y_Reg_init ∈ cd_AW := cd_A0_in _ (List.mem_of_getElem? (i := 32) rfl)
theorem aw_33 : Cond.instanceMethod y_Reg_init ∈ cd_AW := cd_A0_in _ (List.mem_of_getElem? (i := 33) rfl)
theorem aw_34 : Cond.code y_Reg_init prog_4_method_1_code 1 none ∈ cd_AW := cd_A0_in _ (List.mem_of_getElem? (i := 34) rfl)
theorem aw_35 : Cond.methodLink "CoreDesk$Region" 3 objectInit ∈ cd_AW := cd_A0_in _ (List.mem_of_getElem? (i := 35) rfl)
theorem aw_36 : Cond.fieldLink "CoreDesk$Region" 9 "CoreDesk$Region" "bytes" "[B" ∈ cd_AW := cd_A0_in _ (List.mem_of_getElem? (i := 36) rfl)
theorem aw_37 : Cond.fieldLink "CoreDesk$Region" 15 "CoreDesk$Region" "address" "I" ∈ cd_AW := cd_A0_in _ (List.mem_of_getElem? (i := 37) rfl)
theorem aw_38 : Cond.fieldLink "CoreDesk$Region" 19 "CoreDesk$Region" "size" "I" ∈ cd_AW := cd_A0_in _ (List.mem_of_getElem? (i := 38) rfl)
theorem aw_39 : Cond.fieldLink "CoreDesk$Region" 22 "CoreDesk$Region" "permissions" "I" ∈ cd_AW := cd_A0_in _ (List.mem_of_getElem? (i := 39) rfl)
theorem aw_40 : Cond.laysFinal "CoreDesk$Region" "CoreDesk$Region" "bytes" "[B" ∈ cd_AW := cd_A0_in _ (List.mem_of_getElem? (i := 40) rfl)
theorem aw_41 : Cond.lays "CoreDesk$Region" "CoreDesk$Region" "address" "I" ∈ cd_AW := cd_A0_in _ (List.mem_of_getElem? (i := 41) rfl)
theorem aw_42 : Cond.lays "CoreDesk$Region" "CoreDesk$Region" "size" "I" ∈ cd_AW := cd_A0_in _ (List.mem_of_getElem? (i := 42) rfl)
theorem aw_43 : Cond.lays "CoreDesk$Region" "CoreDesk$Region" "permissions" "I" ∈ cd_AW := cd_A0_in _ (List.mem_of_getElem? (i := 43) rfl)
theorem aw_44 : Cond.arrayClass .byte ∈ cd_AW := cd_A0_in _ (List.mem_of_getElem? (i := 44) rfl)
theorem aw_45 : Cond.fieldLink "CoreDesk$Memory" 11 "CoreDesk$Memory" "regions" "[LCoreDesk$Region;" ∈ cd_AW := cd_A0_in _ (List.mem_of_getElem? (i := 45) rfl)
theorem aw_46 : Cond.fieldLink "CoreDesk$Memory" 18 "CoreDesk$Memory" "count" "I" ∈ cd_AW := cd_A0_in _ (List.mem_of_getElem? (i := 46) rfl)
theorem aw_47 : Cond.laysFinal "CoreDesk$Memory" "CoreDesk$Memory" "regions" "[LCoreDesk$Region;" ∈ cd_AW := cd_A0_in _ (List.mem_of_getElem? (i := 47) rfl)
theorem aw_48 : Cond.lays "CoreDesk$Memory" "CoreDesk$Memory" "count" "I" ∈ cd_AW := cd_A0_in _ (List.mem_of_getElem? (i := 48) rfl)
theorem aw_49 : Cond.classLink "CoreDesk" 16 "CoreDesk$ThreadTable" ∈ cd_AW := cd_A0_in _ (List.mem_of_getElem? (i := 49) rfl)
theorem aw_50 : Cond.instantiable "CoreDesk$ThreadTable" 3 ∈ cd_AW := cd_A0_in _ (List.mem_of_getElem? (i := 50) rfl)
theorem aw_51 : Cond.methodLink "CoreDesk" 18 y_Tt_init ∈ cd_AW := cd_A0_in _ (List.mem_of_getElem? (i := 51) rfl)
theorem aw_52 : Cond.instanceMethod y_Tt_init ∈ cd_AW := cd_A0_in _ (List.mem_of_getElem? (i := 52) rfl)
theorem aw_53 : Cond.code y_Tt_init prog_7_method_1_code 1 none ∈ cd_AW := cd_A0_in _ (List.mem_of_getElem? (i := 53) rfl)
theorem aw_54 : Cond.methodLink "CoreDesk$ThreadTable" 3 objectInit ∈ cd_AW := cd_A0_in _ (List.mem_of_getElem? (i := 54) rfl)
theorem aw_55 : Cond.fieldLink "CoreDesk$ThreadTable" 9 "CoreDesk$ThreadTable" "ids" "[I" ∈ cd_AW := cd_A0_in _ (List.mem_of_getElem? (i := 55) rfl)
theorem aw_56 : Cond.fieldLink "CoreDesk$ThreadTable" 15 "CoreDesk$ThreadTable" "values" "[I" ∈ cd_AW := cd_A0_in _ (List.mem_of_getElem? (i := 56) rfl)
theorem aw_57 : Cond.fieldLink "CoreDesk$ThreadTable" 18 "CoreDesk$ThreadTable" "count" "I" ∈ cd_AW := cd_A0_in _ (List.mem_of_getElem? (i := 57) rfl)
theorem aw_58 : Cond.laysFinal "CoreDesk$ThreadTable" "CoreDesk$ThreadTable" "ids" "[I" ∈ cd_AW := cd_A0_in _ (List.mem_of_getElem? (i := 58) rfl)
theorem aw_59 : Cond.laysFinal "CoreDesk$ThreadTable" "CoreDesk$ThreadTable" "values" "[I" ∈ cd_AW := cd_A0_in _ (List.mem_of_getElem? (i := 59) rfl)
theorem aw_60 : Cond.lays "CoreDesk$ThreadTable" "CoreDesk$ThreadTable" "count" "I" ∈ cd_AW := cd_A1_in _ (List.mem_of_getElem? (i := 0) rfl)
theorem aw_61 : Cond.arrayClass .int ∈ cd_AW := cd_A1_in _ (List.mem_of_getElem? (i := 1) rfl)
theorem aw_62 : Cond.classLink "CoreDesk" 23 "CoreDesk$Row" ∈ cd_AW := cd_A1_in _ (List.mem_of_getElem? (i := 2) rfl)
theorem aw_63 : Cond.instantiable "CoreDesk$Row" 2 ∈ cd_AW := cd_A1_in _ (List.mem_of_getElem? (i := 3) rfl)
theorem aw_64 : Cond.methodLink "CoreDesk" 25 y_Row_init ∈ cd_AW := cd_A1_in _ (List.mem_of_getElem? (i := 4) rfl)
theorem aw_65 : Cond.instanceMethod y_Row_init ∈ cd_AW := cd_A1_in _ (List.mem_of_getElem? (i := 5) rfl)
theorem aw_66 : Cond.code y_Row_init prog_5_method_1_code 2 none ∈ cd_AW := cd_A1_in _ (List.mem_of_getElem? (i := 6) rfl)
theorem aw_67 : Cond.methodLink "CoreDesk$Row" 3 objectInit ∈ cd_AW := cd_A1_in _ (List.mem_of_getElem? (i := 7) rfl)
theorem aw_68 : Cond.fieldLink "CoreDesk$Row" 9 "CoreDesk$Row" "bytes" "[B" ∈ cd_AW := cd_A1_in _ (List.mem_of_getElem? (i := 8) rfl)
theorem aw_69 : Cond.fieldLink "CoreDesk$Row" 15 "CoreDesk$Row" "length" "I" ∈ cd_AW := cd_A1_in _ (List.mem_of_getElem? (i := 9) rfl)
theorem aw_70 : Cond.laysFinal "CoreDesk$Row" "CoreDesk$Row" "bytes" "[B" ∈ cd_AW := cd_A1_in _ (List.mem_of_getElem? (i := 10) rfl)
theorem aw_71 : Cond.lays "CoreDesk$Row" "CoreDesk$Row" "length" "I" ∈ cd_AW := cd_A1_in _ (List.mem_of_getElem? (i := 11) rfl)
theorem aw_72 : Cond.classLink "CoreDesk" 32 "CoreDesk$FileWriter" ∈ cd_AW := cd_A1_in _ (List.mem_of_getElem? (i := 12) rfl)
theorem aw_73 : Cond.instantiable "CoreDesk$FileWriter" 3 ∈ cd_AW := cd_A1_in _ (List.mem_of_getElem? (i := 13) rfl)
theorem aw_74 : Cond.methodLink "CoreDesk" 34 y_Fw_init ∈ cd_AW := cd_A1_in _ (List.mem_of_getElem? (i := 14) rfl)
theorem aw_75 : Cond.instanceMethod y_Fw_init ∈ cd_AW := cd_A1_in _ (List.mem_of_getElem? (i := 15) rfl)
theorem aw_76 : Cond.code y_Fw_init prog_2_method_1_code 4 none ∈ cd_AW := cd_A1_in _ (List.mem_of_getElem? (i := 16) rfl)
theorem aw_77 : Cond.methodLink "CoreDesk$FileWriter" 3 objectInit ∈ cd_AW := cd_A1_in _ (List.mem_of_getElem? (i := 17) rfl)
theorem aw_78 : Cond.fieldLink "CoreDesk$FileWriter" 9 "CoreDesk$FileWriter" "file" "LCoreDesk$Row;" ∈ cd_AW := cd_A1_in _ (List.mem_of_getElem? (i := 18) rfl)
theorem aw_79 : Cond.fieldLink "CoreDesk$FileWriter" 15 "CoreDesk$FileWriter" "memory" "LCoreDesk$Memory;" ∈ cd_AW := cd_A1_in _ (List.mem_of_getElem? (i := 19) rfl)
theorem aw_80 : Cond.fieldLink "CoreDesk$FileWriter" 19 "CoreDesk$FileWriter" "threads" "LCoreDesk$ThreadTable;" ∈ cd_AW := cd_A1_in _ (List.mem_of_getElem? (i := 20) rfl)
theorem aw_81 : Cond.laysFinal "CoreDesk$FileWriter" "CoreDesk$FileWriter" "file" "LCoreDesk$Row;" ∈ cd_AW := cd_A1_in _ (List.mem_of_getElem? (i := 21) rfl)
theorem aw_82 : Cond.laysFinal "CoreDesk$FileWriter" "CoreDesk$FileWriter" "memory" "LCoreDesk$Memory;" ∈ cd_AW := cd_A1_in _ (List.mem_of_getElem? (i := 22) rfl)
theorem aw_83 : Cond.laysFinal "CoreDesk$FileWriter" "CoreDesk$FileWriter" "threads" "LCoreDesk$ThreadTable;" ∈ cd_AW := cd_A1_in _ (List.mem_of_getElem? (i := 23) rfl)
theorem aw_84 : Cond.classLink "CoreDesk" 44 "CoreDesk$TapeCheck" ∈ cd_AW := cd_A1_in _ (List.mem_of_getElem? (i := 24) rfl)
theorem aw_85 : Cond.instantiable "CoreDesk$TapeCheck" 4 ∈ cd_AW := cd_A1_in _ (List.mem_of_getElem? (i := 25) rfl)
theorem aw_86 : Cond.methodLink "CoreDesk" 46 y_Tc_init ∈ cd_AW := cd_A1_in _ (List.mem_of_getElem? (i := 26) rfl)
theorem aw_87 : Cond.instanceMethod y_Tc_init ∈ cd_AW := cd_A1_in _ (List.mem_of_getElem? (i := 27) rfl)
theorem aw_88 : Cond.code y_Tc_init prog_6_method_1_code 2 none ∈ cd_AW := cd_A1_in _ (List.mem_of_getElem? (i := 28) rfl)
theorem aw_89 : Cond.methodLink "CoreDesk$TapeCheck" 3 objectInit ∈ cd_AW := cd_A1_in _ (List.mem_of_getElem? (i := 29) rfl)
theorem aw_90 : Cond.classLink "CoreDesk$TapeCheck" 15 "CoreDesk$ThreadTable" ∈ cd_AW := cd_A1_in _ (List.mem_of_getElem? (i := 30) rfl)
theorem aw_91 : Cond.methodLink "CoreDesk$TapeCheck" 17 y_Tt_init ∈ cd_AW := cd_A1_in _ (List.mem_of_getElem? (i := 31) rfl)
theorem aw_92 : Cond.fieldLink "CoreDesk$TapeCheck" 9 "CoreDesk$TapeCheck" "tape" "LCoreDesk$Row;" ∈ cd_AW := cd_A1_in _ (List.mem_of_getElem? (i := 32) rfl)
theorem aw_93 : Cond.fieldLink "CoreDesk$TapeCheck" 18 "CoreDesk$TapeCheck" "found" "LCoreDesk$ThreadTable;" ∈ cd_AW := cd_A1_in _ (List.mem_of_getElem? (i := 33) rfl)
theorem aw_94 : Cond.fieldLink "CoreDesk$TapeCheck" 22 "CoreDesk$TapeCheck" "wrong" "I" ∈ cd_AW := cd_A1_in _ (List.mem_of_getElem? (i := 34) rfl)
theorem aw_95 : Cond.fieldLink "CoreDesk$TapeCheck" 26 "CoreDesk$TapeCheck" "place" "I" ∈ cd_AW := cd_A1_in _ (List.mem_of_getElem? (i := 35) rfl)
theorem aw_96 : Cond.laysFinal "CoreDesk$TapeCheck" "CoreDesk$TapeCheck" "tape" "LCoreDesk$Row;" ∈ cd_AW := cd_A1_in _ (List.mem_of_getElem? (i := 36) rfl)
theorem aw_97 : Cond.laysFinal "CoreDesk$TapeCheck" "CoreDesk$TapeCheck" "found" "LCoreDesk$ThreadTable;" ∈ cd_AW := cd_A1_in _ (List.mem_of_getElem? (i := 37) rfl)
theorem aw_98 : Cond.lays "CoreDesk$TapeCheck" "CoreDesk$TapeCheck" "wrong" "I" ∈ cd_AW := cd_A1_in _ (List.mem_of_getElem? (i := 38) rfl)
theorem aw_99 : Cond.lays "CoreDesk$TapeCheck" "CoreDesk$TapeCheck" "place" "I" ∈ cd_AW := cd_A1_in _ (List.mem_of_getElem? (i := 39) rfl)
theorem aw_100 : Cond.fieldLink "CoreDesk" 10 "CoreDesk" "memory" "LCoreDesk$Memory;" ∈ cd_AW := cd_A1_in _ (List.mem_of_getElem? (i := 40) rfl)
theorem aw_101 : Cond.fieldLink "CoreDesk" 19 "CoreDesk" "threads" "LCoreDesk$ThreadTable;" ∈ cd_AW := cd_A1_in _ (List.mem_of_getElem? (i := 41) rfl)
theorem aw_102 : Cond.fieldLink "CoreDesk" 28 "CoreDesk" "file" "LCoreDesk$Row;" ∈ cd_AW := cd_A1_in _ (List.mem_of_getElem? (i := 42) rfl)
theorem aw_103 : Cond.fieldLink "CoreDesk" 37 "CoreDesk" "writer" "LCoreDesk$FileWriter;" ∈ cd_AW := cd_A1_in _ (List.mem_of_getElem? (i := 43) rfl)
theorem aw_104 : Cond.fieldLink "CoreDesk" 41 "CoreDesk" "tape" "LCoreDesk$Row;" ∈ cd_AW := cd_A1_in _ (List.mem_of_getElem? (i := 44) rfl)
theorem aw_105 : Cond.fieldLink "CoreDesk" 49 "CoreDesk" "check" "LCoreDesk$TapeCheck;" ∈ cd_AW := cd_A1_in _ (List.mem_of_getElem? (i := 45) rfl)
theorem aw_106 : Cond.fieldLink "CoreDesk" 53 "CoreDesk" "coreMemory" "LCoreDesk$Memory;" ∈ cd_AW := cd_A1_in _ (List.mem_of_getElem? (i := 46) rfl)
theorem aw_107 : Cond.fieldLink "CoreDesk" 56 "CoreDesk" "coreThreads" "LCoreDesk$ThreadTable;" ∈ cd_AW := cd_A1_in _ (List.mem_of_getElem? (i := 47) rfl)
theorem aw_108 : Cond.fieldLink "CoreDesk" 59 "CoreDesk" "hasCore" "Z" ∈ cd_AW := cd_A1_in _ (List.mem_of_getElem? (i := 48) rfl)
theorem aw_109 : Cond.laysFinal "CoreDesk" "CoreDesk" "memory" "LCoreDesk$Memory;" ∈ cd_AW := cd_A1_in _ (List.mem_of_getElem? (i := 49) rfl)
theorem aw_110 : Cond.laysFinal "CoreDesk" "CoreDesk" "threads" "LCoreDesk$ThreadTable;" ∈ cd_AW := cd_A1_in _ (List.mem_of_getElem? (i := 50) rfl)
theorem aw_111 : Cond.laysFinal "CoreDesk" "CoreDesk" "file" "LCoreDesk$Row;" ∈ cd_AW := cd_A1_in _ (List.mem_of_getElem? (i := 51) rfl)
theorem aw_112 : Cond.laysFinal "CoreDesk" "CoreDesk" "writer" "LCoreDesk$FileWriter;" ∈ cd_AW := cd_A1_in _ (List.mem_of_getElem? (i := 52) rfl)
theorem aw_113 : Cond.laysFinal "CoreDesk" "CoreDesk" "tape" "LCoreDesk$Row;" ∈ cd_AW := cd_A1_in _ (List.mem_of_getElem? (i := 53) rfl)
theorem aw_114 : Cond.laysFinal "CoreDesk" "CoreDesk" "check" "LCoreDesk$TapeCheck;" ∈ cd_AW := cd_A1_in _ (List.mem_of_getElem? (i := 54) rfl)
theorem aw_115 : Cond.laysFinal "CoreDesk" "CoreDesk" "coreMemory" "LCoreDesk$Memory;" ∈ cd_AW := cd_A1_in _ (List.mem_of_getElem? (i := 55) rfl)
theorem aw_116 : Cond.laysFinal "CoreDesk" "CoreDesk" "coreThreads" "LCoreDesk$ThreadTable;" ∈ cd_AW := cd_A1_in _ (List.mem_of_getElem? (i := 56) rfl)
theorem aw_117 : Cond.lays "CoreDesk" "CoreDesk" "hasCore" "Z" ∈ cd_AW := cd_A1_in _ (List.mem_of_getElem? (i := 57) rfl)
theorem aw_118 : Cond.methodLink "CoreDeskLaw" 25 y_Desk_map ∈ cd_AW := cd_A1_in _ (List.mem_of_getElem? (i := 58) rfl)
theorem aw_119 : Cond.instanceMethod y_Desk_map ∈ cd_AW := cd_A1_in _ (List.mem_of_getElem? (i := 59) rfl)
theorem aw_120 : Cond.selects "CoreDesk" y_Desk_map y_Desk_map ∈ cd_AW := cd_A2_in _ (List.mem_of_getElem? (i := 0) rfl)
theorem aw_121 : Cond.code y_Desk_map prog_1_method_2_code 4 (some .boolean) ∈ cd_AW := cd_A2_in _ (List.mem_of_getElem? (i := 1) rfl)
theorem aw_122 : Cond.methodLink "CoreDesk" 63 y_Mem_addRegion ∈ cd_AW := cd_A2_in _ (List.mem_of_getElem? (i := 2) rfl)
theorem aw_123 : Cond.instanceMethod y_Mem_addRegion ∈ cd_AW := cd_A2_in _ (List.mem_of_getElem? (i := 3) rfl)
theorem aw_124 : Cond.selects "CoreDesk$Memory" y_Mem_addRegion y_Mem_addRegion ∈ cd_AW := cd_A2_in _ (List.mem_of_getElem? (i := 4) rfl)
theorem aw_125 : Cond.code y_Mem_addRegion prog_3_method_4_code 7 (some .boolean) ∈ cd_AW := cd_A2_in _ (List.mem_of_getElem? (i := 5) rfl)
theorem aw_126 : Cond.methodLink "CoreDesk$Memory" 22 y_Mem_isSpan ∈ cd_AW := cd_A2_in _ (List.mem_of_getElem? (i := 6) rfl)
theorem aw_127 : Cond.static y_Mem_isSpan ∈ cd_AW := cd_A2_in _ (List.mem_of_getElem? (i := 7) rfl)
theorem aw_128 : Cond.code y_Mem_isSpan prog_3_method_16_code 2 (some .boolean) ∈ cd_AW := cd_A2_in _ (List.mem_of_getElem? (i := 8) rfl)
theorem aw_129 : Cond.constant "CoreDesk$Memory" 81 2147483647 ∈ cd_AW := cd_A2_in _ (List.mem_of_getElem? (i := 9) rfl)
theorem aw_130 : Cond.methodLink "CoreDesk$Memory" 32 y_Mem_overlap ∈ cd_AW := cd_A2_in _ (List.mem_of_getElem? (i := 10) rfl)
theorem aw_131 : Cond.static y_Mem_overlap ∈ cd_AW := cd_A2_in _ (List.mem_of_getElem? (i := 11) rfl)
theorem aw_132 : Cond.code y_Mem_overlap prog_3_method_17_code 4 (some .boolean) ∈ cd_AW := cd_A2_in _ (List.mem_of_getElem? (i := 12) rfl)
theorem aw_133 : Cond.methodLink "CoreDesk$Memory" 36 y_Reg_begin ∈ cd_AW := cd_A2_in _ (List.mem_of_getElem? (i := 13) rfl)
theorem aw_134 : Cond.instanceMethod y_Reg_begin ∈ cd_AW := cd_A2_in _ (List.mem_of_getElem? (i := 14) rfl)
theorem aw_135 : Cond.selects "CoreDesk$Region" y_Reg_begin y_Reg_begin ∈ cd_AW := cd_A2_in _ (List.mem_of_getElem? (i := 15) rfl)
theorem aw_136 : Cond.code y_Reg_begin prog_4_method_2_code 4 none ∈ cd_AW := cd_A2_in _ (List.mem_of_getElem? (i := 16) rfl)
theorem aw_137 : Cond.methodLink "CoreDesk$Region" 25 y_Arr_fill0 ∈ cd_AW := cd_A2_in _ (List.mem_of_getElem? (i := 17) rfl)
theorem aw_138 : Cond.static y_Arr_fill0 ∈ cd_AW := cd_A2_in _ (List.mem_of_getElem? (i := 18) rfl)
theorem aw_139 : Cond.code y_Arr_fill0 prog_16_method_109_code 4 none ∈ cd_AW := cd_A2_in _ (List.mem_of_getElem? (i := 19) rfl)
theorem aw_140 : Cond.methodLink "CoreDeskLaw" 30 y_Desk_unmap ∈ cd_AW := cd_A2_in _ (List.mem_of_getElem? (i := 20) rfl)
theorem aw_141 : Cond.instanceMethod y_Desk_unmap ∈ cd_AW := cd_A2_in _ (List.mem_of_getElem? (i := 21) rfl)
theorem aw_142 : Cond.selects "CoreDesk" y_Desk_unmap y_Desk_unmap ∈ cd_AW := cd_A2_in _ (List.mem_of_getElem? (i := 22) rfl)
theorem aw_143 : Cond.code y_Desk_unmap prog_1_method_3_code 2 (some .boolean) ∈ cd_AW := cd_A2_in _ (List.mem_of_getElem? (i := 23) rfl)
theorem aw_144 : Cond.methodLink "CoreDesk" 67 y_Mem_removeRegion ∈ cd_AW := cd_A2_in _ (List.mem_of_getElem? (i := 24) rfl)
theorem aw_145 : Cond.instanceMethod y_Mem_removeRegion ∈ cd_AW := cd_A2_in _ (List.mem_of_getElem? (i := 25) rfl)
theorem aw_146 : Cond.selects "CoreDesk$Memory" y_Mem_removeRegion y_Mem_removeRegion ∈ cd_AW := cd_A2_in _ (List.mem_of_getElem? (i := 26) rfl)
theorem aw_147 : Cond.code y_Mem_removeRegion prog_3_method_5_code 5 (some .boolean) ∈ cd_AW := cd_A2_in _ (List.mem_of_getElem? (i := 27) rfl)
theorem aw_148 : Cond.methodLink "CoreDesk$Memory" 40 y_Mem_indexOf ∈ cd_AW := cd_A2_in _ (List.mem_of_getElem? (i := 28) rfl)
theorem aw_149 : Cond.instanceMethod y_Mem_indexOf ∈ cd_AW := cd_A2_in _ (List.mem_of_getElem? (i := 29) rfl)
theorem aw_150 : Cond.code y_Mem_indexOf prog_3_method_15_code 3 (some .int) ∈ cd_AW := cd_A2_in _ (List.mem_of_getElem? (i := 30) rfl)
theorem aw_151 : Cond.methodLink "CoreDesk$Memory" 77 y_Reg_has ∈ cd_AW := cd_A2_in _ (List.mem_of_getElem? (i := 31) rfl)
theorem aw_152 : Cond.instanceMethod y_Reg_has ∈ cd_AW := cd_A2_in _ (List.mem_of_getElem? (i := 32) rfl)
theorem aw_153 : Cond.selects "CoreDesk$Region" y_Reg_has y_Reg_has ∈ cd_AW := cd_A2_in _ (List.mem_of_getElem? (i := 33) rfl)
theorem aw_154 : Cond.code y_Reg_has prog_4_method_3_code 2 (some .boolean) ∈ cd_AW := cd_A2_in _ (List.mem_of_getElem? (i := 34) rfl)
theorem aw_155 : Cond.methodLink "CoreDeskLaw" 35 y_Desk_poke ∈ cd_AW := cd_A2_in _ (List.mem_of_getElem? (i := 35) rfl)
theorem aw_156 : Cond.instanceMethod y_Desk_poke ∈ cd_AW := cd_A2_in _ (List.mem_of_getElem? (i := 36) rfl)
theorem aw_157 : Cond.selects "CoreDesk" y_Desk_poke y_Desk_poke ∈ cd_AW := cd_A2_in _ (List.mem_of_getElem? (i := 37) rfl)
theorem aw_158 : Cond.code y_Desk_poke prog_1_method_4_code 3 (some .boolean) ∈ cd_AW := cd_A2_in _ (List.mem_of_getElem? (i := 38) rfl)
theorem aw_159 : Cond.methodLink "CoreDesk" 71 y_Mem_writeByte ∈ cd_AW := cd_A2_in _ (List.mem_of_getElem? (i := 39) rfl)
theorem aw_160 : Cond.instanceMethod y_Mem_writeByte ∈ cd_AW := cd_A2_in _ (List.mem_of_getElem? (i := 40) rfl)
theorem aw_161 : Cond.selects "CoreDesk$Memory" y_Mem_writeByte y_Mem_writeByte ∈ cd_AW := cd_A2_in _ (List.mem_of_getElem? (i := 41) rfl)
theorem aw_162 : Cond.code y_Mem_writeByte prog_3_method_12_code 4 (some .boolean) ∈ cd_AW := cd_A2_in _ (List.mem_of_getElem? (i := 42) rfl)
theorem aw_163 : Cond.methodLink "CoreDesk$Memory" 63 y_Reg_write ∈ cd_AW := cd_A2_in _ (List.mem_of_getElem? (i := 43) rfl)
theorem aw_164 : Cond.instanceMethod y_Reg_write ∈ cd_AW := cd_A2_in _ (List.mem_of_getElem? (i := 44) rfl)
theorem aw_165 : Cond.selects "CoreDesk$Region" y_Reg_write y_Reg_write ∈ cd_AW := cd_A2_in _ (List.mem_of_getElem? (i := 45) rfl)
theorem aw_166 : Cond.code y_Reg_write prog_4_method_5_code 3 none ∈ cd_AW := cd_A2_in _ (List.mem_of_getElem? (i := 46) rfl)
theorem aw_167 : Cond.methodLink "CoreDeskLaw" 40 y_Desk_pokeFour ∈ cd_AW := cd_A2_in _ (List.mem_of_getElem? (i := 47) rfl)
theorem aw_168 : Cond.instanceMethod y_Desk_pokeFour ∈ cd_AW := cd_A2_in _ (List.mem_of_getElem? (i := 48) rfl)
theorem aw_169 : Cond.selects "CoreDesk" y_Desk_pokeFour y_Desk_pokeFour ∈ cd_AW := cd_A2_in _ (List.mem_of_getElem? (i := 49) rfl)
theorem aw_170 : Cond.code y_Desk_pokeFour prog_1_method_5_code 3 (some .boolean) ∈ cd_AW := cd_A2_in _ (List.mem_of_getElem? (i := 50) rfl)
theorem aw_171 : Cond.methodLink "CoreDesk" 75 y_Mem_writeNumber ∈ cd_AW := cd_A2_in _ (List.mem_of_getElem? (i := 51) rfl)
theorem aw_172 : Cond.instanceMethod y_Mem_writeNumber ∈ cd_AW := cd_A2_in _ (List.mem_of_getElem? (i := 52) rfl)
theorem aw_173 : Cond.selects "CoreDesk$Memory" y_Mem_writeNumber y_Mem_writeNumber ∈ cd_AW := cd_A2_in _ (List.mem_of_getElem? (i := 53) rfl)
theorem aw_174 : Cond.code y_Mem_writeNumber prog_3_method_13_code 4 (some .boolean) ∈ cd_AW := cd_A2_in _ (List.mem_of_getElem? (i := 54) rfl)
theorem aw_175 : Cond.methodLink "CoreDesk$Memory" 67 y_Mem_holds ∈ cd_AW := cd_A2_in _ (List.mem_of_getElem? (i := 55) rfl)
theorem aw_176 : Cond.instanceMethod y_Mem_holds ∈ cd_AW := cd_A2_in _ (List.mem_of_getElem? (i := 56) rfl)
theorem aw_177 : Cond.selects "CoreDesk$Memory" y_Mem_holds y_Mem_holds ∈ cd_AW := cd_A2_in _ (List.mem_of_getElem? (i := 57) rfl)
theorem aw_178 : Cond.code y_Mem_holds prog_3_method_8_code 4 (some .boolean) ∈ cd_AW := cd_A2_in _ (List.mem_of_getElem? (i := 58) rfl)
theorem aw_179 : Cond.methodLink "CoreDesk$Memory" 70 y_Mem_writeByte ∈ cd_AW := cd_A2_in _ (List.mem_of_getElem? (i := 59) rfl)
theorem aw_180 : Cond.methodLink "CoreDeskLaw" 44 y_Desk_thread ∈ cd_AW := cd_A3_in _ (List.mem_of_getElem? (i := 0) rfl)
theorem aw_181 : Cond.instanceMethod y_Desk_thread ∈ cd_AW := cd_A3_in _ (List.mem_of_getElem? (i := 1) rfl)
theorem aw_182 : Cond.selects "CoreDesk" y_Desk_thread y_Desk_thread ∈ cd_AW := cd_A3_in _ (List.mem_of_getElem? (i := 2) rfl)
theorem aw_183 : Cond.code y_Desk_thread prog_1_method_6_code 2 (some .int) ∈ cd_AW := cd_A3_in _ (List.mem_of_getElem? (i := 3) rfl)
theorem aw_184 : Cond.methodLink "CoreDesk" 78 y_Tt_add ∈ cd_AW := cd_A3_in _ (List.mem_of_getElem? (i := 4) rfl)
theorem aw_185 : Cond.instanceMethod y_Tt_add ∈ cd_AW := cd_A3_in _ (List.mem_of_getElem? (i := 5) rfl)
theorem aw_186 : Cond.selects "CoreDesk$ThreadTable" y_Tt_add y_Tt_add ∈ cd_AW := cd_A3_in _ (List.mem_of_getElem? (i := 6) rfl)
theorem aw_187 : Cond.code y_Tt_add prog_7_method_6_code 2 (some .int) ∈ cd_AW := cd_A3_in _ (List.mem_of_getElem? (i := 7) rfl)
theorem aw_188 : Cond.methodLink "CoreDesk$ThreadTable" 28 y_Tt_hasId ∈ cd_AW := cd_A3_in _ (List.mem_of_getElem? (i := 8) rfl)
theorem aw_189 : Cond.instanceMethod y_Tt_hasId ∈ cd_AW := cd_A3_in _ (List.mem_of_getElem? (i := 9) rfl)
theorem aw_190 : Cond.selects "CoreDesk$ThreadTable" y_Tt_hasId y_Tt_hasId ∈ cd_AW := cd_A3_in _ (List.mem_of_getElem? (i := 10) rfl)
theorem aw_191 : Cond.code y_Tt_hasId prog_7_method_5_code 3 (some .boolean) ∈ cd_AW := cd_A3_in _ (List.mem_of_getElem? (i := 11) rfl)
theorem aw_192 : Cond.methodLink "CoreDeskLaw" 49 y_Desk_set ∈ cd_AW := cd_A3_in _ (List.mem_of_getElem? (i := 12) rfl)
theorem aw_193 : Cond.instanceMethod y_Desk_set ∈ cd_AW := cd_A3_in _ (List.mem_of_getElem? (i := 13) rfl)
theorem aw_194 : Cond.selects "CoreDesk" y_Desk_set y_Desk_set ∈ cd_AW := cd_A3_in _ (List.mem_of_getElem? (i := 14) rfl)
theorem aw_195 : Cond.code y_Desk_set prog_1_method_7_code 4 (some .boolean) ∈ cd_AW := cd_A3_in _ (List.mem_of_getElem? (i := 15) rfl)
theorem aw_196 : Cond.methodLink "CoreDesk" 82 y_Tt_write ∈ cd_AW := cd_A3_in _ (List.mem_of_getElem? (i := 16) rfl)
theorem aw_197 : Cond.instanceMethod y_Tt_write ∈ cd_AW := cd_A3_in _ (List.mem_of_getElem? (i := 17) rfl)
theorem aw_198 : Cond.selects "CoreDesk$ThreadTable" y_Tt_write y_Tt_write ∈ cd_AW := cd_A3_in _ (List.mem_of_getElem? (i := 18) rfl)
theorem aw_199 : Cond.code y_Tt_write prog_7_method_9_code 4 (some .boolean) ∈ cd_AW := cd_A3_in _ (List.mem_of_getElem? (i := 19) rfl)
theorem aw_200 : Cond.methodLink "CoreDesk$ThreadTable" 35 y_Tt_hasValue ∈ cd_AW := cd_A3_in _ (List.mem_of_getElem? (i := 20) rfl)
theorem aw_201 : Cond.instanceMethod y_Tt_hasValue ∈ cd_AW := cd_A3_in _ (List.mem_of_getElem? (i := 21) rfl)
theorem aw_202 : Cond.code y_Tt_hasValue prog_7_method_11_code 3 (some .boolean) ∈ cd_AW := cd_A3_in _ (List.mem_of_getElem? (i := 22) rfl)
theorem aw_203 : Cond.methodLink "CoreDesk$ThreadTable" 32 y_Tt_has ∈ cd_AW := cd_A3_in _ (List.mem_of_getElem? (i := 23) rfl)
theorem aw_204 : Cond.instanceMethod y_Tt_has ∈ cd_AW := cd_A3_in _ (List.mem_of_getElem? (i := 24) rfl)
theorem aw_205 : Cond.selects "CoreDesk$ThreadTable" y_Tt_has y_Tt_has ∈ cd_AW := cd_A3_in _ (List.mem_of_getElem? (i := 25) rfl)
theorem aw_206 : Cond.code y_Tt_has prog_7_method_4_code 2 (some .boolean) ∈ cd_AW := cd_A3_in _ (List.mem_of_getElem? (i := 26) rfl)
theorem aw_207 : Cond.methodLink "CoreDeskLaw" 53 y_Desk_dump ∈ cd_AW := cd_A3_in _ (List.mem_of_getElem? (i := 27) rfl)
theorem aw_208 : Cond.instanceMethod y_Desk_dump ∈ cd_AW := cd_A3_in _ (List.mem_of_getElem? (i := 28) rfl)
theorem aw_209 : Cond.selects "CoreDesk" y_Desk_dump y_Desk_dump ∈ cd_AW := cd_A3_in _ (List.mem_of_getElem? (i := 29) rfl)
theorem aw_210 : Cond.code y_Desk_dump prog_1_method_8_code 1 (some .int) ∈ cd_AW := cd_A3_in _ (List.mem_of_getElem? (i := 30) rfl)
theorem aw_211 : Cond.methodLink "CoreDesk" 85 y_Fw_writeFile ∈ cd_AW := cd_A3_in _ (List.mem_of_getElem? (i := 31) rfl)
theorem aw_212 : Cond.instanceMethod y_Fw_writeFile ∈ cd_AW := cd_A3_in _ (List.mem_of_getElem? (i := 32) rfl)
theorem aw_213 : Cond.selects "CoreDesk$FileWriter" y_Fw_writeFile y_Fw_writeFile ∈ cd_AW := cd_A3_in _ (List.mem_of_getElem? (i := 33) rfl)
theorem aw_214 : Cond.code y_Fw_writeFile prog_2_method_2_code 3 none ∈ cd_AW := cd_A3_in _ (List.mem_of_getElem? (i := 34) rfl)
theorem aw_215 : Cond.methodLink "CoreDesk$FileWriter" 23 y_Row_shorten ∈ cd_AW := cd_A3_in _ (List.mem_of_getElem? (i := 35) rfl)
theorem aw_216 : Cond.instanceMethod y_Row_shorten ∈ cd_AW := cd_A3_in _ (List.mem_of_getElem? (i := 36) rfl)
theorem aw_217 : Cond.selects "CoreDesk$Row" y_Row_shorten y_Row_shorten ∈ cd_AW := cd_A3_in _ (List.mem_of_getElem? (i := 37) rfl)
theorem aw_218 : Cond.code y_Row_shorten prog_5_method_10_code 2 (some .boolean) ∈ cd_AW := cd_A3_in _ (List.mem_of_getElem? (i := 38) rfl)
theorem aw_219 : Cond.methodLink "CoreDesk$FileWriter" 29 y_Fw_writeHeader ∈ cd_AW := cd_A3_in _ (List.mem_of_getElem? (i := 39) rfl)
theorem aw_220 : Cond.instanceMethod y_Fw_writeHeader ∈ cd_AW := cd_A3_in _ (List.mem_of_getElem? (i := 40) rfl)
theorem aw_221 : Cond.code y_Fw_writeHeader prog_2_method_4_code 3 none ∈ cd_AW := cd_A3_in _ (List.mem_of_getElem? (i := 41) rfl)
theorem aw_222 : Cond.methodLink "CoreDesk$FileWriter" 72 y_Fw_entries ∈ cd_AW := cd_A3_in _ (List.mem_of_getElem? (i := 42) rfl)
theorem aw_223 : Cond.instanceMethod y_Fw_entries ∈ cd_AW := cd_A3_in _ (List.mem_of_getElem? (i := 43) rfl)
theorem aw_224 : Cond.code y_Fw_entries prog_2_method_3_code 1 (some .int) ∈ cd_AW := cd_A3_in _ (List.mem_of_getElem? (i := 44) rfl)
theorem aw_225 : Cond.methodLink "CoreDesk$FileWriter" 45 y_Mem_count ∈ cd_AW := cd_A3_in _ (List.mem_of_getElem? (i := 45) rfl)
theorem aw_226 : Cond.instanceMethod y_Mem_count ∈ cd_AW := cd_A3_in _ (List.mem_of_getElem? (i := 46) rfl)
theorem aw_227 : Cond.selects "CoreDesk$Memory" y_Mem_count y_Mem_count ∈ cd_AW := cd_A3_in _ (List.mem_of_getElem? (i := 47) rfl)
theorem aw_228 : Cond.code y_Mem_count prog_3_method_2_code 1 (some .int) ∈ cd_AW := cd_A3_in _ (List.mem_of_getElem? (i := 48) rfl)
theorem aw_229 : Cond.methodLink "CoreDesk$FileWriter" 75 y_Row_appendNumber ∈ cd_AW := cd_A3_in _ (List.mem_of_getElem? (i := 49) rfl)
theorem aw_230 : Cond.instanceMethod y_Row_appendNumber ∈ cd_AW := cd_A3_in _ (List.mem_of_getElem? (i := 50) rfl)
theorem aw_231 : Cond.selects "CoreDesk$Row" y_Row_appendNumber y_Row_appendNumber ∈ cd_AW := cd_A3_in _ (List.mem_of_getElem? (i := 51) rfl)
theorem aw_232 : Cond.code y_Row_appendNumber prog_5_method_7_code 5 none ∈ cd_AW := cd_A3_in _ (List.mem_of_getElem? (i := 52) rfl)
theorem aw_233 : Cond.methodLink "CoreDesk$Row" 19 y_Row_append ∈ cd_AW := cd_A3_in _ (List.mem_of_getElem? (i := 53) rfl)
theorem aw_234 : Cond.instanceMethod y_Row_append ∈ cd_AW := cd_A3_in _ (List.mem_of_getElem? (i := 54) rfl)
theorem aw_235 : Cond.selects "CoreDesk$Row" y_Row_append y_Row_append ∈ cd_AW := cd_A3_in _ (List.mem_of_getElem? (i := 55) rfl)
theorem aw_236 : Cond.code y_Row_append prog_5_method_6_code 2 (some .boolean) ∈ cd_AW := cd_A3_in _ (List.mem_of_getElem? (i := 56) rfl)
theorem aw_237 : Cond.methodLink "CoreDesk$FileWriter" 32 y_Fw_writeEntries ∈ cd_AW := cd_A3_in _ (List.mem_of_getElem? (i := 57) rfl)
theorem aw_238 : Cond.instanceMethod y_Fw_writeEntries ∈ cd_AW := cd_A3_in _ (List.mem_of_getElem? (i := 58) rfl)
theorem aw_239 : Cond.code y_Fw_writeEntries prog_2_method_5_code 6 none ∈ cd_AW := cd_A3_in _ (List.mem_of_getElem? (i := 59) rfl)
theorem aw_240 : Cond.methodLink "CoreDesk$FileWriter" 35 y_Tt_count ∈ cd_AW := cd_A4_in _ (List.mem_of_getElem? (i := 0) rfl)
theorem aw_241 : Cond.instanceMethod y_Tt_count ∈ cd_AW := cd_A4_in _ (List.mem_of_getElem? (i := 1) rfl)
theorem aw_242 : Cond.selects "CoreDesk$ThreadTable" y_Tt_count y_Tt_count ∈ cd_AW := cd_A4_in _ (List.mem_of_getElem? (i := 2) rfl)
theorem aw_243 : Cond.code y_Tt_count prog_7_method_2_code 1 (some .int) ∈ cd_AW := cd_A4_in _ (List.mem_of_getElem? (i := 3) rfl)
theorem aw_244 : Cond.methodLink "CoreDesk$FileWriter" 79 y_Fw_writeNotesEntry ∈ cd_AW := cd_A4_in _ (List.mem_of_getElem? (i := 4) rfl)
theorem aw_245 : Cond.instanceMethod y_Fw_writeNotesEntry ∈ cd_AW := cd_A4_in _ (List.mem_of_getElem? (i := 5) rfl)
theorem aw_246 : Cond.code y_Fw_writeNotesEntry prog_2_method_6_code 3 none ∈ cd_AW := cd_A4_in _ (List.mem_of_getElem? (i := 6) rfl)
theorem aw_247 : Cond.methodLink "CoreDesk$FileWriter" 86 y_Fw_writeFour ∈ cd_AW := cd_A4_in _ (List.mem_of_getElem? (i := 7) rfl)
theorem aw_248 : Cond.instanceMethod y_Fw_writeFour ∈ cd_AW := cd_A4_in _ (List.mem_of_getElem? (i := 8) rfl)
theorem aw_249 : Cond.code y_Fw_writeFour prog_2_method_9_code 2 none ∈ cd_AW := cd_A4_in _ (List.mem_of_getElem? (i := 9) rfl)
theorem aw_250 : Cond.methodLink "CoreDesk$FileWriter" 48 y_Mem_regionAt ∈ cd_AW := cd_A4_in _ (List.mem_of_getElem? (i := 10) rfl)
theorem aw_251 : Cond.instanceMethod y_Mem_regionAt ∈ cd_AW := cd_A4_in _ (List.mem_of_getElem? (i := 11) rfl)
theorem aw_252 : Cond.selects "CoreDesk$Memory" y_Mem_regionAt y_Mem_regionAt ∈ cd_AW := cd_A4_in _ (List.mem_of_getElem? (i := 12) rfl)
theorem aw_253 : Cond.code y_Mem_regionAt prog_3_method_7_code 2 (some (.object "CoreDesk$Region")) ∈ cd_AW := cd_A4_in _ (List.mem_of_getElem? (i := 13) rfl)
theorem aw_254 : Cond.methodLink "CoreDesk$FileWriter" 58 y_Reg_usedBytes ∈ cd_AW := cd_A4_in _ (List.mem_of_getElem? (i := 14) rfl)
theorem aw_255 : Cond.instanceMethod y_Reg_usedBytes ∈ cd_AW := cd_A4_in _ (List.mem_of_getElem? (i := 15) rfl)
theorem aw_256 : Cond.selects "CoreDesk$Region" y_Reg_usedBytes y_Reg_usedBytes ∈ cd_AW := cd_A4_in _ (List.mem_of_getElem? (i := 16) rfl)
theorem aw_257 : Cond.code y_Reg_usedBytes prog_4_method_6_code 2 (some .int) ∈ cd_AW := cd_A4_in _ (List.mem_of_getElem? (i := 17) rfl)
theorem aw_258 : Cond.methodLink "CoreDesk$Region" 31 y_Reg_read ∈ cd_AW := cd_A4_in _ (List.mem_of_getElem? (i := 18) rfl)
theorem aw_259 : Cond.instanceMethod y_Reg_read ∈ cd_AW := cd_A4_in _ (List.mem_of_getElem? (i := 19) rfl)
theorem aw_260 : Cond.selects "CoreDesk$Region" y_Reg_read y_Reg_read ∈ cd_AW := cd_A4_in _ (List.mem_of_getElem? (i := 20) rfl)
theorem aw_261 : Cond.code y_Reg_read prog_4_method_4_code 2 (some .int) ∈ cd_AW := cd_A4_in _ (List.mem_of_getElem? (i := 21) rfl)
theorem aw_262 : Cond.methodLink "CoreDesk$FileWriter" 82 y_Fw_writeRegionEntry ∈ cd_AW := cd_A4_in _ (List.mem_of_getElem? (i := 22) rfl)
theorem aw_263 : Cond.instanceMethod y_Fw_writeRegionEntry ∈ cd_AW := cd_A4_in _ (List.mem_of_getElem? (i := 23) rfl)
theorem aw_264 : Cond.code y_Fw_writeRegionEntry prog_2_method_7_code 4 none ∈ cd_AW := cd_A4_in _ (List.mem_of_getElem? (i := 24) rfl)
theorem aw_265 : Cond.methodLink "CoreDesk$FileWriter" 41 y_Fw_writeNote ∈ cd_AW := cd_A4_in _ (List.mem_of_getElem? (i := 25) rfl)
theorem aw_266 : Cond.instanceMethod y_Fw_writeNote ∈ cd_AW := cd_A4_in _ (List.mem_of_getElem? (i := 26) rfl)
theorem aw_267 : Cond.code y_Fw_writeNote prog_2_method_8_code 3 none ∈ cd_AW := cd_A4_in _ (List.mem_of_getElem? (i := 27) rfl)
theorem aw_268 : Cond.methodLink "CoreDesk$FileWriter" 102 y_Row_append ∈ cd_AW := cd_A4_in _ (List.mem_of_getElem? (i := 28) rfl)
theorem aw_269 : Cond.methodLink "CoreDesk$FileWriter" 105 y_Tt_id ∈ cd_AW := cd_A4_in _ (List.mem_of_getElem? (i := 29) rfl)
theorem aw_270 : Cond.instanceMethod y_Tt_id ∈ cd_AW := cd_A4_in _ (List.mem_of_getElem? (i := 30) rfl)
theorem aw_271 : Cond.selects "CoreDesk$ThreadTable" y_Tt_id y_Tt_id ∈ cd_AW := cd_A4_in _ (List.mem_of_getElem? (i := 31) rfl)
theorem aw_272 : Cond.code y_Tt_id prog_7_method_7_code 2 (some .int) ∈ cd_AW := cd_A4_in _ (List.mem_of_getElem? (i := 32) rfl)
theorem aw_273 : Cond.methodLink "CoreDesk$FileWriter" 109 y_Tt_read ∈ cd_AW := cd_A4_in _ (List.mem_of_getElem? (i := 33) rfl)
theorem aw_274 : Cond.instanceMethod y_Tt_read ∈ cd_AW := cd_A4_in _ (List.mem_of_getElem? (i := 34) rfl)
theorem aw_275 : Cond.selects "CoreDesk$ThreadTable" y_Tt_read y_Tt_read ∈ cd_AW := cd_A4_in _ (List.mem_of_getElem? (i := 35) rfl)
theorem aw_276 : Cond.code y_Tt_read prog_7_method_8_code 3 (some .int) ∈ cd_AW := cd_A4_in _ (List.mem_of_getElem? (i := 36) rfl)
theorem aw_277 : Cond.methodLink "CoreDesk$FileWriter" 61 y_Row_appendBytes ∈ cd_AW := cd_A4_in _ (List.mem_of_getElem? (i := 37) rfl)
theorem aw_278 : Cond.instanceMethod y_Row_appendBytes ∈ cd_AW := cd_A4_in _ (List.mem_of_getElem? (i := 38) rfl)
theorem aw_279 : Cond.selects "CoreDesk$Row" y_Row_appendBytes y_Row_appendBytes ∈ cd_AW := cd_A4_in _ (List.mem_of_getElem? (i := 39) rfl)
theorem aw_280 : Cond.code y_Row_appendBytes prog_5_method_8_code 3 none ∈ cd_AW := cd_A4_in _ (List.mem_of_getElem? (i := 40) rfl)
theorem aw_281 : Cond.methodLink "CoreDesk$Row" 23 arraycopyName ∈ cd_AW := cd_A4_in _ (List.mem_of_getElem? (i := 41) rfl)
theorem aw_282 : Cond.static arraycopyName ∈ cd_AW := cd_A4_in _ (List.mem_of_getElem? (i := 42) rfl)
theorem aw_283 : Cond.native arraycopyName ∈ cd_AW := cd_A4_in _ (List.mem_of_getElem? (i := 43) rfl)
theorem aw_284 : Cond.methodLink "CoreDesk" 88 y_Row_length ∈ cd_AW := cd_A4_in _ (List.mem_of_getElem? (i := 44) rfl)
theorem aw_285 : Cond.instanceMethod y_Row_length ∈ cd_AW := cd_A4_in _ (List.mem_of_getElem? (i := 45) rfl)
theorem aw_286 : Cond.selects "CoreDesk$Row" y_Row_length y_Row_length ∈ cd_AW := cd_A4_in _ (List.mem_of_getElem? (i := 46) rfl)
theorem aw_287 : Cond.code y_Row_length prog_5_method_2_code 1 (some .int) ∈ cd_AW := cd_A4_in _ (List.mem_of_getElem? (i := 47) rfl)
theorem aw_288 : Cond.methodLink "CoreDeskLaw" 57 y_Desk_byteAt ∈ cd_AW := cd_A4_in _ (List.mem_of_getElem? (i := 48) rfl)
theorem aw_289 : Cond.instanceMethod y_Desk_byteAt ∈ cd_AW := cd_A4_in _ (List.mem_of_getElem? (i := 49) rfl)
theorem aw_290 : Cond.selects "CoreDesk" y_Desk_byteAt y_Desk_byteAt ∈ cd_AW := cd_A4_in _ (List.mem_of_getElem? (i := 50) rfl)
theorem aw_291 : Cond.code y_Desk_byteAt prog_1_method_9_code 2 (some .int) ∈ cd_AW := cd_A4_in _ (List.mem_of_getElem? (i := 51) rfl)
theorem aw_292 : Cond.methodLink "CoreDesk" 92 y_Row_at ∈ cd_AW := cd_A4_in _ (List.mem_of_getElem? (i := 52) rfl)
theorem aw_293 : Cond.instanceMethod y_Row_at ∈ cd_AW := cd_A4_in _ (List.mem_of_getElem? (i := 53) rfl)
theorem aw_294 : Cond.selects "CoreDesk$Row" y_Row_at y_Row_at ∈ cd_AW := cd_A4_in _ (List.mem_of_getElem? (i := 54) rfl)
theorem aw_295 : Cond.code y_Row_at prog_5_method_3_code 2 (some .int) ∈ cd_AW := cd_A4_in _ (List.mem_of_getElem? (i := 55) rfl)
theorem aw_296 : Cond.methodLink "CoreDeskLaw" 61 y_Desk_copy ∈ cd_AW := cd_A4_in _ (List.mem_of_getElem? (i := 56) rfl)
theorem aw_297 : Cond.instanceMethod y_Desk_copy ∈ cd_AW := cd_A4_in _ (List.mem_of_getElem? (i := 57) rfl)
theorem aw_298 : Cond.selects "CoreDesk" y_Desk_copy y_Desk_copy ∈ cd_AW := cd_A4_in _ (List.mem_of_getElem? (i := 58) rfl)
theorem aw_299 : Cond.code y_Desk_copy prog_1_method_10_code 1 (some .int) ∈ cd_AW := cd_A4_in _ (List.mem_of_getElem? (i := 59) rfl)
theorem aw_300 : Cond.methodLink "CoreDesk" 95 y_Row_become ∈ cd_AW := cd_A5_in _ (List.mem_of_getElem? (i := 0) rfl)
theorem aw_301 : Cond.instanceMethod y_Row_become ∈ cd_AW := cd_A5_in _ (List.mem_of_getElem? (i := 1) rfl)
theorem aw_302 : Cond.selects "CoreDesk$Row" y_Row_become y_Row_become ∈ cd_AW := cd_A5_in _ (List.mem_of_getElem? (i := 2) rfl)
theorem aw_303 : Cond.code y_Row_become prog_5_method_11_code 2 none ∈ cd_AW := cd_A5_in _ (List.mem_of_getElem? (i := 3) rfl)
theorem aw_304 : Cond.methodLink "CoreDesk$Row" 29 y_Row_appendBytes ∈ cd_AW := cd_A5_in _ (List.mem_of_getElem? (i := 4) rfl)
theorem aw_305 : Cond.methodLink "CoreDeskLaw" 65 y_Desk_put ∈ cd_AW := cd_A5_in _ (List.mem_of_getElem? (i := 5) rfl)
theorem aw_306 : Cond.instanceMethod y_Desk_put ∈ cd_AW := cd_A5_in _ (List.mem_of_getElem? (i := 6) rfl)
theorem aw_307 : Cond.selects "CoreDesk" y_Desk_put y_Desk_put ∈ cd_AW := cd_A5_in _ (List.mem_of_getElem? (i := 7) rfl)
theorem aw_308 : Cond.code y_Desk_put prog_1_method_11_code 3 (some .boolean) ∈ cd_AW := cd_A5_in _ (List.mem_of_getElem? (i := 8) rfl)
theorem aw_309 : Cond.methodLink "CoreDesk" 98 y_Row_append ∈ cd_AW := cd_A5_in _ (List.mem_of_getElem? (i := 9) rfl)
theorem aw_310 : Cond.methodLink "CoreDesk" 101 y_Row_change ∈ cd_AW := cd_A5_in _ (List.mem_of_getElem? (i := 10) rfl)
theorem aw_311 : Cond.instanceMethod y_Row_change ∈ cd_AW := cd_A5_in _ (List.mem_of_getElem? (i := 11) rfl)
theorem aw_312 : Cond.selects "CoreDesk$Row" y_Row_change y_Row_change ∈ cd_AW := cd_A5_in _ (List.mem_of_getElem? (i := 12) rfl)
theorem aw_313 : Cond.code y_Row_change prog_5_method_5_code 3 (some .boolean) ∈ cd_AW := cd_A5_in _ (List.mem_of_getElem? (i := 13) rfl)
theorem aw_314 : Cond.methodLink "CoreDeskLaw" 69 y_Desk_cut ∈ cd_AW := cd_A5_in _ (List.mem_of_getElem? (i := 14) rfl)
theorem aw_315 : Cond.instanceMethod y_Desk_cut ∈ cd_AW := cd_A5_in _ (List.mem_of_getElem? (i := 15) rfl)
theorem aw_316 : Cond.selects "CoreDesk" y_Desk_cut y_Desk_cut ∈ cd_AW := cd_A5_in _ (List.mem_of_getElem? (i := 16) rfl)
theorem aw_317 : Cond.code y_Desk_cut prog_1_method_12_code 2 (some .boolean) ∈ cd_AW := cd_A5_in _ (List.mem_of_getElem? (i := 17) rfl)
theorem aw_318 : Cond.methodLink "CoreDesk" 104 y_Row_shorten ∈ cd_AW := cd_A5_in _ (List.mem_of_getElem? (i := 18) rfl)
theorem aw_319 : Cond.methodLink "CoreDeskLaw" 82 y_Desk_error ∈ cd_AW := cd_A5_in _ (List.mem_of_getElem? (i := 19) rfl)
theorem aw_320 : Cond.instanceMethod y_Desk_error ∈ cd_AW := cd_A5_in _ (List.mem_of_getElem? (i := 20) rfl)
theorem aw_321 : Cond.selects "CoreDesk" y_Desk_error y_Desk_error ∈ cd_AW := cd_A5_in _ (List.mem_of_getElem? (i := 21) rfl)
theorem aw_322 : Cond.code y_Desk_error prog_1_method_14_code 2 (some .int) ∈ cd_AW := cd_A5_in _ (List.mem_of_getElem? (i := 22) rfl)
theorem aw_323 : Cond.methodLink "CoreDesk" 120 y_Tc_wrong ∈ cd_AW := cd_A5_in _ (List.mem_of_getElem? (i := 23) rfl)
theorem aw_324 : Cond.instanceMethod y_Tc_wrong ∈ cd_AW := cd_A5_in _ (List.mem_of_getElem? (i := 24) rfl)
theorem aw_325 : Cond.selects "CoreDesk$TapeCheck" y_Tc_wrong y_Tc_wrong ∈ cd_AW := cd_A5_in _ (List.mem_of_getElem? (i := 25) rfl)
theorem aw_326 : Cond.code y_Tc_wrong prog_6_method_2_code 1 (some .int) ∈ cd_AW := cd_A5_in _ (List.mem_of_getElem? (i := 26) rfl)
theorem aw_327 : Cond.methodLink "CoreDesk" 123 y_Tc_place ∈ cd_AW := cd_A5_in _ (List.mem_of_getElem? (i := 27) rfl)
theorem aw_328 : Cond.instanceMethod y_Tc_place ∈ cd_AW := cd_A5_in _ (List.mem_of_getElem? (i := 28) rfl)
theorem aw_329 : Cond.selects "CoreDesk$TapeCheck" y_Tc_place y_Tc_place ∈ cd_AW := cd_A5_in _ (List.mem_of_getElem? (i := 29) rfl)
theorem aw_330 : Cond.code y_Tc_place prog_6_method_3_code 1 (some .int) ∈ cd_AW := cd_A5_in _ (List.mem_of_getElem? (i := 30) rfl)
theorem aw_331 : Cond.methodLink "CoreDeskLaw" 86 y_Desk_core ∈ cd_AW := cd_A5_in _ (List.mem_of_getElem? (i := 31) rfl)
theorem aw_332 : Cond.instanceMethod y_Desk_core ∈ cd_AW := cd_A5_in _ (List.mem_of_getElem? (i := 32) rfl)
theorem aw_333 : Cond.selects "CoreDesk" y_Desk_core y_Desk_core ∈ cd_AW := cd_A5_in _ (List.mem_of_getElem? (i := 33) rfl)
theorem aw_334 : Cond.code y_Desk_core prog_1_method_15_code 2 (some .int) ∈ cd_AW := cd_A5_in _ (List.mem_of_getElem? (i := 34) rfl)
theorem aw_335 : Cond.methodLink "CoreDesk" 117 y_Mem_count ∈ cd_AW := cd_A5_in _ (List.mem_of_getElem? (i := 35) rfl)
theorem aw_336 : Cond.methodLink "CoreDesk" 126 y_Tt_count ∈ cd_AW := cd_A5_in _ (List.mem_of_getElem? (i := 36) rfl)
theorem aw_337 : Cond.methodLink "CoreDeskLaw" 90 y_Desk_peek ∈ cd_AW := cd_A5_in _ (List.mem_of_getElem? (i := 37) rfl)
theorem aw_338 : Cond.instanceMethod y_Desk_peek ∈ cd_AW := cd_A5_in _ (List.mem_of_getElem? (i := 38) rfl)
theorem aw_339 : Cond.selects "CoreDesk" y_Desk_peek y_Desk_peek ∈ cd_AW := cd_A5_in _ (List.mem_of_getElem? (i := 39) rfl)
theorem aw_340 : Cond.code y_Desk_peek prog_1_method_16_code 2 (some .int) ∈ cd_AW := cd_A5_in _ (List.mem_of_getElem? (i := 40) rfl)
theorem aw_341 : Cond.methodLink "CoreDesk" 127 y_Mem_readByte ∈ cd_AW := cd_A5_in _ (List.mem_of_getElem? (i := 41) rfl)
theorem aw_342 : Cond.instanceMethod y_Mem_readByte ∈ cd_AW := cd_A5_in _ (List.mem_of_getElem? (i := 42) rfl)
theorem aw_343 : Cond.selects "CoreDesk$Memory" y_Mem_readByte y_Mem_readByte ∈ cd_AW := cd_A5_in _ (List.mem_of_getElem? (i := 43) rfl)
theorem aw_344 : Cond.code y_Mem_readByte prog_3_method_9_code 3 (some .int) ∈ cd_AW := cd_A5_in _ (List.mem_of_getElem? (i := 44) rfl)
theorem aw_345 : Cond.methodLink "CoreDesk$Memory" 54 y_Reg_read ∈ cd_AW := cd_A5_in _ (List.mem_of_getElem? (i := 45) rfl)
theorem aw_346 : Cond.methodLink "CoreDeskLaw" 94 y_Desk_flags ∈ cd_AW := cd_A5_in _ (List.mem_of_getElem? (i := 46) rfl)
theorem aw_347 : Cond.instanceMethod y_Desk_flags ∈ cd_AW := cd_A5_in _ (List.mem_of_getElem? (i := 47) rfl)
theorem aw_348 : Cond.selects "CoreDesk" y_Desk_flags y_Desk_flags ∈ cd_AW := cd_A5_in _ (List.mem_of_getElem? (i := 48) rfl)
theorem aw_349 : Cond.code y_Desk_flags prog_1_method_17_code 2 (some .int) ∈ cd_AW := cd_A5_in _ (List.mem_of_getElem? (i := 49) rfl)
theorem aw_350 : Cond.methodLink "CoreDesk" 130 y_Mem_flagsAt ∈ cd_AW := cd_A5_in _ (List.mem_of_getElem? (i := 50) rfl)
theorem aw_351 : Cond.instanceMethod y_Mem_flagsAt ∈ cd_AW := cd_A5_in _ (List.mem_of_getElem? (i := 51) rfl)
theorem aw_352 : Cond.selects "CoreDesk$Memory" y_Mem_flagsAt y_Mem_flagsAt ∈ cd_AW := cd_A5_in _ (List.mem_of_getElem? (i := 52) rfl)
theorem aw_353 : Cond.code y_Mem_flagsAt prog_3_method_11_code 3 (some .int) ∈ cd_AW := cd_A5_in _ (List.mem_of_getElem? (i := 53) rfl)
theorem aw_354 : Cond.methodLink "CoreDeskLaw" 102 y_Desk_find ∈ cd_AW := cd_A5_in _ (List.mem_of_getElem? (i := 54) rfl)
theorem aw_355 : Cond.instanceMethod y_Desk_find ∈ cd_AW := cd_A5_in _ (List.mem_of_getElem? (i := 55) rfl)
theorem aw_356 : Cond.selects "CoreDesk" y_Desk_find y_Desk_find ∈ cd_AW := cd_A5_in _ (List.mem_of_getElem? (i := 56) rfl)
theorem aw_357 : Cond.code y_Desk_find prog_1_method_19_code 3 (some .int) ∈ cd_AW := cd_A5_in _ (List.mem_of_getElem? (i := 57) rfl)
theorem aw_358 : Cond.methodLink "CoreDesk" 146 y_Mem_search ∈ cd_AW := cd_A5_in _ (List.mem_of_getElem? (i := 58) rfl)
theorem aw_359 : Cond.instanceMethod y_Mem_search ∈ cd_AW := cd_A5_in _ (List.mem_of_getElem? (i := 59) rfl)
theorem aw_360 : Cond.selects "CoreDesk$Memory" y_Mem_search y_Mem_search ∈ cd_AW := cd_A6_in _ (List.mem_of_getElem? (i := 0) rfl)
theorem aw_361 : Cond.code y_Mem_search prog_3_method_14_code 5 (some .int) ∈ cd_AW := cd_A6_in _ (List.mem_of_getElem? (i := 1) rfl)
theorem aw_362 : Cond.methodLink "CoreDesk$Memory" 73 y_Reg_search ∈ cd_AW := cd_A6_in _ (List.mem_of_getElem? (i := 2) rfl)
theorem aw_363 : Cond.instanceMethod y_Reg_search ∈ cd_AW := cd_A6_in _ (List.mem_of_getElem? (i := 3) rfl)
theorem aw_364 : Cond.selects "CoreDesk$Region" y_Reg_search y_Reg_search ∈ cd_AW := cd_A6_in _ (List.mem_of_getElem? (i := 4) rfl)
theorem aw_365 : Cond.code y_Reg_search prog_4_method_7_code 5 (some .int) ∈ cd_AW := cd_A6_in _ (List.mem_of_getElem? (i := 5) rfl)
theorem aw_366 : Cond.methodLink "CoreDesk$Region" 35 y_Reg_numberAt ∈ cd_AW := cd_A6_in _ (List.mem_of_getElem? (i := 6) rfl)
theorem aw_367 : Cond.instanceMethod y_Reg_numberAt ∈ cd_AW := cd_A6_in _ (List.mem_of_getElem? (i := 7) rfl)
theorem aw_368 : Cond.code y_Reg_numberAt prog_4_method_8_code 2 (some .int) ∈ cd_AW := cd_A6_in _ (List.mem_of_getElem? (i := 8) rfl)
theorem aw_369 : Cond.methodLink "CoreDeskLaw" 106 y_Desk_caller ∈ cd_AW := cd_A6_in _ (List.mem_of_getElem? (i := 9) rfl)
theorem aw_370 : Cond.instanceMethod y_Desk_caller ∈ cd_AW := cd_A6_in _ (List.mem_of_getElem? (i := 10) rfl)
theorem aw_371 : Cond.selects "CoreDesk" y_Desk_caller y_Desk_caller ∈ cd_AW := cd_A6_in _ (List.mem_of_getElem? (i := 11) rfl)
theorem aw_372 : Cond.code y_Desk_caller prog_1_method_20_code 6 (some .int) ∈ cd_AW := cd_A6_in _ (List.mem_of_getElem? (i := 12) rfl)
theorem aw_373 : Cond.methodLink "CoreDesk" 133 y_Tt_has ∈ cd_AW := cd_A6_in _ (List.mem_of_getElem? (i := 13) rfl)
theorem aw_374 : Cond.methodLink "CoreDesk" 139 y_Tt_read ∈ cd_AW := cd_A6_in _ (List.mem_of_getElem? (i := 14) rfl)
theorem aw_375 : Cond.methodLink "CoreDesk" 149 y_Desk_isFrame ∈ cd_AW := cd_A6_in _ (List.mem_of_getElem? (i := 15) rfl)
theorem aw_376 : Cond.instanceMethod y_Desk_isFrame ∈ cd_AW := cd_A6_in _ (List.mem_of_getElem? (i := 16) rfl)
theorem aw_377 : Cond.code y_Desk_isFrame prog_1_method_21_code 3 (some .boolean) ∈ cd_AW := cd_A6_in _ (List.mem_of_getElem? (i := 17) rfl)
theorem aw_378 : Cond.methodLink "CoreDesk" 155 y_Mem_holds ∈ cd_AW := cd_A6_in _ (List.mem_of_getElem? (i := 18) rfl)
theorem aw_379 : Cond.methodLink "CoreDesk" 152 y_Mem_readNumber ∈ cd_AW := cd_A6_in _ (List.mem_of_getElem? (i := 19) rfl)
theorem aw_380 : Cond.instanceMethod y_Mem_readNumber ∈ cd_AW := cd_A6_in _ (List.mem_of_getElem? (i := 20) rfl)
theorem aw_381 : Cond.selects "CoreDesk$Memory" y_Mem_readNumber y_Mem_readNumber ∈ cd_AW := cd_A6_in _ (List.mem_of_getElem? (i := 21) rfl)
theorem aw_382 : Cond.code y_Mem_readNumber prog_3_method_10_code 4 (some .int) ∈ cd_AW := cd_A6_in _ (List.mem_of_getElem? (i := 22) rfl)
theorem aw_383 : Cond.methodLink "CoreDesk$Memory" 57 y_Mem_readByte ∈ cd_AW := cd_A6_in _ (List.mem_of_getElem? (i := 23) rfl)
theorem aw_384 : Cond.methodLink "CoreDeskLaw" 73 y_Law_load ∈ cd_AW := cd_A6_in _ (List.mem_of_getElem? (i := 24) rfl)
theorem aw_385 : Cond.static y_Law_load ∈ cd_AW := cd_A6_in _ (List.mem_of_getElem? (i := 25) rfl)
theorem aw_386 : Cond.classLink "CoreDeskLaw" 13 "java/lang/IllegalArgumentException" ∈ cd_AW := cd_A6_in _ (List.mem_of_getElem? (i := 26) rfl)
theorem aw_387 : Cond.methodLink "CoreDeskLaw" 7 y_Desk_load ∈ cd_AW := cd_A6_in _ (List.mem_of_getElem? (i := 27) rfl)
theorem aw_388 : Cond.instanceMethod y_Desk_load ∈ cd_AW := cd_A6_in _ (List.mem_of_getElem? (i := 28) rfl)
theorem aw_389 : Cond.selects "CoreDesk" y_Desk_load y_Desk_load ∈ cd_AW := cd_A6_in _ (List.mem_of_getElem? (i := 29) rfl)
theorem aw_390 : Cond.code y_Desk_load prog_1_method_13_code 1 (some .int) ∈ cd_AW := cd_A6_in _ (List.mem_of_getElem? (i := 30) rfl)
theorem aw_391 : Cond.methodLink "CoreDesk" 107 y_Tc_passes ∈ cd_AW := cd_A6_in _ (List.mem_of_getElem? (i := 31) rfl)
theorem aw_392 : Cond.instanceMethod y_Tc_passes ∈ cd_AW := cd_A6_in _ (List.mem_of_getElem? (i := 32) rfl)
theorem aw_393 : Cond.selects "CoreDesk$TapeCheck" y_Tc_passes y_Tc_passes ∈ cd_AW := cd_A6_in _ (List.mem_of_getElem? (i := 33) rfl)
theorem aw_394 : Cond.code y_Tc_passes prog_6_method_7_code 1 (some .boolean) ∈ cd_AW := cd_A6_in _ (List.mem_of_getElem? (i := 34) rfl)
theorem aw_395 : Cond.methodLink "CoreDesk$TapeCheck" 38 y_Tt_clear ∈ cd_AW := cd_A6_in _ (List.mem_of_getElem? (i := 35) rfl)
theorem aw_396 : Cond.instanceMethod y_Tt_clear ∈ cd_AW := cd_A6_in _ (List.mem_of_getElem? (i := 36) rfl)
theorem aw_397 : Cond.selects "CoreDesk$ThreadTable" y_Tt_clear y_Tt_clear ∈ cd_AW := cd_A6_in _ (List.mem_of_getElem? (i := 37) rfl)
theorem aw_398 : Cond.code y_Tt_clear prog_7_method_3_code 1 none ∈ cd_AW := cd_A6_in _ (List.mem_of_getElem? (i := 38) rfl)
theorem aw_399 : Cond.methodLink "CoreDesk$ThreadTable" 22 y_Arr_fill1 ∈ cd_AW := cd_A6_in _ (List.mem_of_getElem? (i := 39) rfl)
theorem aw_400 : Cond.static y_Arr_fill1 ∈ cd_AW := cd_A6_in _ (List.mem_of_getElem? (i := 40) rfl)
theorem aw_401 : Cond.code y_Arr_fill1 prog_16_method_103_code 4 none ∈ cd_AW := cd_A6_in _ (List.mem_of_getElem? (i := 41) rfl)
theorem aw_402 : Cond.methodLink "CoreDesk$TapeCheck" 41 y_Tc_headerPasses ∈ cd_AW := cd_A6_in _ (List.mem_of_getElem? (i := 42) rfl)
theorem aw_403 : Cond.instanceMethod y_Tc_headerPasses ∈ cd_AW := cd_A6_in _ (List.mem_of_getElem? (i := 43) rfl)
theorem aw_404 : Cond.code y_Tc_headerPasses prog_6_method_10_code 3 (some .boolean) ∈ cd_AW := cd_A6_in _ (List.mem_of_getElem? (i := 44) rfl)
theorem aw_405 : Cond.methodLink "CoreDesk$TapeCheck" 51 y_Row_length ∈ cd_AW := cd_A6_in _ (List.mem_of_getElem? (i := 45) rfl)
theorem aw_406 : Cond.methodLink "CoreDesk$TapeCheck" 55 y_Tc_refuse ∈ cd_AW := cd_A6_in _ (List.mem_of_getElem? (i := 46) rfl)
theorem aw_407 : Cond.instanceMethod y_Tc_refuse ∈ cd_AW := cd_A6_in _ (List.mem_of_getElem? (i := 47) rfl)
theorem aw_408 : Cond.code y_Tc_refuse prog_6_method_8_code 3 (some .boolean) ∈ cd_AW := cd_A6_in _ (List.mem_of_getElem? (i := 48) rfl)
theorem aw_409 : Cond.methodLink "CoreDesk$TapeCheck" 29 y_Row_number ∈ cd_AW := cd_A6_in _ (List.mem_of_getElem? (i := 49) rfl)
theorem aw_410 : Cond.instanceMethod y_Row_number ∈ cd_AW := cd_A6_in _ (List.mem_of_getElem? (i := 50) rfl)
theorem aw_411 : Cond.selects "CoreDesk$Row" y_Row_number y_Row_number ∈ cd_AW := cd_A6_in _ (List.mem_of_getElem? (i := 51) rfl)
theorem aw_412 : Cond.code y_Row_number prog_5_method_4_code 5 (some .int) ∈ cd_AW := cd_A6_in _ (List.mem_of_getElem? (i := 52) rfl)
theorem aw_413 : Cond.methodLink "CoreDesk$TapeCheck" 66 y_Tc_headerFieldFits ∈ cd_AW := cd_A6_in _ (List.mem_of_getElem? (i := 53) rfl)
theorem aw_414 : Cond.instanceMethod y_Tc_headerFieldFits ∈ cd_AW := cd_A6_in _ (List.mem_of_getElem? (i := 54) rfl)
theorem aw_415 : Cond.code y_Tc_headerFieldFits prog_6_method_11_code 3 (some .boolean) ∈ cd_AW := cd_A6_in _ (List.mem_of_getElem? (i := 55) rfl)
theorem aw_416 : Cond.methodLink "CoreDesk$TapeCheck" 69 y_Tc_entries ∈ cd_AW := cd_A6_in _ (List.mem_of_getElem? (i := 56) rfl)
theorem aw_417 : Cond.instanceMethod y_Tc_entries ∈ cd_AW := cd_A6_in _ (List.mem_of_getElem? (i := 57) rfl)
theorem aw_418 : Cond.selects "CoreDesk$TapeCheck" y_Tc_entries y_Tc_entries ∈ cd_AW := cd_A6_in _ (List.mem_of_getElem? (i := 58) rfl)
theorem aw_419 : Cond.code y_Tc_entries prog_6_method_5_code 1 (some .int) ∈ cd_AW := cd_A6_in _ (List.mem_of_getElem? (i := 59) rfl)
theorem aw_420 : Cond.methodLink "CoreDesk$TapeCheck" 35 y_Tc_fieldPlace ∈ cd_AW := cd_A7_in _ (List.mem_of_getElem? (i := 0) rfl)
theorem aw_421 : Cond.instanceMethod y_Tc_fieldPlace ∈ cd_AW := cd_A7_in _ (List.mem_of_getElem? (i := 1) rfl)
theorem aw_422 : Cond.code y_Tc_fieldPlace prog_6_method_9_code 3 (some .int) ∈ cd_AW := cd_A7_in _ (List.mem_of_getElem? (i := 2) rfl)
theorem aw_423 : Cond.methodLink "CoreDesk$TapeCheck" 45 y_Tc_entriesPass ∈ cd_AW := cd_A7_in _ (List.mem_of_getElem? (i := 3) rfl)
theorem aw_424 : Cond.instanceMethod y_Tc_entriesPass ∈ cd_AW := cd_A7_in _ (List.mem_of_getElem? (i := 4) rfl)
theorem aw_425 : Cond.code y_Tc_entriesPass prog_6_method_12_code 3 (some .boolean) ∈ cd_AW := cd_A7_in _ (List.mem_of_getElem? (i := 5) rfl)
theorem aw_426 : Cond.methodLink "CoreDesk$TapeCheck" 72 y_Tc_fieldsPass ∈ cd_AW := cd_A7_in _ (List.mem_of_getElem? (i := 6) rfl)
theorem aw_427 : Cond.instanceMethod y_Tc_fieldsPass ∈ cd_AW := cd_A7_in _ (List.mem_of_getElem? (i := 7) rfl)
theorem aw_428 : Cond.code y_Tc_fieldsPass prog_6_method_13_code 5 (some .boolean) ∈ cd_AW := cd_A7_in _ (List.mem_of_getElem? (i := 8) rfl)
theorem aw_429 : Cond.methodLink "CoreDesk$TapeCheck" 82 y_Tc_entryField ∈ cd_AW := cd_A7_in _ (List.mem_of_getElem? (i := 9) rfl)
theorem aw_430 : Cond.instanceMethod y_Tc_entryField ∈ cd_AW := cd_A7_in _ (List.mem_of_getElem? (i := 10) rfl)
theorem aw_431 : Cond.selects "CoreDesk$TapeCheck" y_Tc_entryField y_Tc_entryField ∈ cd_AW := cd_A7_in _ (List.mem_of_getElem? (i := 11) rfl)
theorem aw_432 : Cond.code y_Tc_entryField prog_6_method_6_code 3 (some .int) ∈ cd_AW := cd_A7_in _ (List.mem_of_getElem? (i := 12) rfl)
theorem aw_433 : Cond.methodLink "CoreDesk$TapeCheck" 85 y_Tc_notesFieldFits ∈ cd_AW := cd_A7_in _ (List.mem_of_getElem? (i := 13) rfl)
theorem aw_434 : Cond.instanceMethod y_Tc_notesFieldFits ∈ cd_AW := cd_A7_in _ (List.mem_of_getElem? (i := 14) rfl)
theorem aw_435 : Cond.code y_Tc_notesFieldFits prog_6_method_14_code 3 (some .boolean) ∈ cd_AW := cd_A7_in _ (List.mem_of_getElem? (i := 15) rfl)
theorem aw_436 : Cond.methodLink "CoreDesk$TapeCheck" 88 y_Tc_regionFieldFits ∈ cd_AW := cd_A7_in _ (List.mem_of_getElem? (i := 16) rfl)
theorem aw_437 : Cond.instanceMethod y_Tc_regionFieldFits ∈ cd_AW := cd_A7_in _ (List.mem_of_getElem? (i := 17) rfl)
theorem aw_438 : Cond.code y_Tc_regionFieldFits prog_6_method_15_code 4 (some .boolean) ∈ cd_AW := cd_A7_in _ (List.mem_of_getElem? (i := 18) rfl)
theorem aw_439 : Cond.methodLink "CoreDesk$TapeCheck" 92 y_Mem_isSpan ∈ cd_AW := cd_A7_in _ (List.mem_of_getElem? (i := 19) rfl)
theorem aw_440 : Cond.methodLink "CoreDesk$TapeCheck" 76 y_Tc_bytesPass ∈ cd_AW := cd_A7_in _ (List.mem_of_getElem? (i := 20) rfl)
theorem aw_441 : Cond.instanceMethod y_Tc_bytesPass ∈ cd_AW := cd_A7_in _ (List.mem_of_getElem? (i := 21) rfl)
theorem aw_442 : Cond.code y_Tc_bytesPass prog_6_method_16_code 5 (some .boolean) ∈ cd_AW := cd_A7_in _ (List.mem_of_getElem? (i := 22) rfl)
theorem aw_443 : Cond.methodLink "CoreDesk$TapeCheck" 97 y_Mem_overlap ∈ cd_AW := cd_A7_in _ (List.mem_of_getElem? (i := 23) rfl)
theorem aw_444 : Cond.methodLink "CoreDesk$TapeCheck" 79 y_Tc_addressesPass ∈ cd_AW := cd_A7_in _ (List.mem_of_getElem? (i := 24) rfl)
theorem aw_445 : Cond.instanceMethod y_Tc_addressesPass ∈ cd_AW := cd_A7_in _ (List.mem_of_getElem? (i := 25) rfl)
theorem aw_446 : Cond.code y_Tc_addressesPass prog_6_method_17_code 5 (some .boolean) ∈ cd_AW := cd_A7_in _ (List.mem_of_getElem? (i := 26) rfl)
theorem aw_447 : Cond.methodLink "CoreDesk$TapeCheck" 48 y_Tc_notesPass ∈ cd_AW := cd_A7_in _ (List.mem_of_getElem? (i := 27) rfl)
theorem aw_448 : Cond.instanceMethod y_Tc_notesPass ∈ cd_AW := cd_A7_in _ (List.mem_of_getElem? (i := 28) rfl)
theorem aw_449 : Cond.code y_Tc_notesPass prog_6_method_18_code 4 (some .boolean) ∈ cd_AW := cd_A7_in _ (List.mem_of_getElem? (i := 29) rfl)
theorem aw_450 : Cond.methodLink "CoreDesk$TapeCheck" 101 y_Tc_noteHeadPasses ∈ cd_AW := cd_A7_in _ (List.mem_of_getElem? (i := 30) rfl)
theorem aw_451 : Cond.instanceMethod y_Tc_noteHeadPasses ∈ cd_AW := cd_A7_in _ (List.mem_of_getElem? (i := 31) rfl)
theorem aw_452 : Cond.code y_Tc_noteHeadPasses prog_6_method_21_code 5 (some .boolean) ∈ cd_AW := cd_A7_in _ (List.mem_of_getElem? (i := 32) rfl)
theorem aw_453 : Cond.methodLink "CoreDesk$TapeCheck" 117 y_Row_at ∈ cd_AW := cd_A7_in _ (List.mem_of_getElem? (i := 33) rfl)
theorem aw_454 : Cond.methodLink "CoreDesk$TapeCheck" 107 y_Tc_noteSize ∈ cd_AW := cd_A7_in _ (List.mem_of_getElem? (i := 34) rfl)
theorem aw_455 : Cond.instanceMethod y_Tc_noteSize ∈ cd_AW := cd_A7_in _ (List.mem_of_getElem? (i := 35) rfl)
theorem aw_456 : Cond.code y_Tc_noteSize prog_6_method_19_code 2 (some .int) ∈ cd_AW := cd_A7_in _ (List.mem_of_getElem? (i := 36) rfl)
theorem aw_457 : Cond.methodLink "CoreDesk$TapeCheck" 111 y_Tc_padded ∈ cd_AW := cd_A7_in _ (List.mem_of_getElem? (i := 37) rfl)
theorem aw_458 : Cond.instanceMethod y_Tc_padded ∈ cd_AW := cd_A7_in _ (List.mem_of_getElem? (i := 38) rfl)
theorem aw_459 : Cond.code y_Tc_padded prog_6_method_20_code 2 (some .int) ∈ cd_AW := cd_A7_in _ (List.mem_of_getElem? (i := 39) rfl)
theorem aw_460 : Cond.methodLink "CoreDesk$TapeCheck" 104 y_Tc_threadPasses ∈ cd_AW := cd_A7_in _ (List.mem_of_getElem? (i := 40) rfl)
theorem aw_461 : Cond.instanceMethod y_Tc_threadPasses ∈ cd_AW := cd_A7_in _ (List.mem_of_getElem? (i := 41) rfl)
theorem aw_462 : Cond.code y_Tc_threadPasses prog_6_method_22_code 6 (some .boolean) ∈ cd_AW := cd_A7_in _ (List.mem_of_getElem? (i := 42) rfl)
theorem aw_463 : Cond.methodLink "CoreDesk$TapeCheck" 120 y_Tt_hasId ∈ cd_AW := cd_A7_in _ (List.mem_of_getElem? (i := 43) rfl)
theorem aw_464 : Cond.methodLink "CoreDesk$TapeCheck" 123 y_Tt_add ∈ cd_AW := cd_A7_in _ (List.mem_of_getElem? (i := 44) rfl)
theorem aw_465 : Cond.methodLink "CoreDesk$TapeCheck" 126 y_Tt_write ∈ cd_AW := cd_A7_in _ (List.mem_of_getElem? (i := 45) rfl)
theorem aw_466 : Cond.classLink "CoreDesk" 111 "java/lang/IllegalArgumentException" ∈ cd_AW := cd_A7_in _ (List.mem_of_getElem? (i := 46) rfl)
theorem aw_467 : Cond.instantiable "java/lang/IllegalArgumentException" 6 ∈ cd_AW := cd_A7_in _ (List.mem_of_getElem? (i := 47) rfl)
theorem aw_468 : Cond.selects "java/lang/IllegalArgumentException" ⟨"java/lang/Throwable", "fillInStackTrace", "(I)Ljava/lang/Throwable;"⟩ ⟨"java/lang/Throwable", "fillInStackTrace", "(I)Ljava/lang/Throwable;"⟩ ∈ cd_AW := cd_A7_in _ (List.mem_of_getElem? (i := 48) rfl)
theorem aw_469 : Cond.selects "java/lang/IllegalArgumentException" ⟨"java/lang/Throwable", "fillInStackTrace", "()Ljava/lang/Throwable;"⟩ ⟨"java/lang/Throwable", "fillInStackTrace", "()Ljava/lang/Throwable;"⟩ ∈ cd_AW := cd_A7_in _ (List.mem_of_getElem? (i := 49) rfl)
theorem aw_470 : Cond.lays "java/lang/IllegalArgumentException" "java/lang/Throwable" "cause" "Ljava/lang/Throwable;" ∈ cd_AW := cd_A7_in _ (List.mem_of_getElem? (i := 50) rfl)
theorem aw_471 : Cond.lays "java/lang/Throwable" "java/lang/Throwable" "cause" "Ljava/lang/Throwable;" ∈ cd_AW := cd_A7_in _ (List.mem_of_getElem? (i := 51) rfl)
theorem aw_472 : Cond.lays "java/lang/IllegalArgumentException" "java/lang/Throwable" "stackTrace" "[Ljava/lang/StackTraceElement;" ∈ cd_AW := cd_A7_in _ (List.mem_of_getElem? (i := 52) rfl)
theorem aw_473 : Cond.lays "java/lang/Throwable" "java/lang/Throwable" "stackTrace" "[Ljava/lang/StackTraceElement;" ∈ cd_AW := cd_A7_in _ (List.mem_of_getElem? (i := 53) rfl)
theorem aw_474 : Cond.lays "java/lang/IllegalArgumentException" "java/lang/Throwable" "suppressedExceptions" "Ljava/util/List;" ∈ cd_AW := cd_A7_in _ (List.mem_of_getElem? (i := 54) rfl)
theorem aw_475 : Cond.lays "java/lang/Throwable" "java/lang/Throwable" "suppressedExceptions" "Ljava/util/List;" ∈ cd_AW := cd_A7_in _ (List.mem_of_getElem? (i := 55) rfl)
theorem aw_476 : Cond.lays "java/lang/IllegalArgumentException" "java/lang/Throwable" "detailMessage" "Ljava/lang/String;" ∈ cd_AW := cd_A7_in _ (List.mem_of_getElem? (i := 56) rfl)
theorem aw_477 : Cond.lays "java/lang/Throwable" "java/lang/Throwable" "detailMessage" "Ljava/lang/String;" ∈ cd_AW := cd_A7_in _ (List.mem_of_getElem? (i := 57) rfl)
theorem aw_478 : Cond.lays "java/lang/IllegalArgumentException" "java/lang/Throwable" "backtrace" "Ljava/lang/Object;" ∈ cd_AW := cd_A7_in _ (List.mem_of_getElem? (i := 58) rfl)
theorem aw_479 : Cond.lays "java/lang/Throwable" "java/lang/Throwable" "backtrace" "Ljava/lang/Object;" ∈ cd_AW := cd_A7_in _ (List.mem_of_getElem? (i := 59) rfl)
theorem aw_480 : Cond.fieldLink "java/lang/Throwable" 198 "java/lang/Throwable" "backtrace" "Ljava/lang/Object;" ∈ cd_AW := cd_A8_in _ (List.mem_of_getElem? (i := 0) rfl)
theorem aw_481 : Cond.instanceMethod ⟨"java/lang/Throwable", "<init>", "()V"⟩ ∈ cd_AW := cd_A8_in _ (List.mem_of_getElem? (i := 1) rfl)
theorem aw_482 : Cond.code ⟨"java/lang/Throwable", "<init>", "()V"⟩ prog_15_method_1_code 1 none ∈ cd_AW := cd_A8_in _ (List.mem_of_getElem? (i := 2) rfl)
theorem aw_483 : Cond.methodLink "java/lang/Throwable" 1 objectInit ∈ cd_AW := cd_A8_in _ (List.mem_of_getElem? (i := 3) rfl)
theorem aw_484 : Cond.fieldLink "java/lang/Throwable" 13 "java/lang/Throwable" "UNASSIGNED_STACK" "[Ljava/lang/StackTraceElement;" ∈ cd_AW := cd_A8_in _ (List.mem_of_getElem? (i := 4) rfl)
theorem aw_485 : Cond.fieldLink "java/lang/Throwable" 20 "java/lang/Throwable" "SUPPRESSED_SENTINEL" "Ljava/util/List;" ∈ cd_AW := cd_A8_in _ (List.mem_of_getElem? (i := 5) rfl)
theorem aw_486 : Cond.methodLink "java/lang/Throwable" 27 ⟨"java/lang/Throwable", "fillInStackTrace", "()Ljava/lang/Throwable;"⟩ ∈ cd_AW := cd_A8_in _ (List.mem_of_getElem? (i := 6) rfl)
theorem aw_487 : Cond.instanceMethod ⟨"java/lang/Throwable", "fillInStackTrace", "()Ljava/lang/Throwable;"⟩ ∈ cd_AW := cd_A8_in _ (List.mem_of_getElem? (i := 7) rfl)
theorem aw_488 : Cond.selects "java/lang/IndexOutOfBoundsException" ⟨"java/lang/Throwable", "fillInStackTrace", "()Ljava/lang/Throwable;"⟩ ⟨"java/lang/Throwable", "fillInStackTrace", "()Ljava/lang/Throwable;"⟩ ∈ cd_AW := cd_A8_in _ (List.mem_of_getElem? (i := 8) rfl)
theorem aw_489 : Cond.methodLink "java/lang/Throwable" 202 ⟨"java/lang/Throwable", "fillInStackTrace", "(I)Ljava/lang/Throwable;"⟩ ∈ cd_AW := cd_A8_in _ (List.mem_of_getElem? (i := 9) rfl)
theorem aw_490 : Cond.instanceMethod ⟨"java/lang/Throwable", "fillInStackTrace", "(I)Ljava/lang/Throwable;"⟩ ∈ cd_AW := cd_A8_in _ (List.mem_of_getElem? (i := 10) rfl)
theorem aw_491 : Cond.instantiable "java/lang/Throwable" 6 ∈ cd_AW := cd_A8_in _ (List.mem_of_getElem? (i := 11) rfl)
theorem aw_492 : Cond.native ⟨"java/lang/Throwable", "fillInStackTrace", "(I)Ljava/lang/Throwable;"⟩ ∈ cd_AW := cd_A8_in _ (List.mem_of_getElem? (i := 12) rfl)
theorem aw_493 : Cond.methodLink "CoreDesk" 113 ⟨"java/lang/IllegalArgumentException", "<init>", "()V"⟩ ∈ cd_AW := cd_A8_in _ (List.mem_of_getElem? (i := 13) rfl)
theorem aw_494 : Cond.instanceMethod ⟨"java/lang/IllegalArgumentException", "<init>", "()V"⟩ ∈ cd_AW := cd_A8_in _ (List.mem_of_getElem? (i := 14) rfl)
theorem aw_495 : Cond.code ⟨"java/lang/IllegalArgumentException", "<init>", "()V"⟩ prog_11_method_1_code 1 none ∈ cd_AW := cd_A8_in _ (List.mem_of_getElem? (i := 15) rfl)
theorem aw_496 : Cond.methodLink "java/lang/IllegalArgumentException" 1 ⟨"java/lang/RuntimeException", "<init>", "()V"⟩ ∈ cd_AW := cd_A8_in _ (List.mem_of_getElem? (i := 16) rfl)
theorem aw_497 : Cond.instanceMethod ⟨"java/lang/RuntimeException", "<init>", "()V"⟩ ∈ cd_AW := cd_A8_in _ (List.mem_of_getElem? (i := 17) rfl)
theorem aw_498 : Cond.code ⟨"java/lang/RuntimeException", "<init>", "()V"⟩ prog_13_method_1_code 1 none ∈ cd_AW := cd_A8_in _ (List.mem_of_getElem? (i := 18) rfl)
theorem aw_499 : Cond.methodLink "java/lang/RuntimeException" 1 ⟨"java/lang/Exception", "<init>", "()V"⟩ ∈ cd_AW := cd_A8_in _ (List.mem_of_getElem? (i := 19) rfl)
theorem aw_500 : Cond.instanceMethod ⟨"java/lang/Exception", "<init>", "()V"⟩ ∈ cd_AW := cd_A8_in _ (List.mem_of_getElem? (i := 20) rfl)
theorem aw_501 : Cond.code ⟨"java/lang/Exception", "<init>", "()V"⟩ prog_10_method_1_code 1 none ∈ cd_AW := cd_A8_in _ (List.mem_of_getElem? (i := 21) rfl)
theorem aw_502 : Cond.methodLink "java/lang/Exception" 1 ⟨"java/lang/Throwable", "<init>", "()V"⟩ ∈ cd_AW := cd_A8_in _ (List.mem_of_getElem? (i := 22) rfl)
theorem aw_503 : Cond.fieldLink "java/lang/Throwable" 7 "java/lang/Throwable" "cause" "Ljava/lang/Throwable;" ∈ cd_AW := cd_A8_in _ (List.mem_of_getElem? (i := 23) rfl)
theorem aw_504 : Cond.fieldLink "java/lang/Throwable" 17 "java/lang/Throwable" "stackTrace" "[Ljava/lang/StackTraceElement;" ∈ cd_AW := cd_A8_in _ (List.mem_of_getElem? (i := 24) rfl)
theorem aw_505 : Cond.fieldLink "java/lang/Throwable" 24 "java/lang/Throwable" "suppressedExceptions" "Ljava/util/List;" ∈ cd_AW := cd_A8_in _ (List.mem_of_getElem? (i := 25) rfl)
theorem aw_506 : Cond.lays "java/lang/IllegalArgumentException" "java/lang/Throwable" "depth" "I" ∈ cd_AW := cd_A8_in _ (List.mem_of_getElem? (i := 26) rfl)
theorem aw_507 : Cond.methodLink "CoreDesk" 114 y_Desk_takeCore ∈ cd_AW := cd_A8_in _ (List.mem_of_getElem? (i := 27) rfl)
theorem aw_508 : Cond.instanceMethod y_Desk_takeCore ∈ cd_AW := cd_A8_in _ (List.mem_of_getElem? (i := 28) rfl)
theorem aw_509 : Cond.code y_Desk_takeCore prog_1_method_22_code 4 none ∈ cd_AW := cd_A8_in _ (List.mem_of_getElem? (i := 29) rfl)
theorem aw_510 : Cond.methodLink "CoreDesk" 158 y_Mem_clear ∈ cd_AW := cd_A8_in _ (List.mem_of_getElem? (i := 30) rfl)
theorem aw_511 : Cond.instanceMethod y_Mem_clear ∈ cd_AW := cd_A8_in _ (List.mem_of_getElem? (i := 31) rfl)
theorem aw_512 : Cond.selects "CoreDesk$Memory" y_Mem_clear y_Mem_clear ∈ cd_AW := cd_A8_in _ (List.mem_of_getElem? (i := 32) rfl)
theorem aw_513 : Cond.code y_Mem_clear prog_3_method_3_code 1 none ∈ cd_AW := cd_A8_in _ (List.mem_of_getElem? (i := 33) rfl)
theorem aw_514 : Cond.methodLink "CoreDesk" 161 y_Tc_entries ∈ cd_AW := cd_A8_in _ (List.mem_of_getElem? (i := 34) rfl)
theorem aw_515 : Cond.methodLink "CoreDesk" 164 y_Tc_entryField ∈ cd_AW := cd_A8_in _ (List.mem_of_getElem? (i := 35) rfl)
theorem aw_516 : Cond.methodLink "CoreDesk" 167 y_Mem_fillRegion ∈ cd_AW := cd_A8_in _ (List.mem_of_getElem? (i := 36) rfl)
theorem aw_517 : Cond.instanceMethod y_Mem_fillRegion ∈ cd_AW := cd_A8_in _ (List.mem_of_getElem? (i := 37) rfl)
theorem aw_518 : Cond.selects "CoreDesk$Memory" y_Mem_fillRegion y_Mem_fillRegion ∈ cd_AW := cd_A8_in _ (List.mem_of_getElem? (i := 38) rfl)
theorem aw_519 : Cond.code y_Mem_fillRegion prog_3_method_6_code 6 none ∈ cd_AW := cd_A8_in _ (List.mem_of_getElem? (i := 39) rfl)
theorem aw_520 : Cond.methodLink "CoreDesk$Memory" 48 y_Row_giveBytes ∈ cd_AW := cd_A8_in _ (List.mem_of_getElem? (i := 40) rfl)
theorem aw_521 : Cond.instanceMethod y_Row_giveBytes ∈ cd_AW := cd_A8_in _ (List.mem_of_getElem? (i := 41) rfl)
theorem aw_522 : Cond.selects "CoreDesk$Row" y_Row_giveBytes y_Row_giveBytes ∈ cd_AW := cd_A8_in _ (List.mem_of_getElem? (i := 42) rfl)
theorem aw_523 : Cond.code y_Row_giveBytes prog_5_method_9_code 4 none ∈ cd_AW := cd_A8_in _ (List.mem_of_getElem? (i := 43) rfl)
theorem aw_524 : Cond.methodLink "CoreDesk" 171 y_Tc_threadsFound ∈ cd_AW := cd_A8_in _ (List.mem_of_getElem? (i := 44) rfl)
theorem aw_525 : Cond.instanceMethod y_Tc_threadsFound ∈ cd_AW := cd_A8_in _ (List.mem_of_getElem? (i := 45) rfl)
theorem aw_526 : Cond.selects "CoreDesk$TapeCheck" y_Tc_threadsFound y_Tc_threadsFound ∈ cd_AW := cd_A8_in _ (List.mem_of_getElem? (i := 46) rfl)
theorem aw_527 : Cond.code y_Tc_threadsFound prog_6_method_4_code 1 (some (.object "CoreDesk$ThreadTable")) ∈ cd_AW := cd_A8_in _ (List.mem_of_getElem? (i := 47) rfl)
theorem aw_528 : Cond.methodLink "CoreDesk" 175 y_Tt_become ∈ cd_AW := cd_A8_in _ (List.mem_of_getElem? (i := 48) rfl)
theorem aw_529 : Cond.instanceMethod y_Tt_become ∈ cd_AW := cd_A8_in _ (List.mem_of_getElem? (i := 49) rfl)
theorem aw_530 : Cond.selects "CoreDesk$ThreadTable" y_Tt_become y_Tt_become ∈ cd_AW := cd_A8_in _ (List.mem_of_getElem? (i := 50) rfl)
theorem aw_531 : Cond.code y_Tt_become prog_7_method_10_code 2 none ∈ cd_AW := cd_A8_in _ (List.mem_of_getElem? (i := 51) rfl)
theorem aw_532 : Cond.methodLink "CoreDesk$ThreadTable" 39 arraycopyName ∈ cd_AW := cd_A8_in _ (List.mem_of_getElem? (i := 52) rfl)
theorem aw_533 : Cond.methodLink "CoreDeskLaw" 98 y_Law_register ∈ cd_AW := cd_A8_in _ (List.mem_of_getElem? (i := 53) rfl)
theorem aw_534 : Cond.static y_Law_register ∈ cd_AW := cd_A8_in _ (List.mem_of_getElem? (i := 54) rfl)
theorem aw_535 : Cond.classLink "CoreDeskLaw" 19 "java/lang/IndexOutOfBoundsException" ∈ cd_AW := cd_A8_in _ (List.mem_of_getElem? (i := 55) rfl)
theorem aw_536 : Cond.methodLink "CoreDeskLaw" 15 y_Desk_register ∈ cd_AW := cd_A8_in _ (List.mem_of_getElem? (i := 56) rfl)
theorem aw_537 : Cond.instanceMethod y_Desk_register ∈ cd_AW := cd_A8_in _ (List.mem_of_getElem? (i := 57) rfl)
theorem aw_538 : Cond.selects "CoreDesk" y_Desk_register y_Desk_register ∈ cd_AW := cd_A8_in _ (List.mem_of_getElem? (i := 58) rfl)
theorem aw_539 : Cond.code y_Desk_register prog_1_method_18_code 3 (some .int) ∈ cd_AW := cd_A8_in _ (List.mem_of_getElem? (i := 59) rfl)
theorem aw_540 : Cond.methodLink "CoreDesk" 136 y_Tt_id ∈ cd_AW := cd_A9_in _ (List.mem_of_getElem? (i := 0) rfl)
theorem aw_541 : Cond.classLink "CoreDesk" 143 "java/lang/IndexOutOfBoundsException" ∈ cd_AW := cd_A9_in _ (List.mem_of_getElem? (i := 1) rfl)
theorem aw_542 : Cond.instantiable "java/lang/IndexOutOfBoundsException" 6 ∈ cd_AW := cd_A9_in _ (List.mem_of_getElem? (i := 2) rfl)
theorem aw_543 : Cond.selects "java/lang/IndexOutOfBoundsException" ⟨"java/lang/Throwable", "fillInStackTrace", "(I)Ljava/lang/Throwable;"⟩ ⟨"java/lang/Throwable", "fillInStackTrace", "(I)Ljava/lang/Throwable;"⟩ ∈ cd_AW := cd_A9_in _ (List.mem_of_getElem? (i := 3) rfl)
theorem aw_544 : Cond.lays "java/lang/IndexOutOfBoundsException" "java/lang/Throwable" "cause" "Ljava/lang/Throwable;" ∈ cd_AW := cd_A9_in _ (List.mem_of_getElem? (i := 4) rfl)
theorem aw_545 : Cond.lays "java/lang/IndexOutOfBoundsException" "java/lang/Throwable" "stackTrace" "[Ljava/lang/StackTraceElement;" ∈ cd_AW := cd_A9_in _ (List.mem_of_getElem? (i := 5) rfl)
theorem aw_546 : Cond.lays "java/lang/IndexOutOfBoundsException" "java/lang/Throwable" "suppressedExceptions" "Ljava/util/List;" ∈ cd_AW := cd_A9_in _ (List.mem_of_getElem? (i := 6) rfl)
theorem aw_547 : Cond.lays "java/lang/IndexOutOfBoundsException" "java/lang/Throwable" "detailMessage" "Ljava/lang/String;" ∈ cd_AW := cd_A9_in _ (List.mem_of_getElem? (i := 7) rfl)
theorem aw_548 : Cond.lays "java/lang/IndexOutOfBoundsException" "java/lang/Throwable" "backtrace" "Ljava/lang/Object;" ∈ cd_AW := cd_A9_in _ (List.mem_of_getElem? (i := 8) rfl)
theorem aw_549 : Cond.methodLink "CoreDesk" 145 ⟨"java/lang/IndexOutOfBoundsException", "<init>", "()V"⟩ ∈ cd_AW := cd_A9_in _ (List.mem_of_getElem? (i := 9) rfl)
theorem aw_550 : Cond.instanceMethod ⟨"java/lang/IndexOutOfBoundsException", "<init>", "()V"⟩ ∈ cd_AW := cd_A9_in _ (List.mem_of_getElem? (i := 10) rfl)
theorem aw_551 : Cond.code ⟨"java/lang/IndexOutOfBoundsException", "<init>", "()V"⟩ prog_12_method_1_code 1 none ∈ cd_AW := cd_A9_in _ (List.mem_of_getElem? (i := 11) rfl)
theorem aw_552 : Cond.methodLink "java/lang/IndexOutOfBoundsException" 1 ⟨"java/lang/RuntimeException", "<init>", "()V"⟩ ∈ cd_AW := cd_A9_in _ (List.mem_of_getElem? (i := 12) rfl)
theorem aw_553 : Cond.lays "java/lang/IndexOutOfBoundsException" "java/lang/Throwable" "depth" "I" ∈ cd_AW := cd_A9_in _ (List.mem_of_getElem? (i := 13) rfl)
theorem aw_554 : Cond.classLink "CoreDeskLaw" 22 "CoreDeskModel" ∈ cd_AW := cd_A9_in _ (List.mem_of_getElem? (i := 14) rfl)
theorem aw_555 : Cond.instantiable "CoreDeskModel" 16 ∈ cd_AW := cd_A9_in _ (List.mem_of_getElem? (i := 15) rfl)
theorem aw_556 : Cond.methodLink "CoreDeskLaw" 24 y_Mo_init ∈ cd_AW := cd_A9_in _ (List.mem_of_getElem? (i := 16) rfl)
theorem aw_557 : Cond.instanceMethod y_Mo_init ∈ cd_AW := cd_A9_in _ (List.mem_of_getElem? (i := 17) rfl)
theorem aw_558 : Cond.code y_Mo_init prog_9_method_1_code 1 none ∈ cd_AW := cd_A9_in _ (List.mem_of_getElem? (i := 18) rfl)
theorem aw_559 : Cond.methodLink "CoreDeskModel" 1 objectInit ∈ cd_AW := cd_A9_in _ (List.mem_of_getElem? (i := 19) rfl)
theorem aw_560 : Cond.fieldLink "CoreDeskModel" 45 "CoreDeskModel" "thrown" "I" ∈ cd_AW := cd_A9_in _ (List.mem_of_getElem? (i := 20) rfl)
theorem aw_561 : Cond.fieldLink "CoreDeskModel" 7 "CoreDeskModel" "address" "[I" ∈ cd_AW := cd_A9_in _ (List.mem_of_getElem? (i := 21) rfl)
theorem aw_562 : Cond.fieldLink "CoreDeskModel" 13 "CoreDeskModel" "size" "[I" ∈ cd_AW := cd_A9_in _ (List.mem_of_getElem? (i := 22) rfl)
theorem aw_563 : Cond.fieldLink "CoreDeskModel" 16 "CoreDeskModel" "flag" "[I" ∈ cd_AW := cd_A9_in _ (List.mem_of_getElem? (i := 23) rfl)
theorem aw_564 : Cond.fieldLink "CoreDeskModel" 19 "CoreDeskModel" "bytes" "[B" ∈ cd_AW := cd_A9_in _ (List.mem_of_getElem? (i := 24) rfl)
theorem aw_565 : Cond.fieldLink "CoreDeskModel" 23 "CoreDeskModel" "regions" "[I" ∈ cd_AW := cd_A9_in _ (List.mem_of_getElem? (i := 25) rfl)
theorem aw_566 : Cond.fieldLink "CoreDeskModel" 26 "CoreDeskModel" "threads" "[I" ∈ cd_AW := cd_A9_in _ (List.mem_of_getElem? (i := 26) rfl)
theorem aw_567 : Cond.fieldLink "CoreDeskModel" 29 "CoreDeskModel" "id" "[I" ∈ cd_AW := cd_A9_in _ (List.mem_of_getElem? (i := 27) rfl)
theorem aw_568 : Cond.fieldLink "CoreDeskModel" 32 "CoreDeskModel" "register" "[I" ∈ cd_AW := cd_A9_in _ (List.mem_of_getElem? (i := 28) rfl)
theorem aw_569 : Cond.fieldLink "CoreDeskModel" 35 "CoreDeskModel" "file" "[B" ∈ cd_AW := cd_A9_in _ (List.mem_of_getElem? (i := 29) rfl)
theorem aw_570 : Cond.fieldLink "CoreDeskModel" 38 "CoreDeskModel" "fileSize" "I" ∈ cd_AW := cd_A9_in _ (List.mem_of_getElem? (i := 30) rfl)
theorem aw_571 : Cond.fieldLink "CoreDeskModel" 42 "CoreDeskModel" "tape" "[B" ∈ cd_AW := cd_A9_in _ (List.mem_of_getElem? (i := 31) rfl)
theorem aw_572 : Cond.fieldLink "CoreDeskModel" 86 "CoreDeskModel" "tapeSize" "I" ∈ cd_AW := cd_A9_in _ (List.mem_of_getElem? (i := 32) rfl)
theorem aw_573 : Cond.fieldLink "CoreDeskModel" 147 "CoreDeskModel" "hasCore" "Z" ∈ cd_AW := cd_A9_in _ (List.mem_of_getElem? (i := 33) rfl)
theorem aw_574 : Cond.fieldLink "CoreDeskModel" 92 "CoreDeskModel" "wrong" "I" ∈ cd_AW := cd_A9_in _ (List.mem_of_getElem? (i := 34) rfl)
theorem aw_575 : Cond.fieldLink "CoreDeskModel" 95 "CoreDeskModel" "where" "I" ∈ cd_AW := cd_A9_in _ (List.mem_of_getElem? (i := 35) rfl)
theorem aw_576 : Cond.lays "CoreDeskModel" "CoreDeskModel" "thrown" "I" ∈ cd_AW := cd_A9_in _ (List.mem_of_getElem? (i := 36) rfl)
theorem aw_577 : Cond.laysFinal "CoreDeskModel" "CoreDeskModel" "address" "[I" ∈ cd_AW := cd_A9_in _ (List.mem_of_getElem? (i := 37) rfl)
theorem aw_578 : Cond.laysFinal "CoreDeskModel" "CoreDeskModel" "size" "[I" ∈ cd_AW := cd_A9_in _ (List.mem_of_getElem? (i := 38) rfl)
theorem aw_579 : Cond.laysFinal "CoreDeskModel" "CoreDeskModel" "flag" "[I" ∈ cd_AW := cd_A9_in _ (List.mem_of_getElem? (i := 39) rfl)
theorem aw_580 : Cond.laysFinal "CoreDeskModel" "CoreDeskModel" "bytes" "[B" ∈ cd_AW := cd_A9_in _ (List.mem_of_getElem? (i := 40) rfl)
theorem aw_581 : Cond.laysFinal "CoreDeskModel" "CoreDeskModel" "regions" "[I" ∈ cd_AW := cd_A9_in _ (List.mem_of_getElem? (i := 41) rfl)
theorem aw_582 : Cond.laysFinal "CoreDeskModel" "CoreDeskModel" "threads" "[I" ∈ cd_AW := cd_A9_in _ (List.mem_of_getElem? (i := 42) rfl)
theorem aw_583 : Cond.laysFinal "CoreDeskModel" "CoreDeskModel" "id" "[I" ∈ cd_AW := cd_A9_in _ (List.mem_of_getElem? (i := 43) rfl)
theorem aw_584 : Cond.laysFinal "CoreDeskModel" "CoreDeskModel" "register" "[I" ∈ cd_AW := cd_A9_in _ (List.mem_of_getElem? (i := 44) rfl)
theorem aw_585 : Cond.laysFinal "CoreDeskModel" "CoreDeskModel" "file" "[B" ∈ cd_AW := cd_A9_in _ (List.mem_of_getElem? (i := 45) rfl)
theorem aw_586 : Cond.lays "CoreDeskModel" "CoreDeskModel" "fileSize" "I" ∈ cd_AW := cd_A9_in _ (List.mem_of_getElem? (i := 46) rfl)
theorem aw_587 : Cond.laysFinal "CoreDeskModel" "CoreDeskModel" "tape" "[B" ∈ cd_AW := cd_A9_in _ (List.mem_of_getElem? (i := 47) rfl)
theorem aw_588 : Cond.lays "CoreDeskModel" "CoreDeskModel" "tapeSize" "I" ∈ cd_AW := cd_A9_in _ (List.mem_of_getElem? (i := 48) rfl)
theorem aw_589 : Cond.lays "CoreDeskModel" "CoreDeskModel" "hasCore" "Z" ∈ cd_AW := cd_A9_in _ (List.mem_of_getElem? (i := 49) rfl)
theorem aw_590 : Cond.lays "CoreDeskModel" "CoreDeskModel" "wrong" "I" ∈ cd_AW := cd_A9_in _ (List.mem_of_getElem? (i := 50) rfl)
theorem aw_591 : Cond.lays "CoreDeskModel" "CoreDeskModel" "where" "I" ∈ cd_AW := cd_A9_in _ (List.mem_of_getElem? (i := 51) rfl)
theorem aw_592 : Cond.methodLink "CoreDeskLaw" 79 y_Mo_thrown ∈ cd_AW := cd_A9_in _ (List.mem_of_getElem? (i := 52) rfl)
theorem aw_593 : Cond.instanceMethod y_Mo_thrown ∈ cd_AW := cd_A9_in _ (List.mem_of_getElem? (i := 53) rfl)
theorem aw_594 : Cond.selects "CoreDeskModel" y_Mo_thrown y_Mo_thrown ∈ cd_AW := cd_A9_in _ (List.mem_of_getElem? (i := 54) rfl)
theorem aw_595 : Cond.code y_Mo_thrown prog_9_method_2_code 1 (some .int) ∈ cd_AW := cd_A9_in _ (List.mem_of_getElem? (i := 55) rfl)
theorem aw_596 : Cond.methodLink "CoreDeskLaw" 29 y_Mo_map ∈ cd_AW := cd_A9_in _ (List.mem_of_getElem? (i := 56) rfl)
theorem aw_597 : Cond.instanceMethod y_Mo_map ∈ cd_AW := cd_A9_in _ (List.mem_of_getElem? (i := 57) rfl)
theorem aw_598 : Cond.selects "CoreDeskModel" y_Mo_map y_Mo_map ∈ cd_AW := cd_A9_in _ (List.mem_of_getElem? (i := 58) rfl)
theorem aw_599 : Cond.code y_Mo_map prog_9_method_5_code 6 (some .boolean) ∈ cd_AW := cd_A9_in _ (List.mem_of_getElem? (i := 59) rfl)
theorem aw_600 : Cond.constantLong "CoreDeskModel" 52 2147483648 ∈ cd_AW := cd_A10_in _ (List.mem_of_getElem? (i := 0) rfl)
theorem aw_601 : Cond.methodLink "CoreDeskModel" 48 y_Mo_within ∈ cd_AW := cd_A10_in _ (List.mem_of_getElem? (i := 1) rfl)
theorem aw_602 : Cond.instanceMethod y_Mo_within ∈ cd_AW := cd_A10_in _ (List.mem_of_getElem? (i := 2) rfl)
theorem aw_603 : Cond.code y_Mo_within prog_9_method_3_code 5 (some .int) ∈ cd_AW := cd_A10_in _ (List.mem_of_getElem? (i := 3) rfl)
theorem aw_604 : Cond.methodLink "CoreDeskLaw" 34 y_Mo_unmap ∈ cd_AW := cd_A10_in _ (List.mem_of_getElem? (i := 4) rfl)
theorem aw_605 : Cond.instanceMethod y_Mo_unmap ∈ cd_AW := cd_A10_in _ (List.mem_of_getElem? (i := 5) rfl)
theorem aw_606 : Cond.selects "CoreDeskModel" y_Mo_unmap y_Mo_unmap ∈ cd_AW := cd_A10_in _ (List.mem_of_getElem? (i := 6) rfl)
theorem aw_607 : Cond.code y_Mo_unmap prog_9_method_7_code 4 (some .boolean) ∈ cd_AW := cd_A10_in _ (List.mem_of_getElem? (i := 7) rfl)
theorem aw_608 : Cond.methodLink "CoreDeskModel" 54 y_Mo_move ∈ cd_AW := cd_A10_in _ (List.mem_of_getElem? (i := 8) rfl)
theorem aw_609 : Cond.instanceMethod y_Mo_move ∈ cd_AW := cd_A10_in _ (List.mem_of_getElem? (i := 9) rfl)
theorem aw_610 : Cond.code y_Mo_move prog_9_method_6_code 4 none ∈ cd_AW := cd_A10_in _ (List.mem_of_getElem? (i := 10) rfl)
theorem aw_611 : Cond.methodLink "CoreDeskLaw" 39 y_Mo_poke ∈ cd_AW := cd_A10_in _ (List.mem_of_getElem? (i := 11) rfl)
theorem aw_612 : Cond.instanceMethod y_Mo_poke ∈ cd_AW := cd_A10_in _ (List.mem_of_getElem? (i := 12) rfl)
theorem aw_613 : Cond.selects "CoreDeskModel" y_Mo_poke y_Mo_poke ∈ cd_AW := cd_A10_in _ (List.mem_of_getElem? (i := 13) rfl)
theorem aw_614 : Cond.code y_Mo_poke prog_9_method_8_code 4 (some .boolean) ∈ cd_AW := cd_A10_in _ (List.mem_of_getElem? (i := 14) rfl)
theorem aw_615 : Cond.methodLink "CoreDeskLaw" 43 y_Mo_pokeFour ∈ cd_AW := cd_A10_in _ (List.mem_of_getElem? (i := 15) rfl)
theorem aw_616 : Cond.instanceMethod y_Mo_pokeFour ∈ cd_AW := cd_A10_in _ (List.mem_of_getElem? (i := 16) rfl)
theorem aw_617 : Cond.selects "CoreDeskModel" y_Mo_pokeFour y_Mo_pokeFour ∈ cd_AW := cd_A10_in _ (List.mem_of_getElem? (i := 17) rfl)
theorem aw_618 : Cond.code y_Mo_pokeFour prog_9_method_9_code 5 (some .boolean) ∈ cd_AW := cd_A10_in _ (List.mem_of_getElem? (i := 18) rfl)
theorem aw_619 : Cond.methodLink "CoreDeskLaw" 48 y_Mo_thread ∈ cd_AW := cd_A10_in _ (List.mem_of_getElem? (i := 19) rfl)
theorem aw_620 : Cond.instanceMethod y_Mo_thread ∈ cd_AW := cd_A10_in _ (List.mem_of_getElem? (i := 20) rfl)
theorem aw_621 : Cond.selects "CoreDeskModel" y_Mo_thread y_Mo_thread ∈ cd_AW := cd_A10_in _ (List.mem_of_getElem? (i := 21) rfl)
theorem aw_622 : Cond.code y_Mo_thread prog_9_method_11_code 3 (some .int) ∈ cd_AW := cd_A10_in _ (List.mem_of_getElem? (i := 22) rfl)
theorem aw_623 : Cond.methodLink "CoreDeskModel" 58 y_Mo_hasId ∈ cd_AW := cd_A10_in _ (List.mem_of_getElem? (i := 23) rfl)
theorem aw_624 : Cond.instanceMethod y_Mo_hasId ∈ cd_AW := cd_A10_in _ (List.mem_of_getElem? (i := 24) rfl)
theorem aw_625 : Cond.code y_Mo_hasId prog_9_method_10_code 5 (some .boolean) ∈ cd_AW := cd_A10_in _ (List.mem_of_getElem? (i := 25) rfl)
theorem aw_626 : Cond.methodLink "CoreDeskLaw" 52 y_Mo_set ∈ cd_AW := cd_A10_in _ (List.mem_of_getElem? (i := 26) rfl)
theorem aw_627 : Cond.instanceMethod y_Mo_set ∈ cd_AW := cd_A10_in _ (List.mem_of_getElem? (i := 27) rfl)
theorem aw_628 : Cond.selects "CoreDeskModel" y_Mo_set y_Mo_set ∈ cd_AW := cd_A10_in _ (List.mem_of_getElem? (i := 28) rfl)
theorem aw_629 : Cond.code y_Mo_set prog_9_method_12_code 4 (some .boolean) ∈ cd_AW := cd_A10_in _ (List.mem_of_getElem? (i := 29) rfl)
theorem aw_630 : Cond.methodLink "CoreDeskLaw" 56 y_Mo_dump ∈ cd_AW := cd_A10_in _ (List.mem_of_getElem? (i := 30) rfl)
theorem aw_631 : Cond.instanceMethod y_Mo_dump ∈ cd_AW := cd_A10_in _ (List.mem_of_getElem? (i := 31) rfl)
theorem aw_632 : Cond.selects "CoreDeskModel" y_Mo_dump y_Mo_dump ∈ cd_AW := cd_A10_in _ (List.mem_of_getElem? (i := 32) rfl)
theorem aw_633 : Cond.code y_Mo_dump prog_9_method_20_code 5 (some .int) ∈ cd_AW := cd_A10_in _ (List.mem_of_getElem? (i := 33) rfl)
theorem aw_634 : Cond.methodLink "CoreDeskModel" 72 y_Mo_header ∈ cd_AW := cd_A10_in _ (List.mem_of_getElem? (i := 34) rfl)
theorem aw_635 : Cond.instanceMethod y_Mo_header ∈ cd_AW := cd_A10_in _ (List.mem_of_getElem? (i := 35) rfl)
theorem aw_636 : Cond.code y_Mo_header prog_9_method_19_code 2 none ∈ cd_AW := cd_A10_in _ (List.mem_of_getElem? (i := 36) rfl)
theorem aw_637 : Cond.methodLink "CoreDeskModel" 62 y_Mo_lay ∈ cd_AW := cd_A10_in _ (List.mem_of_getElem? (i := 37) rfl)
theorem aw_638 : Cond.instanceMethod y_Mo_lay ∈ cd_AW := cd_A10_in _ (List.mem_of_getElem? (i := 38) rfl)
theorem aw_639 : Cond.code y_Mo_lay prog_9_method_13_code 2 none ∈ cd_AW := cd_A10_in _ (List.mem_of_getElem? (i := 39) rfl)
theorem aw_640 : Cond.methodLink "CoreDeskModel" 66 y_Mo_two ∈ cd_AW := cd_A10_in _ (List.mem_of_getElem? (i := 40) rfl)
theorem aw_641 : Cond.instanceMethod y_Mo_two ∈ cd_AW := cd_A10_in _ (List.mem_of_getElem? (i := 41) rfl)
theorem aw_642 : Cond.code y_Mo_two prog_9_method_14_code 2 none ∈ cd_AW := cd_A10_in _ (List.mem_of_getElem? (i := 42) rfl)
theorem aw_643 : Cond.methodLink "CoreDeskModel" 69 y_Mo_four ∈ cd_AW := cd_A10_in _ (List.mem_of_getElem? (i := 43) rfl)
theorem aw_644 : Cond.instanceMethod y_Mo_four ∈ cd_AW := cd_A10_in _ (List.mem_of_getElem? (i := 44) rfl)
theorem aw_645 : Cond.code y_Mo_four prog_9_method_15_code 2 none ∈ cd_AW := cd_A10_in _ (List.mem_of_getElem? (i := 45) rfl)
theorem aw_646 : Cond.methodLink "CoreDeskModel" 75 y_Mo_programHeader ∈ cd_AW := cd_A10_in _ (List.mem_of_getElem? (i := 46) rfl)
theorem aw_647 : Cond.instanceMethod y_Mo_programHeader ∈ cd_AW := cd_A10_in _ (List.mem_of_getElem? (i := 47) rfl)
theorem aw_648 : Cond.code y_Mo_programHeader prog_9_method_18_code 8 none ∈ cd_AW := cd_A10_in _ (List.mem_of_getElem? (i := 48) rfl)
theorem aw_649 : Cond.methodLink "CoreDeskModel" 79 y_Mo_above ∈ cd_AW := cd_A10_in _ (List.mem_of_getElem? (i := 49) rfl)
theorem aw_650 : Cond.instanceMethod y_Mo_above ∈ cd_AW := cd_A10_in _ (List.mem_of_getElem? (i := 50) rfl)
theorem aw_651 : Cond.code y_Mo_above prog_9_method_17_code 4 (some .int) ∈ cd_AW := cd_A10_in _ (List.mem_of_getElem? (i := 51) rfl)
theorem aw_652 : Cond.methodLink "CoreDeskModel" 83 y_Mo_filled ∈ cd_AW := cd_A10_in _ (List.mem_of_getElem? (i := 52) rfl)
theorem aw_653 : Cond.instanceMethod y_Mo_filled ∈ cd_AW := cd_A10_in _ (List.mem_of_getElem? (i := 53) rfl)
theorem aw_654 : Cond.code y_Mo_filled prog_9_method_16_code 4 (some .int) ∈ cd_AW := cd_A10_in _ (List.mem_of_getElem? (i := 54) rfl)
theorem aw_655 : Cond.methodLink "CoreDeskLaw" 60 y_Mo_byteAt ∈ cd_AW := cd_A10_in _ (List.mem_of_getElem? (i := 55) rfl)
theorem aw_656 : Cond.instanceMethod y_Mo_byteAt ∈ cd_AW := cd_A10_in _ (List.mem_of_getElem? (i := 56) rfl)
theorem aw_657 : Cond.selects "CoreDeskModel" y_Mo_byteAt y_Mo_byteAt ∈ cd_AW := cd_A10_in _ (List.mem_of_getElem? (i := 57) rfl)
theorem aw_658 : Cond.code y_Mo_byteAt prog_9_method_21_code 2 (some .int) ∈ cd_AW := cd_A10_in _ (List.mem_of_getElem? (i := 58) rfl)
theorem aw_659 : Cond.methodLink "CoreDeskLaw" 64 y_Mo_copy ∈ cd_AW := cd_A10_in _ (List.mem_of_getElem? (i := 59) rfl)
theorem aw_660 : Cond.instanceMethod y_Mo_copy ∈ cd_AW := cd_A11_in _ (List.mem_of_getElem? (i := 0) rfl)
theorem aw_661 : Cond.selects "CoreDeskModel" y_Mo_copy y_Mo_copy ∈ cd_AW := cd_A11_in _ (List.mem_of_getElem? (i := 1) rfl)
theorem aw_662 : Cond.code y_Mo_copy prog_9_method_22_code 2 (some .int) ∈ cd_AW := cd_A11_in _ (List.mem_of_getElem? (i := 2) rfl)
theorem aw_663 : Cond.methodLink "CoreDeskLaw" 68 y_Mo_put ∈ cd_AW := cd_A11_in _ (List.mem_of_getElem? (i := 3) rfl)
theorem aw_664 : Cond.instanceMethod y_Mo_put ∈ cd_AW := cd_A11_in _ (List.mem_of_getElem? (i := 4) rfl)
theorem aw_665 : Cond.selects "CoreDeskModel" y_Mo_put y_Mo_put ∈ cd_AW := cd_A11_in _ (List.mem_of_getElem? (i := 5) rfl)
theorem aw_666 : Cond.code y_Mo_put prog_9_method_23_code 3 (some .boolean) ∈ cd_AW := cd_A11_in _ (List.mem_of_getElem? (i := 6) rfl)
theorem aw_667 : Cond.methodLink "CoreDeskLaw" 72 y_Mo_cut ∈ cd_AW := cd_A11_in _ (List.mem_of_getElem? (i := 7) rfl)
theorem aw_668 : Cond.instanceMethod y_Mo_cut ∈ cd_AW := cd_A11_in _ (List.mem_of_getElem? (i := 8) rfl)
theorem aw_669 : Cond.selects "CoreDeskModel" y_Mo_cut y_Mo_cut ∈ cd_AW := cd_A11_in _ (List.mem_of_getElem? (i := 9) rfl)
theorem aw_670 : Cond.code y_Mo_cut prog_9_method_24_code 2 (some .boolean) ∈ cd_AW := cd_A11_in _ (List.mem_of_getElem? (i := 10) rfl)
theorem aw_671 : Cond.methodLink "CoreDeskLaw" 78 y_Mo_load ∈ cd_AW := cd_A11_in _ (List.mem_of_getElem? (i := 11) rfl)
theorem aw_672 : Cond.instanceMethod y_Mo_load ∈ cd_AW := cd_A11_in _ (List.mem_of_getElem? (i := 12) rfl)
theorem aw_673 : Cond.selects "CoreDeskModel" y_Mo_load y_Mo_load ∈ cd_AW := cd_A11_in _ (List.mem_of_getElem? (i := 13) rfl)
theorem aw_674 : Cond.code y_Mo_load prog_9_method_39_code 3 (some .int) ∈ cd_AW := cd_A11_in _ (List.mem_of_getElem? (i := 14) rfl)
theorem aw_675 : Cond.methodLink "CoreDeskModel" 144 y_Mo_reads ∈ cd_AW := cd_A11_in _ (List.mem_of_getElem? (i := 15) rfl)
theorem aw_676 : Cond.instanceMethod y_Mo_reads ∈ cd_AW := cd_A11_in _ (List.mem_of_getElem? (i := 16) rfl)
theorem aw_677 : Cond.code y_Mo_reads prog_9_method_38_code 3 (some .boolean) ∈ cd_AW := cd_A11_in _ (List.mem_of_getElem? (i := 17) rfl)
theorem aw_678 : Cond.methodLink "CoreDeskModel" 131 y_Mo_headerFits ∈ cd_AW := cd_A11_in _ (List.mem_of_getElem? (i := 18) rfl)
theorem aw_679 : Cond.instanceMethod y_Mo_headerFits ∈ cd_AW := cd_A11_in _ (List.mem_of_getElem? (i := 19) rfl)
theorem aw_680 : Cond.code y_Mo_headerFits prog_9_method_30_code 3 (some .boolean) ∈ cd_AW := cd_A11_in _ (List.mem_of_getElem? (i := 20) rfl)
theorem aw_681 : Cond.methodLink "CoreDeskModel" 98 y_Mo_isWrong ∈ cd_AW := cd_A11_in _ (List.mem_of_getElem? (i := 21) rfl)
theorem aw_682 : Cond.instanceMethod y_Mo_isWrong ∈ cd_AW := cd_A11_in _ (List.mem_of_getElem? (i := 22) rfl)
theorem aw_683 : Cond.code y_Mo_isWrong prog_9_method_27_code 3 (some .boolean) ∈ cd_AW := cd_A11_in _ (List.mem_of_getElem? (i := 23) rfl)
theorem aw_684 : Cond.methodLink "CoreDeskModel" 101 y_Mo_headerByte ∈ cd_AW := cd_A11_in _ (List.mem_of_getElem? (i := 24) rfl)
theorem aw_685 : Cond.static y_Mo_headerByte ∈ cd_AW := cd_A11_in _ (List.mem_of_getElem? (i := 25) rfl)
theorem aw_686 : Cond.code y_Mo_headerByte prog_9_method_28_code 1 (some .int) ∈ cd_AW := cd_A11_in _ (List.mem_of_getElem? (i := 26) rfl)
theorem aw_687 : Cond.methodLink "CoreDeskModel" 89 y_Mo_twoAt ∈ cd_AW := cd_A11_in _ (List.mem_of_getElem? (i := 27) rfl)
theorem aw_688 : Cond.instanceMethod y_Mo_twoAt ∈ cd_AW := cd_A11_in _ (List.mem_of_getElem? (i := 28) rfl)
theorem aw_689 : Cond.code y_Mo_twoAt prog_9_method_25_code 2 (some .int) ∈ cd_AW := cd_A11_in _ (List.mem_of_getElem? (i := 29) rfl)
theorem aw_690 : Cond.methodLink "CoreDeskModel" 104 y_Mo_fieldOf ∈ cd_AW := cd_A11_in _ (List.mem_of_getElem? (i := 30) rfl)
theorem aw_691 : Cond.static y_Mo_fieldOf ∈ cd_AW := cd_A11_in _ (List.mem_of_getElem? (i := 31) rfl)
theorem aw_692 : Cond.code y_Mo_fieldOf prog_9_method_29_code 1 (some .int) ∈ cd_AW := cd_A11_in _ (List.mem_of_getElem? (i := 32) rfl)
theorem aw_693 : Cond.methodLink "CoreDeskModel" 135 y_Mo_entryFits ∈ cd_AW := cd_A11_in _ (List.mem_of_getElem? (i := 33) rfl)
theorem aw_694 : Cond.instanceMethod y_Mo_entryFits ∈ cd_AW := cd_A11_in _ (List.mem_of_getElem? (i := 34) rfl)
theorem aw_695 : Cond.code y_Mo_entryFits prog_9_method_33_code 11 (some .boolean) ∈ cd_AW := cd_A11_in _ (List.mem_of_getElem? (i := 35) rfl)
theorem aw_696 : Cond.methodLink "CoreDeskModel" 110 y_Mo_badField ∈ cd_AW := cd_A11_in _ (List.mem_of_getElem? (i := 36) rfl)
theorem aw_697 : Cond.instanceMethod y_Mo_badField ∈ cd_AW := cd_A11_in _ (List.mem_of_getElem? (i := 37) rfl)
theorem aw_698 : Cond.code y_Mo_badField prog_9_method_31_code 8 (some .int) ∈ cd_AW := cd_A11_in _ (List.mem_of_getElem? (i := 38) rfl)
theorem aw_699 : Cond.methodLink "CoreDeskModel" 107 y_Mo_fourAt ∈ cd_AW := cd_A11_in _ (List.mem_of_getElem? (i := 39) rfl)
theorem aw_700 : Cond.instanceMethod y_Mo_fourAt ∈ cd_AW := cd_A11_in _ (List.mem_of_getElem? (i := 40) rfl)
theorem aw_701 : Cond.code y_Mo_fourAt prog_9_method_26_code 2 (some .int) ∈ cd_AW := cd_A11_in _ (List.mem_of_getElem? (i := 41) rfl)
theorem aw_702 : Cond.methodLink "CoreDeskModel" 114 y_Mo_meet ∈ cd_AW := cd_A11_in _ (List.mem_of_getElem? (i := 42) rfl)
theorem aw_703 : Cond.static y_Mo_meet ∈ cd_AW := cd_A11_in _ (List.mem_of_getElem? (i := 43) rfl)
theorem aw_704 : Cond.code y_Mo_meet prog_9_method_32_code 8 (some .boolean) ∈ cd_AW := cd_A11_in _ (List.mem_of_getElem? (i := 44) rfl)
theorem aw_705 : Cond.methodLink "CoreDeskModel" 138 y_Mo_notesFit ∈ cd_AW := cd_A11_in _ (List.mem_of_getElem? (i := 45) rfl)
theorem aw_706 : Cond.instanceMethod y_Mo_notesFit ∈ cd_AW := cd_A11_in _ (List.mem_of_getElem? (i := 46) rfl)
theorem aw_707 : Cond.code y_Mo_notesFit prog_9_method_36_code 4 (some .boolean) ∈ cd_AW := cd_A11_in _ (List.mem_of_getElem? (i := 47) rfl)
theorem aw_708 : Cond.methodLink "CoreDeskModel" 127 y_Mo_note ∈ cd_AW := cd_A11_in _ (List.mem_of_getElem? (i := 48) rfl)
theorem aw_709 : Cond.instanceMethod y_Mo_note ∈ cd_AW := cd_A11_in _ (List.mem_of_getElem? (i := 49) rfl)
theorem aw_710 : Cond.code y_Mo_note prog_9_method_35_code 8 (some .int) ∈ cd_AW := cd_A11_in _ (List.mem_of_getElem? (i := 50) rfl)
theorem aw_711 : Cond.methodLink "CoreDeskModel" 118 y_Mo_noteByte ∈ cd_AW := cd_A11_in _ (List.mem_of_getElem? (i := 51) rfl)
theorem aw_712 : Cond.static y_Mo_noteByte ∈ cd_AW := cd_A11_in _ (List.mem_of_getElem? (i := 52) rfl)
theorem aw_713 : Cond.code y_Mo_noteByte prog_9_method_34_code 1 (some .int) ∈ cd_AW := cd_A11_in _ (List.mem_of_getElem? (i := 53) rfl)
theorem aw_714 : Cond.constantLong "CoreDeskModel" 121 20 ∈ cd_AW := cd_A11_in _ (List.mem_of_getElem? (i := 54) rfl)
theorem aw_715 : Cond.constantLong "CoreDeskModel" 123 3 ∈ cd_AW := cd_A11_in _ (List.mem_of_getElem? (i := 55) rfl)
theorem aw_716 : Cond.constantLong "CoreDeskModel" 125 4 ∈ cd_AW := cd_A11_in _ (List.mem_of_getElem? (i := 56) rfl)
theorem aw_717 : Cond.methodLink "CoreDeskModel" 141 y_Mo_readRegions ∈ cd_AW := cd_A11_in _ (List.mem_of_getElem? (i := 57) rfl)
theorem aw_718 : Cond.instanceMethod y_Mo_readRegions ∈ cd_AW := cd_A11_in _ (List.mem_of_getElem? (i := 58) rfl)
theorem aw_719 : Cond.code y_Mo_readRegions prog_9_method_37_code 7 none ∈ cd_AW := cd_A11_in _ (List.mem_of_getElem? (i := 59) rfl)
theorem aw_720 : Cond.methodLink "CoreDeskLaw" 85 y_Mo_error ∈ cd_AW := cd_A12_in _ (List.mem_of_getElem? (i := 0) rfl)
theorem aw_721 : Cond.instanceMethod y_Mo_error ∈ cd_AW := cd_A12_in _ (List.mem_of_getElem? (i := 1) rfl)
theorem aw_722 : Cond.selects "CoreDeskModel" y_Mo_error y_Mo_error ∈ cd_AW := cd_A12_in _ (List.mem_of_getElem? (i := 2) rfl)
theorem aw_723 : Cond.code y_Mo_error prog_9_method_40_code 2 (some .int) ∈ cd_AW := cd_A12_in _ (List.mem_of_getElem? (i := 3) rfl)
theorem aw_724 : Cond.methodLink "CoreDeskLaw" 89 y_Mo_core ∈ cd_AW := cd_A12_in _ (List.mem_of_getElem? (i := 4) rfl)
theorem aw_725 : Cond.instanceMethod y_Mo_core ∈ cd_AW := cd_A12_in _ (List.mem_of_getElem? (i := 5) rfl)
theorem aw_726 : Cond.selects "CoreDeskModel" y_Mo_core y_Mo_core ∈ cd_AW := cd_A12_in _ (List.mem_of_getElem? (i := 6) rfl)
theorem aw_727 : Cond.code y_Mo_core prog_9_method_41_code 2 (some .int) ∈ cd_AW := cd_A12_in _ (List.mem_of_getElem? (i := 7) rfl)
theorem aw_728 : Cond.methodLink "CoreDeskLaw" 93 y_Mo_peek ∈ cd_AW := cd_A12_in _ (List.mem_of_getElem? (i := 8) rfl)
theorem aw_729 : Cond.instanceMethod y_Mo_peek ∈ cd_AW := cd_A12_in _ (List.mem_of_getElem? (i := 9) rfl)
theorem aw_730 : Cond.selects "CoreDeskModel" y_Mo_peek y_Mo_peek ∈ cd_AW := cd_A12_in _ (List.mem_of_getElem? (i := 10) rfl)
theorem aw_731 : Cond.code y_Mo_peek prog_9_method_42_code 2 (some .int) ∈ cd_AW := cd_A12_in _ (List.mem_of_getElem? (i := 11) rfl)
theorem aw_732 : Cond.methodLink "CoreDeskModel" 151 y_Mo_byteOf ∈ cd_AW := cd_A12_in _ (List.mem_of_getElem? (i := 12) rfl)
theorem aw_733 : Cond.instanceMethod y_Mo_byteOf ∈ cd_AW := cd_A12_in _ (List.mem_of_getElem? (i := 13) rfl)
theorem aw_734 : Cond.code y_Mo_byteOf prog_9_method_4_code 5 (some .int) ∈ cd_AW := cd_A12_in _ (List.mem_of_getElem? (i := 14) rfl)
theorem aw_735 : Cond.methodLink "CoreDeskLaw" 97 y_Mo_flags ∈ cd_AW := cd_A12_in _ (List.mem_of_getElem? (i := 15) rfl)
theorem aw_736 : Cond.instanceMethod y_Mo_flags ∈ cd_AW := cd_A12_in _ (List.mem_of_getElem? (i := 16) rfl)
theorem aw_737 : Cond.selects "CoreDeskModel" y_Mo_flags y_Mo_flags ∈ cd_AW := cd_A12_in _ (List.mem_of_getElem? (i := 17) rfl)
theorem aw_738 : Cond.code y_Mo_flags prog_9_method_43_code 3 (some .int) ∈ cd_AW := cd_A12_in _ (List.mem_of_getElem? (i := 18) rfl)
theorem aw_739 : Cond.methodLink "CoreDeskLaw" 101 y_Mo_register ∈ cd_AW := cd_A12_in _ (List.mem_of_getElem? (i := 19) rfl)
theorem aw_740 : Cond.instanceMethod y_Mo_register ∈ cd_AW := cd_A12_in _ (List.mem_of_getElem? (i := 20) rfl)
theorem aw_741 : Cond.selects "CoreDeskModel" y_Mo_register y_Mo_register ∈ cd_AW := cd_A12_in _ (List.mem_of_getElem? (i := 21) rfl)
theorem aw_742 : Cond.code y_Mo_register prog_9_method_44_code 3 (some .int) ∈ cd_AW := cd_A12_in _ (List.mem_of_getElem? (i := 22) rfl)
theorem aw_743 : Cond.methodLink "CoreDeskLaw" 105 y_Mo_find ∈ cd_AW := cd_A12_in _ (List.mem_of_getElem? (i := 23) rfl)
theorem aw_744 : Cond.instanceMethod y_Mo_find ∈ cd_AW := cd_A12_in _ (List.mem_of_getElem? (i := 24) rfl)
theorem aw_745 : Cond.selects "CoreDeskModel" y_Mo_find y_Mo_find ∈ cd_AW := cd_A12_in _ (List.mem_of_getElem? (i := 25) rfl)
theorem aw_746 : Cond.code y_Mo_find prog_9_method_46_code 8 (some .int) ∈ cd_AW := cd_A12_in _ (List.mem_of_getElem? (i := 26) rfl)
theorem aw_747 : Cond.methodLink "CoreDeskModel" 156 y_Mo_number ∈ cd_AW := cd_A12_in _ (List.mem_of_getElem? (i := 27) rfl)
theorem aw_748 : Cond.instanceMethod y_Mo_number ∈ cd_AW := cd_A12_in _ (List.mem_of_getElem? (i := 28) rfl)
theorem aw_749 : Cond.code y_Mo_number prog_9_method_45_code 3 (some .int) ∈ cd_AW := cd_A12_in _ (List.mem_of_getElem? (i := 29) rfl)
theorem aw_750 : Cond.constantLong "CoreDeskModel" 154 2 ∈ cd_AW := cd_A12_in _ (List.mem_of_getElem? (i := 30) rfl)
theorem aw_751 : Cond.methodLink "CoreDeskLaw" 109 y_Mo_caller ∈ cd_AW := cd_A12_in _ (List.mem_of_getElem? (i := 31) rfl)
theorem aw_752 : Cond.instanceMethod y_Mo_caller ∈ cd_AW := cd_A12_in _ (List.mem_of_getElem? (i := 32) rfl)
theorem aw_753 : Cond.selects "CoreDeskModel" y_Mo_caller y_Mo_caller ∈ cd_AW := cd_A12_in _ (List.mem_of_getElem? (i := 33) rfl)
theorem aw_754 : Cond.code y_Mo_caller prog_9_method_47_code 9 (some .int) ∈ cd_AW := cd_A12_in _ (List.mem_of_getElem? (i := 34) rfl)
theorem aw_755 : Cond.arrayClass .long ∈ cd_AW := cd_A12_in _ (List.mem_of_getElem? (i := 35) rfl)
theorem aw_756 : Cond.selects "CoreDesk$Memory" y_Mem_indexOf y_Mem_indexOf ∈ cd_AW := cd_A12_in _ (List.mem_of_getElem? (i := 36) rfl)
theorem aw_757 : Cond.selects "CoreDesk$ThreadTable" y_Tt_hasValue y_Tt_hasValue ∈ cd_AW := cd_A12_in _ (List.mem_of_getElem? (i := 37) rfl)
theorem aw_758 : Cond.selects "CoreDesk$FileWriter" y_Fw_writeHeader y_Fw_writeHeader ∈ cd_AW := cd_A12_in _ (List.mem_of_getElem? (i := 38) rfl)
theorem aw_759 : Cond.selects "CoreDesk$FileWriter" y_Fw_entries y_Fw_entries ∈ cd_AW := cd_A12_in _ (List.mem_of_getElem? (i := 39) rfl)
theorem aw_760 : Cond.selects "CoreDesk$FileWriter" y_Fw_writeEntries y_Fw_writeEntries ∈ cd_AW := cd_A12_in _ (List.mem_of_getElem? (i := 40) rfl)
theorem aw_761 : Cond.selects "CoreDesk$FileWriter" y_Fw_writeNotesEntry y_Fw_writeNotesEntry ∈ cd_AW := cd_A12_in _ (List.mem_of_getElem? (i := 41) rfl)
theorem aw_762 : Cond.selects "CoreDesk$FileWriter" y_Fw_writeFour y_Fw_writeFour ∈ cd_AW := cd_A12_in _ (List.mem_of_getElem? (i := 42) rfl)
theorem aw_763 : Cond.selects "CoreDesk$FileWriter" y_Fw_writeRegionEntry y_Fw_writeRegionEntry ∈ cd_AW := cd_A12_in _ (List.mem_of_getElem? (i := 43) rfl)
theorem aw_764 : Cond.selects "CoreDesk$FileWriter" y_Fw_writeNote y_Fw_writeNote ∈ cd_AW := cd_A12_in _ (List.mem_of_getElem? (i := 44) rfl)
theorem aw_765 : Cond.selects "CoreDesk$Region" y_Reg_numberAt y_Reg_numberAt ∈ cd_AW := cd_A12_in _ (List.mem_of_getElem? (i := 45) rfl)
theorem aw_766 : Cond.selects "CoreDesk" y_Desk_isFrame y_Desk_isFrame ∈ cd_AW := cd_A12_in _ (List.mem_of_getElem? (i := 46) rfl)
theorem aw_767 : Cond.selects "CoreDesk$TapeCheck" y_Tc_headerPasses y_Tc_headerPasses ∈ cd_AW := cd_A12_in _ (List.mem_of_getElem? (i := 47) rfl)
theorem aw_768 : Cond.selects "CoreDesk$TapeCheck" y_Tc_refuse y_Tc_refuse ∈ cd_AW := cd_A12_in _ (List.mem_of_getElem? (i := 48) rfl)
theorem aw_769 : Cond.selects "CoreDesk$TapeCheck" y_Tc_headerFieldFits y_Tc_headerFieldFits ∈ cd_AW := cd_A12_in _ (List.mem_of_getElem? (i := 49) rfl)
theorem aw_770 : Cond.selects "CoreDesk$TapeCheck" y_Tc_fieldPlace y_Tc_fieldPlace ∈ cd_AW := cd_A12_in _ (List.mem_of_getElem? (i := 50) rfl)
theorem aw_771 : Cond.selects "CoreDesk$TapeCheck" y_Tc_entriesPass y_Tc_entriesPass ∈ cd_AW := cd_A12_in _ (List.mem_of_getElem? (i := 51) rfl)
theorem aw_772 : Cond.selects "CoreDesk$TapeCheck" y_Tc_fieldsPass y_Tc_fieldsPass ∈ cd_AW := cd_A12_in _ (List.mem_of_getElem? (i := 52) rfl)
theorem aw_773 : Cond.selects "CoreDesk$TapeCheck" y_Tc_notesFieldFits y_Tc_notesFieldFits ∈ cd_AW := cd_A12_in _ (List.mem_of_getElem? (i := 53) rfl)
theorem aw_774 : Cond.selects "CoreDesk$TapeCheck" y_Tc_regionFieldFits y_Tc_regionFieldFits ∈ cd_AW := cd_A12_in _ (List.mem_of_getElem? (i := 54) rfl)
theorem aw_775 : Cond.selects "CoreDesk$TapeCheck" y_Tc_bytesPass y_Tc_bytesPass ∈ cd_AW := cd_A12_in _ (List.mem_of_getElem? (i := 55) rfl)
theorem aw_776 : Cond.selects "CoreDesk$TapeCheck" y_Tc_addressesPass y_Tc_addressesPass ∈ cd_AW := cd_A12_in _ (List.mem_of_getElem? (i := 56) rfl)
theorem aw_777 : Cond.selects "CoreDesk$TapeCheck" y_Tc_notesPass y_Tc_notesPass ∈ cd_AW := cd_A12_in _ (List.mem_of_getElem? (i := 57) rfl)
theorem aw_778 : Cond.selects "CoreDesk$TapeCheck" y_Tc_noteHeadPasses y_Tc_noteHeadPasses ∈ cd_AW := cd_A12_in _ (List.mem_of_getElem? (i := 58) rfl)
theorem aw_779 : Cond.selects "CoreDesk$TapeCheck" y_Tc_noteSize y_Tc_noteSize ∈ cd_AW := cd_A12_in _ (List.mem_of_getElem? (i := 59) rfl)
theorem aw_780 : Cond.selects "CoreDesk$TapeCheck" y_Tc_padded y_Tc_padded ∈ cd_AW := cd_A13_in _ (List.mem_of_getElem? (i := 0) rfl)
theorem aw_781 : Cond.selects "CoreDesk$TapeCheck" y_Tc_threadPasses y_Tc_threadPasses ∈ cd_AW := cd_A13_in _ (List.mem_of_getElem? (i := 1) rfl)
theorem aw_782 : Cond.selects "java/lang/Throwable" ⟨"java/lang/Throwable", "fillInStackTrace", "(I)Ljava/lang/Throwable;"⟩ ⟨"java/lang/Throwable", "fillInStackTrace", "(I)Ljava/lang/Throwable;"⟩ ∈ cd_AW := cd_A13_in _ (List.mem_of_getElem? (i := 2) rfl)
theorem aw_783 : Cond.selects "CoreDesk" y_Desk_takeCore y_Desk_takeCore ∈ cd_AW := cd_A13_in _ (List.mem_of_getElem? (i := 3) rfl)
theorem aw_784 : Cond.selects "CoreDeskModel" y_Mo_within y_Mo_within ∈ cd_AW := cd_A13_in _ (List.mem_of_getElem? (i := 4) rfl)
theorem aw_785 : Cond.selects "CoreDeskModel" y_Mo_move y_Mo_move ∈ cd_AW := cd_A13_in _ (List.mem_of_getElem? (i := 5) rfl)
theorem aw_786 : Cond.selects "CoreDeskModel" y_Mo_hasId y_Mo_hasId ∈ cd_AW := cd_A13_in _ (List.mem_of_getElem? (i := 6) rfl)
theorem aw_787 : Cond.selects "CoreDeskModel" y_Mo_header y_Mo_header ∈ cd_AW := cd_A13_in _ (List.mem_of_getElem? (i := 7) rfl)
theorem aw_788 : Cond.selects "CoreDeskModel" y_Mo_lay y_Mo_lay ∈ cd_AW := cd_A13_in _ (List.mem_of_getElem? (i := 8) rfl)
theorem aw_789 : Cond.selects "CoreDeskModel" y_Mo_two y_Mo_two ∈ cd_AW := cd_A13_in _ (List.mem_of_getElem? (i := 9) rfl)
theorem aw_790 : Cond.selects "CoreDeskModel" y_Mo_four y_Mo_four ∈ cd_AW := cd_A13_in _ (List.mem_of_getElem? (i := 10) rfl)
theorem aw_791 : Cond.selects "CoreDeskModel" y_Mo_programHeader y_Mo_programHeader ∈ cd_AW := cd_A13_in _ (List.mem_of_getElem? (i := 11) rfl)
theorem aw_792 : Cond.selects "CoreDeskModel" y_Mo_above y_Mo_above ∈ cd_AW := cd_A13_in _ (List.mem_of_getElem? (i := 12) rfl)
theorem aw_793 : Cond.selects "CoreDeskModel" y_Mo_filled y_Mo_filled ∈ cd_AW := cd_A13_in _ (List.mem_of_getElem? (i := 13) rfl)
theorem aw_794 : Cond.selects "CoreDeskModel" y_Mo_reads y_Mo_reads ∈ cd_AW := cd_A13_in _ (List.mem_of_getElem? (i := 14) rfl)
theorem aw_795 : Cond.selects "CoreDeskModel" y_Mo_headerFits y_Mo_headerFits ∈ cd_AW := cd_A13_in _ (List.mem_of_getElem? (i := 15) rfl)
theorem aw_796 : Cond.selects "CoreDeskModel" y_Mo_isWrong y_Mo_isWrong ∈ cd_AW := cd_A13_in _ (List.mem_of_getElem? (i := 16) rfl)
theorem aw_797 : Cond.selects "CoreDeskModel" y_Mo_twoAt y_Mo_twoAt ∈ cd_AW := cd_A13_in _ (List.mem_of_getElem? (i := 17) rfl)
theorem aw_798 : Cond.selects "CoreDeskModel" y_Mo_entryFits y_Mo_entryFits ∈ cd_AW := cd_A13_in _ (List.mem_of_getElem? (i := 18) rfl)
theorem aw_799 : Cond.selects "CoreDeskModel" y_Mo_badField y_Mo_badField ∈ cd_AW := cd_A13_in _ (List.mem_of_getElem? (i := 19) rfl)
theorem aw_800 : Cond.selects "CoreDeskModel" y_Mo_fourAt y_Mo_fourAt ∈ cd_AW := cd_A13_in _ (List.mem_of_getElem? (i := 20) rfl)
theorem aw_801 : Cond.selects "CoreDeskModel" y_Mo_notesFit y_Mo_notesFit ∈ cd_AW := cd_A13_in _ (List.mem_of_getElem? (i := 21) rfl)
theorem aw_802 : Cond.selects "CoreDeskModel" y_Mo_note y_Mo_note ∈ cd_AW := cd_A13_in _ (List.mem_of_getElem? (i := 22) rfl)
theorem aw_803 : Cond.selects "CoreDeskModel" y_Mo_readRegions y_Mo_readRegions ∈ cd_AW := cd_A13_in _ (List.mem_of_getElem? (i := 23) rfl)
theorem aw_804 : Cond.selects "CoreDeskModel" y_Mo_byteOf y_Mo_byteOf ∈ cd_AW := cd_A13_in _ (List.mem_of_getElem? (i := 24) rfl)
theorem aw_805 : Cond.selects "CoreDeskModel" y_Mo_number y_Mo_number ∈ cd_AW := cd_A13_in _ (List.mem_of_getElem? (i := 25) rfl)
def cd_nest : List (String × Nat × String × String × String × String) := [("CoreDesk$FileWriter", 52, "CoreDesk$Region", "bytes", "[B", "CoreDesk"), ("CoreDesk$Memory", 44, "CoreDesk$Region", "bytes", "[B", "CoreDesk"), ("CoreDesk$Memory", 26, "CoreDesk$Region", "address", "I", "CoreDesk"), ("CoreDesk$FileWriter", 89, "CoreDesk$Region", "address", "I", "CoreDesk"), ("CoreDesk$Memory", 29, "CoreDesk$Region", "size", "I", "CoreDesk"), ("CoreDesk$FileWriter", 93, "CoreDesk$Region", "size", "I", "CoreDesk"), ("CoreDesk$FileWriter", 96, "CoreDesk$Region", "permissions", "I", "CoreDesk"), ("CoreDesk$Memory", 60, "CoreDesk$Region", "permissions", "I", "CoreDesk"), ("CoreDesk$FileWriter", 65, "CoreDesk", "HEADER_VALUES", "[I", "CoreDesk"), ("CoreDesk$FileWriter", 69, "CoreDesk", "HEADER_WIDTHS", "[I", "CoreDesk"), ("CoreDesk$FileWriter", 99, "CoreDesk", "NOTE_NAME", "[I", "CoreDesk"), ("CoreDesk$TapeCheck", 59, "CoreDesk", "HEADER_VALUES", "[I", "CoreDesk"), ("CoreDesk$TapeCheck", 63, "CoreDesk", "HEADER_WIDTHS", "[I", "CoreDesk"), ("CoreDesk$TapeCheck", 114, "CoreDesk", "NOTE_NAME", "[I", "CoreDesk")]
def cd_N (U : State) : Prop := ∀ t ∈ cd_nest, va_Nw (.fieldLinkNest t.1 t.2.1 t.2.2.1 t.2.2.2.1 t.2.2.2.2.1 t.2.2.2.2.2) U
theorem nw_0 {U : State} (h : cd_N U) : va_Nw (.fieldLinkNest "CoreDesk$FileWriter" 52 "CoreDesk$Region" "bytes" "[B" "CoreDesk") U := h ("CoreDesk$FileWriter", 52, "CoreDesk$Region", "bytes", "[B", "CoreDesk") (List.mem_of_getElem? (i := 0) rfl)
theorem nw_1 {U : State} (h : cd_N U) : va_Nw (.fieldLinkNest "CoreDesk$Memory" 44 "CoreDesk$Region" "bytes" "[B" "CoreDesk") U := h ("CoreDesk$Memory", 44, "CoreDesk$Region", "bytes", "[B", "CoreDesk") (List.mem_of_getElem? (i := 1) rfl)
theorem nw_2 {U : State} (h : cd_N U) : va_Nw (.fieldLinkNest "CoreDesk$Memory" 26 "CoreDesk$Region" "address" "I" "CoreDesk") U := h ("CoreDesk$Memory", 26, "CoreDesk$Region", "address", "I", "CoreDesk") (List.mem_of_getElem? (i := 2) rfl)
theorem nw_3 {U : State} (h : cd_N U) : va_Nw (.fieldLinkNest "CoreDesk$FileWriter" 89 "CoreDesk$Region" "address" "I" "CoreDesk") U := h ("CoreDesk$FileWriter", 89, "CoreDesk$Region", "address", "I", "CoreDesk") (List.mem_of_getElem? (i := 3) rfl)
theorem nw_4 {U : State} (h : cd_N U) : va_Nw (.fieldLinkNest "CoreDesk$Memory" 29 "CoreDesk$Region" "size" "I" "CoreDesk") U := h ("CoreDesk$Memory", 29, "CoreDesk$Region", "size", "I", "CoreDesk") (List.mem_of_getElem? (i := 4) rfl)
theorem nw_5 {U : State} (h : cd_N U) : va_Nw (.fieldLinkNest "CoreDesk$FileWriter" 93 "CoreDesk$Region" "size" "I" "CoreDesk") U := h ("CoreDesk$FileWriter", 93, "CoreDesk$Region", "size", "I", "CoreDesk") (List.mem_of_getElem? (i := 5) rfl)
theorem nw_6 {U : State} (h : cd_N U) : va_Nw (.fieldLinkNest "CoreDesk$FileWriter" 96 "CoreDesk$Region" "permissions" "I" "CoreDesk") U := h ("CoreDesk$FileWriter", 96, "CoreDesk$Region", "permissions", "I", "CoreDesk") (List.mem_of_getElem? (i := 6) rfl)
theorem nw_7 {U : State} (h : cd_N U) : va_Nw (.fieldLinkNest "CoreDesk$Memory" 60 "CoreDesk$Region" "permissions" "I" "CoreDesk") U := h ("CoreDesk$Memory", 60, "CoreDesk$Region", "permissions", "I", "CoreDesk") (List.mem_of_getElem? (i := 7) rfl)
theorem nw_8 {U : State} (h : cd_N U) : va_Nw (.fieldLinkNest "CoreDesk$FileWriter" 65 "CoreDesk" "HEADER_VALUES" "[I" "CoreDesk") U := h ("CoreDesk$FileWriter", 65, "CoreDesk", "HEADER_VALUES", "[I", "CoreDesk") (List.mem_of_getElem? (i := 8) rfl)
theorem nw_9 {U : State} (h : cd_N U) : va_Nw (.fieldLinkNest "CoreDesk$FileWriter" 69 "CoreDesk" "HEADER_WIDTHS" "[I" "CoreDesk") U := h ("CoreDesk$FileWriter", 69, "CoreDesk", "HEADER_WIDTHS", "[I", "CoreDesk") (List.mem_of_getElem? (i := 9) rfl)
theorem nw_10 {U : State} (h : cd_N U) : va_Nw (.fieldLinkNest "CoreDesk$FileWriter" 99 "CoreDesk" "NOTE_NAME" "[I" "CoreDesk") U := h ("CoreDesk$FileWriter", 99, "CoreDesk", "NOTE_NAME", "[I", "CoreDesk") (List.mem_of_getElem? (i := 10) rfl)
theorem nw_11 {U : State} (h : cd_N U) : va_Nw (.fieldLinkNest "CoreDesk$TapeCheck" 59 "CoreDesk" "HEADER_VALUES" "[I" "CoreDesk") U := h ("CoreDesk$TapeCheck", 59, "CoreDesk", "HEADER_VALUES", "[I", "CoreDesk") (List.mem_of_getElem? (i := 11) rfl)
theorem nw_12 {U : State} (h : cd_N U) : va_Nw (.fieldLinkNest "CoreDesk$TapeCheck" 63 "CoreDesk" "HEADER_WIDTHS" "[I" "CoreDesk") U := h ("CoreDesk$TapeCheck", 63, "CoreDesk", "HEADER_WIDTHS", "[I", "CoreDesk") (List.mem_of_getElem? (i := 12) rfl)
theorem nw_13 {U : State} (h : cd_N U) : va_Nw (.fieldLinkNest "CoreDesk$TapeCheck" 114 "CoreDesk" "NOTE_NAME" "[I" "CoreDesk") U := h ("CoreDesk$TapeCheck", 114, "CoreDesk", "NOTE_NAME", "[I", "CoreDesk") (List.mem_of_getElem? (i := 13) rfl)
theorem in_Row : ∀ w ∈ u_ws R_Row F_Row 2, w ∈ cd_AW := by
  intro w hw
  have h : w ∈ ([.laysFinal "CoreDesk$Row" "CoreDesk$Row" "bytes" "[B", .lays "CoreDesk$Row" "CoreDesk$Row" "length" "I"] : List Cond) := hw
  simp only [List.mem_cons, List.not_mem_nil, or_false] at h
  rcases h with rfl | rfl
  · exact aw_70
  · exact aw_71
theorem in_Reg : ∀ w ∈ u_ws R_Reg F_Reg 4, w ∈ cd_AW := by
  intro w hw
  have h : w ∈ ([.laysFinal "CoreDesk$Region" "CoreDesk$Region" "bytes" "[B", .lays "CoreDesk$Region" "CoreDesk$Region" "address" "I", .lays "CoreDesk$Region" "CoreDesk$Region" "size" "I", .lays "CoreDesk$Region" "CoreDesk$Region" "permissions" "I"] : List Cond) := hw
  simp only [List.mem_cons, List.not_mem_nil, or_false] at h
  rcases h with rfl | rfl | rfl | rfl
  · exact aw_40
  · exact aw_41
  · exact aw_42
  · exact aw_43
theorem in_Tt : ∀ w ∈ u_ws R_Tt F_Tt 3, w ∈ cd_AW := by
  intro w hw
  have h : w ∈ ([.laysFinal "CoreDesk$ThreadTable" "CoreDesk$ThreadTable" "ids" "[I", .laysFinal "CoreDesk$ThreadTable" "CoreDesk$ThreadTable" "values" "[I", .lays "CoreDesk$ThreadTable" "CoreDesk$ThreadTable" "count" "I"] : List Cond) := hw
  simp only [List.mem_cons, List.not_mem_nil, or_false] at h
  rcases h with rfl | rfl | rfl
  · exact aw_58
  · exact aw_59
  · exact aw_60
theorem in_Mem : ∀ w ∈ u_ws R_Mem F_Mem 2, w ∈ cd_AW := by
  intro w hw
  have h : w ∈ ([.laysFinal "CoreDesk$Memory" "CoreDesk$Memory" "regions" "[LCoreDesk$Region;", .lays "CoreDesk$Memory" "CoreDesk$Memory" "count" "I"] : List Cond) := hw
  simp only [List.mem_cons, List.not_mem_nil, or_false] at h
  rcases h with rfl | rfl
  · exact aw_47
  · exact aw_48
theorem in_Fw : ∀ w ∈ u_ws R_Fw F_Fw 3, w ∈ cd_AW := by
  intro w hw
  have h : w ∈ ([.laysFinal "CoreDesk$FileWriter" "CoreDesk$FileWriter" "file" "LCoreDesk$Row;", .laysFinal "CoreDesk$FileWriter" "CoreDesk$FileWriter" "memory" "LCoreDesk$Memory;", .laysFinal "CoreDesk$FileWriter" "CoreDesk$FileWriter" "threads" "LCoreDesk$ThreadTable;"] : List Cond) := hw
  simp only [List.mem_cons, List.not_mem_nil, or_false] at h
  rcases h with rfl | rfl | rfl
  · exact aw_81
  · exact aw_82
  · exact aw_83
theorem in_Tc : ∀ w ∈ u_ws R_Tc F_Tc 4, w ∈ cd_AW := by
  intro w hw
  have h : w ∈ ([.laysFinal "CoreDesk$TapeCheck" "CoreDesk$TapeCheck" "tape" "LCoreDesk$Row;", .laysFinal "CoreDesk$TapeCheck" "CoreDesk$TapeCheck" "found" "LCoreDesk$ThreadTable;", .lays "CoreDesk$TapeCheck" "CoreDesk$TapeCheck" "wrong" "I", .lays "CoreDesk$TapeCheck" "CoreDesk$TapeCheck" "place" "I"] : List Cond) := hw
  simp only [List.mem_cons, List.not_mem_nil, or_false] at h
  rcases h with rfl | rfl | rfl | rfl
  · exact aw_96
  · exact aw_97
  · exact aw_98
  · exact aw_99
theorem in_Desk : ∀ w ∈ u_ws R_Desk F_Desk 9, w ∈ cd_AW := by
  intro w hw
  have h : w ∈ ([.laysFinal "CoreDesk" "CoreDesk" "memory" "LCoreDesk$Memory;", .laysFinal "CoreDesk" "CoreDesk" "threads" "LCoreDesk$ThreadTable;", .laysFinal "CoreDesk" "CoreDesk" "file" "LCoreDesk$Row;", .laysFinal "CoreDesk" "CoreDesk" "writer" "LCoreDesk$FileWriter;", .laysFinal "CoreDesk" "CoreDesk" "tape" "LCoreDesk$Row;", .laysFinal "CoreDesk" "CoreDesk" "check" "LCoreDesk$TapeCheck;", .laysFinal "CoreDesk" "CoreDesk" "coreMemory" "LCoreDesk$Memory;", .laysFinal "CoreDesk" "CoreDesk" "coreThreads" "LCoreDesk$ThreadTable;", .lays "CoreDesk" "CoreDesk" "hasCore" "Z"] : List Cond) := hw
  simp only [List.mem_cons, List.not_mem_nil, or_false] at h
  rcases h with rfl | rfl | rfl | rfl | rfl | rfl | rfl | rfl | rfl
  · exact aw_109
  · exact aw_110
  · exact aw_111
  · exact aw_112
  · exact aw_113
  · exact aw_114
  · exact aw_115
  · exact aw_116
  · exact aw_117
theorem in_Mo : ∀ w ∈ u_ws R_Mo F_Mo 16, w ∈ cd_AW := by
  intro w hw
  have h : w ∈ ([.lays "CoreDeskModel" "CoreDeskModel" "thrown" "I", .laysFinal "CoreDeskModel" "CoreDeskModel" "address" "[I", .laysFinal "CoreDeskModel" "CoreDeskModel" "size" "[I", .laysFinal "CoreDeskModel" "CoreDeskModel" "flag" "[I", .laysFinal "CoreDeskModel" "CoreDeskModel" "bytes" "[B", .laysFinal "CoreDeskModel" "CoreDeskModel" "regions" "[I", .laysFinal "CoreDeskModel" "CoreDeskModel" "threads" "[I", .laysFinal "CoreDeskModel" "CoreDeskModel" "id" "[I", .laysFinal "CoreDeskModel" "CoreDeskModel" "register" "[I", .laysFinal "CoreDeskModel" "CoreDeskModel" "file" "[B", .lays "CoreDeskModel" "CoreDeskModel" "fileSize" "I", .laysFinal "CoreDeskModel" "CoreDeskModel" "tape" "[B", .lays "CoreDeskModel" "CoreDeskModel" "tapeSize" "I", .lays "CoreDeskModel" "CoreDeskModel" "hasCore" "Z", .lays "CoreDeskModel" "CoreDeskModel" "wrong" "I", .lays "CoreDeskModel" "CoreDeskModel" "where" "I"] : List Cond) := hw
  simp only [List.mem_cons, List.not_mem_nil, or_false] at h
  rcases h with rfl | rfl | rfl | rfl | rfl | rfl | rfl | rfl | rfl | rfl | rfl | rfl | rfl | rfl | rfl | rfl
  · exact aw_576
  · exact aw_577
  · exact aw_578
  · exact aw_579
  · exact aw_580
  · exact aw_581
  · exact aw_582
  · exact aw_583
  · exact aw_584
  · exact aw_585
  · exact aw_586
  · exact aw_587
  · exact aw_588
  · exact aw_589
  · exact aw_590
  · exact aw_591
def w_Desk_init : List Cond := .code y_Desk_init b_Desk_init 1 none :: cd_AW
def w_Desk_map : List Cond := .code y_Desk_map b_Desk_map 4 (some .boolean) :: cd_AW
def w_Desk_unmap : List Cond := .code y_Desk_unmap b_Desk_unmap 2 (some .boolean) :: cd_AW
def w_Desk_poke : List Cond := .code y_Desk_poke b_Desk_poke 3 (some .boolean) :: cd_AW
def w_Desk_pokeFour : List Cond := .code y_Desk_pokeFour b_Desk_pokeFour 3 (some .boolean) :: cd_AW
def w_Desk_thread : List Cond := .code y_Desk_thread b_Desk_thread 2 (some .int) :: cd_AW
def w_Desk_set : List Cond := .code y_Desk_set b_Desk_set 4 (some .boolean) :: cd_AW
def w_Desk_dump : List Cond := .code y_Desk_dump b_Desk_dump 1 (some .int) :: cd_AW
def w_Desk_byteAt : List Cond := .code y_Desk_byteAt b_Desk_byteAt 2 (some .int) :: cd_AW
def w_Desk_copy : List Cond := .code y_Desk_copy b_Desk_copy 1 (some .int) :: cd_AW
def w_Desk_put : List Cond := .code y_Desk_put b_Desk_put 3 (some .boolean) :: cd_AW
def w_Desk_cut : List Cond := .code y_Desk_cut b_Desk_cut 2 (some .boolean) :: cd_AW
def w_Desk_load : List Cond := .code y_Desk_load b_Desk_load 1 (some .int) :: cd_AW
def w_Desk_error : List Cond := .code y_Desk_error b_Desk_error 2 (some .int) :: cd_AW
def w_Desk_core : List Cond := .code y_Desk_core b_Desk_core 2 (some .int) :: cd_AW
def w_Desk_peek : List Cond := .code y_Desk_peek b_Desk_peek 2 (some .int) :: cd_AW
def w_Desk_flags : List Cond := .code y_Desk_flags b_Desk_flags 2 (some .int) :: cd_AW
def w_Desk_register : List Cond := .code y_Desk_register b_Desk_register 3 (some .int) :: cd_AW
def w_Desk_find : List Cond := .code y_Desk_find b_Desk_find 3 (some .int) :: cd_AW
def w_Desk_caller : List Cond := .code y_Desk_caller b_Desk_caller 6 (some .int) :: cd_AW
def w_Desk_isFrame : List Cond := .code y_Desk_isFrame b_Desk_isFrame 3 (some .boolean) :: cd_AW
def w_Desk_takeCore : List Cond := .code y_Desk_takeCore b_Desk_takeCore 4 none :: cd_AW
def w_Row_init : List Cond := .code y_Row_init b_Row_init 2 none :: cd_AW
def w_Row_length : List Cond := .code y_Row_length b_Row_length 1 (some .int) :: cd_AW
def w_Row_at : List Cond := .code y_Row_at b_Row_at 2 (some .int) :: cd_AW
def w_Row_number : List Cond := .code y_Row_number b_Row_number 5 (some .int) :: cd_AW
def w_Row_change : List Cond := .code y_Row_change b_Row_change 3 (some .boolean) :: cd_AW
def w_Row_append : List Cond := .code y_Row_append b_Row_append 2 (some .boolean) :: cd_AW
def w_Row_appendNumber : List Cond := .code y_Row_appendNumber b_Row_appendNumber 5 none :: cd_AW
def w_Row_appendBytes : List Cond := .code y_Row_appendBytes b_Row_appendBytes 3 none :: cd_AW
def w_Row_giveBytes : List Cond := .code y_Row_giveBytes b_Row_giveBytes 4 none :: cd_AW
def w_Row_shorten : List Cond := .code y_Row_shorten b_Row_shorten 2 (some .boolean) :: cd_AW
def w_Row_become : List Cond := .code y_Row_become b_Row_become 2 none :: cd_AW
def w_Reg_init : List Cond := .code y_Reg_init b_Reg_init 1 none :: cd_AW
def w_Reg_begin : List Cond := .code y_Reg_begin b_Reg_begin 4 none :: cd_AW
def w_Reg_has : List Cond := .code y_Reg_has b_Reg_has 2 (some .boolean) :: cd_AW
def w_Reg_read : List Cond := .code y_Reg_read b_Reg_read 2 (some .int) :: cd_AW
def w_Reg_write : List Cond := .code y_Reg_write b_Reg_write 3 none :: cd_AW
def w_Reg_usedBytes : List Cond := .code y_Reg_usedBytes b_Reg_usedBytes 2 (some .int) :: cd_AW
def w_Reg_search : List Cond := .code y_Reg_search b_Reg_search 5 (some .int) :: cd_AW
def w_Reg_numberAt : List Cond := .code y_Reg_numberAt b_Reg_numberAt 2 (some .int) :: cd_AW
def w_Mem_init : List Cond := .code y_Mem_init b_Mem_init 2 none :: cd_AW
def w_Mem_count : List Cond := .code y_Mem_count b_Mem_count 1 (some .int) :: cd_AW
def w_Mem_clear : List Cond := .code y_Mem_clear b_Mem_clear 1 none :: cd_AW
def w_Mem_addRegion : List Cond := .code y_Mem_addRegion b_Mem_addRegion 7 (some .boolean) :: cd_AW
def w_Mem_removeRegion : List Cond := .code y_Mem_removeRegion b_Mem_removeRegion 5 (some .boolean) :: cd_AW
def w_Mem_fillRegion : List Cond := .code y_Mem_fillRegion b_Mem_fillRegion 6 none :: cd_AW
def w_Mem_regionAt : List Cond := .code y_Mem_regionAt b_Mem_regionAt 2 (some (.object "CoreDesk$Region")) :: cd_AW
def w_Mem_holds : List Cond := .code y_Mem_holds b_Mem_holds 4 (some .boolean) :: cd_AW
def w_Mem_readByte : List Cond := .code y_Mem_readByte b_Mem_readByte 3 (some .int) :: cd_AW
def w_Mem_readNumber : List Cond := .code y_Mem_readNumber b_Mem_readNumber 4 (some .int) :: cd_AW
def w_Mem_flagsAt : List Cond := .code y_Mem_flagsAt b_Mem_flagsAt 3 (some .int) :: cd_AW
def w_Mem_writeByte : List Cond := .code y_Mem_writeByte b_Mem_writeByte 4 (some .boolean) :: cd_AW
def w_Mem_writeNumber : List Cond := .code y_Mem_writeNumber b_Mem_writeNumber 4 (some .boolean) :: cd_AW
def w_Mem_search : List Cond := .code y_Mem_search b_Mem_search 5 (some .int) :: cd_AW
def w_Mem_indexOf : List Cond := .code y_Mem_indexOf b_Mem_indexOf 3 (some .int) :: cd_AW
def w_Mem_isSpan : List Cond := .code y_Mem_isSpan b_Mem_isSpan 2 (some .boolean) :: cd_AW
def w_Mem_overlap : List Cond := .code y_Mem_overlap b_Mem_overlap 4 (some .boolean) :: cd_AW
def w_Tt_init : List Cond := .code y_Tt_init b_Tt_init 1 none :: cd_AW
def w_Tt_count : List Cond := .code y_Tt_count b_Tt_count 1 (some .int) :: cd_AW
def w_Tt_clear : List Cond := .code y_Tt_clear b_Tt_clear 1 none :: cd_AW
def w_Tt_has : List Cond := .code y_Tt_has b_Tt_has 2 (some .boolean) :: cd_AW
def w_Tt_hasId : List Cond := .code y_Tt_hasId b_Tt_hasId 3 (some .boolean) :: cd_AW
def w_Tt_add : List Cond := .code y_Tt_add b_Tt_add 2 (some .int) :: cd_AW
def w_Tt_id : List Cond := .code y_Tt_id b_Tt_id 2 (some .int) :: cd_AW
def w_Tt_read : List Cond := .code y_Tt_read b_Tt_read 3 (some .int) :: cd_AW
def w_Tt_write : List Cond := .code y_Tt_write b_Tt_write 4 (some .boolean) :: cd_AW
def w_Tt_become : List Cond := .code y_Tt_become b_Tt_become 2 none :: cd_AW
def w_Tt_hasValue : List Cond := .code y_Tt_hasValue b_Tt_hasValue 3 (some .boolean) :: cd_AW
def w_Fw_init : List Cond := .code y_Fw_init b_Fw_init 4 none :: cd_AW
def w_Fw_writeFile : List Cond := .code y_Fw_writeFile b_Fw_writeFile 3 none :: cd_AW
def w_Fw_entries : List Cond := .code y_Fw_entries b_Fw_entries 1 (some .int) :: cd_AW
def w_Fw_writeHeader : List Cond := .code y_Fw_writeHeader b_Fw_writeHeader 3 none :: cd_AW
def w_Fw_writeEntries : List Cond := .code y_Fw_writeEntries b_Fw_writeEntries 6 none :: cd_AW
def w_Fw_writeNotesEntry : List Cond := .code y_Fw_writeNotesEntry b_Fw_writeNotesEntry 3 none :: cd_AW
def w_Fw_writeRegionEntry : List Cond := .code y_Fw_writeRegionEntry b_Fw_writeRegionEntry 4 none :: cd_AW
def w_Fw_writeNote : List Cond := .code y_Fw_writeNote b_Fw_writeNote 3 none :: cd_AW
def w_Fw_writeFour : List Cond := .code y_Fw_writeFour b_Fw_writeFour 2 none :: cd_AW
def w_Tc_init : List Cond := .code y_Tc_init b_Tc_init 2 none :: cd_AW
def w_Tc_wrong : List Cond := .code y_Tc_wrong b_Tc_wrong 1 (some .int) :: cd_AW
def w_Tc_place : List Cond := .code y_Tc_place b_Tc_place 1 (some .int) :: cd_AW
def w_Tc_threadsFound : List Cond := .code y_Tc_threadsFound b_Tc_threadsFound 1 (some (.object "CoreDesk$ThreadTable")) :: cd_AW
def w_Tc_entries : List Cond := .code y_Tc_entries b_Tc_entries 1 (some .int) :: cd_AW
def w_Tc_entryField : List Cond := .code y_Tc_entryField b_Tc_entryField 3 (some .int) :: cd_AW
def w_Tc_passes : List Cond := .code y_Tc_passes b_Tc_passes 1 (some .boolean) :: cd_AW
def w_Tc_refuse : List Cond := .code y_Tc_refuse b_Tc_refuse 3 (some .boolean) :: cd_AW
def w_Tc_fieldPlace : List Cond := .code y_Tc_fieldPlace b_Tc_fieldPlace 3 (some .int) :: cd_AW
def w_Tc_headerPasses : List Cond := .code y_Tc_headerPasses b_Tc_headerPasses 3 (some .boolean) :: cd_AW
def w_Tc_headerFieldFits : List Cond := .code y_Tc_headerFieldFits b_Tc_headerFieldFits 3 (some .boolean) :: cd_AW
def w_Tc_entriesPass : List Cond := .code y_Tc_entriesPass b_Tc_entriesPass 3 (some .boolean) :: cd_AW
def w_Tc_fieldsPass : List Cond := .code y_Tc_fieldsPass b_Tc_fieldsPass 5 (some .boolean) :: cd_AW
def w_Tc_notesFieldFits : List Cond := .code y_Tc_notesFieldFits b_Tc_notesFieldFits 3 (some .boolean) :: cd_AW
def w_Tc_regionFieldFits : List Cond := .code y_Tc_regionFieldFits b_Tc_regionFieldFits 4 (some .boolean) :: cd_AW
def w_Tc_bytesPass : List Cond := .code y_Tc_bytesPass b_Tc_bytesPass 5 (some .boolean) :: cd_AW
def w_Tc_addressesPass : List Cond := .code y_Tc_addressesPass b_Tc_addressesPass 5 (some .boolean) :: cd_AW
def w_Tc_notesPass : List Cond := .code y_Tc_notesPass b_Tc_notesPass 4 (some .boolean) :: cd_AW
def w_Tc_noteSize : List Cond := .code y_Tc_noteSize b_Tc_noteSize 2 (some .int) :: cd_AW
def w_Tc_padded : List Cond := .code y_Tc_padded b_Tc_padded 2 (some .int) :: cd_AW
def w_Tc_noteHeadPasses : List Cond := .code y_Tc_noteHeadPasses b_Tc_noteHeadPasses 5 (some .boolean) :: cd_AW
def w_Tc_threadPasses : List Cond := .code y_Tc_threadPasses b_Tc_threadPasses 6 (some .boolean) :: cd_AW
def w_Mo_init : List Cond := .code y_Mo_init b_Mo_init 1 none :: cd_AW
def w_Mo_thrown : List Cond := .code y_Mo_thrown b_Mo_thrown 1 (some .int) :: cd_AW
def w_Mo_within : List Cond := .code y_Mo_within b_Mo_within 5 (some .int) :: cd_AW
def w_Mo_byteOf : List Cond := .code y_Mo_byteOf b_Mo_byteOf 5 (some .int) :: cd_AW
def w_Mo_map : List Cond := .code y_Mo_map b_Mo_map 6 (some .boolean) :: cd_AW
def w_Mo_move : List Cond := .code y_Mo_move b_Mo_move 4 none :: cd_AW
def w_Mo_unmap : List Cond := .code y_Mo_unmap b_Mo_unmap 4 (some .boolean) :: cd_AW
def w_Mo_poke : List Cond := .code y_Mo_poke b_Mo_poke 4 (some .boolean) :: cd_AW
def w_Mo_pokeFour : List Cond := .code y_Mo_pokeFour b_Mo_pokeFour 5 (some .boolean) :: cd_AW
def w_Mo_hasId : List Cond := .code y_Mo_hasId b_Mo_hasId 5 (some .boolean) :: cd_AW
def w_Mo_thread : List Cond := .code y_Mo_thread b_Mo_thread 3 (some .int) :: cd_AW
def w_Mo_set : List Cond := .code y_Mo_set b_Mo_set 4 (some .boolean) :: cd_AW
def w_Mo_lay : List Cond := .code y_Mo_lay b_Mo_lay 2 none :: cd_AW
def w_Mo_two : List Cond := .code y_Mo_two b_Mo_two 2 none :: cd_AW
def w_Mo_four : List Cond := .code y_Mo_four b_Mo_four 2 none :: cd_AW
def w_Mo_filled : List Cond := .code y_Mo_filled b_Mo_filled 4 (some .int) :: cd_AW
def w_Mo_above : List Cond := .code y_Mo_above b_Mo_above 4 (some .int) :: cd_AW
def w_Mo_programHeader : List Cond := .code y_Mo_programHeader b_Mo_programHeader 8 none :: cd_AW
def w_Mo_header : List Cond := .code y_Mo_header b_Mo_header 2 none :: cd_AW
def w_Mo_dump : List Cond := .code y_Mo_dump b_Mo_dump 5 (some .int) :: cd_AW
def w_Mo_byteAt : List Cond := .code y_Mo_byteAt b_Mo_byteAt 2 (some .int) :: cd_AW
def w_Mo_copy : List Cond := .code y_Mo_copy b_Mo_copy 2 (some .int) :: cd_AW
def w_Mo_put : List Cond := .code y_Mo_put b_Mo_put 3 (some .boolean) :: cd_AW
def w_Mo_cut : List Cond := .code y_Mo_cut b_Mo_cut 2 (some .boolean) :: cd_AW
def w_Mo_twoAt : List Cond := .code y_Mo_twoAt b_Mo_twoAt 2 (some .int) :: cd_AW
def w_Mo_fourAt : List Cond := .code y_Mo_fourAt b_Mo_fourAt 2 (some .int) :: cd_AW
def w_Mo_isWrong : List Cond := .code y_Mo_isWrong b_Mo_isWrong 3 (some .boolean) :: cd_AW
def w_Mo_headerByte : List Cond := .code y_Mo_headerByte b_Mo_headerByte 1 (some .int) :: cd_AW
def w_Mo_fieldOf : List Cond := .code y_Mo_fieldOf b_Mo_fieldOf 1 (some .int) :: cd_AW
def w_Mo_headerFits : List Cond := .code y_Mo_headerFits b_Mo_headerFits 3 (some .boolean) :: cd_AW
def w_Mo_badField : List Cond := .code y_Mo_badField b_Mo_badField 8 (some .int) :: cd_AW
def w_Mo_meet : List Cond := .code y_Mo_meet b_Mo_meet 8 (some .boolean) :: cd_AW
def w_Mo_entryFits : List Cond := .code y_Mo_entryFits b_Mo_entryFits 11 (some .boolean) :: cd_AW
def w_Mo_noteByte : List Cond := .code y_Mo_noteByte b_Mo_noteByte 1 (some .int) :: cd_AW
def w_Mo_note : List Cond := .code y_Mo_note b_Mo_note 8 (some .int) :: cd_AW
def w_Mo_notesFit : List Cond := .code y_Mo_notesFit b_Mo_notesFit 4 (some .boolean) :: cd_AW
def w_Mo_readRegions : List Cond := .code y_Mo_readRegions b_Mo_readRegions 7 none :: cd_AW
def w_Mo_reads : List Cond := .code y_Mo_reads b_Mo_reads 3 (some .boolean) :: cd_AW
def w_Mo_load : List Cond := .code y_Mo_load b_Mo_load 3 (some .int) :: cd_AW
def w_Mo_error : List Cond := .code y_Mo_error b_Mo_error 2 (some .int) :: cd_AW
def w_Mo_core : List Cond := .code y_Mo_core b_Mo_core 2 (some .int) :: cd_AW
def w_Mo_peek : List Cond := .code y_Mo_peek b_Mo_peek 2 (some .int) :: cd_AW
def w_Mo_flags : List Cond := .code y_Mo_flags b_Mo_flags 3 (some .int) :: cd_AW
def w_Mo_register : List Cond := .code y_Mo_register b_Mo_register 3 (some .int) :: cd_AW
def w_Mo_number : List Cond := .code y_Mo_number b_Mo_number 3 (some .int) :: cd_AW
def w_Mo_find : List Cond := .code y_Mo_find b_Mo_find 8 (some .int) :: cd_AW
def w_Mo_caller : List Cond := .code y_Mo_caller b_Mo_caller 9 (some .int) :: cd_AW
def w_Law_load : List Cond := .code y_Law_load b_Law_load 3 (some .int) :: cd_AW
def w_Law_register : List Cond := .code y_Law_register b_Law_register 5 (some .int) :: cd_AW
def w_Arr_fill0 : List Cond := .code y_Arr_fill0 b_Arr_fill0 4 none :: cd_AW
def w_Arr_fill1 : List Cond := .code y_Arr_fill1 b_Arr_fill1 4 none :: cd_AW
end
section
theorem d_Row_init_0 : decode b_Row_init 0 = .ok (.aload_n 0, 1) := by decide +kernel
theorem d_Row_init_1 : decode b_Row_init 1 = .ok (.invokespecial 3, 3) := by decide +kernel
theorem d_Row_init_4 : decode b_Row_init 4 = .ok (.aload_n 0, 1) := by decide +kernel
theorem d_Row_init_5 : decode b_Row_init 5 = .ok (.iload_n 1, 1) := by decide +kernel
theorem d_Row_init_6 : decode b_Row_init 6 = .ok (.newarray .byte, 2) := by decide +kernel
theorem d_Row_init_8 : decode b_Row_init 8 = .ok (.putfield 9, 3) := by decide +kernel
theorem d_Row_init_11 : decode b_Row_init 11 = .ok (.aload_n 0, 1) := by decide +kernel
theorem d_Row_init_12 : decode b_Row_init 12 = .ok (.iconst 0, 1) := by decide +kernel
theorem d_Row_init_13 : decode b_Row_init 13 = .ok (.putfield 15, 3) := by decide +kernel
theorem d_Row_init_16 : decode b_Row_init 16 = .ok (.return_, 1) := by decide +kernel
theorem d_Row_length_0 : decode b_Row_length 0 = .ok (.aload_n 0, 1) := by decide +kernel
theorem d_Row_length_1 : decode b_Row_length 1 = .ok (.getfield 15, 3) := by decide +kernel
theorem d_Row_length_4 : decode b_Row_length 4 = .ok (.ireturn, 1) := by decide +kernel
theorem d_Row_at_0 : decode b_Row_at 0 = .ok (.iload_n 1, 1) := by decide +kernel
theorem d_Row_at_1 : decode b_Row_at 1 = .ok (.ifCond .lt 11, 3) := by decide +kernel
theorem d_Row_at_4 : decode b_Row_at 4 = .ok (.iload_n 1, 1) := by decide +kernel
theorem d_Row_at_5 : decode b_Row_at 5 = .ok (.aload_n 0, 1) := by decide +kernel
theorem d_Row_at_6 : decode b_Row_at 6 = .ok (.getfield 15, 3) := by decide +kernel
theorem d_Row_at_9 : decode b_Row_at 9 = .ok (.if_icmp .lt 7, 3) := by decide +kernel
theorem d_Row_at_12 : decode b_Row_at 12 = .ok (.iconst (-1), 1) := by decide +kernel
theorem d_Row_at_13 : decode b_Row_at 13 = .ok (.goto 13, 3) := by decide +kernel
theorem d_Row_at_16 : decode b_Row_at 16 = .ok (.aload_n 0, 1) := by decide +kernel
theorem d_Row_at_17 : decode b_Row_at 17 = .ok (.getfield 9, 3) := by decide +kernel
theorem d_Row_at_20 : decode b_Row_at 20 = .ok (.iload_n 1, 1) := by decide +kernel
theorem d_Row_at_21 : decode b_Row_at 21 = .ok (.baload, 1) := by decide +kernel
theorem d_Row_at_22 : decode b_Row_at 22 = .ok (.sipush 255, 3) := by decide +kernel
theorem d_Row_at_25 : decode b_Row_at 25 = .ok (.iand, 1) := by decide +kernel
theorem d_Row_at_26 : decode b_Row_at 26 = .ok (.ireturn, 1) := by decide +kernel
theorem d_Row_number_0 : decode b_Row_number 0 = .ok (.iload_n 1, 1) := by decide +kernel
theorem d_Row_number_1 : decode b_Row_number 1 = .ok (.ifCond .lt 13, 3) := by decide +kernel
theorem d_Row_number_4 : decode b_Row_number 4 = .ok (.iload_n 1, 1) := by decide +kernel
theorem d_Row_number_5 : decode b_Row_number 5 = .ok (.aload_n 0, 1) := by decide +kernel
theorem d_Row_number_6 : decode b_Row_number 6 = .ok (.getfield 15, 3) := by decide +kernel
theorem d_Row_number_9 : decode b_Row_number 9 = .ok (.iload_n 2, 1) := by decide +kernel
theorem d_Row_number_10 : decode b_Row_number 10 = .ok (.isub, 1) := by decide +kernel
theorem d_Row_number_11 : decode b_Row_number 11 = .ok (.if_icmp .le 5, 3) := by decide +kernel
theorem d_Row_number_14 : decode b_Row_number 14 = .ok (.iconst 0, 1) := by decide +kernel
theorem d_Row_number_15 : decode b_Row_number 15 = .ok (.ireturn, 1) := by decide +kernel
theorem d_Row_number_16 : decode b_Row_number 16 = .ok (.iconst 0, 1) := by decide +kernel
theorem d_Row_number_17 : decode b_Row_number 17 = .ok (.istore_n 3, 1) := by decide +kernel
theorem d_Row_number_18 : decode b_Row_number 18 = .ok (.iload_n 2, 1) := by decide +kernel
theorem d_Row_number_19 : decode b_Row_number 19 = .ok (.iconst 1, 1) := by decide +kernel
theorem d_Row_number_20 : decode b_Row_number 20 = .ok (.isub, 1) := by decide +kernel
theorem d_Row_number_21 : decode b_Row_number 21 = .ok (.istore 4, 2) := by decide +kernel
theorem d_Row_number_23 : decode b_Row_number 23 = .ok (.iload 4, 2) := by decide +kernel
theorem d_Row_number_25 : decode b_Row_number 25 = .ok (.ifCond .lt 28, 3) := by decide +kernel
theorem d_Row_number_28 : decode b_Row_number 28 = .ok (.iload_n 3, 1) := by decide +kernel
theorem d_Row_number_29 : decode b_Row_number 29 = .ok (.bipush 8, 2) := by decide +kernel
theorem d_Row_number_31 : decode b_Row_number 31 = .ok (.ishl, 1) := by decide +kernel
theorem d_Row_number_32 : decode b_Row_number 32 = .ok (.aload_n 0, 1) := by decide +kernel
theorem d_Row_number_33 : decode b_Row_number 33 = .ok (.getfield 9, 3) := by decide +kernel
theorem d_Row_number_36 : decode b_Row_number 36 = .ok (.iload_n 1, 1) := by decide +kernel
theorem d_Row_number_37 : decode b_Row_number 37 = .ok (.iload 4, 2) := by decide +kernel
theorem d_Row_number_39 : decode b_Row_number 39 = .ok (.iadd, 1) := by decide +kernel
theorem d_Row_number_40 : decode b_Row_number 40 = .ok (.baload, 1) := by decide +kernel
theorem d_Row_number_41 : decode b_Row_number 41 = .ok (.sipush 255, 3) := by decide +kernel
theorem d_Row_number_44 : decode b_Row_number 44 = .ok (.iand, 1) := by decide +kernel
theorem d_Row_number_45 : decode b_Row_number 45 = .ok (.ior, 1) := by decide +kernel
theorem d_Row_number_46 : decode b_Row_number 46 = .ok (.istore_n 3, 1) := by decide +kernel
theorem d_Row_number_47 : decode b_Row_number 47 = .ok (.iinc 4 (-1), 3) := by decide +kernel
theorem d_Row_number_50 : decode b_Row_number 50 = .ok (.goto (-27), 3) := by decide +kernel
theorem d_Row_number_53 : decode b_Row_number 53 = .ok (.iload_n 3, 1) := by decide +kernel
theorem d_Row_number_54 : decode b_Row_number 54 = .ok (.ireturn, 1) := by decide +kernel
theorem d_Row_change_0 : decode b_Row_change 0 = .ok (.iload_n 1, 1) := by decide +kernel
theorem d_Row_change_1 : decode b_Row_change 1 = .ok (.ifCond .lt 11, 3) := by decide +kernel
theorem d_Row_change_4 : decode b_Row_change 4 = .ok (.iload_n 1, 1) := by decide +kernel
theorem d_Row_change_5 : decode b_Row_change 5 = .ok (.aload_n 0, 1) := by decide +kernel
theorem d_Row_change_6 : decode b_Row_change 6 = .ok (.getfield 15, 3) := by decide +kernel
theorem d_Row_change_9 : decode b_Row_change 9 = .ok (.if_icmp .lt 5, 3) := by decide +kernel
theorem d_Row_change_12 : decode b_Row_change 12 = .ok (.iconst 0, 1) := by decide +kernel
theorem d_Row_change_13 : decode b_Row_change 13 = .ok (.ireturn, 1) := by decide +kernel
theorem d_Row_change_14 : decode b_Row_change 14 = .ok (.aload_n 0, 1) := by decide +kernel
theorem d_Row_change_15 : decode b_Row_change 15 = .ok (.getfield 9, 3) := by decide +kernel
theorem d_Row_change_18 : decode b_Row_change 18 = .ok (.iload_n 1, 1) := by decide +kernel
theorem d_Row_change_19 : decode b_Row_change 19 = .ok (.iload_n 2, 1) := by decide +kernel
theorem d_Row_change_20 : decode b_Row_change 20 = .ok (.i2b, 1) := by decide +kernel
theorem d_Row_change_21 : decode b_Row_change 21 = .ok (.bastore, 1) := by decide +kernel
theorem d_Row_change_22 : decode b_Row_change 22 = .ok (.iconst 1, 1) := by decide +kernel
theorem d_Row_change_23 : decode b_Row_change 23 = .ok (.ireturn, 1) := by decide +kernel
theorem d_Row_append_0 : decode b_Row_append 0 = .ok (.aload_n 0, 1) := by decide +kernel
theorem d_Row_append_1 : decode b_Row_append 1 = .ok (.getfield 15, 3) := by decide +kernel
theorem d_Row_append_4 : decode b_Row_append 4 = .ok (.aload_n 0, 1) := by decide +kernel
theorem d_Row_append_5 : decode b_Row_append 5 = .ok (.getfield 9, 3) := by decide +kernel
theorem d_Row_append_8 : decode b_Row_append 8 = .ok (.arraylength, 1) := by decide +kernel
theorem d_Row_append_9 : decode b_Row_append 9 = .ok (.if_icmp .lt 5, 3) := by decide +kernel
theorem d_Row_append_12 : decode b_Row_append 12 = .ok (.iconst 0, 1) := by decide +kernel
theorem d_Row_append_13 : decode b_Row_append 13 = .ok (.ireturn, 1) := by decide +kernel
theorem d_Row_append_14 : decode b_Row_append 14 = .ok (.aload_n 0, 1) := by decide +kernel
theorem d_Row_append_15 : decode b_Row_append 15 = .ok (.getfield 9, 3) := by decide +kernel
theorem d_Row_append_18 : decode b_Row_append 18 = .ok (.aload_n 0, 1) := by decide +kernel
theorem d_Row_append_19 : decode b_Row_append 19 = .ok (.getfield 15, 3) := by decide +kernel
theorem d_Row_append_22 : decode b_Row_append 22 = .ok (.iload_n 1, 1) := by decide +kernel
theorem d_Row_append_23 : decode b_Row_append 23 = .ok (.i2b, 1) := by decide +kernel
theorem d_Row_append_24 : decode b_Row_append 24 = .ok (.bastore, 1) := by decide +kernel
theorem d_Row_append_25 : decode b_Row_append 25 = .ok (.aload_n 0, 1) := by decide +kernel
theorem d_Row_append_26 : decode b_Row_append 26 = .ok (.dup, 1) := by decide +kernel
theorem d_Row_append_27 : decode b_Row_append 27 = .ok (.getfield 15, 3) := by decide +kernel
theorem d_Row_append_30 : decode b_Row_append 30 = .ok (.iconst 1, 1) := by decide +kernel
theorem d_Row_append_31 : decode b_Row_append 31 = .ok (.iadd, 1) := by decide +kernel
theorem d_Row_append_32 : decode b_Row_append 32 = .ok (.putfield 15, 3) := by decide +kernel
theorem d_Row_append_35 : decode b_Row_append 35 = .ok (.iconst 1, 1) := by decide +kernel
theorem d_Row_append_36 : decode b_Row_append 36 = .ok (.ireturn, 1) := by decide +kernel
theorem d_Row_appendNumber_0 : decode b_Row_appendNumber 0 = .ok (.iload_n 1, 1) := by decide +kernel
theorem d_Row_appendNumber_1 : decode b_Row_appendNumber 1 = .ok (.istore_n 3, 1) := by decide +kernel
theorem d_Row_appendNumber_2 : decode b_Row_appendNumber 2 = .ok (.iconst 0, 1) := by decide +kernel
theorem d_Row_appendNumber_3 : decode b_Row_appendNumber 3 = .ok (.istore 4, 2) := by decide +kernel
theorem d_Row_appendNumber_5 : decode b_Row_appendNumber 5 = .ok (.iload 4, 2) := by decide +kernel
theorem d_Row_appendNumber_7 : decode b_Row_appendNumber 7 = .ok (.iload_n 2, 1) := by decide +kernel
theorem d_Row_appendNumber_8 : decode b_Row_appendNumber 8 = .ok (.if_icmp .ge 20, 3) := by decide +kernel
theorem d_Row_appendNumber_11 : decode b_Row_appendNumber 11 = .ok (.aload_n 0, 1) := by decide +kernel
theorem d_Row_appendNumber_12 : decode b_Row_appendNumber 12 = .ok (.iload_n 3, 1) := by decide +kernel
theorem d_Row_appendNumber_13 : decode b_Row_appendNumber 13 = .ok (.invokevirtual 19, 3) := by decide +kernel
theorem d_Row_appendNumber_16 : decode b_Row_appendNumber 16 = .ok (.pop, 1) := by decide +kernel
theorem d_Row_appendNumber_17 : decode b_Row_appendNumber 17 = .ok (.iload_n 3, 1) := by decide +kernel
theorem d_Row_appendNumber_18 : decode b_Row_appendNumber 18 = .ok (.bipush 8, 2) := by decide +kernel
theorem d_Row_appendNumber_20 : decode b_Row_appendNumber 20 = .ok (.ishr, 1) := by decide +kernel
theorem d_Row_appendNumber_21 : decode b_Row_appendNumber 21 = .ok (.istore_n 3, 1) := by decide +kernel
theorem d_Row_appendNumber_22 : decode b_Row_appendNumber 22 = .ok (.iinc 4 1, 3) := by decide +kernel
theorem d_Row_appendNumber_25 : decode b_Row_appendNumber 25 = .ok (.goto (-20), 3) := by decide +kernel
theorem d_Row_appendNumber_28 : decode b_Row_appendNumber 28 = .ok (.return_, 1) := by decide +kernel
theorem d_Row_appendBytes_0 : decode b_Row_appendBytes 0 = .ok (.iload_n 2, 1) := by decide +kernel
theorem d_Row_appendBytes_1 : decode b_Row_appendBytes 1 = .ok (.ifCond .lt 23, 3) := by decide +kernel
theorem d_Row_appendBytes_4 : decode b_Row_appendBytes 4 = .ok (.iload_n 2, 1) := by decide +kernel
theorem d_Row_appendBytes_5 : decode b_Row_appendBytes 5 = .ok (.aload_n 1, 1) := by decide +kernel
theorem d_Row_appendBytes_6 : decode b_Row_appendBytes 6 = .ok (.arraylength, 1) := by decide +kernel
theorem d_Row_appendBytes_7 : decode b_Row_appendBytes 7 = .ok (.if_icmp .gt 17, 3) := by decide +kernel
theorem d_Row_appendBytes_10 : decode b_Row_appendBytes 10 = .ok (.iload_n 2, 1) := by decide +kernel
theorem d_Row_appendBytes_11 : decode b_Row_appendBytes 11 = .ok (.aload_n 0, 1) := by decide +kernel
theorem d_Row_appendBytes_12 : decode b_Row_appendBytes 12 = .ok (.getfield 9, 3) := by decide +kernel
theorem d_Row_appendBytes_15 : decode b_Row_appendBytes 15 = .ok (.arraylength, 1) := by decide +kernel
theorem d_Row_appendBytes_16 : decode b_Row_appendBytes 16 = .ok (.aload_n 0, 1) := by decide +kernel
theorem d_Row_appendBytes_17 : decode b_Row_appendBytes 17 = .ok (.getfield 15, 3) := by decide +kernel
theorem d_Row_appendBytes_20 : decode b_Row_appendBytes 20 = .ok (.isub, 1) := by decide +kernel
theorem d_Row_appendBytes_21 : decode b_Row_appendBytes 21 = .ok (.if_icmp .le 4, 3) := by decide +kernel
theorem d_Row_appendBytes_24 : decode b_Row_appendBytes 24 = .ok (.return_, 1) := by decide +kernel
theorem d_Row_appendBytes_25 : decode b_Row_appendBytes 25 = .ok (.aload_n 1, 1) := by decide +kernel
theorem d_Row_appendBytes_26 : decode b_Row_appendBytes 26 = .ok (.iconst 0, 1) := by decide +kernel
theorem d_Row_appendBytes_27 : decode b_Row_appendBytes 27 = .ok (.aload_n 0, 1) := by decide +kernel
theorem d_Row_appendBytes_28 : decode b_Row_appendBytes 28 = .ok (.getfield 9, 3) := by decide +kernel
theorem d_Row_appendBytes_31 : decode b_Row_appendBytes 31 = .ok (.aload_n 0, 1) := by decide +kernel
theorem d_Row_appendBytes_32 : decode b_Row_appendBytes 32 = .ok (.getfield 15, 3) := by decide +kernel
theorem d_Row_appendBytes_35 : decode b_Row_appendBytes 35 = .ok (.iload_n 2, 1) := by decide +kernel
theorem d_Row_appendBytes_36 : decode b_Row_appendBytes 36 = .ok (.invokestatic 23, 3) := by decide +kernel
theorem d_Row_appendBytes_39 : decode b_Row_appendBytes 39 = .ok (.aload_n 0, 1) := by decide +kernel
theorem d_Row_appendBytes_40 : decode b_Row_appendBytes 40 = .ok (.dup, 1) := by decide +kernel
theorem d_Row_appendBytes_41 : decode b_Row_appendBytes 41 = .ok (.getfield 15, 3) := by decide +kernel
theorem d_Row_appendBytes_44 : decode b_Row_appendBytes 44 = .ok (.iload_n 2, 1) := by decide +kernel
theorem d_Row_appendBytes_45 : decode b_Row_appendBytes 45 = .ok (.iadd, 1) := by decide +kernel
theorem d_Row_appendBytes_46 : decode b_Row_appendBytes 46 = .ok (.putfield 15, 3) := by decide +kernel
theorem d_Row_appendBytes_49 : decode b_Row_appendBytes 49 = .ok (.return_, 1) := by decide +kernel
theorem d_Row_giveBytes_0 : decode b_Row_giveBytes 0 = .ok (.iload_n 1, 1) := by decide +kernel
theorem d_Row_giveBytes_1 : decode b_Row_giveBytes 1 = .ok (.ifCond .lt 31, 3) := by decide +kernel
theorem d_Row_giveBytes_4 : decode b_Row_giveBytes 4 = .ok (.iload_n 3, 1) := by decide +kernel
theorem d_Row_giveBytes_5 : decode b_Row_giveBytes 5 = .ok (.ifCond .lt 27, 3) := by decide +kernel
theorem d_Row_giveBytes_8 : decode b_Row_giveBytes 8 = .ok (.iload_n 3, 1) := by decide +kernel
theorem d_Row_giveBytes_9 : decode b_Row_giveBytes 9 = .ok (.aload_n 2, 1) := by decide +kernel
theorem d_Row_giveBytes_10 : decode b_Row_giveBytes 10 = .ok (.arraylength, 1) := by decide +kernel
theorem d_Row_giveBytes_11 : decode b_Row_giveBytes 11 = .ok (.if_icmp .gt 21, 3) := by decide +kernel
theorem d_Row_giveBytes_14 : decode b_Row_giveBytes 14 = .ok (.iload_n 1, 1) := by decide +kernel
theorem d_Row_giveBytes_15 : decode b_Row_giveBytes 15 = .ok (.aload_n 0, 1) := by decide +kernel
theorem d_Row_giveBytes_16 : decode b_Row_giveBytes 16 = .ok (.getfield 15, 3) := by decide +kernel
theorem d_Row_giveBytes_19 : decode b_Row_giveBytes 19 = .ok (.if_icmp .gt 13, 3) := by decide +kernel
theorem d_Row_giveBytes_22 : decode b_Row_giveBytes 22 = .ok (.iload_n 3, 1) := by decide +kernel
theorem d_Row_giveBytes_23 : decode b_Row_giveBytes 23 = .ok (.aload_n 0, 1) := by decide +kernel
theorem d_Row_giveBytes_24 : decode b_Row_giveBytes 24 = .ok (.getfield 15, 3) := by decide +kernel
theorem d_Row_giveBytes_27 : decode b_Row_giveBytes 27 = .ok (.iload_n 1, 1) := by decide +kernel
theorem d_Row_giveBytes_28 : decode b_Row_giveBytes 28 = .ok (.isub, 1) := by decide +kernel
theorem d_Row_giveBytes_29 : decode b_Row_giveBytes 29 = .ok (.if_icmp .le 4, 3) := by decide +kernel
theorem d_Row_giveBytes_32 : decode b_Row_giveBytes 32 = .ok (.return_, 1) := by decide +kernel
theorem d_Row_giveBytes_33 : decode b_Row_giveBytes 33 = .ok (.aload_n 0, 1) := by decide +kernel
theorem d_Row_giveBytes_34 : decode b_Row_giveBytes 34 = .ok (.getfield 9, 3) := by decide +kernel
theorem d_Row_giveBytes_37 : decode b_Row_giveBytes 37 = .ok (.iload_n 1, 1) := by decide +kernel
theorem d_Row_giveBytes_38 : decode b_Row_giveBytes 38 = .ok (.aload_n 2, 1) := by decide +kernel
theorem d_Row_giveBytes_39 : decode b_Row_giveBytes 39 = .ok (.iconst 0, 1) := by decide +kernel
theorem d_Row_giveBytes_40 : decode b_Row_giveBytes 40 = .ok (.iload_n 3, 1) := by decide +kernel
theorem d_Row_giveBytes_41 : decode b_Row_giveBytes 41 = .ok (.invokestatic 23, 3) := by decide +kernel
theorem d_Row_giveBytes_44 : decode b_Row_giveBytes 44 = .ok (.return_, 1) := by decide +kernel
theorem d_Row_shorten_0 : decode b_Row_shorten 0 = .ok (.iload_n 1, 1) := by decide +kernel
theorem d_Row_shorten_1 : decode b_Row_shorten 1 = .ok (.ifCond .lt 11, 3) := by decide +kernel
theorem d_Row_shorten_4 : decode b_Row_shorten 4 = .ok (.iload_n 1, 1) := by decide +kernel
theorem d_Row_shorten_5 : decode b_Row_shorten 5 = .ok (.aload_n 0, 1) := by decide +kernel
theorem d_Row_shorten_6 : decode b_Row_shorten 6 = .ok (.getfield 15, 3) := by decide +kernel
theorem d_Row_shorten_9 : decode b_Row_shorten 9 = .ok (.if_icmp .le 5, 3) := by decide +kernel
theorem d_Row_shorten_12 : decode b_Row_shorten 12 = .ok (.iconst 0, 1) := by decide +kernel
theorem d_Row_shorten_13 : decode b_Row_shorten 13 = .ok (.ireturn, 1) := by decide +kernel
theorem d_Row_shorten_14 : decode b_Row_shorten 14 = .ok (.aload_n 0, 1) := by decide +kernel
theorem d_Row_shorten_15 : decode b_Row_shorten 15 = .ok (.iload_n 1, 1) := by decide +kernel
theorem d_Row_shorten_16 : decode b_Row_shorten 16 = .ok (.putfield 15, 3) := by decide +kernel
theorem d_Row_shorten_19 : decode b_Row_shorten 19 = .ok (.iconst 1, 1) := by decide +kernel
theorem d_Row_shorten_20 : decode b_Row_shorten 20 = .ok (.ireturn, 1) := by decide +kernel
theorem d_Row_become_0 : decode b_Row_become 0 = .ok (.aload_n 0, 1) := by decide +kernel
theorem d_Row_become_1 : decode b_Row_become 1 = .ok (.iconst 0, 1) := by decide +kernel
theorem d_Row_become_2 : decode b_Row_become 2 = .ok (.putfield 15, 3) := by decide +kernel
theorem d_Row_become_5 : decode b_Row_become 5 = .ok (.aload_n 0, 1) := by decide +kernel
theorem d_Row_become_6 : decode b_Row_become 6 = .ok (.aload_n 1, 1) := by decide +kernel
theorem d_Row_become_7 : decode b_Row_become 7 = .ok (.getfield 9, 3) := by decide +kernel
theorem d_Row_become_10 : decode b_Row_become 10 = .ok (.aload_n 1, 1) := by decide +kernel
theorem d_Row_become_11 : decode b_Row_become 11 = .ok (.getfield 15, 3) := by decide +kernel
theorem d_Row_become_14 : decode b_Row_become 14 = .ok (.invokevirtual 29, 3) := by decide +kernel
theorem d_Row_become_17 : decode b_Row_become 17 = .ok (.return_, 1) := by decide +kernel
theorem d_Reg_init_0 : decode b_Reg_init 0 = .ok (.aload_n 0, 1) := by decide +kernel
theorem d_Reg_init_1 : decode b_Reg_init 1 = .ok (.invokespecial 3, 3) := by decide +kernel
theorem d_Reg_init_4 : decode b_Reg_init 4 = .ok (.aload_n 0, 1) := by decide +kernel
theorem d_Reg_init_5 : decode b_Reg_init 5 = .ok (.sipush 1024, 3) := by decide +kernel
theorem d_Reg_init_8 : decode b_Reg_init 8 = .ok (.newarray .byte, 2) := by decide +kernel
theorem d_Reg_init_10 : decode b_Reg_init 10 = .ok (.putfield 9, 3) := by decide +kernel
theorem d_Reg_init_13 : decode b_Reg_init 13 = .ok (.aload_n 0, 1) := by decide +kernel
theorem d_Reg_init_14 : decode b_Reg_init 14 = .ok (.iconst 0, 1) := by decide +kernel
theorem d_Reg_init_15 : decode b_Reg_init 15 = .ok (.putfield 15, 3) := by decide +kernel
theorem d_Reg_init_18 : decode b_Reg_init 18 = .ok (.aload_n 0, 1) := by decide +kernel
theorem d_Reg_init_19 : decode b_Reg_init 19 = .ok (.iconst 0, 1) := by decide +kernel
theorem d_Reg_init_20 : decode b_Reg_init 20 = .ok (.putfield 19, 3) := by decide +kernel
theorem d_Reg_init_23 : decode b_Reg_init 23 = .ok (.aload_n 0, 1) := by decide +kernel
theorem d_Reg_init_24 : decode b_Reg_init 24 = .ok (.iconst 0, 1) := by decide +kernel
theorem d_Reg_init_25 : decode b_Reg_init 25 = .ok (.putfield 22, 3) := by decide +kernel
theorem d_Reg_init_28 : decode b_Reg_init 28 = .ok (.return_, 1) := by decide +kernel
theorem d_Reg_begin_0 : decode b_Reg_begin 0 = .ok (.aload_n 0, 1) := by decide +kernel
theorem d_Reg_begin_1 : decode b_Reg_begin 1 = .ok (.iload_n 1, 1) := by decide +kernel
theorem d_Reg_begin_2 : decode b_Reg_begin 2 = .ok (.putfield 15, 3) := by decide +kernel
theorem d_Reg_begin_5 : decode b_Reg_begin 5 = .ok (.aload_n 0, 1) := by decide +kernel
theorem d_Reg_begin_6 : decode b_Reg_begin 6 = .ok (.iload_n 2, 1) := by decide +kernel
theorem d_Reg_begin_7 : decode b_Reg_begin 7 = .ok (.putfield 19, 3) := by decide +kernel
theorem d_Reg_begin_10 : decode b_Reg_begin 10 = .ok (.aload_n 0, 1) := by decide +kernel
theorem d_Reg_begin_11 : decode b_Reg_begin 11 = .ok (.iload_n 3, 1) := by decide +kernel
theorem d_Reg_begin_12 : decode b_Reg_begin 12 = .ok (.putfield 22, 3) := by decide +kernel
theorem d_Reg_begin_15 : decode b_Reg_begin 15 = .ok (.aload_n 0, 1) := by decide +kernel
theorem d_Reg_begin_16 : decode b_Reg_begin 16 = .ok (.getfield 9, 3) := by decide +kernel
theorem d_Reg_begin_19 : decode b_Reg_begin 19 = .ok (.iconst 0, 1) := by decide +kernel
theorem d_Reg_begin_20 : decode b_Reg_begin 20 = .ok (.invokestatic 25, 3) := by decide +kernel
theorem d_Reg_begin_23 : decode b_Reg_begin 23 = .ok (.return_, 1) := by decide +kernel
theorem d_Reg_has_0 : decode b_Reg_has 0 = .ok (.iload_n 1, 1) := by decide +kernel
theorem d_Reg_has_1 : decode b_Reg_has 1 = .ok (.aload_n 0, 1) := by decide +kernel
theorem d_Reg_has_2 : decode b_Reg_has 2 = .ok (.getfield 15, 3) := by decide +kernel
theorem d_Reg_has_5 : decode b_Reg_has 5 = .ok (.if_icmp .lt 20, 3) := by decide +kernel
theorem d_Reg_has_8 : decode b_Reg_has 8 = .ok (.iload_n 1, 1) := by decide +kernel
theorem d_Reg_has_9 : decode b_Reg_has 9 = .ok (.aload_n 0, 1) := by decide +kernel
theorem d_Reg_has_10 : decode b_Reg_has 10 = .ok (.getfield 15, 3) := by decide +kernel
theorem d_Reg_has_13 : decode b_Reg_has 13 = .ok (.isub, 1) := by decide +kernel
theorem d_Reg_has_14 : decode b_Reg_has 14 = .ok (.aload_n 0, 1) := by decide +kernel
theorem d_Reg_has_15 : decode b_Reg_has 15 = .ok (.getfield 19, 3) := by decide +kernel
theorem d_Reg_has_18 : decode b_Reg_has 18 = .ok (.if_icmp .ge 7, 3) := by decide +kernel
theorem d_Reg_has_21 : decode b_Reg_has 21 = .ok (.iconst 1, 1) := by decide +kernel
theorem d_Reg_has_22 : decode b_Reg_has 22 = .ok (.goto 4, 3) := by decide +kernel
theorem d_Reg_has_25 : decode b_Reg_has 25 = .ok (.iconst 0, 1) := by decide +kernel
theorem d_Reg_has_26 : decode b_Reg_has 26 = .ok (.ireturn, 1) := by decide +kernel
theorem d_Reg_read_0 : decode b_Reg_read 0 = .ok (.iload_n 1, 1) := by decide +kernel
theorem d_Reg_read_1 : decode b_Reg_read 1 = .ok (.ifCond .lt 12, 3) := by decide +kernel
theorem d_Reg_read_4 : decode b_Reg_read 4 = .ok (.iload_n 1, 1) := by decide +kernel
theorem d_Reg_read_5 : decode b_Reg_read 5 = .ok (.aload_n 0, 1) := by decide +kernel
theorem d_Reg_read_6 : decode b_Reg_read 6 = .ok (.getfield 9, 3) := by decide +kernel
theorem d_Reg_read_9 : decode b_Reg_read 9 = .ok (.arraylength, 1) := by decide +kernel
theorem d_Reg_read_10 : decode b_Reg_read 10 = .ok (.if_icmp .lt 7, 3) := by decide +kernel
theorem d_Reg_read_13 : decode b_Reg_read 13 = .ok (.iconst (-1), 1) := by decide +kernel
theorem d_Reg_read_14 : decode b_Reg_read 14 = .ok (.goto 13, 3) := by decide +kernel
theorem d_Reg_read_17 : decode b_Reg_read 17 = .ok (.aload_n 0, 1) := by decide +kernel
theorem d_Reg_read_18 : decode b_Reg_read 18 = .ok (.getfield 9, 3) := by decide +kernel
theorem d_Reg_read_21 : decode b_Reg_read 21 = .ok (.iload_n 1, 1) := by decide +kernel
theorem d_Reg_read_22 : decode b_Reg_read 22 = .ok (.baload, 1) := by decide +kernel
theorem d_Reg_read_23 : decode b_Reg_read 23 = .ok (.sipush 255, 3) := by decide +kernel
theorem d_Reg_read_26 : decode b_Reg_read 26 = .ok (.iand, 1) := by decide +kernel
theorem d_Reg_read_27 : decode b_Reg_read 27 = .ok (.ireturn, 1) := by decide +kernel
theorem d_Reg_write_0 : decode b_Reg_write 0 = .ok (.iload_n 1, 1) := by decide +kernel
theorem d_Reg_write_1 : decode b_Reg_write 1 = .ok (.ifCond .lt 20, 3) := by decide +kernel
theorem d_Reg_write_4 : decode b_Reg_write 4 = .ok (.iload_n 1, 1) := by decide +kernel
theorem d_Reg_write_5 : decode b_Reg_write 5 = .ok (.aload_n 0, 1) := by decide +kernel
theorem d_Reg_write_6 : decode b_Reg_write 6 = .ok (.getfield 9, 3) := by decide +kernel
theorem d_Reg_write_9 : decode b_Reg_write 9 = .ok (.arraylength, 1) := by decide +kernel
theorem d_Reg_write_10 : decode b_Reg_write 10 = .ok (.if_icmp .ge 11, 3) := by decide +kernel
theorem d_Reg_write_13 : decode b_Reg_write 13 = .ok (.aload_n 0, 1) := by decide +kernel
theorem d_Reg_write_14 : decode b_Reg_write 14 = .ok (.getfield 9, 3) := by decide +kernel
theorem d_Reg_write_17 : decode b_Reg_write 17 = .ok (.iload_n 1, 1) := by decide +kernel
theorem d_Reg_write_18 : decode b_Reg_write 18 = .ok (.iload_n 2, 1) := by decide +kernel
theorem d_Reg_write_19 : decode b_Reg_write 19 = .ok (.i2b, 1) := by decide +kernel
theorem d_Reg_write_20 : decode b_Reg_write 20 = .ok (.bastore, 1) := by decide +kernel
theorem d_Reg_write_21 : decode b_Reg_write 21 = .ok (.return_, 1) := by decide +kernel
theorem d_Reg_usedBytes_0 : decode b_Reg_usedBytes 0 = .ok (.aload_n 0, 1) := by decide +kernel
theorem d_Reg_usedBytes_1 : decode b_Reg_usedBytes 1 = .ok (.getfield 19, 3) := by decide +kernel
theorem d_Reg_usedBytes_4 : decode b_Reg_usedBytes 4 = .ok (.iconst 1, 1) := by decide +kernel
theorem d_Reg_usedBytes_5 : decode b_Reg_usedBytes 5 = .ok (.isub, 1) := by decide +kernel
theorem d_Reg_usedBytes_6 : decode b_Reg_usedBytes 6 = .ok (.istore_n 1, 1) := by decide +kernel
theorem d_Reg_usedBytes_7 : decode b_Reg_usedBytes 7 = .ok (.iload_n 1, 1) := by decide +kernel
theorem d_Reg_usedBytes_8 : decode b_Reg_usedBytes 8 = .ok (.ifCond .lt 27, 3) := by decide +kernel
theorem d_Reg_usedBytes_11 : decode b_Reg_usedBytes 11 = .ok (.aload_n 0, 1) := by decide +kernel
theorem d_Reg_usedBytes_12 : decode b_Reg_usedBytes 12 = .ok (.iload_n 1, 1) := by decide +kernel
theorem d_Reg_usedBytes_13 : decode b_Reg_usedBytes 13 = .ok (.invokevirtual 31, 3) := by decide +kernel
theorem d_Reg_usedBytes_16 : decode b_Reg_usedBytes 16 = .ok (.ifCond .eq 13, 3) := by decide +kernel
theorem d_Reg_usedBytes_19 : decode b_Reg_usedBytes 19 = .ok (.iload_n 1, 1) := by decide +kernel
theorem d_Reg_usedBytes_20 : decode b_Reg_usedBytes 20 = .ok (.bipush 64, 2) := by decide +kernel
theorem d_Reg_usedBytes_22 : decode b_Reg_usedBytes 22 = .ok (.idiv, 1) := by decide +kernel
theorem d_Reg_usedBytes_23 : decode b_Reg_usedBytes 23 = .ok (.iconst 1, 1) := by decide +kernel
theorem d_Reg_usedBytes_24 : decode b_Reg_usedBytes 24 = .ok (.iadd, 1) := by decide +kernel
theorem d_Reg_usedBytes_25 : decode b_Reg_usedBytes 25 = .ok (.bipush 64, 2) := by decide +kernel
theorem d_Reg_usedBytes_27 : decode b_Reg_usedBytes 27 = .ok (.imul, 1) := by decide +kernel
theorem d_Reg_usedBytes_28 : decode b_Reg_usedBytes 28 = .ok (.ireturn, 1) := by decide +kernel
theorem d_Reg_usedBytes_29 : decode b_Reg_usedBytes 29 = .ok (.iinc 1 (-1), 3) := by decide +kernel
theorem d_Reg_usedBytes_32 : decode b_Reg_usedBytes 32 = .ok (.goto (-25), 3) := by decide +kernel
theorem d_Reg_usedBytes_35 : decode b_Reg_usedBytes 35 = .ok (.iconst 0, 1) := by decide +kernel
theorem d_Reg_usedBytes_36 : decode b_Reg_usedBytes 36 = .ok (.ireturn, 1) := by decide +kernel
theorem d_Reg_search_0 : decode b_Reg_search 0 = .ok (.iload_n 2, 1) := by decide +kernel
theorem d_Reg_search_1 : decode b_Reg_search 1 = .ok (.aload_n 0, 1) := by decide +kernel
theorem d_Reg_search_2 : decode b_Reg_search 2 = .ok (.getfield 15, 3) := by decide +kernel
theorem d_Reg_search_5 : decode b_Reg_search 5 = .ok (.if_icmp .le 12, 3) := by decide +kernel
theorem d_Reg_search_8 : decode b_Reg_search 8 = .ok (.iload_n 2, 1) := by decide +kernel
theorem d_Reg_search_9 : decode b_Reg_search 9 = .ok (.aload_n 0, 1) := by decide +kernel
theorem d_Reg_search_10 : decode b_Reg_search 10 = .ok (.getfield 15, 3) := by decide +kernel
theorem d_Reg_search_13 : decode b_Reg_search 13 = .ok (.isub, 1) := by decide +kernel
theorem d_Reg_search_14 : decode b_Reg_search 14 = .ok (.goto 4, 3) := by decide +kernel
theorem d_Reg_search_17 : decode b_Reg_search 17 = .ok (.iconst 0, 1) := by decide +kernel
theorem d_Reg_search_18 : decode b_Reg_search 18 = .ok (.istore_n 3, 1) := by decide +kernel
theorem d_Reg_search_19 : decode b_Reg_search 19 = .ok (.iload_n 3, 1) := by decide +kernel
theorem d_Reg_search_20 : decode b_Reg_search 20 = .ok (.istore 4, 2) := by decide +kernel
theorem d_Reg_search_22 : decode b_Reg_search 22 = .ok (.iload 4, 2) := by decide +kernel
theorem d_Reg_search_24 : decode b_Reg_search 24 = .ok (.aload_n 0, 1) := by decide +kernel
theorem d_Reg_search_25 : decode b_Reg_search 25 = .ok (.getfield 19, 3) := by decide +kernel
theorem d_Reg_search_28 : decode b_Reg_search 28 = .ok (.iconst 4, 1) := by decide +kernel
theorem d_Reg_search_29 : decode b_Reg_search 29 = .ok (.isub, 1) := by decide +kernel
theorem d_Reg_search_30 : decode b_Reg_search 30 = .ok (.if_icmp .gt 27, 3) := by decide +kernel
theorem d_Reg_search_33 : decode b_Reg_search 33 = .ok (.aload_n 0, 1) := by decide +kernel
theorem d_Reg_search_34 : decode b_Reg_search 34 = .ok (.iload 4, 2) := by decide +kernel
theorem d_Reg_search_36 : decode b_Reg_search 36 = .ok (.invokevirtual 35, 3) := by decide +kernel
theorem d_Reg_search_39 : decode b_Reg_search 39 = .ok (.iload_n 1, 1) := by decide +kernel
theorem d_Reg_search_40 : decode b_Reg_search 40 = .ok (.if_icmp .ne 11, 3) := by decide +kernel
theorem d_Reg_search_43 : decode b_Reg_search 43 = .ok (.aload_n 0, 1) := by decide +kernel
theorem d_Reg_search_44 : decode b_Reg_search 44 = .ok (.getfield 15, 3) := by decide +kernel
theorem d_Reg_search_47 : decode b_Reg_search 47 = .ok (.iload 4, 2) := by decide +kernel
theorem d_Reg_search_49 : decode b_Reg_search 49 = .ok (.iadd, 1) := by decide +kernel
theorem d_Reg_search_50 : decode b_Reg_search 50 = .ok (.ireturn, 1) := by decide +kernel
theorem d_Reg_search_51 : decode b_Reg_search 51 = .ok (.iinc 4 1, 3) := by decide +kernel
theorem d_Reg_search_54 : decode b_Reg_search 54 = .ok (.goto (-32), 3) := by decide +kernel
theorem d_Reg_search_57 : decode b_Reg_search 57 = .ok (.iconst (-1), 1) := by decide +kernel
theorem d_Reg_search_58 : decode b_Reg_search 58 = .ok (.ireturn, 1) := by decide +kernel
theorem d_Reg_numberAt_0 : decode b_Reg_numberAt 0 = .ok (.aload_n 0, 1) := by decide +kernel
theorem d_Reg_numberAt_1 : decode b_Reg_numberAt 1 = .ok (.iload_n 1, 1) := by decide +kernel
theorem d_Reg_numberAt_2 : decode b_Reg_numberAt 2 = .ok (.invokevirtual 31, 3) := by decide +kernel
theorem d_Reg_numberAt_5 : decode b_Reg_numberAt 5 = .ok (.aload_n 0, 1) := by decide +kernel
theorem d_Reg_numberAt_6 : decode b_Reg_numberAt 6 = .ok (.iload_n 1, 1) := by decide +kernel
theorem d_Reg_numberAt_7 : decode b_Reg_numberAt 7 = .ok (.iconst 1, 1) := by decide +kernel
theorem d_Reg_numberAt_8 : decode b_Reg_numberAt 8 = .ok (.iadd, 1) := by decide +kernel
theorem d_Reg_numberAt_9 : decode b_Reg_numberAt 9 = .ok (.invokevirtual 31, 3) := by decide +kernel
theorem d_Reg_numberAt_12 : decode b_Reg_numberAt 12 = .ok (.bipush 8, 2) := by decide +kernel
theorem d_Reg_numberAt_14 : decode b_Reg_numberAt 14 = .ok (.ishl, 1) := by decide +kernel
theorem d_Reg_numberAt_15 : decode b_Reg_numberAt 15 = .ok (.ior, 1) := by decide +kernel
theorem d_Reg_numberAt_16 : decode b_Reg_numberAt 16 = .ok (.aload_n 0, 1) := by decide +kernel
theorem d_Reg_numberAt_17 : decode b_Reg_numberAt 17 = .ok (.iload_n 1, 1) := by decide +kernel
theorem d_Reg_numberAt_18 : decode b_Reg_numberAt 18 = .ok (.iconst 2, 1) := by decide +kernel
theorem d_Reg_numberAt_19 : decode b_Reg_numberAt 19 = .ok (.iadd, 1) := by decide +kernel
theorem d_Reg_numberAt_20 : decode b_Reg_numberAt 20 = .ok (.invokevirtual 31, 3) := by decide +kernel
theorem d_Reg_numberAt_23 : decode b_Reg_numberAt 23 = .ok (.bipush 16, 2) := by decide +kernel
theorem d_Reg_numberAt_25 : decode b_Reg_numberAt 25 = .ok (.ishl, 1) := by decide +kernel
theorem d_Reg_numberAt_26 : decode b_Reg_numberAt 26 = .ok (.ior, 1) := by decide +kernel
theorem d_Reg_numberAt_27 : decode b_Reg_numberAt 27 = .ok (.aload_n 0, 1) := by decide +kernel
theorem d_Reg_numberAt_28 : decode b_Reg_numberAt 28 = .ok (.iload_n 1, 1) := by decide +kernel
theorem d_Reg_numberAt_29 : decode b_Reg_numberAt 29 = .ok (.iconst 3, 1) := by decide +kernel
theorem d_Reg_numberAt_30 : decode b_Reg_numberAt 30 = .ok (.iadd, 1) := by decide +kernel
theorem d_Reg_numberAt_31 : decode b_Reg_numberAt 31 = .ok (.invokevirtual 31, 3) := by decide +kernel
theorem d_Reg_numberAt_34 : decode b_Reg_numberAt 34 = .ok (.bipush 24, 2) := by decide +kernel
theorem d_Reg_numberAt_36 : decode b_Reg_numberAt 36 = .ok (.ishl, 1) := by decide +kernel
theorem d_Reg_numberAt_37 : decode b_Reg_numberAt 37 = .ok (.ior, 1) := by decide +kernel
theorem d_Reg_numberAt_38 : decode b_Reg_numberAt 38 = .ok (.ireturn, 1) := by decide +kernel
theorem d_Tt_init_0 : decode b_Tt_init 0 = .ok (.aload_n 0, 1) := by decide +kernel
theorem d_Tt_init_1 : decode b_Tt_init 1 = .ok (.invokespecial 3, 3) := by decide +kernel
theorem d_Tt_init_4 : decode b_Tt_init 4 = .ok (.aload_n 0, 1) := by decide +kernel
theorem d_Tt_init_5 : decode b_Tt_init 5 = .ok (.iconst 3, 1) := by decide +kernel
theorem d_Tt_init_6 : decode b_Tt_init 6 = .ok (.newarray .int, 2) := by decide +kernel
theorem d_Tt_init_8 : decode b_Tt_init 8 = .ok (.putfield 9, 3) := by decide +kernel
theorem d_Tt_init_11 : decode b_Tt_init 11 = .ok (.aload_n 0, 1) := by decide +kernel
theorem d_Tt_init_12 : decode b_Tt_init 12 = .ok (.bipush 24, 2) := by decide +kernel
theorem d_Tt_init_14 : decode b_Tt_init 14 = .ok (.newarray .int, 2) := by decide +kernel
theorem d_Tt_init_16 : decode b_Tt_init 16 = .ok (.putfield 15, 3) := by decide +kernel
theorem d_Tt_init_19 : decode b_Tt_init 19 = .ok (.aload_n 0, 1) := by decide +kernel
theorem d_Tt_init_20 : decode b_Tt_init 20 = .ok (.iconst 0, 1) := by decide +kernel
theorem d_Tt_init_21 : decode b_Tt_init 21 = .ok (.putfield 18, 3) := by decide +kernel
theorem d_Tt_init_24 : decode b_Tt_init 24 = .ok (.return_, 1) := by decide +kernel
theorem d_Tt_count_0 : decode b_Tt_count 0 = .ok (.aload_n 0, 1) := by decide +kernel
theorem d_Tt_count_1 : decode b_Tt_count 1 = .ok (.getfield 18, 3) := by decide +kernel
theorem d_Tt_count_4 : decode b_Tt_count 4 = .ok (.ireturn, 1) := by decide +kernel
theorem d_Tt_clear_0 : decode b_Tt_clear 0 = .ok (.aload_n 0, 1) := by decide +kernel
theorem d_Tt_clear_1 : decode b_Tt_clear 1 = .ok (.iconst 0, 1) := by decide +kernel
theorem d_Tt_clear_2 : decode b_Tt_clear 2 = .ok (.putfield 18, 3) := by decide +kernel
theorem d_Tt_clear_5 : decode b_Tt_clear 5 = .ok (.aload_n 0, 1) := by decide +kernel
theorem d_Tt_clear_6 : decode b_Tt_clear 6 = .ok (.getfield 15, 3) := by decide +kernel
theorem d_Tt_clear_9 : decode b_Tt_clear 9 = .ok (.iconst 0, 1) := by decide +kernel
theorem d_Tt_clear_10 : decode b_Tt_clear 10 = .ok (.invokestatic 22, 3) := by decide +kernel
theorem d_Tt_clear_13 : decode b_Tt_clear 13 = .ok (.return_, 1) := by decide +kernel
theorem d_Tt_has_0 : decode b_Tt_has 0 = .ok (.iload_n 1, 1) := by decide +kernel
theorem d_Tt_has_1 : decode b_Tt_has 1 = .ok (.ifCond .lt 15, 3) := by decide +kernel
theorem d_Tt_has_4 : decode b_Tt_has 4 = .ok (.iload_n 1, 1) := by decide +kernel
theorem d_Tt_has_5 : decode b_Tt_has 5 = .ok (.aload_n 0, 1) := by decide +kernel
theorem d_Tt_has_6 : decode b_Tt_has 6 = .ok (.getfield 18, 3) := by decide +kernel
theorem d_Tt_has_9 : decode b_Tt_has 9 = .ok (.if_icmp .ge 7, 3) := by decide +kernel
theorem d_Tt_has_12 : decode b_Tt_has 12 = .ok (.iconst 1, 1) := by decide +kernel
theorem d_Tt_has_13 : decode b_Tt_has 13 = .ok (.goto 4, 3) := by decide +kernel
theorem d_Tt_has_16 : decode b_Tt_has 16 = .ok (.iconst 0, 1) := by decide +kernel
theorem d_Tt_has_17 : decode b_Tt_has 17 = .ok (.ireturn, 1) := by decide +kernel
theorem d_Tt_hasId_0 : decode b_Tt_hasId 0 = .ok (.iconst 0, 1) := by decide +kernel
theorem d_Tt_hasId_1 : decode b_Tt_hasId 1 = .ok (.istore_n 2, 1) := by decide +kernel
theorem d_Tt_hasId_2 : decode b_Tt_hasId 2 = .ok (.iload_n 2, 1) := by decide +kernel
theorem d_Tt_hasId_3 : decode b_Tt_hasId 3 = .ok (.aload_n 0, 1) := by decide +kernel
theorem d_Tt_hasId_4 : decode b_Tt_hasId 4 = .ok (.getfield 18, 3) := by decide +kernel
theorem d_Tt_hasId_7 : decode b_Tt_hasId 7 = .ok (.if_icmp .ge 21, 3) := by decide +kernel
theorem d_Tt_hasId_10 : decode b_Tt_hasId 10 = .ok (.aload_n 0, 1) := by decide +kernel
theorem d_Tt_hasId_11 : decode b_Tt_hasId 11 = .ok (.getfield 9, 3) := by decide +kernel
theorem d_Tt_hasId_14 : decode b_Tt_hasId 14 = .ok (.iload_n 2, 1) := by decide +kernel
theorem d_Tt_hasId_15 : decode b_Tt_hasId 15 = .ok (.iaload, 1) := by decide +kernel
theorem d_Tt_hasId_16 : decode b_Tt_hasId 16 = .ok (.iload_n 1, 1) := by decide +kernel
theorem d_Tt_hasId_17 : decode b_Tt_hasId 17 = .ok (.if_icmp .ne 5, 3) := by decide +kernel
theorem d_Tt_hasId_20 : decode b_Tt_hasId 20 = .ok (.iconst 1, 1) := by decide +kernel
theorem d_Tt_hasId_21 : decode b_Tt_hasId 21 = .ok (.ireturn, 1) := by decide +kernel
theorem d_Tt_hasId_22 : decode b_Tt_hasId 22 = .ok (.iinc 2 1, 3) := by decide +kernel
theorem d_Tt_hasId_25 : decode b_Tt_hasId 25 = .ok (.goto (-23), 3) := by decide +kernel
theorem d_Tt_hasId_28 : decode b_Tt_hasId 28 = .ok (.iconst 0, 1) := by decide +kernel
theorem d_Tt_hasId_29 : decode b_Tt_hasId 29 = .ok (.ireturn, 1) := by decide +kernel
theorem d_Tt_add_0 : decode b_Tt_add 0 = .ok (.aload_n 0, 1) := by decide +kernel
theorem d_Tt_add_1 : decode b_Tt_add 1 = .ok (.getfield 18, 3) := by decide +kernel
theorem d_Tt_add_4 : decode b_Tt_add 4 = .ok (.iconst 3, 1) := by decide +kernel
theorem d_Tt_add_5 : decode b_Tt_add 5 = .ok (.if_icmp .ge 11, 3) := by decide +kernel
theorem d_Tt_add_8 : decode b_Tt_add 8 = .ok (.aload_n 0, 1) := by decide +kernel
theorem d_Tt_add_9 : decode b_Tt_add 9 = .ok (.iload_n 1, 1) := by decide +kernel
theorem d_Tt_add_10 : decode b_Tt_add 10 = .ok (.invokevirtual 28, 3) := by decide +kernel
theorem d_Tt_add_13 : decode b_Tt_add 13 = .ok (.ifCond .eq 5, 3) := by decide +kernel
theorem d_Tt_add_16 : decode b_Tt_add 16 = .ok (.iconst (-1), 1) := by decide +kernel
theorem d_Tt_add_17 : decode b_Tt_add 17 = .ok (.ireturn, 1) := by decide +kernel
theorem d_Tt_add_18 : decode b_Tt_add 18 = .ok (.aload_n 0, 1) := by decide +kernel
theorem d_Tt_add_19 : decode b_Tt_add 19 = .ok (.getfield 9, 3) := by decide +kernel
theorem d_Tt_add_22 : decode b_Tt_add 22 = .ok (.aload_n 0, 1) := by decide +kernel
theorem d_Tt_add_23 : decode b_Tt_add 23 = .ok (.getfield 18, 3) := by decide +kernel
theorem d_Tt_add_26 : decode b_Tt_add 26 = .ok (.iload_n 1, 1) := by decide +kernel
theorem d_Tt_add_27 : decode b_Tt_add 27 = .ok (.iastore, 1) := by decide +kernel
theorem d_Tt_add_28 : decode b_Tt_add 28 = .ok (.aload_n 0, 1) := by decide +kernel
theorem d_Tt_add_29 : decode b_Tt_add 29 = .ok (.dup, 1) := by decide +kernel
theorem d_Tt_add_30 : decode b_Tt_add 30 = .ok (.getfield 18, 3) := by decide +kernel
theorem d_Tt_add_33 : decode b_Tt_add 33 = .ok (.iconst 1, 1) := by decide +kernel
theorem d_Tt_add_34 : decode b_Tt_add 34 = .ok (.iadd, 1) := by decide +kernel
theorem d_Tt_add_35 : decode b_Tt_add 35 = .ok (.putfield 18, 3) := by decide +kernel
theorem d_Tt_add_38 : decode b_Tt_add 38 = .ok (.aload_n 0, 1) := by decide +kernel
theorem d_Tt_add_39 : decode b_Tt_add 39 = .ok (.getfield 18, 3) := by decide +kernel
theorem d_Tt_add_42 : decode b_Tt_add 42 = .ok (.iconst 1, 1) := by decide +kernel
theorem d_Tt_add_43 : decode b_Tt_add 43 = .ok (.isub, 1) := by decide +kernel
theorem d_Tt_add_44 : decode b_Tt_add 44 = .ok (.ireturn, 1) := by decide +kernel
theorem d_Tt_id_0 : decode b_Tt_id 0 = .ok (.aload_n 0, 1) := by decide +kernel
theorem d_Tt_id_1 : decode b_Tt_id 1 = .ok (.iload_n 1, 1) := by decide +kernel
theorem d_Tt_id_2 : decode b_Tt_id 2 = .ok (.invokevirtual 32, 3) := by decide +kernel
theorem d_Tt_id_5 : decode b_Tt_id 5 = .ok (.ifCond .eq 12, 3) := by decide +kernel
theorem d_Tt_id_8 : decode b_Tt_id 8 = .ok (.aload_n 0, 1) := by decide +kernel
theorem d_Tt_id_9 : decode b_Tt_id 9 = .ok (.getfield 9, 3) := by decide +kernel
theorem d_Tt_id_12 : decode b_Tt_id 12 = .ok (.iload_n 1, 1) := by decide +kernel
theorem d_Tt_id_13 : decode b_Tt_id 13 = .ok (.iaload, 1) := by decide +kernel
theorem d_Tt_id_14 : decode b_Tt_id 14 = .ok (.goto 4, 3) := by decide +kernel
theorem d_Tt_id_17 : decode b_Tt_id 17 = .ok (.iconst 0, 1) := by decide +kernel
theorem d_Tt_id_18 : decode b_Tt_id 18 = .ok (.ireturn, 1) := by decide +kernel
theorem d_Tt_read_0 : decode b_Tt_read 0 = .ok (.aload_n 0, 1) := by decide +kernel
theorem d_Tt_read_1 : decode b_Tt_read 1 = .ok (.iload_n 1, 1) := by decide +kernel
theorem d_Tt_read_2 : decode b_Tt_read 2 = .ok (.iload_n 2, 1) := by decide +kernel
theorem d_Tt_read_3 : decode b_Tt_read 3 = .ok (.invokevirtual 35, 3) := by decide +kernel
theorem d_Tt_read_6 : decode b_Tt_read 6 = .ok (.ifCond .eq 17, 3) := by decide +kernel
theorem d_Tt_read_9 : decode b_Tt_read 9 = .ok (.aload_n 0, 1) := by decide +kernel
theorem d_Tt_read_10 : decode b_Tt_read 10 = .ok (.getfield 15, 3) := by decide +kernel
theorem d_Tt_read_13 : decode b_Tt_read 13 = .ok (.iload_n 1, 1) := by decide +kernel
theorem d_Tt_read_14 : decode b_Tt_read 14 = .ok (.bipush 8, 2) := by decide +kernel
theorem d_Tt_read_16 : decode b_Tt_read 16 = .ok (.imul, 1) := by decide +kernel
theorem d_Tt_read_17 : decode b_Tt_read 17 = .ok (.iload_n 2, 1) := by decide +kernel
theorem d_Tt_read_18 : decode b_Tt_read 18 = .ok (.iadd, 1) := by decide +kernel
theorem d_Tt_read_19 : decode b_Tt_read 19 = .ok (.iaload, 1) := by decide +kernel
theorem d_Tt_read_20 : decode b_Tt_read 20 = .ok (.goto 4, 3) := by decide +kernel
theorem d_Tt_read_23 : decode b_Tt_read 23 = .ok (.iconst 0, 1) := by decide +kernel
theorem d_Tt_read_24 : decode b_Tt_read 24 = .ok (.ireturn, 1) := by decide +kernel
theorem d_Tt_write_0 : decode b_Tt_write 0 = .ok (.aload_n 0, 1) := by decide +kernel
theorem d_Tt_write_1 : decode b_Tt_write 1 = .ok (.iload_n 1, 1) := by decide +kernel
theorem d_Tt_write_2 : decode b_Tt_write 2 = .ok (.iload_n 2, 1) := by decide +kernel
theorem d_Tt_write_3 : decode b_Tt_write 3 = .ok (.invokevirtual 35, 3) := by decide +kernel
theorem d_Tt_write_6 : decode b_Tt_write 6 = .ok (.ifCond .ne 5, 3) := by decide +kernel
theorem d_Tt_write_9 : decode b_Tt_write 9 = .ok (.iconst 0, 1) := by decide +kernel
theorem d_Tt_write_10 : decode b_Tt_write 10 = .ok (.ireturn, 1) := by decide +kernel
theorem d_Tt_write_11 : decode b_Tt_write 11 = .ok (.aload_n 0, 1) := by decide +kernel
theorem d_Tt_write_12 : decode b_Tt_write 12 = .ok (.getfield 15, 3) := by decide +kernel
theorem d_Tt_write_15 : decode b_Tt_write 15 = .ok (.iload_n 1, 1) := by decide +kernel
theorem d_Tt_write_16 : decode b_Tt_write 16 = .ok (.bipush 8, 2) := by decide +kernel
theorem d_Tt_write_18 : decode b_Tt_write 18 = .ok (.imul, 1) := by decide +kernel
theorem d_Tt_write_19 : decode b_Tt_write 19 = .ok (.iload_n 2, 1) := by decide +kernel
theorem d_Tt_write_20 : decode b_Tt_write 20 = .ok (.iadd, 1) := by decide +kernel
theorem d_Tt_write_21 : decode b_Tt_write 21 = .ok (.iload_n 3, 1) := by decide +kernel
theorem d_Tt_write_22 : decode b_Tt_write 22 = .ok (.iastore, 1) := by decide +kernel
theorem d_Tt_write_23 : decode b_Tt_write 23 = .ok (.iconst 1, 1) := by decide +kernel
theorem d_Tt_write_24 : decode b_Tt_write 24 = .ok (.ireturn, 1) := by decide +kernel
theorem d_Tt_become_0 : decode b_Tt_become 0 = .ok (.aload_n 1, 1) := by decide +kernel
theorem d_Tt_become_1 : decode b_Tt_become 1 = .ok (.getfield 9, 3) := by decide +kernel
theorem d_Tt_become_4 : decode b_Tt_become 4 = .ok (.iconst 0, 1) := by decide +kernel
theorem d_Tt_become_5 : decode b_Tt_become 5 = .ok (.aload_n 0, 1) := by decide +kernel
theorem d_Tt_become_6 : decode b_Tt_become 6 = .ok (.getfield 9, 3) := by decide +kernel
theorem d_Tt_become_9 : decode b_Tt_become 9 = .ok (.iconst 0, 1) := by decide +kernel
theorem d_Tt_become_10 : decode b_Tt_become 10 = .ok (.iconst 3, 1) := by decide +kernel
theorem d_Tt_become_11 : decode b_Tt_become 11 = .ok (.invokestatic 39, 3) := by decide +kernel
theorem d_Tt_become_14 : decode b_Tt_become 14 = .ok (.aload_n 1, 1) := by decide +kernel
theorem d_Tt_become_15 : decode b_Tt_become 15 = .ok (.getfield 15, 3) := by decide +kernel
theorem d_Tt_become_18 : decode b_Tt_become 18 = .ok (.iconst 0, 1) := by decide +kernel
theorem d_Tt_become_19 : decode b_Tt_become 19 = .ok (.aload_n 0, 1) := by decide +kernel
theorem d_Tt_become_20 : decode b_Tt_become 20 = .ok (.getfield 15, 3) := by decide +kernel
theorem d_Tt_become_23 : decode b_Tt_become 23 = .ok (.iconst 0, 1) := by decide +kernel
theorem d_Tt_become_24 : decode b_Tt_become 24 = .ok (.bipush 24, 2) := by decide +kernel
theorem d_Tt_become_26 : decode b_Tt_become 26 = .ok (.invokestatic 39, 3) := by decide +kernel
theorem d_Tt_become_29 : decode b_Tt_become 29 = .ok (.aload_n 0, 1) := by decide +kernel
theorem d_Tt_become_30 : decode b_Tt_become 30 = .ok (.aload_n 1, 1) := by decide +kernel
theorem d_Tt_become_31 : decode b_Tt_become 31 = .ok (.getfield 18, 3) := by decide +kernel
theorem d_Tt_become_34 : decode b_Tt_become 34 = .ok (.putfield 18, 3) := by decide +kernel
theorem d_Tt_become_37 : decode b_Tt_become 37 = .ok (.return_, 1) := by decide +kernel
theorem d_Tt_hasValue_0 : decode b_Tt_hasValue 0 = .ok (.aload_n 0, 1) := by decide +kernel
theorem d_Tt_hasValue_1 : decode b_Tt_hasValue 1 = .ok (.iload_n 1, 1) := by decide +kernel
theorem d_Tt_hasValue_2 : decode b_Tt_hasValue 2 = .ok (.invokevirtual 32, 3) := by decide +kernel
theorem d_Tt_hasValue_5 : decode b_Tt_hasValue 5 = .ok (.ifCond .eq 17, 3) := by decide +kernel
theorem d_Tt_hasValue_8 : decode b_Tt_hasValue 8 = .ok (.iload_n 2, 1) := by decide +kernel
theorem d_Tt_hasValue_9 : decode b_Tt_hasValue 9 = .ok (.ifCond .lt 13, 3) := by decide +kernel
theorem d_Tt_hasValue_12 : decode b_Tt_hasValue 12 = .ok (.iload_n 2, 1) := by decide +kernel
theorem d_Tt_hasValue_13 : decode b_Tt_hasValue 13 = .ok (.bipush 8, 2) := by decide +kernel
theorem d_Tt_hasValue_15 : decode b_Tt_hasValue 15 = .ok (.if_icmp .ge 7, 3) := by decide +kernel
theorem d_Tt_hasValue_18 : decode b_Tt_hasValue 18 = .ok (.iconst 1, 1) := by decide +kernel
theorem d_Tt_hasValue_19 : decode b_Tt_hasValue 19 = .ok (.goto 4, 3) := by decide +kernel
theorem d_Tt_hasValue_22 : decode b_Tt_hasValue 22 = .ok (.iconst 0, 1) := by decide +kernel
theorem d_Tt_hasValue_23 : decode b_Tt_hasValue 23 = .ok (.ireturn, 1) := by decide +kernel
theorem d_Mem_init_0 : decode b_Mem_init 0 = .ok (.aload_n 0, 1) := by decide +kernel
theorem d_Mem_init_1 : decode b_Mem_init 1 = .ok (.invokespecial 3, 3) := by decide +kernel
theorem d_Mem_init_4 : decode b_Mem_init 4 = .ok (.aload_n 0, 1) := by decide +kernel
theorem d_Mem_init_5 : decode b_Mem_init 5 = .ok (.bipush 6, 2) := by decide +kernel
theorem d_Mem_init_7 : decode b_Mem_init 7 = .ok (.anewarray 9, 3) := by decide +kernel
theorem d_Mem_init_10 : decode b_Mem_init 10 = .ok (.putfield 11, 3) := by decide +kernel
theorem d_Mem_init_13 : decode b_Mem_init 13 = .ok (.iconst 0, 1) := by decide +kernel
theorem d_Mem_init_14 : decode b_Mem_init 14 = .ok (.istore_n 1, 1) := by decide +kernel
theorem d_Mem_init_15 : decode b_Mem_init 15 = .ok (.iload_n 1, 1) := by decide +kernel
theorem d_Mem_init_16 : decode b_Mem_init 16 = .ok (.bipush 6, 2) := by decide +kernel
theorem d_Mem_init_18 : decode b_Mem_init 18 = .ok (.if_icmp .ge 22, 3) := by decide +kernel
theorem d_Mem_init_21 : decode b_Mem_init 21 = .ok (.aload_n 0, 1) := by decide +kernel
theorem d_Mem_init_22 : decode b_Mem_init 22 = .ok (.getfield 11, 3) := by decide +kernel
theorem d_Mem_init_25 : decode b_Mem_init 25 = .ok (.iload_n 1, 1) := by decide +kernel
theorem d_Mem_init_26 : decode b_Mem_init 26 = .ok (.new 9, 3) := by decide +kernel
theorem d_Mem_init_29 : decode b_Mem_init 29 = .ok (.dup, 1) := by decide +kernel
theorem d_Mem_init_30 : decode b_Mem_init 30 = .ok (.invokespecial 17, 3) := by decide +kernel
theorem d_Mem_init_33 : decode b_Mem_init 33 = .ok (.aastore, 1) := by decide +kernel
theorem d_Mem_init_34 : decode b_Mem_init 34 = .ok (.iinc 1 1, 3) := by decide +kernel
theorem d_Mem_init_37 : decode b_Mem_init 37 = .ok (.goto (-22), 3) := by decide +kernel
theorem d_Mem_init_40 : decode b_Mem_init 40 = .ok (.aload_n 0, 1) := by decide +kernel
theorem d_Mem_init_41 : decode b_Mem_init 41 = .ok (.iconst 0, 1) := by decide +kernel
theorem d_Mem_init_42 : decode b_Mem_init 42 = .ok (.putfield 18, 3) := by decide +kernel
theorem d_Mem_init_45 : decode b_Mem_init 45 = .ok (.return_, 1) := by decide +kernel
theorem d_Mem_count_0 : decode b_Mem_count 0 = .ok (.aload_n 0, 1) := by decide +kernel
theorem d_Mem_count_1 : decode b_Mem_count 1 = .ok (.getfield 18, 3) := by decide +kernel
theorem d_Mem_count_4 : decode b_Mem_count 4 = .ok (.ireturn, 1) := by decide +kernel
theorem d_Mem_clear_0 : decode b_Mem_clear 0 = .ok (.aload_n 0, 1) := by decide +kernel
theorem d_Mem_clear_1 : decode b_Mem_clear 1 = .ok (.iconst 0, 1) := by decide +kernel
theorem d_Mem_clear_2 : decode b_Mem_clear 2 = .ok (.putfield 18, 3) := by decide +kernel
theorem d_Mem_clear_5 : decode b_Mem_clear 5 = .ok (.return_, 1) := by decide +kernel
theorem d_Mem_addRegion_0 : decode b_Mem_addRegion 0 = .ok (.aload_n 0, 1) := by decide +kernel
theorem d_Mem_addRegion_1 : decode b_Mem_addRegion 1 = .ok (.getfield 18, 3) := by decide +kernel
theorem d_Mem_addRegion_4 : decode b_Mem_addRegion 4 = .ok (.bipush 6, 2) := by decide +kernel
theorem d_Mem_addRegion_6 : decode b_Mem_addRegion 6 = .ok (.if_icmp .ge 21, 3) := by decide +kernel
theorem d_Mem_addRegion_9 : decode b_Mem_addRegion 9 = .ok (.iload_n 1, 1) := by decide +kernel
theorem d_Mem_addRegion_10 : decode b_Mem_addRegion 10 = .ok (.iload_n 2, 1) := by decide +kernel
theorem d_Mem_addRegion_11 : decode b_Mem_addRegion 11 = .ok (.invokestatic 22, 3) := by decide +kernel
theorem d_Mem_addRegion_14 : decode b_Mem_addRegion 14 = .ok (.ifCond .eq 13, 3) := by decide +kernel
theorem d_Mem_addRegion_17 : decode b_Mem_addRegion 17 = .ok (.iload_n 3, 1) := by decide +kernel
theorem d_Mem_addRegion_18 : decode b_Mem_addRegion 18 = .ok (.ifCond .lt 9, 3) := by decide +kernel
theorem d_Mem_addRegion_21 : decode b_Mem_addRegion 21 = .ok (.iload_n 3, 1) := by decide +kernel
theorem d_Mem_addRegion_22 : decode b_Mem_addRegion 22 = .ok (.bipush 7, 2) := by decide +kernel
theorem d_Mem_addRegion_24 : decode b_Mem_addRegion 24 = .ok (.if_icmp .le 5, 3) := by decide +kernel
theorem d_Mem_addRegion_27 : decode b_Mem_addRegion 27 = .ok (.iconst 0, 1) := by decide +kernel
theorem d_Mem_addRegion_28 : decode b_Mem_addRegion 28 = .ok (.ireturn, 1) := by decide +kernel
theorem d_Mem_addRegion_29 : decode b_Mem_addRegion 29 = .ok (.iconst 0, 1) := by decide +kernel
theorem d_Mem_addRegion_30 : decode b_Mem_addRegion 30 = .ok (.istore 4, 2) := by decide +kernel
theorem d_Mem_addRegion_32 : decode b_Mem_addRegion 32 = .ok (.iconst 0, 1) := by decide +kernel
theorem d_Mem_addRegion_33 : decode b_Mem_addRegion 33 = .ok (.istore 5, 2) := by decide +kernel
theorem d_Mem_addRegion_35 : decode b_Mem_addRegion 35 = .ok (.iload 5, 2) := by decide +kernel
theorem d_Mem_addRegion_37 : decode b_Mem_addRegion 37 = .ok (.aload_n 0, 1) := by decide +kernel
theorem d_Mem_addRegion_38 : decode b_Mem_addRegion 38 = .ok (.getfield 18, 3) := by decide +kernel
theorem d_Mem_addRegion_41 : decode b_Mem_addRegion 41 = .ok (.if_icmp .ge 59, 3) := by decide +kernel
theorem d_Mem_addRegion_44 : decode b_Mem_addRegion 44 = .ok (.iload_n 1, 1) := by decide +kernel
theorem d_Mem_addRegion_45 : decode b_Mem_addRegion 45 = .ok (.iload_n 2, 1) := by decide +kernel
theorem d_Mem_addRegion_46 : decode b_Mem_addRegion 46 = .ok (.aload_n 0, 1) := by decide +kernel
theorem d_Mem_addRegion_47 : decode b_Mem_addRegion 47 = .ok (.getfield 11, 3) := by decide +kernel
theorem d_Mem_addRegion_50 : decode b_Mem_addRegion 50 = .ok (.iload 5, 2) := by decide +kernel
theorem d_Mem_addRegion_52 : decode b_Mem_addRegion 52 = .ok (.aaload, 1) := by decide +kernel
theorem d_Mem_addRegion_53 : decode b_Mem_addRegion 53 = .ok (.getfield 26, 3) := by decide +kernel
theorem d_Mem_addRegion_56 : decode b_Mem_addRegion 56 = .ok (.aload_n 0, 1) := by decide +kernel
theorem d_Mem_addRegion_57 : decode b_Mem_addRegion 57 = .ok (.getfield 11, 3) := by decide +kernel
theorem d_Mem_addRegion_60 : decode b_Mem_addRegion 60 = .ok (.iload 5, 2) := by decide +kernel
theorem d_Mem_addRegion_62 : decode b_Mem_addRegion 62 = .ok (.aaload, 1) := by decide +kernel
theorem d_Mem_addRegion_63 : decode b_Mem_addRegion 63 = .ok (.getfield 29, 3) := by decide +kernel
theorem d_Mem_addRegion_66 : decode b_Mem_addRegion 66 = .ok (.invokestatic 32, 3) := by decide +kernel
theorem d_Mem_addRegion_69 : decode b_Mem_addRegion 69 = .ok (.ifCond .eq 5, 3) := by decide +kernel
theorem d_Mem_addRegion_72 : decode b_Mem_addRegion 72 = .ok (.iconst 0, 1) := by decide +kernel
theorem d_Mem_addRegion_73 : decode b_Mem_addRegion 73 = .ok (.ireturn, 1) := by decide +kernel
theorem d_Mem_addRegion_74 : decode b_Mem_addRegion 74 = .ok (.aload_n 0, 1) := by decide +kernel
theorem d_Mem_addRegion_75 : decode b_Mem_addRegion 75 = .ok (.getfield 11, 3) := by decide +kernel
theorem d_Mem_addRegion_78 : decode b_Mem_addRegion 78 = .ok (.iload 5, 2) := by decide +kernel
theorem d_Mem_addRegion_80 : decode b_Mem_addRegion 80 = .ok (.aaload, 1) := by decide +kernel
theorem d_Mem_addRegion_81 : decode b_Mem_addRegion 81 = .ok (.getfield 26, 3) := by decide +kernel
theorem d_Mem_addRegion_84 : decode b_Mem_addRegion 84 = .ok (.iload_n 1, 1) := by decide +kernel
theorem d_Mem_addRegion_85 : decode b_Mem_addRegion 85 = .ok (.if_icmp .ge 9, 3) := by decide +kernel
theorem d_Mem_addRegion_88 : decode b_Mem_addRegion 88 = .ok (.iload 5, 2) := by decide +kernel
theorem d_Mem_addRegion_90 : decode b_Mem_addRegion 90 = .ok (.iconst 1, 1) := by decide +kernel
theorem d_Mem_addRegion_91 : decode b_Mem_addRegion 91 = .ok (.iadd, 1) := by decide +kernel
theorem d_Mem_addRegion_92 : decode b_Mem_addRegion 92 = .ok (.istore 4, 2) := by decide +kernel
theorem d_Mem_addRegion_94 : decode b_Mem_addRegion 94 = .ok (.iinc 5 1, 3) := by decide +kernel
theorem d_Mem_addRegion_97 : decode b_Mem_addRegion 97 = .ok (.goto (-62), 3) := by decide +kernel
theorem d_Mem_addRegion_100 : decode b_Mem_addRegion 100 = .ok (.aload_n 0, 1) := by decide +kernel
theorem d_Mem_addRegion_101 : decode b_Mem_addRegion 101 = .ok (.getfield 11, 3) := by decide +kernel
theorem d_Mem_addRegion_104 : decode b_Mem_addRegion 104 = .ok (.aload_n 0, 1) := by decide +kernel
theorem d_Mem_addRegion_105 : decode b_Mem_addRegion 105 = .ok (.getfield 18, 3) := by decide +kernel
theorem d_Mem_addRegion_108 : decode b_Mem_addRegion 108 = .ok (.aaload, 1) := by decide +kernel
theorem d_Mem_addRegion_109 : decode b_Mem_addRegion 109 = .ok (.astore 5, 2) := by decide +kernel
theorem d_Mem_addRegion_111 : decode b_Mem_addRegion 111 = .ok (.aload_n 0, 1) := by decide +kernel
theorem d_Mem_addRegion_112 : decode b_Mem_addRegion 112 = .ok (.getfield 18, 3) := by decide +kernel
theorem d_Mem_addRegion_115 : decode b_Mem_addRegion 115 = .ok (.istore 6, 2) := by decide +kernel
theorem d_Mem_addRegion_117 : decode b_Mem_addRegion 117 = .ok (.iload 6, 2) := by decide +kernel
theorem d_Mem_addRegion_119 : decode b_Mem_addRegion 119 = .ok (.iload 4, 2) := by decide +kernel
theorem d_Mem_addRegion_121 : decode b_Mem_addRegion 121 = .ok (.if_icmp .le 25, 3) := by decide +kernel
theorem d_Mem_addRegion_124 : decode b_Mem_addRegion 124 = .ok (.aload_n 0, 1) := by decide +kernel
theorem d_Mem_addRegion_125 : decode b_Mem_addRegion 125 = .ok (.getfield 11, 3) := by decide +kernel
theorem d_Mem_addRegion_128 : decode b_Mem_addRegion 128 = .ok (.iload 6, 2) := by decide +kernel
theorem d_Mem_addRegion_130 : decode b_Mem_addRegion 130 = .ok (.aload_n 0, 1) := by decide +kernel
theorem d_Mem_addRegion_131 : decode b_Mem_addRegion 131 = .ok (.getfield 11, 3) := by decide +kernel
theorem d_Mem_addRegion_134 : decode b_Mem_addRegion 134 = .ok (.iload 6, 2) := by decide +kernel
theorem d_Mem_addRegion_136 : decode b_Mem_addRegion 136 = .ok (.iconst 1, 1) := by decide +kernel
theorem d_Mem_addRegion_137 : decode b_Mem_addRegion 137 = .ok (.isub, 1) := by decide +kernel
theorem d_Mem_addRegion_138 : decode b_Mem_addRegion 138 = .ok (.aaload, 1) := by decide +kernel
theorem d_Mem_addRegion_139 : decode b_Mem_addRegion 139 = .ok (.aastore, 1) := by decide +kernel
theorem d_Mem_addRegion_140 : decode b_Mem_addRegion 140 = .ok (.iinc 6 (-1), 3) := by decide +kernel
theorem d_Mem_addRegion_143 : decode b_Mem_addRegion 143 = .ok (.goto (-26), 3) := by decide +kernel
theorem d_Mem_addRegion_146 : decode b_Mem_addRegion 146 = .ok (.aload_n 0, 1) := by decide +kernel
theorem d_Mem_addRegion_147 : decode b_Mem_addRegion 147 = .ok (.getfield 11, 3) := by decide +kernel
theorem d_Mem_addRegion_150 : decode b_Mem_addRegion 150 = .ok (.iload 4, 2) := by decide +kernel
theorem d_Mem_addRegion_152 : decode b_Mem_addRegion 152 = .ok (.aload 5, 2) := by decide +kernel
theorem d_Mem_addRegion_154 : decode b_Mem_addRegion 154 = .ok (.aastore, 1) := by decide +kernel
theorem d_Mem_addRegion_155 : decode b_Mem_addRegion 155 = .ok (.aload 5, 2) := by decide +kernel
theorem d_Mem_addRegion_157 : decode b_Mem_addRegion 157 = .ok (.iload_n 1, 1) := by decide +kernel
theorem d_Mem_addRegion_158 : decode b_Mem_addRegion 158 = .ok (.iload_n 2, 1) := by decide +kernel
theorem d_Mem_addRegion_159 : decode b_Mem_addRegion 159 = .ok (.iload_n 3, 1) := by decide +kernel
theorem d_Mem_addRegion_160 : decode b_Mem_addRegion 160 = .ok (.invokevirtual 36, 3) := by decide +kernel
theorem d_Mem_addRegion_163 : decode b_Mem_addRegion 163 = .ok (.aload_n 0, 1) := by decide +kernel
theorem d_Mem_addRegion_164 : decode b_Mem_addRegion 164 = .ok (.dup, 1) := by decide +kernel
theorem d_Mem_addRegion_165 : decode b_Mem_addRegion 165 = .ok (.getfield 18, 3) := by decide +kernel
theorem d_Mem_addRegion_168 : decode b_Mem_addRegion 168 = .ok (.iconst 1, 1) := by decide +kernel
theorem d_Mem_addRegion_169 : decode b_Mem_addRegion 169 = .ok (.iadd, 1) := by decide +kernel
theorem d_Mem_addRegion_170 : decode b_Mem_addRegion 170 = .ok (.putfield 18, 3) := by decide +kernel
theorem d_Mem_addRegion_173 : decode b_Mem_addRegion 173 = .ok (.iconst 1, 1) := by decide +kernel
theorem d_Mem_addRegion_174 : decode b_Mem_addRegion 174 = .ok (.ireturn, 1) := by decide +kernel
theorem d_Mem_removeRegion_0 : decode b_Mem_removeRegion 0 = .ok (.aload_n 0, 1) := by decide +kernel
theorem d_Mem_removeRegion_1 : decode b_Mem_removeRegion 1 = .ok (.iload_n 1, 1) := by decide +kernel
theorem d_Mem_removeRegion_2 : decode b_Mem_removeRegion 2 = .ok (.invokevirtual 40, 3) := by decide +kernel
theorem d_Mem_removeRegion_5 : decode b_Mem_removeRegion 5 = .ok (.istore_n 2, 1) := by decide +kernel
theorem d_Mem_removeRegion_6 : decode b_Mem_removeRegion 6 = .ok (.iload_n 2, 1) := by decide +kernel
theorem d_Mem_removeRegion_7 : decode b_Mem_removeRegion 7 = .ok (.iconst (-1), 1) := by decide +kernel
theorem d_Mem_removeRegion_8 : decode b_Mem_removeRegion 8 = .ok (.if_icmp .eq 16, 3) := by decide +kernel
theorem d_Mem_removeRegion_11 : decode b_Mem_removeRegion 11 = .ok (.aload_n 0, 1) := by decide +kernel
theorem d_Mem_removeRegion_12 : decode b_Mem_removeRegion 12 = .ok (.getfield 11, 3) := by decide +kernel
theorem d_Mem_removeRegion_15 : decode b_Mem_removeRegion 15 = .ok (.iload_n 2, 1) := by decide +kernel
theorem d_Mem_removeRegion_16 : decode b_Mem_removeRegion 16 = .ok (.aaload, 1) := by decide +kernel
theorem d_Mem_removeRegion_17 : decode b_Mem_removeRegion 17 = .ok (.getfield 26, 3) := by decide +kernel
theorem d_Mem_removeRegion_20 : decode b_Mem_removeRegion 20 = .ok (.iload_n 1, 1) := by decide +kernel
theorem d_Mem_removeRegion_21 : decode b_Mem_removeRegion 21 = .ok (.if_icmp .eq 5, 3) := by decide +kernel
theorem d_Mem_removeRegion_24 : decode b_Mem_removeRegion 24 = .ok (.iconst 0, 1) := by decide +kernel
theorem d_Mem_removeRegion_25 : decode b_Mem_removeRegion 25 = .ok (.ireturn, 1) := by decide +kernel
theorem d_Mem_removeRegion_26 : decode b_Mem_removeRegion 26 = .ok (.aload_n 0, 1) := by decide +kernel
theorem d_Mem_removeRegion_27 : decode b_Mem_removeRegion 27 = .ok (.getfield 11, 3) := by decide +kernel
theorem d_Mem_removeRegion_30 : decode b_Mem_removeRegion 30 = .ok (.iload_n 2, 1) := by decide +kernel
theorem d_Mem_removeRegion_31 : decode b_Mem_removeRegion 31 = .ok (.aaload, 1) := by decide +kernel
theorem d_Mem_removeRegion_32 : decode b_Mem_removeRegion 32 = .ok (.astore_n 3, 1) := by decide +kernel
theorem d_Mem_removeRegion_33 : decode b_Mem_removeRegion 33 = .ok (.iload_n 2, 1) := by decide +kernel
theorem d_Mem_removeRegion_34 : decode b_Mem_removeRegion 34 = .ok (.istore 4, 2) := by decide +kernel
theorem d_Mem_removeRegion_36 : decode b_Mem_removeRegion 36 = .ok (.iload 4, 2) := by decide +kernel
theorem d_Mem_removeRegion_38 : decode b_Mem_removeRegion 38 = .ok (.aload_n 0, 1) := by decide +kernel
theorem d_Mem_removeRegion_39 : decode b_Mem_removeRegion 39 = .ok (.getfield 18, 3) := by decide +kernel
theorem d_Mem_removeRegion_42 : decode b_Mem_removeRegion 42 = .ok (.iconst 1, 1) := by decide +kernel
theorem d_Mem_removeRegion_43 : decode b_Mem_removeRegion 43 = .ok (.isub, 1) := by decide +kernel
theorem d_Mem_removeRegion_44 : decode b_Mem_removeRegion 44 = .ok (.if_icmp .ge 25, 3) := by decide +kernel
theorem d_Mem_removeRegion_47 : decode b_Mem_removeRegion 47 = .ok (.aload_n 0, 1) := by decide +kernel
theorem d_Mem_removeRegion_48 : decode b_Mem_removeRegion 48 = .ok (.getfield 11, 3) := by decide +kernel
theorem d_Mem_removeRegion_51 : decode b_Mem_removeRegion 51 = .ok (.iload 4, 2) := by decide +kernel
theorem d_Mem_removeRegion_53 : decode b_Mem_removeRegion 53 = .ok (.aload_n 0, 1) := by decide +kernel
theorem d_Mem_removeRegion_54 : decode b_Mem_removeRegion 54 = .ok (.getfield 11, 3) := by decide +kernel
theorem d_Mem_removeRegion_57 : decode b_Mem_removeRegion 57 = .ok (.iload 4, 2) := by decide +kernel
theorem d_Mem_removeRegion_59 : decode b_Mem_removeRegion 59 = .ok (.iconst 1, 1) := by decide +kernel
theorem d_Mem_removeRegion_60 : decode b_Mem_removeRegion 60 = .ok (.iadd, 1) := by decide +kernel
theorem d_Mem_removeRegion_61 : decode b_Mem_removeRegion 61 = .ok (.aaload, 1) := by decide +kernel
theorem d_Mem_removeRegion_62 : decode b_Mem_removeRegion 62 = .ok (.aastore, 1) := by decide +kernel
theorem d_Mem_removeRegion_63 : decode b_Mem_removeRegion 63 = .ok (.iinc 4 1, 3) := by decide +kernel
theorem d_Mem_removeRegion_66 : decode b_Mem_removeRegion 66 = .ok (.goto (-30), 3) := by decide +kernel
theorem d_Mem_removeRegion_69 : decode b_Mem_removeRegion 69 = .ok (.aload_n 0, 1) := by decide +kernel
theorem d_Mem_removeRegion_70 : decode b_Mem_removeRegion 70 = .ok (.dup, 1) := by decide +kernel
theorem d_Mem_removeRegion_71 : decode b_Mem_removeRegion 71 = .ok (.getfield 18, 3) := by decide +kernel
theorem d_Mem_removeRegion_74 : decode b_Mem_removeRegion 74 = .ok (.iconst 1, 1) := by decide +kernel
theorem d_Mem_removeRegion_75 : decode b_Mem_removeRegion 75 = .ok (.isub, 1) := by decide +kernel
theorem d_Mem_removeRegion_76 : decode b_Mem_removeRegion 76 = .ok (.putfield 18, 3) := by decide +kernel
theorem d_Mem_removeRegion_79 : decode b_Mem_removeRegion 79 = .ok (.aload_n 0, 1) := by decide +kernel
theorem d_Mem_removeRegion_80 : decode b_Mem_removeRegion 80 = .ok (.getfield 11, 3) := by decide +kernel
theorem d_Mem_removeRegion_83 : decode b_Mem_removeRegion 83 = .ok (.aload_n 0, 1) := by decide +kernel
theorem d_Mem_removeRegion_84 : decode b_Mem_removeRegion 84 = .ok (.getfield 18, 3) := by decide +kernel
theorem d_Mem_removeRegion_87 : decode b_Mem_removeRegion 87 = .ok (.aload_n 3, 1) := by decide +kernel
theorem d_Mem_removeRegion_88 : decode b_Mem_removeRegion 88 = .ok (.aastore, 1) := by decide +kernel
theorem d_Mem_removeRegion_89 : decode b_Mem_removeRegion 89 = .ok (.iconst 1, 1) := by decide +kernel
theorem d_Mem_removeRegion_90 : decode b_Mem_removeRegion 90 = .ok (.ireturn, 1) := by decide +kernel
theorem d_Mem_fillRegion_0 : decode b_Mem_fillRegion 0 = .ok (.aload_n 0, 1) := by decide +kernel
theorem d_Mem_fillRegion_1 : decode b_Mem_fillRegion 1 = .ok (.iload_n 1, 1) := by decide +kernel
theorem d_Mem_fillRegion_2 : decode b_Mem_fillRegion 2 = .ok (.invokevirtual 40, 3) := by decide +kernel
theorem d_Mem_fillRegion_5 : decode b_Mem_fillRegion 5 = .ok (.istore 5, 2) := by decide +kernel
theorem d_Mem_fillRegion_7 : decode b_Mem_fillRegion 7 = .ok (.iload 5, 2) := by decide +kernel
theorem d_Mem_fillRegion_9 : decode b_Mem_fillRegion 9 = .ok (.iconst (-1), 1) := by decide +kernel
theorem d_Mem_fillRegion_10 : decode b_Mem_fillRegion 10 = .ok (.if_icmp .eq 20, 3) := by decide +kernel
theorem d_Mem_fillRegion_13 : decode b_Mem_fillRegion 13 = .ok (.aload_n 2, 1) := by decide +kernel
theorem d_Mem_fillRegion_14 : decode b_Mem_fillRegion 14 = .ok (.iload_n 3, 1) := by decide +kernel
theorem d_Mem_fillRegion_15 : decode b_Mem_fillRegion 15 = .ok (.aload_n 0, 1) := by decide +kernel
theorem d_Mem_fillRegion_16 : decode b_Mem_fillRegion 16 = .ok (.getfield 11, 3) := by decide +kernel
theorem d_Mem_fillRegion_19 : decode b_Mem_fillRegion 19 = .ok (.iload 5, 2) := by decide +kernel
theorem d_Mem_fillRegion_21 : decode b_Mem_fillRegion 21 = .ok (.aaload, 1) := by decide +kernel
theorem d_Mem_fillRegion_22 : decode b_Mem_fillRegion 22 = .ok (.getfield 44, 3) := by decide +kernel
theorem d_Mem_fillRegion_25 : decode b_Mem_fillRegion 25 = .ok (.iload 4, 2) := by decide +kernel
theorem d_Mem_fillRegion_27 : decode b_Mem_fillRegion 27 = .ok (.invokevirtual 48, 3) := by decide +kernel
theorem d_Mem_fillRegion_30 : decode b_Mem_fillRegion 30 = .ok (.return_, 1) := by decide +kernel
theorem d_Mem_regionAt_0 : decode b_Mem_regionAt 0 = .ok (.iload_n 1, 1) := by decide +kernel
theorem d_Mem_regionAt_1 : decode b_Mem_regionAt 1 = .ok (.ifCond .lt 11, 3) := by decide +kernel
theorem d_Mem_regionAt_4 : decode b_Mem_regionAt 4 = .ok (.iload_n 1, 1) := by decide +kernel
theorem d_Mem_regionAt_5 : decode b_Mem_regionAt 5 = .ok (.aload_n 0, 1) := by decide +kernel
theorem d_Mem_regionAt_6 : decode b_Mem_regionAt 6 = .ok (.getfield 18, 3) := by decide +kernel
theorem d_Mem_regionAt_9 : decode b_Mem_regionAt 9 = .ok (.if_icmp .lt 7, 3) := by decide +kernel
theorem d_Mem_regionAt_12 : decode b_Mem_regionAt 12 = .ok (.aconst_null, 1) := by decide +kernel
theorem d_Mem_regionAt_13 : decode b_Mem_regionAt 13 = .ok (.goto 9, 3) := by decide +kernel
theorem d_Mem_regionAt_16 : decode b_Mem_regionAt 16 = .ok (.aload_n 0, 1) := by decide +kernel
theorem d_Mem_regionAt_17 : decode b_Mem_regionAt 17 = .ok (.getfield 11, 3) := by decide +kernel
theorem d_Mem_regionAt_20 : decode b_Mem_regionAt 20 = .ok (.iload_n 1, 1) := by decide +kernel
theorem d_Mem_regionAt_21 : decode b_Mem_regionAt 21 = .ok (.aaload, 1) := by decide +kernel
theorem d_Mem_regionAt_22 : decode b_Mem_regionAt 22 = .ok (.areturn, 1) := by decide +kernel
theorem d_Mem_holds_0 : decode b_Mem_holds 0 = .ok (.iconst 0, 1) := by decide +kernel
theorem d_Mem_holds_1 : decode b_Mem_holds 1 = .ok (.istore_n 3, 1) := by decide +kernel
theorem d_Mem_holds_2 : decode b_Mem_holds 2 = .ok (.iload_n 3, 1) := by decide +kernel
theorem d_Mem_holds_3 : decode b_Mem_holds 3 = .ok (.iload_n 2, 1) := by decide +kernel
theorem d_Mem_holds_4 : decode b_Mem_holds 4 = .ok (.if_icmp .ge 22, 3) := by decide +kernel
theorem d_Mem_holds_7 : decode b_Mem_holds 7 = .ok (.aload_n 0, 1) := by decide +kernel
theorem d_Mem_holds_8 : decode b_Mem_holds 8 = .ok (.iload_n 1, 1) := by decide +kernel
theorem d_Mem_holds_9 : decode b_Mem_holds 9 = .ok (.iload_n 3, 1) := by decide +kernel
theorem d_Mem_holds_10 : decode b_Mem_holds 10 = .ok (.iadd, 1) := by decide +kernel
theorem d_Mem_holds_11 : decode b_Mem_holds 11 = .ok (.invokevirtual 40, 3) := by decide +kernel
theorem d_Mem_holds_14 : decode b_Mem_holds 14 = .ok (.iconst (-1), 1) := by decide +kernel
theorem d_Mem_holds_15 : decode b_Mem_holds 15 = .ok (.if_icmp .ne 5, 3) := by decide +kernel
theorem d_Mem_holds_18 : decode b_Mem_holds 18 = .ok (.iconst 0, 1) := by decide +kernel
theorem d_Mem_holds_19 : decode b_Mem_holds 19 = .ok (.ireturn, 1) := by decide +kernel
theorem d_Mem_holds_20 : decode b_Mem_holds 20 = .ok (.iinc 3 1, 3) := by decide +kernel
theorem d_Mem_holds_23 : decode b_Mem_holds 23 = .ok (.goto (-21), 3) := by decide +kernel
theorem d_Mem_holds_26 : decode b_Mem_holds 26 = .ok (.iconst 1, 1) := by decide +kernel
theorem d_Mem_holds_27 : decode b_Mem_holds 27 = .ok (.ireturn, 1) := by decide +kernel
theorem d_Mem_readByte_0 : decode b_Mem_readByte 0 = .ok (.aload_n 0, 1) := by decide +kernel
theorem d_Mem_readByte_1 : decode b_Mem_readByte 1 = .ok (.iload_n 1, 1) := by decide +kernel
theorem d_Mem_readByte_2 : decode b_Mem_readByte 2 = .ok (.invokevirtual 40, 3) := by decide +kernel
theorem d_Mem_readByte_5 : decode b_Mem_readByte 5 = .ok (.istore_n 2, 1) := by decide +kernel
theorem d_Mem_readByte_6 : decode b_Mem_readByte 6 = .ok (.iload_n 2, 1) := by decide +kernel
theorem d_Mem_readByte_7 : decode b_Mem_readByte 7 = .ok (.iconst (-1), 1) := by decide +kernel
theorem d_Mem_readByte_8 : decode b_Mem_readByte 8 = .ok (.if_icmp .ne 7, 3) := by decide +kernel
theorem d_Mem_readByte_11 : decode b_Mem_readByte 11 = .ok (.iconst (-1), 1) := by decide +kernel
theorem d_Mem_readByte_12 : decode b_Mem_readByte 12 = .ok (.goto 23, 3) := by decide +kernel
theorem d_Mem_readByte_15 : decode b_Mem_readByte 15 = .ok (.aload_n 0, 1) := by decide +kernel
theorem d_Mem_readByte_16 : decode b_Mem_readByte 16 = .ok (.getfield 11, 3) := by decide +kernel
theorem d_Mem_readByte_19 : decode b_Mem_readByte 19 = .ok (.iload_n 2, 1) := by decide +kernel
theorem d_Mem_readByte_20 : decode b_Mem_readByte 20 = .ok (.aaload, 1) := by decide +kernel
theorem d_Mem_readByte_21 : decode b_Mem_readByte 21 = .ok (.iload_n 1, 1) := by decide +kernel
theorem d_Mem_readByte_22 : decode b_Mem_readByte 22 = .ok (.aload_n 0, 1) := by decide +kernel
theorem d_Mem_readByte_23 : decode b_Mem_readByte 23 = .ok (.getfield 11, 3) := by decide +kernel
theorem d_Mem_readByte_26 : decode b_Mem_readByte 26 = .ok (.iload_n 2, 1) := by decide +kernel
theorem d_Mem_readByte_27 : decode b_Mem_readByte 27 = .ok (.aaload, 1) := by decide +kernel
theorem d_Mem_readByte_28 : decode b_Mem_readByte 28 = .ok (.getfield 26, 3) := by decide +kernel
theorem d_Mem_readByte_31 : decode b_Mem_readByte 31 = .ok (.isub, 1) := by decide +kernel
theorem d_Mem_readByte_32 : decode b_Mem_readByte 32 = .ok (.invokevirtual 54, 3) := by decide +kernel
theorem d_Mem_readByte_35 : decode b_Mem_readByte 35 = .ok (.ireturn, 1) := by decide +kernel
theorem d_Mem_readNumber_0 : decode b_Mem_readNumber 0 = .ok (.iconst 0, 1) := by decide +kernel
theorem d_Mem_readNumber_1 : decode b_Mem_readNumber 1 = .ok (.istore_n 2, 1) := by decide +kernel
theorem d_Mem_readNumber_2 : decode b_Mem_readNumber 2 = .ok (.iconst 3, 1) := by decide +kernel
theorem d_Mem_readNumber_3 : decode b_Mem_readNumber 3 = .ok (.istore_n 3, 1) := by decide +kernel
theorem d_Mem_readNumber_4 : decode b_Mem_readNumber 4 = .ok (.iload_n 3, 1) := by decide +kernel
theorem d_Mem_readNumber_5 : decode b_Mem_readNumber 5 = .ok (.ifCond .lt 22, 3) := by decide +kernel
theorem d_Mem_readNumber_8 : decode b_Mem_readNumber 8 = .ok (.iload_n 2, 1) := by decide +kernel
theorem d_Mem_readNumber_9 : decode b_Mem_readNumber 9 = .ok (.bipush 8, 2) := by decide +kernel
theorem d_Mem_readNumber_11 : decode b_Mem_readNumber 11 = .ok (.ishl, 1) := by decide +kernel
theorem d_Mem_readNumber_12 : decode b_Mem_readNumber 12 = .ok (.aload_n 0, 1) := by decide +kernel
theorem d_Mem_readNumber_13 : decode b_Mem_readNumber 13 = .ok (.iload_n 1, 1) := by decide +kernel
theorem d_Mem_readNumber_14 : decode b_Mem_readNumber 14 = .ok (.iload_n 3, 1) := by decide +kernel
theorem d_Mem_readNumber_15 : decode b_Mem_readNumber 15 = .ok (.iadd, 1) := by decide +kernel
theorem d_Mem_readNumber_16 : decode b_Mem_readNumber 16 = .ok (.invokevirtual 57, 3) := by decide +kernel
theorem d_Mem_readNumber_19 : decode b_Mem_readNumber 19 = .ok (.ior, 1) := by decide +kernel
theorem d_Mem_readNumber_20 : decode b_Mem_readNumber 20 = .ok (.istore_n 2, 1) := by decide +kernel
theorem d_Mem_readNumber_21 : decode b_Mem_readNumber 21 = .ok (.iinc 3 (-1), 3) := by decide +kernel
theorem d_Mem_readNumber_24 : decode b_Mem_readNumber 24 = .ok (.goto (-20), 3) := by decide +kernel
theorem d_Mem_readNumber_27 : decode b_Mem_readNumber 27 = .ok (.iload_n 2, 1) := by decide +kernel
theorem d_Mem_readNumber_28 : decode b_Mem_readNumber 28 = .ok (.ireturn, 1) := by decide +kernel
theorem d_Mem_flagsAt_0 : decode b_Mem_flagsAt 0 = .ok (.aload_n 0, 1) := by decide +kernel
theorem d_Mem_flagsAt_1 : decode b_Mem_flagsAt 1 = .ok (.iload_n 1, 1) := by decide +kernel
theorem d_Mem_flagsAt_2 : decode b_Mem_flagsAt 2 = .ok (.invokevirtual 40, 3) := by decide +kernel
theorem d_Mem_flagsAt_5 : decode b_Mem_flagsAt 5 = .ok (.istore_n 2, 1) := by decide +kernel
theorem d_Mem_flagsAt_6 : decode b_Mem_flagsAt 6 = .ok (.iload_n 2, 1) := by decide +kernel
theorem d_Mem_flagsAt_7 : decode b_Mem_flagsAt 7 = .ok (.iconst (-1), 1) := by decide +kernel
theorem d_Mem_flagsAt_8 : decode b_Mem_flagsAt 8 = .ok (.if_icmp .ne 7, 3) := by decide +kernel
theorem d_Mem_flagsAt_11 : decode b_Mem_flagsAt 11 = .ok (.iconst (-1), 1) := by decide +kernel
theorem d_Mem_flagsAt_12 : decode b_Mem_flagsAt 12 = .ok (.goto 12, 3) := by decide +kernel
theorem d_Mem_flagsAt_15 : decode b_Mem_flagsAt 15 = .ok (.aload_n 0, 1) := by decide +kernel
theorem d_Mem_flagsAt_16 : decode b_Mem_flagsAt 16 = .ok (.getfield 11, 3) := by decide +kernel
theorem d_Mem_flagsAt_19 : decode b_Mem_flagsAt 19 = .ok (.iload_n 2, 1) := by decide +kernel
theorem d_Mem_flagsAt_20 : decode b_Mem_flagsAt 20 = .ok (.aaload, 1) := by decide +kernel
theorem d_Mem_flagsAt_21 : decode b_Mem_flagsAt 21 = .ok (.getfield 60, 3) := by decide +kernel
theorem d_Mem_flagsAt_24 : decode b_Mem_flagsAt 24 = .ok (.ireturn, 1) := by decide +kernel
theorem d_Mem_writeByte_0 : decode b_Mem_writeByte 0 = .ok (.aload_n 0, 1) := by decide +kernel
theorem d_Mem_writeByte_1 : decode b_Mem_writeByte 1 = .ok (.iload_n 1, 1) := by decide +kernel
theorem d_Mem_writeByte_2 : decode b_Mem_writeByte 2 = .ok (.invokevirtual 40, 3) := by decide +kernel
theorem d_Mem_writeByte_5 : decode b_Mem_writeByte 5 = .ok (.istore_n 3, 1) := by decide +kernel
theorem d_Mem_writeByte_6 : decode b_Mem_writeByte 6 = .ok (.iload_n 3, 1) := by decide +kernel
theorem d_Mem_writeByte_7 : decode b_Mem_writeByte 7 = .ok (.iconst (-1), 1) := by decide +kernel
theorem d_Mem_writeByte_8 : decode b_Mem_writeByte 8 = .ok (.if_icmp .ne 5, 3) := by decide +kernel
theorem d_Mem_writeByte_11 : decode b_Mem_writeByte 11 = .ok (.iconst 0, 1) := by decide +kernel
theorem d_Mem_writeByte_12 : decode b_Mem_writeByte 12 = .ok (.ireturn, 1) := by decide +kernel
theorem d_Mem_writeByte_13 : decode b_Mem_writeByte 13 = .ok (.aload_n 0, 1) := by decide +kernel
theorem d_Mem_writeByte_14 : decode b_Mem_writeByte 14 = .ok (.getfield 11, 3) := by decide +kernel
theorem d_Mem_writeByte_17 : decode b_Mem_writeByte 17 = .ok (.iload_n 3, 1) := by decide +kernel
theorem d_Mem_writeByte_18 : decode b_Mem_writeByte 18 = .ok (.aaload, 1) := by decide +kernel
theorem d_Mem_writeByte_19 : decode b_Mem_writeByte 19 = .ok (.iload_n 1, 1) := by decide +kernel
theorem d_Mem_writeByte_20 : decode b_Mem_writeByte 20 = .ok (.aload_n 0, 1) := by decide +kernel
theorem d_Mem_writeByte_21 : decode b_Mem_writeByte 21 = .ok (.getfield 11, 3) := by decide +kernel
theorem d_Mem_writeByte_24 : decode b_Mem_writeByte 24 = .ok (.iload_n 3, 1) := by decide +kernel
theorem d_Mem_writeByte_25 : decode b_Mem_writeByte 25 = .ok (.aaload, 1) := by decide +kernel
theorem d_Mem_writeByte_26 : decode b_Mem_writeByte 26 = .ok (.getfield 26, 3) := by decide +kernel
theorem d_Mem_writeByte_29 : decode b_Mem_writeByte 29 = .ok (.isub, 1) := by decide +kernel
theorem d_Mem_writeByte_30 : decode b_Mem_writeByte 30 = .ok (.iload_n 2, 1) := by decide +kernel
theorem d_Mem_writeByte_31 : decode b_Mem_writeByte 31 = .ok (.invokevirtual 63, 3) := by decide +kernel
theorem d_Mem_writeByte_34 : decode b_Mem_writeByte 34 = .ok (.iconst 1, 1) := by decide +kernel
theorem d_Mem_writeByte_35 : decode b_Mem_writeByte 35 = .ok (.ireturn, 1) := by decide +kernel
theorem d_Mem_writeNumber_0 : decode b_Mem_writeNumber 0 = .ok (.aload_n 0, 1) := by decide +kernel
theorem d_Mem_writeNumber_1 : decode b_Mem_writeNumber 1 = .ok (.iload_n 1, 1) := by decide +kernel
theorem d_Mem_writeNumber_2 : decode b_Mem_writeNumber 2 = .ok (.iconst 4, 1) := by decide +kernel
theorem d_Mem_writeNumber_3 : decode b_Mem_writeNumber 3 = .ok (.invokevirtual 67, 3) := by decide +kernel
theorem d_Mem_writeNumber_6 : decode b_Mem_writeNumber 6 = .ok (.ifCond .ne 5, 3) := by decide +kernel
theorem d_Mem_writeNumber_9 : decode b_Mem_writeNumber 9 = .ok (.iconst 0, 1) := by decide +kernel
theorem d_Mem_writeNumber_10 : decode b_Mem_writeNumber 10 = .ok (.ireturn, 1) := by decide +kernel
theorem d_Mem_writeNumber_11 : decode b_Mem_writeNumber 11 = .ok (.iconst 0, 1) := by decide +kernel
theorem d_Mem_writeNumber_12 : decode b_Mem_writeNumber 12 = .ok (.istore_n 3, 1) := by decide +kernel
theorem d_Mem_writeNumber_13 : decode b_Mem_writeNumber 13 = .ok (.iload_n 3, 1) := by decide +kernel
theorem d_Mem_writeNumber_14 : decode b_Mem_writeNumber 14 = .ok (.iconst 4, 1) := by decide +kernel
theorem d_Mem_writeNumber_15 : decode b_Mem_writeNumber 15 = .ok (.if_icmp .ge 23, 3) := by decide +kernel
theorem d_Mem_writeNumber_18 : decode b_Mem_writeNumber 18 = .ok (.aload_n 0, 1) := by decide +kernel
theorem d_Mem_writeNumber_19 : decode b_Mem_writeNumber 19 = .ok (.iload_n 1, 1) := by decide +kernel
theorem d_Mem_writeNumber_20 : decode b_Mem_writeNumber 20 = .ok (.iload_n 3, 1) := by decide +kernel
theorem d_Mem_writeNumber_21 : decode b_Mem_writeNumber 21 = .ok (.iadd, 1) := by decide +kernel
theorem d_Mem_writeNumber_22 : decode b_Mem_writeNumber 22 = .ok (.iload_n 2, 1) := by decide +kernel
theorem d_Mem_writeNumber_23 : decode b_Mem_writeNumber 23 = .ok (.bipush 8, 2) := by decide +kernel
theorem d_Mem_writeNumber_25 : decode b_Mem_writeNumber 25 = .ok (.iload_n 3, 1) := by decide +kernel
theorem d_Mem_writeNumber_26 : decode b_Mem_writeNumber 26 = .ok (.imul, 1) := by decide +kernel
theorem d_Mem_writeNumber_27 : decode b_Mem_writeNumber 27 = .ok (.ishr, 1) := by decide +kernel
theorem d_Mem_writeNumber_28 : decode b_Mem_writeNumber 28 = .ok (.invokevirtual 70, 3) := by decide +kernel
theorem d_Mem_writeNumber_31 : decode b_Mem_writeNumber 31 = .ok (.pop, 1) := by decide +kernel
theorem d_Mem_writeNumber_32 : decode b_Mem_writeNumber 32 = .ok (.iinc 3 1, 3) := by decide +kernel
theorem d_Mem_writeNumber_35 : decode b_Mem_writeNumber 35 = .ok (.goto (-22), 3) := by decide +kernel
theorem d_Mem_writeNumber_38 : decode b_Mem_writeNumber 38 = .ok (.iconst 1, 1) := by decide +kernel
theorem d_Mem_writeNumber_39 : decode b_Mem_writeNumber 39 = .ok (.ireturn, 1) := by decide +kernel
theorem d_Mem_search_0 : decode b_Mem_search 0 = .ok (.iconst 0, 1) := by decide +kernel
theorem d_Mem_search_1 : decode b_Mem_search 1 = .ok (.istore_n 3, 1) := by decide +kernel
theorem d_Mem_search_2 : decode b_Mem_search 2 = .ok (.iload_n 3, 1) := by decide +kernel
theorem d_Mem_search_3 : decode b_Mem_search 3 = .ok (.aload_n 0, 1) := by decide +kernel
theorem d_Mem_search_4 : decode b_Mem_search 4 = .ok (.getfield 18, 3) := by decide +kernel
theorem d_Mem_search_7 : decode b_Mem_search 7 = .ok (.if_icmp .ge 31, 3) := by decide +kernel
theorem d_Mem_search_10 : decode b_Mem_search 10 = .ok (.aload_n 0, 1) := by decide +kernel
theorem d_Mem_search_11 : decode b_Mem_search 11 = .ok (.getfield 11, 3) := by decide +kernel
theorem d_Mem_search_14 : decode b_Mem_search 14 = .ok (.iload_n 3, 1) := by decide +kernel
theorem d_Mem_search_15 : decode b_Mem_search 15 = .ok (.aaload, 1) := by decide +kernel
theorem d_Mem_search_16 : decode b_Mem_search 16 = .ok (.iload_n 1, 1) := by decide +kernel
theorem d_Mem_search_17 : decode b_Mem_search 17 = .ok (.iload_n 2, 1) := by decide +kernel
theorem d_Mem_search_18 : decode b_Mem_search 18 = .ok (.invokevirtual 73, 3) := by decide +kernel
theorem d_Mem_search_21 : decode b_Mem_search 21 = .ok (.istore 4, 2) := by decide +kernel
theorem d_Mem_search_23 : decode b_Mem_search 23 = .ok (.iload 4, 2) := by decide +kernel
theorem d_Mem_search_25 : decode b_Mem_search 25 = .ok (.iconst (-1), 1) := by decide +kernel
theorem d_Mem_search_26 : decode b_Mem_search 26 = .ok (.if_icmp .eq 6, 3) := by decide +kernel
theorem d_Mem_search_29 : decode b_Mem_search 29 = .ok (.iload 4, 2) := by decide +kernel
theorem d_Mem_search_31 : decode b_Mem_search 31 = .ok (.ireturn, 1) := by decide +kernel
theorem d_Mem_search_32 : decode b_Mem_search 32 = .ok (.iinc 3 1, 3) := by decide +kernel
theorem d_Mem_search_35 : decode b_Mem_search 35 = .ok (.goto (-33), 3) := by decide +kernel
theorem d_Mem_search_38 : decode b_Mem_search 38 = .ok (.iconst (-1), 1) := by decide +kernel
theorem d_Mem_search_39 : decode b_Mem_search 39 = .ok (.ireturn, 1) := by decide +kernel
theorem d_Mem_indexOf_0 : decode b_Mem_indexOf 0 = .ok (.iconst 0, 1) := by decide +kernel
theorem d_Mem_indexOf_1 : decode b_Mem_indexOf 1 = .ok (.istore_n 2, 1) := by decide +kernel
theorem d_Mem_indexOf_2 : decode b_Mem_indexOf 2 = .ok (.iload_n 2, 1) := by decide +kernel
theorem d_Mem_indexOf_3 : decode b_Mem_indexOf 3 = .ok (.aload_n 0, 1) := by decide +kernel
theorem d_Mem_indexOf_4 : decode b_Mem_indexOf 4 = .ok (.getfield 18, 3) := by decide +kernel
theorem d_Mem_indexOf_7 : decode b_Mem_indexOf 7 = .ok (.if_icmp .ge 24, 3) := by decide +kernel
theorem d_Mem_indexOf_10 : decode b_Mem_indexOf 10 = .ok (.aload_n 0, 1) := by decide +kernel
theorem d_Mem_indexOf_11 : decode b_Mem_indexOf 11 = .ok (.getfield 11, 3) := by decide +kernel
theorem d_Mem_indexOf_14 : decode b_Mem_indexOf 14 = .ok (.iload_n 2, 1) := by decide +kernel
theorem d_Mem_indexOf_15 : decode b_Mem_indexOf 15 = .ok (.aaload, 1) := by decide +kernel
theorem d_Mem_indexOf_16 : decode b_Mem_indexOf 16 = .ok (.iload_n 1, 1) := by decide +kernel
theorem d_Mem_indexOf_17 : decode b_Mem_indexOf 17 = .ok (.invokevirtual 77, 3) := by decide +kernel
theorem d_Mem_indexOf_20 : decode b_Mem_indexOf 20 = .ok (.ifCond .eq 5, 3) := by decide +kernel
theorem d_Mem_indexOf_23 : decode b_Mem_indexOf 23 = .ok (.iload_n 2, 1) := by decide +kernel
theorem d_Mem_indexOf_24 : decode b_Mem_indexOf 24 = .ok (.ireturn, 1) := by decide +kernel
theorem d_Mem_indexOf_25 : decode b_Mem_indexOf 25 = .ok (.iinc 2 1, 3) := by decide +kernel
theorem d_Mem_indexOf_28 : decode b_Mem_indexOf 28 = .ok (.goto (-26), 3) := by decide +kernel
theorem d_Mem_indexOf_31 : decode b_Mem_indexOf 31 = .ok (.iconst (-1), 1) := by decide +kernel
theorem d_Mem_indexOf_32 : decode b_Mem_indexOf 32 = .ok (.ireturn, 1) := by decide +kernel
theorem d_Mem_isSpan_0 : decode b_Mem_isSpan 0 = .ok (.iload_n 0, 1) := by decide +kernel
theorem d_Mem_isSpan_1 : decode b_Mem_isSpan 1 = .ok (.ifCond .lt 44, 3) := by decide +kernel
theorem d_Mem_isSpan_4 : decode b_Mem_isSpan 4 = .ok (.iload_n 0, 1) := by decide +kernel
theorem d_Mem_isSpan_5 : decode b_Mem_isSpan 5 = .ok (.bipush 64, 2) := by decide +kernel
theorem d_Mem_isSpan_7 : decode b_Mem_isSpan 7 = .ok (.irem, 1) := by decide +kernel
theorem d_Mem_isSpan_8 : decode b_Mem_isSpan 8 = .ok (.ifCond .ne 37, 3) := by decide +kernel
theorem d_Mem_isSpan_11 : decode b_Mem_isSpan 11 = .ok (.iload_n 1, 1) := by decide +kernel
theorem d_Mem_isSpan_12 : decode b_Mem_isSpan 12 = .ok (.bipush 64, 2) := by decide +kernel
theorem d_Mem_isSpan_14 : decode b_Mem_isSpan 14 = .ok (.if_icmp .lt 31, 3) := by decide +kernel
theorem d_Mem_isSpan_17 : decode b_Mem_isSpan 17 = .ok (.iload_n 1, 1) := by decide +kernel
theorem d_Mem_isSpan_18 : decode b_Mem_isSpan 18 = .ok (.sipush 1024, 3) := by decide +kernel
theorem d_Mem_isSpan_21 : decode b_Mem_isSpan 21 = .ok (.if_icmp .gt 24, 3) := by decide +kernel
theorem d_Mem_isSpan_24 : decode b_Mem_isSpan 24 = .ok (.iload_n 1, 1) := by decide +kernel
theorem d_Mem_isSpan_25 : decode b_Mem_isSpan 25 = .ok (.bipush 64, 2) := by decide +kernel
theorem d_Mem_isSpan_27 : decode b_Mem_isSpan 27 = .ok (.irem, 1) := by decide +kernel
theorem d_Mem_isSpan_28 : decode b_Mem_isSpan 28 = .ok (.ifCond .ne 17, 3) := by decide +kernel
theorem d_Mem_isSpan_31 : decode b_Mem_isSpan 31 = .ok (.iload_n 0, 1) := by decide +kernel
theorem d_Mem_isSpan_32 : decode b_Mem_isSpan 32 = .ok (.ldc 81, 2) := by decide +kernel
theorem d_Mem_isSpan_34 : decode b_Mem_isSpan 34 = .ok (.iload_n 1, 1) := by decide +kernel
theorem d_Mem_isSpan_35 : decode b_Mem_isSpan 35 = .ok (.iconst 1, 1) := by decide +kernel
theorem d_Mem_isSpan_36 : decode b_Mem_isSpan 36 = .ok (.isub, 1) := by decide +kernel
theorem d_Mem_isSpan_37 : decode b_Mem_isSpan 37 = .ok (.isub, 1) := by decide +kernel
theorem d_Mem_isSpan_38 : decode b_Mem_isSpan 38 = .ok (.if_icmp .gt 7, 3) := by decide +kernel
theorem d_Mem_isSpan_41 : decode b_Mem_isSpan 41 = .ok (.iconst 1, 1) := by decide +kernel
theorem d_Mem_isSpan_42 : decode b_Mem_isSpan 42 = .ok (.goto 4, 3) := by decide +kernel
theorem d_Mem_isSpan_45 : decode b_Mem_isSpan 45 = .ok (.iconst 0, 1) := by decide +kernel
theorem d_Mem_isSpan_46 : decode b_Mem_isSpan 46 = .ok (.ireturn, 1) := by decide +kernel
theorem d_Mem_overlap_0 : decode b_Mem_overlap 0 = .ok (.iload_n 1, 1) := by decide +kernel
theorem d_Mem_overlap_1 : decode b_Mem_overlap 1 = .ok (.ifCond .le 25, 3) := by decide +kernel
theorem d_Mem_overlap_4 : decode b_Mem_overlap 4 = .ok (.iload_n 3, 1) := by decide +kernel
theorem d_Mem_overlap_5 : decode b_Mem_overlap 5 = .ok (.ifCond .le 21, 3) := by decide +kernel
theorem d_Mem_overlap_8 : decode b_Mem_overlap 8 = .ok (.iload_n 0, 1) := by decide +kernel
theorem d_Mem_overlap_9 : decode b_Mem_overlap 9 = .ok (.iload_n 2, 1) := by decide +kernel
theorem d_Mem_overlap_10 : decode b_Mem_overlap 10 = .ok (.isub, 1) := by decide +kernel
theorem d_Mem_overlap_11 : decode b_Mem_overlap 11 = .ok (.iload_n 3, 1) := by decide +kernel
theorem d_Mem_overlap_12 : decode b_Mem_overlap 12 = .ok (.if_icmp .ge 14, 3) := by decide +kernel
theorem d_Mem_overlap_15 : decode b_Mem_overlap 15 = .ok (.iload_n 2, 1) := by decide +kernel
theorem d_Mem_overlap_16 : decode b_Mem_overlap 16 = .ok (.iload_n 0, 1) := by decide +kernel
theorem d_Mem_overlap_17 : decode b_Mem_overlap 17 = .ok (.isub, 1) := by decide +kernel
theorem d_Mem_overlap_18 : decode b_Mem_overlap 18 = .ok (.iload_n 1, 1) := by decide +kernel
theorem d_Mem_overlap_19 : decode b_Mem_overlap 19 = .ok (.if_icmp .ge 7, 3) := by decide +kernel
theorem d_Mem_overlap_22 : decode b_Mem_overlap 22 = .ok (.iconst 1, 1) := by decide +kernel
theorem d_Mem_overlap_23 : decode b_Mem_overlap 23 = .ok (.goto 4, 3) := by decide +kernel
theorem d_Mem_overlap_26 : decode b_Mem_overlap 26 = .ok (.iconst 0, 1) := by decide +kernel
theorem d_Mem_overlap_27 : decode b_Mem_overlap 27 = .ok (.ireturn, 1) := by decide +kernel
theorem d_Arr_fill0_0 : decode b_Arr_fill0 0 = .ok (.iconst 0, 1) := by decide +kernel
theorem d_Arr_fill0_1 : decode b_Arr_fill0 1 = .ok (.istore_n 2, 1) := by decide +kernel
theorem d_Arr_fill0_2 : decode b_Arr_fill0 2 = .ok (.aload_n 0, 1) := by decide +kernel
theorem d_Arr_fill0_3 : decode b_Arr_fill0 3 = .ok (.arraylength, 1) := by decide +kernel
theorem d_Arr_fill0_4 : decode b_Arr_fill0 4 = .ok (.istore_n 3, 1) := by decide +kernel
theorem d_Arr_fill0_5 : decode b_Arr_fill0 5 = .ok (.iload_n 2, 1) := by decide +kernel
theorem d_Arr_fill0_6 : decode b_Arr_fill0 6 = .ok (.iload_n 3, 1) := by decide +kernel
theorem d_Arr_fill0_7 : decode b_Arr_fill0 7 = .ok (.if_icmp .ge 13, 3) := by decide +kernel
theorem d_Arr_fill0_10 : decode b_Arr_fill0 10 = .ok (.aload_n 0, 1) := by decide +kernel
theorem d_Arr_fill0_11 : decode b_Arr_fill0 11 = .ok (.iload_n 2, 1) := by decide +kernel
theorem d_Arr_fill0_12 : decode b_Arr_fill0 12 = .ok (.iload_n 1, 1) := by decide +kernel
theorem d_Arr_fill0_13 : decode b_Arr_fill0 13 = .ok (.bastore, 1) := by decide +kernel
theorem d_Arr_fill0_14 : decode b_Arr_fill0 14 = .ok (.iinc 2 1, 3) := by decide +kernel
theorem d_Arr_fill0_17 : decode b_Arr_fill0 17 = .ok (.goto (-12), 3) := by decide +kernel
theorem d_Arr_fill0_20 : decode b_Arr_fill0 20 = .ok (.return_, 1) := by decide +kernel
theorem d_Arr_fill1_0 : decode b_Arr_fill1 0 = .ok (.iconst 0, 1) := by decide +kernel
theorem d_Arr_fill1_1 : decode b_Arr_fill1 1 = .ok (.istore_n 2, 1) := by decide +kernel
theorem d_Arr_fill1_2 : decode b_Arr_fill1 2 = .ok (.aload_n 0, 1) := by decide +kernel
theorem d_Arr_fill1_3 : decode b_Arr_fill1 3 = .ok (.arraylength, 1) := by decide +kernel
theorem d_Arr_fill1_4 : decode b_Arr_fill1 4 = .ok (.istore_n 3, 1) := by decide +kernel
theorem d_Arr_fill1_5 : decode b_Arr_fill1 5 = .ok (.iload_n 2, 1) := by decide +kernel
theorem d_Arr_fill1_6 : decode b_Arr_fill1 6 = .ok (.iload_n 3, 1) := by decide +kernel
theorem d_Arr_fill1_7 : decode b_Arr_fill1 7 = .ok (.if_icmp .ge 13, 3) := by decide +kernel
theorem d_Arr_fill1_10 : decode b_Arr_fill1 10 = .ok (.aload_n 0, 1) := by decide +kernel
theorem d_Arr_fill1_11 : decode b_Arr_fill1 11 = .ok (.iload_n 2, 1) := by decide +kernel
theorem d_Arr_fill1_12 : decode b_Arr_fill1 12 = .ok (.iload_n 1, 1) := by decide +kernel
theorem d_Arr_fill1_13 : decode b_Arr_fill1 13 = .ok (.iastore, 1) := by decide +kernel
theorem d_Arr_fill1_14 : decode b_Arr_fill1 14 = .ok (.iinc 2 1, 3) := by decide +kernel
theorem d_Arr_fill1_17 : decode b_Arr_fill1 17 = .ok (.goto (-12), 3) := by decide +kernel
theorem d_Arr_fill1_20 : decode b_Arr_fill1 20 = .ok (.return_, 1) := by decide +kernel
end
section
theorem d_Fw_init_0 : decode b_Fw_init 0 = .ok (.aload_n 0, 1) := by decide +kernel
theorem d_Fw_init_1 : decode b_Fw_init 1 = .ok (.invokespecial 3, 3) := by decide +kernel
theorem d_Fw_init_4 : decode b_Fw_init 4 = .ok (.aload_n 0, 1) := by decide +kernel
theorem d_Fw_init_5 : decode b_Fw_init 5 = .ok (.aload_n 1, 1) := by decide +kernel
theorem d_Fw_init_6 : decode b_Fw_init 6 = .ok (.putfield 9, 3) := by decide +kernel
theorem d_Fw_init_9 : decode b_Fw_init 9 = .ok (.aload_n 0, 1) := by decide +kernel
theorem d_Fw_init_10 : decode b_Fw_init 10 = .ok (.aload_n 2, 1) := by decide +kernel
theorem d_Fw_init_11 : decode b_Fw_init 11 = .ok (.putfield 15, 3) := by decide +kernel
theorem d_Fw_init_14 : decode b_Fw_init 14 = .ok (.aload_n 0, 1) := by decide +kernel
theorem d_Fw_init_15 : decode b_Fw_init 15 = .ok (.aload_n 3, 1) := by decide +kernel
theorem d_Fw_init_16 : decode b_Fw_init 16 = .ok (.putfield 19, 3) := by decide +kernel
theorem d_Fw_init_19 : decode b_Fw_init 19 = .ok (.return_, 1) := by decide +kernel
theorem d_Fw_writeFile_0 : decode b_Fw_writeFile 0 = .ok (.aload_n 0, 1) := by decide +kernel
theorem d_Fw_writeFile_1 : decode b_Fw_writeFile 1 = .ok (.getfield 9, 3) := by decide +kernel
theorem d_Fw_writeFile_4 : decode b_Fw_writeFile 4 = .ok (.iconst 0, 1) := by decide +kernel
theorem d_Fw_writeFile_5 : decode b_Fw_writeFile 5 = .ok (.invokevirtual 23, 3) := by decide +kernel
theorem d_Fw_writeFile_8 : decode b_Fw_writeFile 8 = .ok (.pop, 1) := by decide +kernel
theorem d_Fw_writeFile_9 : decode b_Fw_writeFile 9 = .ok (.aload_n 0, 1) := by decide +kernel
theorem d_Fw_writeFile_10 : decode b_Fw_writeFile 10 = .ok (.invokevirtual 29, 3) := by decide +kernel
theorem d_Fw_writeFile_13 : decode b_Fw_writeFile 13 = .ok (.aload_n 0, 1) := by decide +kernel
theorem d_Fw_writeFile_14 : decode b_Fw_writeFile 14 = .ok (.invokevirtual 32, 3) := by decide +kernel
theorem d_Fw_writeFile_17 : decode b_Fw_writeFile 17 = .ok (.iconst 0, 1) := by decide +kernel
theorem d_Fw_writeFile_18 : decode b_Fw_writeFile 18 = .ok (.istore_n 1, 1) := by decide +kernel
theorem d_Fw_writeFile_19 : decode b_Fw_writeFile 19 = .ok (.iload_n 1, 1) := by decide +kernel
theorem d_Fw_writeFile_20 : decode b_Fw_writeFile 20 = .ok (.aload_n 0, 1) := by decide +kernel
theorem d_Fw_writeFile_21 : decode b_Fw_writeFile 21 = .ok (.getfield 19, 3) := by decide +kernel
theorem d_Fw_writeFile_24 : decode b_Fw_writeFile 24 = .ok (.invokevirtual 35, 3) := by decide +kernel
theorem d_Fw_writeFile_27 : decode b_Fw_writeFile 27 = .ok (.if_icmp .ge 14, 3) := by decide +kernel
theorem d_Fw_writeFile_30 : decode b_Fw_writeFile 30 = .ok (.aload_n 0, 1) := by decide +kernel
theorem d_Fw_writeFile_31 : decode b_Fw_writeFile 31 = .ok (.iload_n 1, 1) := by decide +kernel
theorem d_Fw_writeFile_32 : decode b_Fw_writeFile 32 = .ok (.invokevirtual 41, 3) := by decide +kernel
theorem d_Fw_writeFile_35 : decode b_Fw_writeFile 35 = .ok (.iinc 1 1, 3) := by decide +kernel
theorem d_Fw_writeFile_38 : decode b_Fw_writeFile 38 = .ok (.goto (-19), 3) := by decide +kernel
theorem d_Fw_writeFile_41 : decode b_Fw_writeFile 41 = .ok (.iconst 0, 1) := by decide +kernel
theorem d_Fw_writeFile_42 : decode b_Fw_writeFile 42 = .ok (.istore_n 1, 1) := by decide +kernel
theorem d_Fw_writeFile_43 : decode b_Fw_writeFile 43 = .ok (.iload_n 1, 1) := by decide +kernel
theorem d_Fw_writeFile_44 : decode b_Fw_writeFile 44 = .ok (.aload_n 0, 1) := by decide +kernel
theorem d_Fw_writeFile_45 : decode b_Fw_writeFile 45 = .ok (.getfield 15, 3) := by decide +kernel
theorem d_Fw_writeFile_48 : decode b_Fw_writeFile 48 = .ok (.invokevirtual 45, 3) := by decide +kernel
theorem d_Fw_writeFile_51 : decode b_Fw_writeFile 51 = .ok (.if_icmp .ge 37, 3) := by decide +kernel
theorem d_Fw_writeFile_54 : decode b_Fw_writeFile 54 = .ok (.aload_n 0, 1) := by decide +kernel
theorem d_Fw_writeFile_55 : decode b_Fw_writeFile 55 = .ok (.getfield 15, 3) := by decide +kernel
theorem d_Fw_writeFile_58 : decode b_Fw_writeFile 58 = .ok (.iload_n 1, 1) := by decide +kernel
theorem d_Fw_writeFile_59 : decode b_Fw_writeFile 59 = .ok (.invokevirtual 48, 3) := by decide +kernel
theorem d_Fw_writeFile_62 : decode b_Fw_writeFile 62 = .ok (.astore_n 2, 1) := by decide +kernel
theorem d_Fw_writeFile_63 : decode b_Fw_writeFile 63 = .ok (.aload_n 2, 1) := by decide +kernel
theorem d_Fw_writeFile_64 : decode b_Fw_writeFile 64 = .ok (.ifnull 18, 3) := by decide +kernel
theorem d_Fw_writeFile_67 : decode b_Fw_writeFile 67 = .ok (.aload_n 0, 1) := by decide +kernel
theorem d_Fw_writeFile_68 : decode b_Fw_writeFile 68 = .ok (.getfield 9, 3) := by decide +kernel
theorem d_Fw_writeFile_71 : decode b_Fw_writeFile 71 = .ok (.aload_n 2, 1) := by decide +kernel
theorem d_Fw_writeFile_72 : decode b_Fw_writeFile 72 = .ok (.getfield 52, 3) := by decide +kernel
theorem d_Fw_writeFile_75 : decode b_Fw_writeFile 75 = .ok (.aload_n 2, 1) := by decide +kernel
theorem d_Fw_writeFile_76 : decode b_Fw_writeFile 76 = .ok (.invokevirtual 58, 3) := by decide +kernel
theorem d_Fw_writeFile_79 : decode b_Fw_writeFile 79 = .ok (.invokevirtual 61, 3) := by decide +kernel
theorem d_Fw_writeFile_82 : decode b_Fw_writeFile 82 = .ok (.iinc 1 1, 3) := by decide +kernel
theorem d_Fw_writeFile_85 : decode b_Fw_writeFile 85 = .ok (.goto (-42), 3) := by decide +kernel
theorem d_Fw_writeFile_88 : decode b_Fw_writeFile 88 = .ok (.return_, 1) := by decide +kernel
theorem d_Fw_entries_0 : decode b_Fw_entries 0 = .ok (.aload_n 0, 1) := by decide +kernel
theorem d_Fw_entries_1 : decode b_Fw_entries 1 = .ok (.getfield 15, 3) := by decide +kernel
theorem d_Fw_entries_4 : decode b_Fw_entries 4 = .ok (.invokevirtual 45, 3) := by decide +kernel
theorem d_Fw_entries_7 : decode b_Fw_entries 7 = .ok (.iconst 1, 1) := by decide +kernel
theorem d_Fw_entries_8 : decode b_Fw_entries 8 = .ok (.iadd, 1) := by decide +kernel
theorem d_Fw_entries_9 : decode b_Fw_entries 9 = .ok (.ireturn, 1) := by decide +kernel
theorem d_Fw_writeHeader_0 : decode b_Fw_writeHeader 0 = .ok (.iconst 0, 1) := by decide +kernel
theorem d_Fw_writeHeader_1 : decode b_Fw_writeHeader 1 = .ok (.istore_n 1, 1) := by decide +kernel
theorem d_Fw_writeHeader_2 : decode b_Fw_writeHeader 2 = .ok (.iload_n 1, 1) := by decide +kernel
theorem d_Fw_writeHeader_3 : decode b_Fw_writeHeader 3 = .ok (.getstatic 65, 3) := by decide +kernel
theorem d_Fw_writeHeader_6 : decode b_Fw_writeHeader 6 = .ok (.arraylength, 1) := by decide +kernel
theorem d_Fw_writeHeader_7 : decode b_Fw_writeHeader 7 = .ok (.if_icmp .ge 49, 3) := by decide +kernel
theorem d_Fw_writeHeader_10 : decode b_Fw_writeHeader 10 = .ok (.iload_n 1, 1) := by decide +kernel
theorem d_Fw_writeHeader_11 : decode b_Fw_writeHeader 11 = .ok (.getstatic 69, 3) := by decide +kernel
theorem d_Fw_writeHeader_14 : decode b_Fw_writeHeader 14 = .ok (.arraylength, 1) := by decide +kernel
theorem d_Fw_writeHeader_15 : decode b_Fw_writeHeader 15 = .ok (.if_icmp .ge 41, 3) := by decide +kernel
theorem d_Fw_writeHeader_18 : decode b_Fw_writeHeader 18 = .ok (.iload_n 1, 1) := by decide +kernel
theorem d_Fw_writeHeader_19 : decode b_Fw_writeHeader 19 = .ok (.bipush 25, 2) := by decide +kernel
theorem d_Fw_writeHeader_21 : decode b_Fw_writeHeader 21 = .ok (.if_icmp .ne 10, 3) := by decide +kernel
theorem d_Fw_writeHeader_24 : decode b_Fw_writeHeader 24 = .ok (.aload_n 0, 1) := by decide +kernel
theorem d_Fw_writeHeader_25 : decode b_Fw_writeHeader 25 = .ok (.invokevirtual 72, 3) := by decide +kernel
theorem d_Fw_writeHeader_28 : decode b_Fw_writeHeader 28 = .ok (.goto 8, 3) := by decide +kernel
theorem d_Fw_writeHeader_31 : decode b_Fw_writeHeader 31 = .ok (.getstatic 65, 3) := by decide +kernel
theorem d_Fw_writeHeader_34 : decode b_Fw_writeHeader 34 = .ok (.iload_n 1, 1) := by decide +kernel
theorem d_Fw_writeHeader_35 : decode b_Fw_writeHeader 35 = .ok (.iaload, 1) := by decide +kernel
theorem d_Fw_writeHeader_36 : decode b_Fw_writeHeader 36 = .ok (.istore_n 2, 1) := by decide +kernel
theorem d_Fw_writeHeader_37 : decode b_Fw_writeHeader 37 = .ok (.aload_n 0, 1) := by decide +kernel
theorem d_Fw_writeHeader_38 : decode b_Fw_writeHeader 38 = .ok (.getfield 9, 3) := by decide +kernel
theorem d_Fw_writeHeader_41 : decode b_Fw_writeHeader 41 = .ok (.iload_n 2, 1) := by decide +kernel
theorem d_Fw_writeHeader_42 : decode b_Fw_writeHeader 42 = .ok (.getstatic 69, 3) := by decide +kernel
theorem d_Fw_writeHeader_45 : decode b_Fw_writeHeader 45 = .ok (.iload_n 1, 1) := by decide +kernel
theorem d_Fw_writeHeader_46 : decode b_Fw_writeHeader 46 = .ok (.iaload, 1) := by decide +kernel
theorem d_Fw_writeHeader_47 : decode b_Fw_writeHeader 47 = .ok (.invokevirtual 75, 3) := by decide +kernel
theorem d_Fw_writeHeader_50 : decode b_Fw_writeHeader 50 = .ok (.iinc 1 1, 3) := by decide +kernel
theorem d_Fw_writeHeader_53 : decode b_Fw_writeHeader 53 = .ok (.goto (-51), 3) := by decide +kernel
theorem d_Fw_writeHeader_56 : decode b_Fw_writeHeader 56 = .ok (.return_, 1) := by decide +kernel
theorem d_Fw_writeEntries_0 : decode b_Fw_writeEntries 0 = .ok (.bipush 52, 2) := by decide +kernel
theorem d_Fw_writeEntries_2 : decode b_Fw_writeEntries 2 = .ok (.aload_n 0, 1) := by decide +kernel
theorem d_Fw_writeEntries_3 : decode b_Fw_writeEntries 3 = .ok (.invokevirtual 72, 3) := by decide +kernel
theorem d_Fw_writeEntries_6 : decode b_Fw_writeEntries 6 = .ok (.bipush 32, 2) := by decide +kernel
theorem d_Fw_writeEntries_8 : decode b_Fw_writeEntries 8 = .ok (.imul, 1) := by decide +kernel
theorem d_Fw_writeEntries_9 : decode b_Fw_writeEntries 9 = .ok (.iadd, 1) := by decide +kernel
theorem d_Fw_writeEntries_10 : decode b_Fw_writeEntries 10 = .ok (.istore_n 1, 1) := by decide +kernel
theorem d_Fw_writeEntries_11 : decode b_Fw_writeEntries 11 = .ok (.aload_n 0, 1) := by decide +kernel
theorem d_Fw_writeEntries_12 : decode b_Fw_writeEntries 12 = .ok (.getfield 19, 3) := by decide +kernel
theorem d_Fw_writeEntries_15 : decode b_Fw_writeEntries 15 = .ok (.invokevirtual 35, 3) := by decide +kernel
theorem d_Fw_writeEntries_18 : decode b_Fw_writeEntries 18 = .ok (.bipush 56, 2) := by decide +kernel
theorem d_Fw_writeEntries_20 : decode b_Fw_writeEntries 20 = .ok (.imul, 1) := by decide +kernel
theorem d_Fw_writeEntries_21 : decode b_Fw_writeEntries 21 = .ok (.istore_n 2, 1) := by decide +kernel
theorem d_Fw_writeEntries_22 : decode b_Fw_writeEntries 22 = .ok (.aload_n 0, 1) := by decide +kernel
theorem d_Fw_writeEntries_23 : decode b_Fw_writeEntries 23 = .ok (.iload_n 1, 1) := by decide +kernel
theorem d_Fw_writeEntries_24 : decode b_Fw_writeEntries 24 = .ok (.iload_n 2, 1) := by decide +kernel
theorem d_Fw_writeEntries_25 : decode b_Fw_writeEntries 25 = .ok (.invokevirtual 79, 3) := by decide +kernel
theorem d_Fw_writeEntries_28 : decode b_Fw_writeEntries 28 = .ok (.iload_n 1, 1) := by decide +kernel
theorem d_Fw_writeEntries_29 : decode b_Fw_writeEntries 29 = .ok (.iload_n 2, 1) := by decide +kernel
theorem d_Fw_writeEntries_30 : decode b_Fw_writeEntries 30 = .ok (.iadd, 1) := by decide +kernel
theorem d_Fw_writeEntries_31 : decode b_Fw_writeEntries 31 = .ok (.istore_n 1, 1) := by decide +kernel
theorem d_Fw_writeEntries_32 : decode b_Fw_writeEntries 32 = .ok (.iconst 0, 1) := by decide +kernel
theorem d_Fw_writeEntries_33 : decode b_Fw_writeEntries 33 = .ok (.istore_n 3, 1) := by decide +kernel
theorem d_Fw_writeEntries_34 : decode b_Fw_writeEntries 34 = .ok (.iload_n 3, 1) := by decide +kernel
theorem d_Fw_writeEntries_35 : decode b_Fw_writeEntries 35 = .ok (.aload_n 0, 1) := by decide +kernel
theorem d_Fw_writeEntries_36 : decode b_Fw_writeEntries 36 = .ok (.getfield 15, 3) := by decide +kernel
theorem d_Fw_writeEntries_39 : decode b_Fw_writeEntries 39 = .ok (.invokevirtual 45, 3) := by decide +kernel
theorem d_Fw_writeEntries_42 : decode b_Fw_writeEntries 42 = .ok (.if_icmp .ge 45, 3) := by decide +kernel
theorem d_Fw_writeEntries_45 : decode b_Fw_writeEntries 45 = .ok (.aload_n 0, 1) := by decide +kernel
theorem d_Fw_writeEntries_46 : decode b_Fw_writeEntries 46 = .ok (.getfield 15, 3) := by decide +kernel
theorem d_Fw_writeEntries_49 : decode b_Fw_writeEntries 49 = .ok (.iload_n 3, 1) := by decide +kernel
theorem d_Fw_writeEntries_50 : decode b_Fw_writeEntries 50 = .ok (.invokevirtual 48, 3) := by decide +kernel
theorem d_Fw_writeEntries_53 : decode b_Fw_writeEntries 53 = .ok (.astore 4, 2) := by decide +kernel
theorem d_Fw_writeEntries_55 : decode b_Fw_writeEntries 55 = .ok (.aload 4, 2) := by decide +kernel
theorem d_Fw_writeEntries_57 : decode b_Fw_writeEntries 57 = .ok (.ifnull 24, 3) := by decide +kernel
theorem d_Fw_writeEntries_60 : decode b_Fw_writeEntries 60 = .ok (.aload 4, 2) := by decide +kernel
theorem d_Fw_writeEntries_62 : decode b_Fw_writeEntries 62 = .ok (.invokevirtual 58, 3) := by decide +kernel
theorem d_Fw_writeEntries_65 : decode b_Fw_writeEntries 65 = .ok (.istore 5, 2) := by decide +kernel
theorem d_Fw_writeEntries_67 : decode b_Fw_writeEntries 67 = .ok (.aload_n 0, 1) := by decide +kernel
theorem d_Fw_writeEntries_68 : decode b_Fw_writeEntries 68 = .ok (.iload_n 1, 1) := by decide +kernel
theorem d_Fw_writeEntries_69 : decode b_Fw_writeEntries 69 = .ok (.aload 4, 2) := by decide +kernel
theorem d_Fw_writeEntries_71 : decode b_Fw_writeEntries 71 = .ok (.iload 5, 2) := by decide +kernel
theorem d_Fw_writeEntries_73 : decode b_Fw_writeEntries 73 = .ok (.invokevirtual 82, 3) := by decide +kernel
theorem d_Fw_writeEntries_76 : decode b_Fw_writeEntries 76 = .ok (.iload_n 1, 1) := by decide +kernel
theorem d_Fw_writeEntries_77 : decode b_Fw_writeEntries 77 = .ok (.iload 5, 2) := by decide +kernel
theorem d_Fw_writeEntries_79 : decode b_Fw_writeEntries 79 = .ok (.iadd, 1) := by decide +kernel
theorem d_Fw_writeEntries_80 : decode b_Fw_writeEntries 80 = .ok (.istore_n 1, 1) := by decide +kernel
theorem d_Fw_writeEntries_81 : decode b_Fw_writeEntries 81 = .ok (.iinc 3 1, 3) := by decide +kernel
theorem d_Fw_writeEntries_84 : decode b_Fw_writeEntries 84 = .ok (.goto (-50), 3) := by decide +kernel
theorem d_Fw_writeEntries_87 : decode b_Fw_writeEntries 87 = .ok (.return_, 1) := by decide +kernel
theorem d_Fw_writeNotesEntry_0 : decode b_Fw_writeNotesEntry 0 = .ok (.aload_n 0, 1) := by decide +kernel
theorem d_Fw_writeNotesEntry_1 : decode b_Fw_writeNotesEntry 1 = .ok (.iconst 4, 1) := by decide +kernel
theorem d_Fw_writeNotesEntry_2 : decode b_Fw_writeNotesEntry 2 = .ok (.invokevirtual 86, 3) := by decide +kernel
theorem d_Fw_writeNotesEntry_5 : decode b_Fw_writeNotesEntry 5 = .ok (.aload_n 0, 1) := by decide +kernel
theorem d_Fw_writeNotesEntry_6 : decode b_Fw_writeNotesEntry 6 = .ok (.iload_n 1, 1) := by decide +kernel
theorem d_Fw_writeNotesEntry_7 : decode b_Fw_writeNotesEntry 7 = .ok (.invokevirtual 86, 3) := by decide +kernel
theorem d_Fw_writeNotesEntry_10 : decode b_Fw_writeNotesEntry 10 = .ok (.aload_n 0, 1) := by decide +kernel
theorem d_Fw_writeNotesEntry_11 : decode b_Fw_writeNotesEntry 11 = .ok (.iconst 0, 1) := by decide +kernel
theorem d_Fw_writeNotesEntry_12 : decode b_Fw_writeNotesEntry 12 = .ok (.invokevirtual 86, 3) := by decide +kernel
theorem d_Fw_writeNotesEntry_15 : decode b_Fw_writeNotesEntry 15 = .ok (.aload_n 0, 1) := by decide +kernel
theorem d_Fw_writeNotesEntry_16 : decode b_Fw_writeNotesEntry 16 = .ok (.iconst 0, 1) := by decide +kernel
theorem d_Fw_writeNotesEntry_17 : decode b_Fw_writeNotesEntry 17 = .ok (.invokevirtual 86, 3) := by decide +kernel
theorem d_Fw_writeNotesEntry_20 : decode b_Fw_writeNotesEntry 20 = .ok (.aload_n 0, 1) := by decide +kernel
theorem d_Fw_writeNotesEntry_21 : decode b_Fw_writeNotesEntry 21 = .ok (.iload_n 2, 1) := by decide +kernel
theorem d_Fw_writeNotesEntry_22 : decode b_Fw_writeNotesEntry 22 = .ok (.invokevirtual 86, 3) := by decide +kernel
theorem d_Fw_writeNotesEntry_25 : decode b_Fw_writeNotesEntry 25 = .ok (.aload_n 0, 1) := by decide +kernel
theorem d_Fw_writeNotesEntry_26 : decode b_Fw_writeNotesEntry 26 = .ok (.iload_n 2, 1) := by decide +kernel
theorem d_Fw_writeNotesEntry_27 : decode b_Fw_writeNotesEntry 27 = .ok (.invokevirtual 86, 3) := by decide +kernel
theorem d_Fw_writeNotesEntry_30 : decode b_Fw_writeNotesEntry 30 = .ok (.aload_n 0, 1) := by decide +kernel
theorem d_Fw_writeNotesEntry_31 : decode b_Fw_writeNotesEntry 31 = .ok (.iconst 0, 1) := by decide +kernel
theorem d_Fw_writeNotesEntry_32 : decode b_Fw_writeNotesEntry 32 = .ok (.invokevirtual 86, 3) := by decide +kernel
theorem d_Fw_writeNotesEntry_35 : decode b_Fw_writeNotesEntry 35 = .ok (.aload_n 0, 1) := by decide +kernel
theorem d_Fw_writeNotesEntry_36 : decode b_Fw_writeNotesEntry 36 = .ok (.iconst 4, 1) := by decide +kernel
theorem d_Fw_writeNotesEntry_37 : decode b_Fw_writeNotesEntry 37 = .ok (.invokevirtual 86, 3) := by decide +kernel
theorem d_Fw_writeNotesEntry_40 : decode b_Fw_writeNotesEntry 40 = .ok (.return_, 1) := by decide +kernel
theorem d_Fw_writeRegionEntry_0 : decode b_Fw_writeRegionEntry 0 = .ok (.aload_n 0, 1) := by decide +kernel
theorem d_Fw_writeRegionEntry_1 : decode b_Fw_writeRegionEntry 1 = .ok (.iconst 1, 1) := by decide +kernel
theorem d_Fw_writeRegionEntry_2 : decode b_Fw_writeRegionEntry 2 = .ok (.invokevirtual 86, 3) := by decide +kernel
theorem d_Fw_writeRegionEntry_5 : decode b_Fw_writeRegionEntry 5 = .ok (.aload_n 0, 1) := by decide +kernel
theorem d_Fw_writeRegionEntry_6 : decode b_Fw_writeRegionEntry 6 = .ok (.iload_n 1, 1) := by decide +kernel
theorem d_Fw_writeRegionEntry_7 : decode b_Fw_writeRegionEntry 7 = .ok (.invokevirtual 86, 3) := by decide +kernel
theorem d_Fw_writeRegionEntry_10 : decode b_Fw_writeRegionEntry 10 = .ok (.aload_n 0, 1) := by decide +kernel
theorem d_Fw_writeRegionEntry_11 : decode b_Fw_writeRegionEntry 11 = .ok (.aload_n 2, 1) := by decide +kernel
theorem d_Fw_writeRegionEntry_12 : decode b_Fw_writeRegionEntry 12 = .ok (.getfield 89, 3) := by decide +kernel
theorem d_Fw_writeRegionEntry_15 : decode b_Fw_writeRegionEntry 15 = .ok (.invokevirtual 86, 3) := by decide +kernel
theorem d_Fw_writeRegionEntry_18 : decode b_Fw_writeRegionEntry 18 = .ok (.aload_n 0, 1) := by decide +kernel
theorem d_Fw_writeRegionEntry_19 : decode b_Fw_writeRegionEntry 19 = .ok (.iconst 0, 1) := by decide +kernel
theorem d_Fw_writeRegionEntry_20 : decode b_Fw_writeRegionEntry 20 = .ok (.invokevirtual 86, 3) := by decide +kernel
theorem d_Fw_writeRegionEntry_23 : decode b_Fw_writeRegionEntry 23 = .ok (.aload_n 0, 1) := by decide +kernel
theorem d_Fw_writeRegionEntry_24 : decode b_Fw_writeRegionEntry 24 = .ok (.iload_n 3, 1) := by decide +kernel
theorem d_Fw_writeRegionEntry_25 : decode b_Fw_writeRegionEntry 25 = .ok (.invokevirtual 86, 3) := by decide +kernel
theorem d_Fw_writeRegionEntry_28 : decode b_Fw_writeRegionEntry 28 = .ok (.aload_n 0, 1) := by decide +kernel
theorem d_Fw_writeRegionEntry_29 : decode b_Fw_writeRegionEntry 29 = .ok (.aload_n 2, 1) := by decide +kernel
theorem d_Fw_writeRegionEntry_30 : decode b_Fw_writeRegionEntry 30 = .ok (.getfield 93, 3) := by decide +kernel
theorem d_Fw_writeRegionEntry_33 : decode b_Fw_writeRegionEntry 33 = .ok (.invokevirtual 86, 3) := by decide +kernel
theorem d_Fw_writeRegionEntry_36 : decode b_Fw_writeRegionEntry 36 = .ok (.aload_n 0, 1) := by decide +kernel
theorem d_Fw_writeRegionEntry_37 : decode b_Fw_writeRegionEntry 37 = .ok (.aload_n 2, 1) := by decide +kernel
theorem d_Fw_writeRegionEntry_38 : decode b_Fw_writeRegionEntry 38 = .ok (.getfield 96, 3) := by decide +kernel
theorem d_Fw_writeRegionEntry_41 : decode b_Fw_writeRegionEntry 41 = .ok (.invokevirtual 86, 3) := by decide +kernel
theorem d_Fw_writeRegionEntry_44 : decode b_Fw_writeRegionEntry 44 = .ok (.aload_n 0, 1) := by decide +kernel
theorem d_Fw_writeRegionEntry_45 : decode b_Fw_writeRegionEntry 45 = .ok (.bipush 64, 2) := by decide +kernel
theorem d_Fw_writeRegionEntry_47 : decode b_Fw_writeRegionEntry 47 = .ok (.invokevirtual 86, 3) := by decide +kernel
theorem d_Fw_writeRegionEntry_50 : decode b_Fw_writeRegionEntry 50 = .ok (.return_, 1) := by decide +kernel
theorem d_Fw_writeNote_0 : decode b_Fw_writeNote 0 = .ok (.aload_n 0, 1) := by decide +kernel
theorem d_Fw_writeNote_1 : decode b_Fw_writeNote 1 = .ok (.iconst 5, 1) := by decide +kernel
theorem d_Fw_writeNote_2 : decode b_Fw_writeNote 2 = .ok (.invokevirtual 86, 3) := by decide +kernel
theorem d_Fw_writeNote_5 : decode b_Fw_writeNote 5 = .ok (.aload_n 0, 1) := by decide +kernel
theorem d_Fw_writeNote_6 : decode b_Fw_writeNote 6 = .ok (.bipush 36, 2) := by decide +kernel
theorem d_Fw_writeNote_8 : decode b_Fw_writeNote 8 = .ok (.invokevirtual 86, 3) := by decide +kernel
theorem d_Fw_writeNote_11 : decode b_Fw_writeNote 11 = .ok (.aload_n 0, 1) := by decide +kernel
theorem d_Fw_writeNote_12 : decode b_Fw_writeNote 12 = .ok (.iconst 1, 1) := by decide +kernel
theorem d_Fw_writeNote_13 : decode b_Fw_writeNote 13 = .ok (.invokevirtual 86, 3) := by decide +kernel
theorem d_Fw_writeNote_16 : decode b_Fw_writeNote 16 = .ok (.iconst 0, 1) := by decide +kernel
theorem d_Fw_writeNote_17 : decode b_Fw_writeNote 17 = .ok (.istore_n 2, 1) := by decide +kernel
theorem d_Fw_writeNote_18 : decode b_Fw_writeNote 18 = .ok (.iload_n 2, 1) := by decide +kernel
theorem d_Fw_writeNote_19 : decode b_Fw_writeNote 19 = .ok (.getstatic 99, 3) := by decide +kernel
theorem d_Fw_writeNote_22 : decode b_Fw_writeNote 22 = .ok (.arraylength, 1) := by decide +kernel
theorem d_Fw_writeNote_23 : decode b_Fw_writeNote 23 = .ok (.if_icmp .ge 22, 3) := by decide +kernel
theorem d_Fw_writeNote_26 : decode b_Fw_writeNote 26 = .ok (.aload_n 0, 1) := by decide +kernel
theorem d_Fw_writeNote_27 : decode b_Fw_writeNote 27 = .ok (.getfield 9, 3) := by decide +kernel
theorem d_Fw_writeNote_30 : decode b_Fw_writeNote 30 = .ok (.getstatic 99, 3) := by decide +kernel
theorem d_Fw_writeNote_33 : decode b_Fw_writeNote 33 = .ok (.iload_n 2, 1) := by decide +kernel
theorem d_Fw_writeNote_34 : decode b_Fw_writeNote 34 = .ok (.iaload, 1) := by decide +kernel
theorem d_Fw_writeNote_35 : decode b_Fw_writeNote 35 = .ok (.invokevirtual 102, 3) := by decide +kernel
theorem d_Fw_writeNote_38 : decode b_Fw_writeNote 38 = .ok (.pop, 1) := by decide +kernel
theorem d_Fw_writeNote_39 : decode b_Fw_writeNote 39 = .ok (.iinc 2 1, 3) := by decide +kernel
theorem d_Fw_writeNote_42 : decode b_Fw_writeNote 42 = .ok (.goto (-24), 3) := by decide +kernel
theorem d_Fw_writeNote_45 : decode b_Fw_writeNote 45 = .ok (.aload_n 0, 1) := by decide +kernel
theorem d_Fw_writeNote_46 : decode b_Fw_writeNote 46 = .ok (.aload_n 0, 1) := by decide +kernel
theorem d_Fw_writeNote_47 : decode b_Fw_writeNote 47 = .ok (.getfield 19, 3) := by decide +kernel
theorem d_Fw_writeNote_50 : decode b_Fw_writeNote 50 = .ok (.iload_n 1, 1) := by decide +kernel
theorem d_Fw_writeNote_51 : decode b_Fw_writeNote 51 = .ok (.invokevirtual 105, 3) := by decide +kernel
theorem d_Fw_writeNote_54 : decode b_Fw_writeNote 54 = .ok (.invokevirtual 86, 3) := by decide +kernel
theorem d_Fw_writeNote_57 : decode b_Fw_writeNote 57 = .ok (.iconst 0, 1) := by decide +kernel
theorem d_Fw_writeNote_58 : decode b_Fw_writeNote 58 = .ok (.istore_n 2, 1) := by decide +kernel
theorem d_Fw_writeNote_59 : decode b_Fw_writeNote 59 = .ok (.iload_n 2, 1) := by decide +kernel
theorem d_Fw_writeNote_60 : decode b_Fw_writeNote 60 = .ok (.bipush 8, 2) := by decide +kernel
theorem d_Fw_writeNote_62 : decode b_Fw_writeNote 62 = .ok (.if_icmp .ge 22, 3) := by decide +kernel
theorem d_Fw_writeNote_65 : decode b_Fw_writeNote 65 = .ok (.aload_n 0, 1) := by decide +kernel
theorem d_Fw_writeNote_66 : decode b_Fw_writeNote 66 = .ok (.aload_n 0, 1) := by decide +kernel
theorem d_Fw_writeNote_67 : decode b_Fw_writeNote 67 = .ok (.getfield 19, 3) := by decide +kernel
theorem d_Fw_writeNote_70 : decode b_Fw_writeNote 70 = .ok (.iload_n 1, 1) := by decide +kernel
theorem d_Fw_writeNote_71 : decode b_Fw_writeNote 71 = .ok (.iload_n 2, 1) := by decide +kernel
theorem d_Fw_writeNote_72 : decode b_Fw_writeNote 72 = .ok (.invokevirtual 109, 3) := by decide +kernel
theorem d_Fw_writeNote_75 : decode b_Fw_writeNote 75 = .ok (.invokevirtual 86, 3) := by decide +kernel
theorem d_Fw_writeNote_78 : decode b_Fw_writeNote 78 = .ok (.iinc 2 1, 3) := by decide +kernel
theorem d_Fw_writeNote_81 : decode b_Fw_writeNote 81 = .ok (.goto (-22), 3) := by decide +kernel
theorem d_Fw_writeNote_84 : decode b_Fw_writeNote 84 = .ok (.return_, 1) := by decide +kernel
theorem d_Fw_writeFour_0 : decode b_Fw_writeFour 0 = .ok (.aload_n 0, 1) := by decide +kernel
theorem d_Fw_writeFour_1 : decode b_Fw_writeFour 1 = .ok (.getfield 9, 3) := by decide +kernel
theorem d_Fw_writeFour_4 : decode b_Fw_writeFour 4 = .ok (.iload_n 1, 1) := by decide +kernel
theorem d_Fw_writeFour_5 : decode b_Fw_writeFour 5 = .ok (.iconst 4, 1) := by decide +kernel
theorem d_Fw_writeFour_6 : decode b_Fw_writeFour 6 = .ok (.invokevirtual 75, 3) := by decide +kernel
theorem d_Fw_writeFour_9 : decode b_Fw_writeFour 9 = .ok (.return_, 1) := by decide +kernel
theorem d_Tc_init_0 : decode b_Tc_init 0 = .ok (.aload_n 0, 1) := by decide +kernel
theorem d_Tc_init_1 : decode b_Tc_init 1 = .ok (.invokespecial 3, 3) := by decide +kernel
theorem d_Tc_init_4 : decode b_Tc_init 4 = .ok (.aload_n 0, 1) := by decide +kernel
theorem d_Tc_init_5 : decode b_Tc_init 5 = .ok (.aload_n 1, 1) := by decide +kernel
theorem d_Tc_init_6 : decode b_Tc_init 6 = .ok (.putfield 9, 3) := by decide +kernel
theorem d_Tc_init_9 : decode b_Tc_init 9 = .ok (.aload_n 0, 1) := by decide +kernel
theorem d_Tc_init_10 : decode b_Tc_init 10 = .ok (.new 15, 3) := by decide +kernel
theorem d_Tc_init_13 : decode b_Tc_init 13 = .ok (.dup, 1) := by decide +kernel
theorem d_Tc_init_14 : decode b_Tc_init 14 = .ok (.invokespecial 17, 3) := by decide +kernel
theorem d_Tc_init_17 : decode b_Tc_init 17 = .ok (.putfield 18, 3) := by decide +kernel
theorem d_Tc_init_20 : decode b_Tc_init 20 = .ok (.aload_n 0, 1) := by decide +kernel
theorem d_Tc_init_21 : decode b_Tc_init 21 = .ok (.iconst 0, 1) := by decide +kernel
theorem d_Tc_init_22 : decode b_Tc_init 22 = .ok (.putfield 22, 3) := by decide +kernel
theorem d_Tc_init_25 : decode b_Tc_init 25 = .ok (.aload_n 0, 1) := by decide +kernel
theorem d_Tc_init_26 : decode b_Tc_init 26 = .ok (.iconst 0, 1) := by decide +kernel
theorem d_Tc_init_27 : decode b_Tc_init 27 = .ok (.putfield 26, 3) := by decide +kernel
theorem d_Tc_init_30 : decode b_Tc_init 30 = .ok (.return_, 1) := by decide +kernel
theorem d_Tc_wrong_0 : decode b_Tc_wrong 0 = .ok (.aload_n 0, 1) := by decide +kernel
theorem d_Tc_wrong_1 : decode b_Tc_wrong 1 = .ok (.getfield 22, 3) := by decide +kernel
theorem d_Tc_wrong_4 : decode b_Tc_wrong 4 = .ok (.ireturn, 1) := by decide +kernel
theorem d_Tc_place_0 : decode b_Tc_place 0 = .ok (.aload_n 0, 1) := by decide +kernel
theorem d_Tc_place_1 : decode b_Tc_place 1 = .ok (.getfield 26, 3) := by decide +kernel
theorem d_Tc_place_4 : decode b_Tc_place 4 = .ok (.ireturn, 1) := by decide +kernel
theorem d_Tc_threadsFound_0 : decode b_Tc_threadsFound 0 = .ok (.aload_n 0, 1) := by decide +kernel
theorem d_Tc_threadsFound_1 : decode b_Tc_threadsFound 1 = .ok (.getfield 18, 3) := by decide +kernel
theorem d_Tc_threadsFound_4 : decode b_Tc_threadsFound 4 = .ok (.areturn, 1) := by decide +kernel
theorem d_Tc_entries_0 : decode b_Tc_entries 0 = .ok (.aload_n 0, 1) := by decide +kernel
theorem d_Tc_entries_1 : decode b_Tc_entries 1 = .ok (.getfield 9, 3) := by decide +kernel
theorem d_Tc_entries_4 : decode b_Tc_entries 4 = .ok (.bipush 44, 2) := by decide +kernel
theorem d_Tc_entries_6 : decode b_Tc_entries 6 = .ok (.iconst 2, 1) := by decide +kernel
theorem d_Tc_entries_7 : decode b_Tc_entries 7 = .ok (.invokevirtual 29, 3) := by decide +kernel
theorem d_Tc_entries_10 : decode b_Tc_entries 10 = .ok (.ireturn, 1) := by decide +kernel
theorem d_Tc_entryField_0 : decode b_Tc_entryField 0 = .ok (.aload_n 0, 1) := by decide +kernel
theorem d_Tc_entryField_1 : decode b_Tc_entryField 1 = .ok (.getfield 9, 3) := by decide +kernel
theorem d_Tc_entryField_4 : decode b_Tc_entryField 4 = .ok (.aload_n 0, 1) := by decide +kernel
theorem d_Tc_entryField_5 : decode b_Tc_entryField 5 = .ok (.iload_n 1, 1) := by decide +kernel
theorem d_Tc_entryField_6 : decode b_Tc_entryField 6 = .ok (.iload_n 2, 1) := by decide +kernel
theorem d_Tc_entryField_7 : decode b_Tc_entryField 7 = .ok (.invokevirtual 35, 3) := by decide +kernel
theorem d_Tc_entryField_10 : decode b_Tc_entryField 10 = .ok (.iconst 4, 1) := by decide +kernel
theorem d_Tc_entryField_11 : decode b_Tc_entryField 11 = .ok (.invokevirtual 29, 3) := by decide +kernel
theorem d_Tc_entryField_14 : decode b_Tc_entryField 14 = .ok (.ireturn, 1) := by decide +kernel
theorem d_Tc_passes_0 : decode b_Tc_passes 0 = .ok (.aload_n 0, 1) := by decide +kernel
theorem d_Tc_passes_1 : decode b_Tc_passes 1 = .ok (.iconst 0, 1) := by decide +kernel
theorem d_Tc_passes_2 : decode b_Tc_passes 2 = .ok (.putfield 22, 3) := by decide +kernel
theorem d_Tc_passes_5 : decode b_Tc_passes 5 = .ok (.aload_n 0, 1) := by decide +kernel
theorem d_Tc_passes_6 : decode b_Tc_passes 6 = .ok (.iconst 0, 1) := by decide +kernel
theorem d_Tc_passes_7 : decode b_Tc_passes 7 = .ok (.putfield 26, 3) := by decide +kernel
theorem d_Tc_passes_10 : decode b_Tc_passes 10 = .ok (.aload_n 0, 1) := by decide +kernel
theorem d_Tc_passes_11 : decode b_Tc_passes 11 = .ok (.getfield 18, 3) := by decide +kernel
theorem d_Tc_passes_14 : decode b_Tc_passes 14 = .ok (.invokevirtual 38, 3) := by decide +kernel
theorem d_Tc_passes_17 : decode b_Tc_passes 17 = .ok (.aload_n 0, 1) := by decide +kernel
theorem d_Tc_passes_18 : decode b_Tc_passes 18 = .ok (.invokevirtual 41, 3) := by decide +kernel
theorem d_Tc_passes_21 : decode b_Tc_passes 21 = .ok (.ifCond .eq 21, 3) := by decide +kernel
theorem d_Tc_passes_24 : decode b_Tc_passes 24 = .ok (.aload_n 0, 1) := by decide +kernel
theorem d_Tc_passes_25 : decode b_Tc_passes 25 = .ok (.invokevirtual 45, 3) := by decide +kernel
theorem d_Tc_passes_28 : decode b_Tc_passes 28 = .ok (.ifCond .eq 14, 3) := by decide +kernel
theorem d_Tc_passes_31 : decode b_Tc_passes 31 = .ok (.aload_n 0, 1) := by decide +kernel
theorem d_Tc_passes_32 : decode b_Tc_passes 32 = .ok (.invokevirtual 48, 3) := by decide +kernel
theorem d_Tc_passes_35 : decode b_Tc_passes 35 = .ok (.ifCond .eq 7, 3) := by decide +kernel
theorem d_Tc_passes_38 : decode b_Tc_passes 38 = .ok (.iconst 1, 1) := by decide +kernel
theorem d_Tc_passes_39 : decode b_Tc_passes 39 = .ok (.goto 4, 3) := by decide +kernel
theorem d_Tc_passes_42 : decode b_Tc_passes 42 = .ok (.iconst 0, 1) := by decide +kernel
theorem d_Tc_passes_43 : decode b_Tc_passes 43 = .ok (.ireturn, 1) := by decide +kernel
theorem d_Tc_refuse_0 : decode b_Tc_refuse 0 = .ok (.aload_n 0, 1) := by decide +kernel
theorem d_Tc_refuse_1 : decode b_Tc_refuse 1 = .ok (.iload_n 1, 1) := by decide +kernel
theorem d_Tc_refuse_2 : decode b_Tc_refuse 2 = .ok (.putfield 22, 3) := by decide +kernel
theorem d_Tc_refuse_5 : decode b_Tc_refuse 5 = .ok (.aload_n 0, 1) := by decide +kernel
theorem d_Tc_refuse_6 : decode b_Tc_refuse 6 = .ok (.iload_n 2, 1) := by decide +kernel
theorem d_Tc_refuse_7 : decode b_Tc_refuse 7 = .ok (.putfield 26, 3) := by decide +kernel
theorem d_Tc_refuse_10 : decode b_Tc_refuse 10 = .ok (.iconst 0, 1) := by decide +kernel
theorem d_Tc_refuse_11 : decode b_Tc_refuse 11 = .ok (.ireturn, 1) := by decide +kernel
theorem d_Tc_fieldPlace_0 : decode b_Tc_fieldPlace 0 = .ok (.bipush 52, 2) := by decide +kernel
theorem d_Tc_fieldPlace_2 : decode b_Tc_fieldPlace 2 = .ok (.iload_n 1, 1) := by decide +kernel
theorem d_Tc_fieldPlace_3 : decode b_Tc_fieldPlace 3 = .ok (.bipush 32, 2) := by decide +kernel
theorem d_Tc_fieldPlace_5 : decode b_Tc_fieldPlace 5 = .ok (.imul, 1) := by decide +kernel
theorem d_Tc_fieldPlace_6 : decode b_Tc_fieldPlace 6 = .ok (.iadd, 1) := by decide +kernel
theorem d_Tc_fieldPlace_7 : decode b_Tc_fieldPlace 7 = .ok (.iconst 4, 1) := by decide +kernel
theorem d_Tc_fieldPlace_8 : decode b_Tc_fieldPlace 8 = .ok (.iload_n 2, 1) := by decide +kernel
theorem d_Tc_fieldPlace_9 : decode b_Tc_fieldPlace 9 = .ok (.imul, 1) := by decide +kernel
theorem d_Tc_fieldPlace_10 : decode b_Tc_fieldPlace 10 = .ok (.iadd, 1) := by decide +kernel
theorem d_Tc_fieldPlace_11 : decode b_Tc_fieldPlace 11 = .ok (.ireturn, 1) := by decide +kernel
theorem d_Tc_headerPasses_0 : decode b_Tc_headerPasses 0 = .ok (.aload_n 0, 1) := by decide +kernel
theorem d_Tc_headerPasses_1 : decode b_Tc_headerPasses 1 = .ok (.getfield 9, 3) := by decide +kernel
theorem d_Tc_headerPasses_4 : decode b_Tc_headerPasses 4 = .ok (.invokevirtual 51, 3) := by decide +kernel
theorem d_Tc_headerPasses_7 : decode b_Tc_headerPasses 7 = .ok (.bipush 52, 2) := by decide +kernel
theorem d_Tc_headerPasses_9 : decode b_Tc_headerPasses 9 = .ok (.if_icmp .ge 16, 3) := by decide +kernel
theorem d_Tc_headerPasses_12 : decode b_Tc_headerPasses 12 = .ok (.aload_n 0, 1) := by decide +kernel
theorem d_Tc_headerPasses_13 : decode b_Tc_headerPasses 13 = .ok (.iconst 1, 1) := by decide +kernel
theorem d_Tc_headerPasses_14 : decode b_Tc_headerPasses 14 = .ok (.aload_n 0, 1) := by decide +kernel
theorem d_Tc_headerPasses_15 : decode b_Tc_headerPasses 15 = .ok (.getfield 9, 3) := by decide +kernel
theorem d_Tc_headerPasses_18 : decode b_Tc_headerPasses 18 = .ok (.invokevirtual 51, 3) := by decide +kernel
theorem d_Tc_headerPasses_21 : decode b_Tc_headerPasses 21 = .ok (.invokevirtual 55, 3) := by decide +kernel
theorem d_Tc_headerPasses_24 : decode b_Tc_headerPasses 24 = .ok (.ireturn, 1) := by decide +kernel
theorem d_Tc_headerPasses_25 : decode b_Tc_headerPasses 25 = .ok (.iconst 0, 1) := by decide +kernel
theorem d_Tc_headerPasses_26 : decode b_Tc_headerPasses 26 = .ok (.istore_n 1, 1) := by decide +kernel
theorem d_Tc_headerPasses_27 : decode b_Tc_headerPasses 27 = .ok (.iconst 0, 1) := by decide +kernel
theorem d_Tc_headerPasses_28 : decode b_Tc_headerPasses 28 = .ok (.istore_n 2, 1) := by decide +kernel
theorem d_Tc_headerPasses_29 : decode b_Tc_headerPasses 29 = .ok (.iload_n 2, 1) := by decide +kernel
theorem d_Tc_headerPasses_30 : decode b_Tc_headerPasses 30 = .ok (.getstatic 59, 3) := by decide +kernel
theorem d_Tc_headerPasses_33 : decode b_Tc_headerPasses 33 = .ok (.arraylength, 1) := by decide +kernel
theorem d_Tc_headerPasses_34 : decode b_Tc_headerPasses 34 = .ok (.if_icmp .ge 53, 3) := by decide +kernel
theorem d_Tc_headerPasses_37 : decode b_Tc_headerPasses 37 = .ok (.iload_n 2, 1) := by decide +kernel
theorem d_Tc_headerPasses_38 : decode b_Tc_headerPasses 38 = .ok (.getstatic 63, 3) := by decide +kernel
theorem d_Tc_headerPasses_41 : decode b_Tc_headerPasses 41 = .ok (.arraylength, 1) := by decide +kernel
theorem d_Tc_headerPasses_42 : decode b_Tc_headerPasses 42 = .ok (.if_icmp .ge 45, 3) := by decide +kernel
theorem d_Tc_headerPasses_45 : decode b_Tc_headerPasses 45 = .ok (.aload_n 0, 1) := by decide +kernel
theorem d_Tc_headerPasses_46 : decode b_Tc_headerPasses 46 = .ok (.iload_n 2, 1) := by decide +kernel
theorem d_Tc_headerPasses_47 : decode b_Tc_headerPasses 47 = .ok (.aload_n 0, 1) := by decide +kernel
theorem d_Tc_headerPasses_48 : decode b_Tc_headerPasses 48 = .ok (.getfield 9, 3) := by decide +kernel
theorem d_Tc_headerPasses_51 : decode b_Tc_headerPasses 51 = .ok (.iload_n 1, 1) := by decide +kernel
theorem d_Tc_headerPasses_52 : decode b_Tc_headerPasses 52 = .ok (.getstatic 63, 3) := by decide +kernel
theorem d_Tc_headerPasses_55 : decode b_Tc_headerPasses 55 = .ok (.iload_n 2, 1) := by decide +kernel
theorem d_Tc_headerPasses_56 : decode b_Tc_headerPasses 56 = .ok (.iaload, 1) := by decide +kernel
theorem d_Tc_headerPasses_57 : decode b_Tc_headerPasses 57 = .ok (.invokevirtual 29, 3) := by decide +kernel
theorem d_Tc_headerPasses_60 : decode b_Tc_headerPasses 60 = .ok (.invokevirtual 66, 3) := by decide +kernel
theorem d_Tc_headerPasses_63 : decode b_Tc_headerPasses 63 = .ok (.ifCond .ne 10, 3) := by decide +kernel
theorem d_Tc_headerPasses_66 : decode b_Tc_headerPasses 66 = .ok (.aload_n 0, 1) := by decide +kernel
theorem d_Tc_headerPasses_67 : decode b_Tc_headerPasses 67 = .ok (.iconst 2, 1) := by decide +kernel
theorem d_Tc_headerPasses_68 : decode b_Tc_headerPasses 68 = .ok (.iload_n 1, 1) := by decide +kernel
theorem d_Tc_headerPasses_69 : decode b_Tc_headerPasses 69 = .ok (.invokevirtual 55, 3) := by decide +kernel
theorem d_Tc_headerPasses_72 : decode b_Tc_headerPasses 72 = .ok (.ireturn, 1) := by decide +kernel
theorem d_Tc_headerPasses_73 : decode b_Tc_headerPasses 73 = .ok (.iload_n 1, 1) := by decide +kernel
theorem d_Tc_headerPasses_74 : decode b_Tc_headerPasses 74 = .ok (.getstatic 63, 3) := by decide +kernel
theorem d_Tc_headerPasses_77 : decode b_Tc_headerPasses 77 = .ok (.iload_n 2, 1) := by decide +kernel
theorem d_Tc_headerPasses_78 : decode b_Tc_headerPasses 78 = .ok (.iaload, 1) := by decide +kernel
theorem d_Tc_headerPasses_79 : decode b_Tc_headerPasses 79 = .ok (.iadd, 1) := by decide +kernel
theorem d_Tc_headerPasses_80 : decode b_Tc_headerPasses 80 = .ok (.istore_n 1, 1) := by decide +kernel
theorem d_Tc_headerPasses_81 : decode b_Tc_headerPasses 81 = .ok (.iinc 2 1, 3) := by decide +kernel
theorem d_Tc_headerPasses_84 : decode b_Tc_headerPasses 84 = .ok (.goto (-55), 3) := by decide +kernel
theorem d_Tc_headerPasses_87 : decode b_Tc_headerPasses 87 = .ok (.aload_n 0, 1) := by decide +kernel
theorem d_Tc_headerPasses_88 : decode b_Tc_headerPasses 88 = .ok (.aload_n 0, 1) := by decide +kernel
theorem d_Tc_headerPasses_89 : decode b_Tc_headerPasses 89 = .ok (.invokevirtual 69, 3) := by decide +kernel
theorem d_Tc_headerPasses_92 : decode b_Tc_headerPasses 92 = .ok (.iconst 0, 1) := by decide +kernel
theorem d_Tc_headerPasses_93 : decode b_Tc_headerPasses 93 = .ok (.invokevirtual 35, 3) := by decide +kernel
theorem d_Tc_headerPasses_96 : decode b_Tc_headerPasses 96 = .ok (.aload_n 0, 1) := by decide +kernel
theorem d_Tc_headerPasses_97 : decode b_Tc_headerPasses 97 = .ok (.getfield 9, 3) := by decide +kernel
theorem d_Tc_headerPasses_100 : decode b_Tc_headerPasses 100 = .ok (.invokevirtual 51, 3) := by decide +kernel
theorem d_Tc_headerPasses_103 : decode b_Tc_headerPasses 103 = .ok (.if_icmp .le 18, 3) := by decide +kernel
theorem d_Tc_headerPasses_106 : decode b_Tc_headerPasses 106 = .ok (.aload_n 0, 1) := by decide +kernel
theorem d_Tc_headerPasses_107 : decode b_Tc_headerPasses 107 = .ok (.iconst 1, 1) := by decide +kernel
theorem d_Tc_headerPasses_108 : decode b_Tc_headerPasses 108 = .ok (.aload_n 0, 1) := by decide +kernel
theorem d_Tc_headerPasses_109 : decode b_Tc_headerPasses 109 = .ok (.getfield 9, 3) := by decide +kernel
theorem d_Tc_headerPasses_112 : decode b_Tc_headerPasses 112 = .ok (.invokevirtual 51, 3) := by decide +kernel
theorem d_Tc_headerPasses_115 : decode b_Tc_headerPasses 115 = .ok (.invokevirtual 55, 3) := by decide +kernel
theorem d_Tc_headerPasses_118 : decode b_Tc_headerPasses 118 = .ok (.ifCond .eq 7, 3) := by decide +kernel
theorem d_Tc_headerPasses_121 : decode b_Tc_headerPasses 121 = .ok (.iconst 1, 1) := by decide +kernel
theorem d_Tc_headerPasses_122 : decode b_Tc_headerPasses 122 = .ok (.goto 4, 3) := by decide +kernel
theorem d_Tc_headerPasses_125 : decode b_Tc_headerPasses 125 = .ok (.iconst 0, 1) := by decide +kernel
theorem d_Tc_headerPasses_126 : decode b_Tc_headerPasses 126 = .ok (.ireturn, 1) := by decide +kernel
theorem d_Tc_headerFieldFits_0 : decode b_Tc_headerFieldFits 0 = .ok (.iload_n 1, 1) := by decide +kernel
theorem d_Tc_headerFieldFits_1 : decode b_Tc_headerFieldFits 1 = .ok (.bipush 25, 2) := by decide +kernel
theorem d_Tc_headerFieldFits_3 : decode b_Tc_headerFieldFits 3 = .ok (.if_icmp .ne 20, 3) := by decide +kernel
theorem d_Tc_headerFieldFits_6 : decode b_Tc_headerFieldFits 6 = .ok (.iload_n 2, 1) := by decide +kernel
theorem d_Tc_headerFieldFits_7 : decode b_Tc_headerFieldFits 7 = .ok (.iconst 1, 1) := by decide +kernel
theorem d_Tc_headerFieldFits_8 : decode b_Tc_headerFieldFits 8 = .ok (.if_icmp .lt 13, 3) := by decide +kernel
theorem d_Tc_headerFieldFits_11 : decode b_Tc_headerFieldFits 11 = .ok (.iload_n 2, 1) := by decide +kernel
theorem d_Tc_headerFieldFits_12 : decode b_Tc_headerFieldFits 12 = .ok (.bipush 7, 2) := by decide +kernel
theorem d_Tc_headerFieldFits_14 : decode b_Tc_headerFieldFits 14 = .ok (.if_icmp .gt 7, 3) := by decide +kernel
theorem d_Tc_headerFieldFits_17 : decode b_Tc_headerFieldFits 17 = .ok (.iconst 1, 1) := by decide +kernel
theorem d_Tc_headerFieldFits_18 : decode b_Tc_headerFieldFits 18 = .ok (.goto 4, 3) := by decide +kernel
theorem d_Tc_headerFieldFits_21 : decode b_Tc_headerFieldFits 21 = .ok (.iconst 0, 1) := by decide +kernel
theorem d_Tc_headerFieldFits_22 : decode b_Tc_headerFieldFits 22 = .ok (.ireturn, 1) := by decide +kernel
theorem d_Tc_headerFieldFits_23 : decode b_Tc_headerFieldFits 23 = .ok (.iload_n 1, 1) := by decide +kernel
theorem d_Tc_headerFieldFits_24 : decode b_Tc_headerFieldFits 24 = .ok (.ifCond .lt 24, 3) := by decide +kernel
theorem d_Tc_headerFieldFits_27 : decode b_Tc_headerFieldFits 27 = .ok (.iload_n 1, 1) := by decide +kernel
theorem d_Tc_headerFieldFits_28 : decode b_Tc_headerFieldFits 28 = .ok (.getstatic 59, 3) := by decide +kernel
theorem d_Tc_headerFieldFits_31 : decode b_Tc_headerFieldFits 31 = .ok (.arraylength, 1) := by decide +kernel
theorem d_Tc_headerFieldFits_32 : decode b_Tc_headerFieldFits 32 = .ok (.if_icmp .ge 16, 3) := by decide +kernel
theorem d_Tc_headerFieldFits_35 : decode b_Tc_headerFieldFits 35 = .ok (.iload_n 2, 1) := by decide +kernel
theorem d_Tc_headerFieldFits_36 : decode b_Tc_headerFieldFits 36 = .ok (.getstatic 59, 3) := by decide +kernel
theorem d_Tc_headerFieldFits_39 : decode b_Tc_headerFieldFits 39 = .ok (.iload_n 1, 1) := by decide +kernel
theorem d_Tc_headerFieldFits_40 : decode b_Tc_headerFieldFits 40 = .ok (.iaload, 1) := by decide +kernel
theorem d_Tc_headerFieldFits_41 : decode b_Tc_headerFieldFits 41 = .ok (.if_icmp .ne 7, 3) := by decide +kernel
theorem d_Tc_headerFieldFits_44 : decode b_Tc_headerFieldFits 44 = .ok (.iconst 1, 1) := by decide +kernel
theorem d_Tc_headerFieldFits_45 : decode b_Tc_headerFieldFits 45 = .ok (.goto 4, 3) := by decide +kernel
theorem d_Tc_headerFieldFits_48 : decode b_Tc_headerFieldFits 48 = .ok (.iconst 0, 1) := by decide +kernel
theorem d_Tc_headerFieldFits_49 : decode b_Tc_headerFieldFits 49 = .ok (.ireturn, 1) := by decide +kernel
theorem d_Tc_entriesPass_0 : decode b_Tc_entriesPass 0 = .ok (.aload_n 0, 1) := by decide +kernel
theorem d_Tc_entriesPass_1 : decode b_Tc_entriesPass 1 = .ok (.invokevirtual 69, 3) := by decide +kernel
theorem d_Tc_entriesPass_4 : decode b_Tc_entriesPass 4 = .ok (.istore_n 1, 1) := by decide +kernel
theorem d_Tc_entriesPass_5 : decode b_Tc_entriesPass 5 = .ok (.iconst 0, 1) := by decide +kernel
theorem d_Tc_entriesPass_6 : decode b_Tc_entriesPass 6 = .ok (.istore_n 2, 1) := by decide +kernel
theorem d_Tc_entriesPass_7 : decode b_Tc_entriesPass 7 = .ok (.iload_n 2, 1) := by decide +kernel
theorem d_Tc_entriesPass_8 : decode b_Tc_entriesPass 8 = .ok (.iload_n 1, 1) := by decide +kernel
theorem d_Tc_entriesPass_9 : decode b_Tc_entriesPass 9 = .ok (.if_icmp .ge 35, 3) := by decide +kernel
theorem d_Tc_entriesPass_12 : decode b_Tc_entriesPass 12 = .ok (.aload_n 0, 1) := by decide +kernel
theorem d_Tc_entriesPass_13 : decode b_Tc_entriesPass 13 = .ok (.iload_n 2, 1) := by decide +kernel
theorem d_Tc_entriesPass_14 : decode b_Tc_entriesPass 14 = .ok (.invokevirtual 72, 3) := by decide +kernel
theorem d_Tc_entriesPass_17 : decode b_Tc_entriesPass 17 = .ok (.ifCond .eq 19, 3) := by decide +kernel
theorem d_Tc_entriesPass_20 : decode b_Tc_entriesPass 20 = .ok (.aload_n 0, 1) := by decide +kernel
theorem d_Tc_entriesPass_21 : decode b_Tc_entriesPass 21 = .ok (.iload_n 2, 1) := by decide +kernel
theorem d_Tc_entriesPass_22 : decode b_Tc_entriesPass 22 = .ok (.invokevirtual 76, 3) := by decide +kernel
theorem d_Tc_entriesPass_25 : decode b_Tc_entriesPass 25 = .ok (.ifCond .eq 11, 3) := by decide +kernel
theorem d_Tc_entriesPass_28 : decode b_Tc_entriesPass 28 = .ok (.aload_n 0, 1) := by decide +kernel
theorem d_Tc_entriesPass_29 : decode b_Tc_entriesPass 29 = .ok (.iload_n 2, 1) := by decide +kernel
theorem d_Tc_entriesPass_30 : decode b_Tc_entriesPass 30 = .ok (.invokevirtual 79, 3) := by decide +kernel
theorem d_Tc_entriesPass_33 : decode b_Tc_entriesPass 33 = .ok (.ifCond .ne 5, 3) := by decide +kernel
theorem d_Tc_entriesPass_36 : decode b_Tc_entriesPass 36 = .ok (.iconst 0, 1) := by decide +kernel
theorem d_Tc_entriesPass_37 : decode b_Tc_entriesPass 37 = .ok (.ireturn, 1) := by decide +kernel
theorem d_Tc_entriesPass_38 : decode b_Tc_entriesPass 38 = .ok (.iinc 2 1, 3) := by decide +kernel
theorem d_Tc_entriesPass_41 : decode b_Tc_entriesPass 41 = .ok (.goto (-34), 3) := by decide +kernel
theorem d_Tc_entriesPass_44 : decode b_Tc_entriesPass 44 = .ok (.iconst 1, 1) := by decide +kernel
theorem d_Tc_entriesPass_45 : decode b_Tc_entriesPass 45 = .ok (.ireturn, 1) := by decide +kernel
theorem d_Tc_fieldsPass_0 : decode b_Tc_fieldsPass 0 = .ok (.iconst 0, 1) := by decide +kernel
theorem d_Tc_fieldsPass_1 : decode b_Tc_fieldsPass 1 = .ok (.istore_n 2, 1) := by decide +kernel
theorem d_Tc_fieldsPass_2 : decode b_Tc_fieldsPass 2 = .ok (.iload_n 2, 1) := by decide +kernel
theorem d_Tc_fieldsPass_3 : decode b_Tc_fieldsPass 3 = .ok (.bipush 8, 2) := by decide +kernel
theorem d_Tc_fieldsPass_5 : decode b_Tc_fieldsPass 5 = .ok (.if_icmp .ge 55, 3) := by decide +kernel
theorem d_Tc_fieldsPass_8 : decode b_Tc_fieldsPass 8 = .ok (.aload_n 0, 1) := by decide +kernel
theorem d_Tc_fieldsPass_9 : decode b_Tc_fieldsPass 9 = .ok (.iload_n 1, 1) := by decide +kernel
theorem d_Tc_fieldsPass_10 : decode b_Tc_fieldsPass 10 = .ok (.iload_n 2, 1) := by decide +kernel
theorem d_Tc_fieldsPass_11 : decode b_Tc_fieldsPass 11 = .ok (.invokevirtual 82, 3) := by decide +kernel
theorem d_Tc_fieldsPass_14 : decode b_Tc_fieldsPass 14 = .ok (.istore_n 3, 1) := by decide +kernel
theorem d_Tc_fieldsPass_15 : decode b_Tc_fieldsPass 15 = .ok (.iload_n 1, 1) := by decide +kernel
theorem d_Tc_fieldsPass_16 : decode b_Tc_fieldsPass 16 = .ok (.ifCond .ne 12, 3) := by decide +kernel
theorem d_Tc_fieldsPass_19 : decode b_Tc_fieldsPass 19 = .ok (.aload_n 0, 1) := by decide +kernel
theorem d_Tc_fieldsPass_20 : decode b_Tc_fieldsPass 20 = .ok (.iload_n 2, 1) := by decide +kernel
theorem d_Tc_fieldsPass_21 : decode b_Tc_fieldsPass 21 = .ok (.iload_n 3, 1) := by decide +kernel
theorem d_Tc_fieldsPass_22 : decode b_Tc_fieldsPass 22 = .ok (.invokevirtual 85, 3) := by decide +kernel
theorem d_Tc_fieldsPass_25 : decode b_Tc_fieldsPass 25 = .ok (.goto 10, 3) := by decide +kernel
theorem d_Tc_fieldsPass_28 : decode b_Tc_fieldsPass 28 = .ok (.aload_n 0, 1) := by decide +kernel
theorem d_Tc_fieldsPass_29 : decode b_Tc_fieldsPass 29 = .ok (.iload_n 1, 1) := by decide +kernel
theorem d_Tc_fieldsPass_30 : decode b_Tc_fieldsPass 30 = .ok (.iload_n 2, 1) := by decide +kernel
theorem d_Tc_fieldsPass_31 : decode b_Tc_fieldsPass 31 = .ok (.iload_n 3, 1) := by decide +kernel
theorem d_Tc_fieldsPass_32 : decode b_Tc_fieldsPass 32 = .ok (.invokevirtual 88, 3) := by decide +kernel
theorem d_Tc_fieldsPass_35 : decode b_Tc_fieldsPass 35 = .ok (.istore 4, 2) := by decide +kernel
theorem d_Tc_fieldsPass_37 : decode b_Tc_fieldsPass 37 = .ok (.iload 4, 2) := by decide +kernel
theorem d_Tc_fieldsPass_39 : decode b_Tc_fieldsPass 39 = .ok (.ifCond .ne 15, 3) := by decide +kernel
theorem d_Tc_fieldsPass_42 : decode b_Tc_fieldsPass 42 = .ok (.aload_n 0, 1) := by decide +kernel
theorem d_Tc_fieldsPass_43 : decode b_Tc_fieldsPass 43 = .ok (.iconst 3, 1) := by decide +kernel
theorem d_Tc_fieldsPass_44 : decode b_Tc_fieldsPass 44 = .ok (.aload_n 0, 1) := by decide +kernel
theorem d_Tc_fieldsPass_45 : decode b_Tc_fieldsPass 45 = .ok (.iload_n 1, 1) := by decide +kernel
theorem d_Tc_fieldsPass_46 : decode b_Tc_fieldsPass 46 = .ok (.iload_n 2, 1) := by decide +kernel
theorem d_Tc_fieldsPass_47 : decode b_Tc_fieldsPass 47 = .ok (.invokevirtual 35, 3) := by decide +kernel
theorem d_Tc_fieldsPass_50 : decode b_Tc_fieldsPass 50 = .ok (.invokevirtual 55, 3) := by decide +kernel
theorem d_Tc_fieldsPass_53 : decode b_Tc_fieldsPass 53 = .ok (.ireturn, 1) := by decide +kernel
theorem d_Tc_fieldsPass_54 : decode b_Tc_fieldsPass 54 = .ok (.iinc 2 1, 3) := by decide +kernel
theorem d_Tc_fieldsPass_57 : decode b_Tc_fieldsPass 57 = .ok (.goto (-55), 3) := by decide +kernel
theorem d_Tc_fieldsPass_60 : decode b_Tc_fieldsPass 60 = .ok (.iconst 1, 1) := by decide +kernel
theorem d_Tc_fieldsPass_61 : decode b_Tc_fieldsPass 61 = .ok (.ireturn, 1) := by decide +kernel
theorem d_Tc_notesFieldFits_0 : decode b_Tc_notesFieldFits 0 = .ok (.iload_n 1, 1) := by decide +kernel
theorem d_Tc_notesFieldFits_1 : decode b_Tc_notesFieldFits 1 = .ok (.tableswitch 114 0 7 #[47, 58, 114, 114, 77, 87, 114, 103], 47) := by decide +kernel
theorem d_Tc_notesFieldFits_48 : decode b_Tc_notesFieldFits 48 = .ok (.iload_n 2, 1) := by decide +kernel
theorem d_Tc_notesFieldFits_49 : decode b_Tc_notesFieldFits 49 = .ok (.iconst 4, 1) := by decide +kernel
theorem d_Tc_notesFieldFits_50 : decode b_Tc_notesFieldFits 50 = .ok (.if_icmp .ne 7, 3) := by decide +kernel
theorem d_Tc_notesFieldFits_53 : decode b_Tc_notesFieldFits 53 = .ok (.iconst 1, 1) := by decide +kernel
theorem d_Tc_notesFieldFits_54 : decode b_Tc_notesFieldFits 54 = .ok (.goto 4, 3) := by decide +kernel
theorem d_Tc_notesFieldFits_57 : decode b_Tc_notesFieldFits 57 = .ok (.iconst 0, 1) := by decide +kernel
theorem d_Tc_notesFieldFits_58 : decode b_Tc_notesFieldFits 58 = .ok (.ireturn, 1) := by decide +kernel
theorem d_Tc_notesFieldFits_59 : decode b_Tc_notesFieldFits 59 = .ok (.iload_n 2, 1) := by decide +kernel
theorem d_Tc_notesFieldFits_60 : decode b_Tc_notesFieldFits 60 = .ok (.aload_n 0, 1) := by decide +kernel
theorem d_Tc_notesFieldFits_61 : decode b_Tc_notesFieldFits 61 = .ok (.aload_n 0, 1) := by decide +kernel
theorem d_Tc_notesFieldFits_62 : decode b_Tc_notesFieldFits 62 = .ok (.invokevirtual 69, 3) := by decide +kernel
theorem d_Tc_notesFieldFits_65 : decode b_Tc_notesFieldFits 65 = .ok (.iconst 0, 1) := by decide +kernel
theorem d_Tc_notesFieldFits_66 : decode b_Tc_notesFieldFits 66 = .ok (.invokevirtual 35, 3) := by decide +kernel
theorem d_Tc_notesFieldFits_69 : decode b_Tc_notesFieldFits 69 = .ok (.if_icmp .lt 7, 3) := by decide +kernel
theorem d_Tc_notesFieldFits_72 : decode b_Tc_notesFieldFits 72 = .ok (.iconst 1, 1) := by decide +kernel
theorem d_Tc_notesFieldFits_73 : decode b_Tc_notesFieldFits 73 = .ok (.goto 4, 3) := by decide +kernel
theorem d_Tc_notesFieldFits_76 : decode b_Tc_notesFieldFits 76 = .ok (.iconst 0, 1) := by decide +kernel
theorem d_Tc_notesFieldFits_77 : decode b_Tc_notesFieldFits 77 = .ok (.ireturn, 1) := by decide +kernel
theorem d_Tc_notesFieldFits_78 : decode b_Tc_notesFieldFits 78 = .ok (.iload_n 2, 1) := by decide +kernel
theorem d_Tc_notesFieldFits_79 : decode b_Tc_notesFieldFits 79 = .ok (.ifCond .lt 7, 3) := by decide +kernel
theorem d_Tc_notesFieldFits_82 : decode b_Tc_notesFieldFits 82 = .ok (.iconst 1, 1) := by decide +kernel
theorem d_Tc_notesFieldFits_83 : decode b_Tc_notesFieldFits 83 = .ok (.goto 4, 3) := by decide +kernel
theorem d_Tc_notesFieldFits_86 : decode b_Tc_notesFieldFits 86 = .ok (.iconst 0, 1) := by decide +kernel
theorem d_Tc_notesFieldFits_87 : decode b_Tc_notesFieldFits 87 = .ok (.ireturn, 1) := by decide +kernel
theorem d_Tc_notesFieldFits_88 : decode b_Tc_notesFieldFits 88 = .ok (.iload_n 2, 1) := by decide +kernel
theorem d_Tc_notesFieldFits_89 : decode b_Tc_notesFieldFits 89 = .ok (.aload_n 0, 1) := by decide +kernel
theorem d_Tc_notesFieldFits_90 : decode b_Tc_notesFieldFits 90 = .ok (.iconst 0, 1) := by decide +kernel
theorem d_Tc_notesFieldFits_91 : decode b_Tc_notesFieldFits 91 = .ok (.iconst 4, 1) := by decide +kernel
theorem d_Tc_notesFieldFits_92 : decode b_Tc_notesFieldFits 92 = .ok (.invokevirtual 82, 3) := by decide +kernel
theorem d_Tc_notesFieldFits_95 : decode b_Tc_notesFieldFits 95 = .ok (.if_icmp .ne 7, 3) := by decide +kernel
theorem d_Tc_notesFieldFits_98 : decode b_Tc_notesFieldFits 98 = .ok (.iconst 1, 1) := by decide +kernel
theorem d_Tc_notesFieldFits_99 : decode b_Tc_notesFieldFits 99 = .ok (.goto 4, 3) := by decide +kernel
theorem d_Tc_notesFieldFits_102 : decode b_Tc_notesFieldFits 102 = .ok (.iconst 0, 1) := by decide +kernel
theorem d_Tc_notesFieldFits_103 : decode b_Tc_notesFieldFits 103 = .ok (.ireturn, 1) := by decide +kernel
theorem d_Tc_notesFieldFits_104 : decode b_Tc_notesFieldFits 104 = .ok (.iload_n 2, 1) := by decide +kernel
theorem d_Tc_notesFieldFits_105 : decode b_Tc_notesFieldFits 105 = .ok (.iconst 4, 1) := by decide +kernel
theorem d_Tc_notesFieldFits_106 : decode b_Tc_notesFieldFits 106 = .ok (.if_icmp .ne 7, 3) := by decide +kernel
theorem d_Tc_notesFieldFits_109 : decode b_Tc_notesFieldFits 109 = .ok (.iconst 1, 1) := by decide +kernel
theorem d_Tc_notesFieldFits_110 : decode b_Tc_notesFieldFits 110 = .ok (.goto 4, 3) := by decide +kernel
theorem d_Tc_notesFieldFits_113 : decode b_Tc_notesFieldFits 113 = .ok (.iconst 0, 1) := by decide +kernel
theorem d_Tc_notesFieldFits_114 : decode b_Tc_notesFieldFits 114 = .ok (.ireturn, 1) := by decide +kernel
theorem d_Tc_notesFieldFits_115 : decode b_Tc_notesFieldFits 115 = .ok (.iload_n 2, 1) := by decide +kernel
theorem d_Tc_notesFieldFits_116 : decode b_Tc_notesFieldFits 116 = .ok (.ifCond .ne 7, 3) := by decide +kernel
theorem d_Tc_notesFieldFits_119 : decode b_Tc_notesFieldFits 119 = .ok (.iconst 1, 1) := by decide +kernel
theorem d_Tc_notesFieldFits_120 : decode b_Tc_notesFieldFits 120 = .ok (.goto 4, 3) := by decide +kernel
theorem d_Tc_notesFieldFits_123 : decode b_Tc_notesFieldFits 123 = .ok (.iconst 0, 1) := by decide +kernel
theorem d_Tc_notesFieldFits_124 : decode b_Tc_notesFieldFits 124 = .ok (.ireturn, 1) := by decide +kernel
theorem d_Tc_regionFieldFits_0 : decode b_Tc_regionFieldFits 0 = .ok (.iload_n 2, 1) := by decide +kernel
theorem d_Tc_regionFieldFits_1 : decode b_Tc_regionFieldFits 1 = .ok (.tableswitch 169 0 6 #[43, 54, 73, 90, 100, 124, 153], 43) := by decide +kernel
theorem d_Tc_regionFieldFits_44 : decode b_Tc_regionFieldFits 44 = .ok (.iload_n 3, 1) := by decide +kernel
theorem d_Tc_regionFieldFits_45 : decode b_Tc_regionFieldFits 45 = .ok (.iconst 1, 1) := by decide +kernel
theorem d_Tc_regionFieldFits_46 : decode b_Tc_regionFieldFits 46 = .ok (.if_icmp .ne 7, 3) := by decide +kernel
theorem d_Tc_regionFieldFits_49 : decode b_Tc_regionFieldFits 49 = .ok (.iconst 1, 1) := by decide +kernel
theorem d_Tc_regionFieldFits_50 : decode b_Tc_regionFieldFits 50 = .ok (.goto 4, 3) := by decide +kernel
theorem d_Tc_regionFieldFits_53 : decode b_Tc_regionFieldFits 53 = .ok (.iconst 0, 1) := by decide +kernel
theorem d_Tc_regionFieldFits_54 : decode b_Tc_regionFieldFits 54 = .ok (.ireturn, 1) := by decide +kernel
theorem d_Tc_regionFieldFits_55 : decode b_Tc_regionFieldFits 55 = .ok (.iload_n 3, 1) := by decide +kernel
theorem d_Tc_regionFieldFits_56 : decode b_Tc_regionFieldFits 56 = .ok (.aload_n 0, 1) := by decide +kernel
theorem d_Tc_regionFieldFits_57 : decode b_Tc_regionFieldFits 57 = .ok (.aload_n 0, 1) := by decide +kernel
theorem d_Tc_regionFieldFits_58 : decode b_Tc_regionFieldFits 58 = .ok (.invokevirtual 69, 3) := by decide +kernel
theorem d_Tc_regionFieldFits_61 : decode b_Tc_regionFieldFits 61 = .ok (.iconst 0, 1) := by decide +kernel
theorem d_Tc_regionFieldFits_62 : decode b_Tc_regionFieldFits 62 = .ok (.invokevirtual 35, 3) := by decide +kernel
theorem d_Tc_regionFieldFits_65 : decode b_Tc_regionFieldFits 65 = .ok (.if_icmp .lt 7, 3) := by decide +kernel
theorem d_Tc_regionFieldFits_68 : decode b_Tc_regionFieldFits 68 = .ok (.iconst 1, 1) := by decide +kernel
theorem d_Tc_regionFieldFits_69 : decode b_Tc_regionFieldFits 69 = .ok (.goto 4, 3) := by decide +kernel
theorem d_Tc_regionFieldFits_72 : decode b_Tc_regionFieldFits 72 = .ok (.iconst 0, 1) := by decide +kernel
theorem d_Tc_regionFieldFits_73 : decode b_Tc_regionFieldFits 73 = .ok (.ireturn, 1) := by decide +kernel
theorem d_Tc_regionFieldFits_74 : decode b_Tc_regionFieldFits 74 = .ok (.iload_n 3, 1) := by decide +kernel
theorem d_Tc_regionFieldFits_75 : decode b_Tc_regionFieldFits 75 = .ok (.ifCond .lt 14, 3) := by decide +kernel
theorem d_Tc_regionFieldFits_78 : decode b_Tc_regionFieldFits 78 = .ok (.iload_n 3, 1) := by decide +kernel
theorem d_Tc_regionFieldFits_79 : decode b_Tc_regionFieldFits 79 = .ok (.bipush 64, 2) := by decide +kernel
theorem d_Tc_regionFieldFits_81 : decode b_Tc_regionFieldFits 81 = .ok (.irem, 1) := by decide +kernel
theorem d_Tc_regionFieldFits_82 : decode b_Tc_regionFieldFits 82 = .ok (.ifCond .ne 7, 3) := by decide +kernel
theorem d_Tc_regionFieldFits_85 : decode b_Tc_regionFieldFits 85 = .ok (.iconst 1, 1) := by decide +kernel
theorem d_Tc_regionFieldFits_86 : decode b_Tc_regionFieldFits 86 = .ok (.goto 4, 3) := by decide +kernel
theorem d_Tc_regionFieldFits_89 : decode b_Tc_regionFieldFits 89 = .ok (.iconst 0, 1) := by decide +kernel
theorem d_Tc_regionFieldFits_90 : decode b_Tc_regionFieldFits 90 = .ok (.ireturn, 1) := by decide +kernel
theorem d_Tc_regionFieldFits_91 : decode b_Tc_regionFieldFits 91 = .ok (.iload_n 3, 1) := by decide +kernel
theorem d_Tc_regionFieldFits_92 : decode b_Tc_regionFieldFits 92 = .ok (.ifCond .ne 7, 3) := by decide +kernel
theorem d_Tc_regionFieldFits_95 : decode b_Tc_regionFieldFits 95 = .ok (.iconst 1, 1) := by decide +kernel
theorem d_Tc_regionFieldFits_96 : decode b_Tc_regionFieldFits 96 = .ok (.goto 4, 3) := by decide +kernel
theorem d_Tc_regionFieldFits_99 : decode b_Tc_regionFieldFits 99 = .ok (.iconst 0, 1) := by decide +kernel
theorem d_Tc_regionFieldFits_100 : decode b_Tc_regionFieldFits 100 = .ok (.ireturn, 1) := by decide +kernel
theorem d_Tc_regionFieldFits_101 : decode b_Tc_regionFieldFits 101 = .ok (.iload_n 3, 1) := by decide +kernel
theorem d_Tc_regionFieldFits_102 : decode b_Tc_regionFieldFits 102 = .ok (.ifCond .lt 21, 3) := by decide +kernel
theorem d_Tc_regionFieldFits_105 : decode b_Tc_regionFieldFits 105 = .ok (.iload_n 3, 1) := by decide +kernel
theorem d_Tc_regionFieldFits_106 : decode b_Tc_regionFieldFits 106 = .ok (.sipush 1024, 3) := by decide +kernel
theorem d_Tc_regionFieldFits_109 : decode b_Tc_regionFieldFits 109 = .ok (.if_icmp .gt 14, 3) := by decide +kernel
theorem d_Tc_regionFieldFits_112 : decode b_Tc_regionFieldFits 112 = .ok (.iload_n 3, 1) := by decide +kernel
theorem d_Tc_regionFieldFits_113 : decode b_Tc_regionFieldFits 113 = .ok (.bipush 64, 2) := by decide +kernel
theorem d_Tc_regionFieldFits_115 : decode b_Tc_regionFieldFits 115 = .ok (.irem, 1) := by decide +kernel
theorem d_Tc_regionFieldFits_116 : decode b_Tc_regionFieldFits 116 = .ok (.ifCond .ne 7, 3) := by decide +kernel
theorem d_Tc_regionFieldFits_119 : decode b_Tc_regionFieldFits 119 = .ok (.iconst 1, 1) := by decide +kernel
theorem d_Tc_regionFieldFits_120 : decode b_Tc_regionFieldFits 120 = .ok (.goto 4, 3) := by decide +kernel
theorem d_Tc_regionFieldFits_123 : decode b_Tc_regionFieldFits 123 = .ok (.iconst 0, 1) := by decide +kernel
theorem d_Tc_regionFieldFits_124 : decode b_Tc_regionFieldFits 124 = .ok (.ireturn, 1) := by decide +kernel
theorem d_Tc_regionFieldFits_125 : decode b_Tc_regionFieldFits 125 = .ok (.aload_n 0, 1) := by decide +kernel
theorem d_Tc_regionFieldFits_126 : decode b_Tc_regionFieldFits 126 = .ok (.iload_n 1, 1) := by decide +kernel
theorem d_Tc_regionFieldFits_127 : decode b_Tc_regionFieldFits 127 = .ok (.iconst 2, 1) := by decide +kernel
theorem d_Tc_regionFieldFits_128 : decode b_Tc_regionFieldFits 128 = .ok (.invokevirtual 82, 3) := by decide +kernel
theorem d_Tc_regionFieldFits_131 : decode b_Tc_regionFieldFits 131 = .ok (.iload_n 3, 1) := by decide +kernel
theorem d_Tc_regionFieldFits_132 : decode b_Tc_regionFieldFits 132 = .ok (.invokestatic 92, 3) := by decide +kernel
theorem d_Tc_regionFieldFits_135 : decode b_Tc_regionFieldFits 135 = .ok (.ifCond .eq 17, 3) := by decide +kernel
theorem d_Tc_regionFieldFits_138 : decode b_Tc_regionFieldFits 138 = .ok (.iload_n 3, 1) := by decide +kernel
theorem d_Tc_regionFieldFits_139 : decode b_Tc_regionFieldFits 139 = .ok (.aload_n 0, 1) := by decide +kernel
theorem d_Tc_regionFieldFits_140 : decode b_Tc_regionFieldFits 140 = .ok (.iload_n 1, 1) := by decide +kernel
theorem d_Tc_regionFieldFits_141 : decode b_Tc_regionFieldFits 141 = .ok (.iconst 4, 1) := by decide +kernel
theorem d_Tc_regionFieldFits_142 : decode b_Tc_regionFieldFits 142 = .ok (.invokevirtual 82, 3) := by decide +kernel
theorem d_Tc_regionFieldFits_145 : decode b_Tc_regionFieldFits 145 = .ok (.if_icmp .lt 7, 3) := by decide +kernel
theorem d_Tc_regionFieldFits_148 : decode b_Tc_regionFieldFits 148 = .ok (.iconst 1, 1) := by decide +kernel
theorem d_Tc_regionFieldFits_149 : decode b_Tc_regionFieldFits 149 = .ok (.goto 4, 3) := by decide +kernel
theorem d_Tc_regionFieldFits_152 : decode b_Tc_regionFieldFits 152 = .ok (.iconst 0, 1) := by decide +kernel
theorem d_Tc_regionFieldFits_153 : decode b_Tc_regionFieldFits 153 = .ok (.ireturn, 1) := by decide +kernel
theorem d_Tc_regionFieldFits_154 : decode b_Tc_regionFieldFits 154 = .ok (.iload_n 3, 1) := by decide +kernel
theorem d_Tc_regionFieldFits_155 : decode b_Tc_regionFieldFits 155 = .ok (.ifCond .lt 13, 3) := by decide +kernel
theorem d_Tc_regionFieldFits_158 : decode b_Tc_regionFieldFits 158 = .ok (.iload_n 3, 1) := by decide +kernel
theorem d_Tc_regionFieldFits_159 : decode b_Tc_regionFieldFits 159 = .ok (.bipush 7, 2) := by decide +kernel
theorem d_Tc_regionFieldFits_161 : decode b_Tc_regionFieldFits 161 = .ok (.if_icmp .gt 7, 3) := by decide +kernel
theorem d_Tc_regionFieldFits_164 : decode b_Tc_regionFieldFits 164 = .ok (.iconst 1, 1) := by decide +kernel
theorem d_Tc_regionFieldFits_165 : decode b_Tc_regionFieldFits 165 = .ok (.goto 4, 3) := by decide +kernel
theorem d_Tc_regionFieldFits_168 : decode b_Tc_regionFieldFits 168 = .ok (.iconst 0, 1) := by decide +kernel
theorem d_Tc_regionFieldFits_169 : decode b_Tc_regionFieldFits 169 = .ok (.ireturn, 1) := by decide +kernel
theorem d_Tc_regionFieldFits_170 : decode b_Tc_regionFieldFits 170 = .ok (.iload_n 3, 1) := by decide +kernel
theorem d_Tc_regionFieldFits_171 : decode b_Tc_regionFieldFits 171 = .ok (.bipush 64, 2) := by decide +kernel
theorem d_Tc_regionFieldFits_173 : decode b_Tc_regionFieldFits 173 = .ok (.if_icmp .ne 7, 3) := by decide +kernel
theorem d_Tc_regionFieldFits_176 : decode b_Tc_regionFieldFits 176 = .ok (.iconst 1, 1) := by decide +kernel
theorem d_Tc_regionFieldFits_177 : decode b_Tc_regionFieldFits 177 = .ok (.goto 4, 3) := by decide +kernel
theorem d_Tc_regionFieldFits_180 : decode b_Tc_regionFieldFits 180 = .ok (.iconst 0, 1) := by decide +kernel
theorem d_Tc_regionFieldFits_181 : decode b_Tc_regionFieldFits 181 = .ok (.ireturn, 1) := by decide +kernel
theorem d_Tc_bytesPass_0 : decode b_Tc_bytesPass 0 = .ok (.aload_n 0, 1) := by decide +kernel
theorem d_Tc_bytesPass_1 : decode b_Tc_bytesPass 1 = .ok (.iload_n 1, 1) := by decide +kernel
theorem d_Tc_bytesPass_2 : decode b_Tc_bytesPass 2 = .ok (.iconst 1, 1) := by decide +kernel
theorem d_Tc_bytesPass_3 : decode b_Tc_bytesPass 3 = .ok (.invokevirtual 82, 3) := by decide +kernel
theorem d_Tc_bytesPass_6 : decode b_Tc_bytesPass 6 = .ok (.istore_n 2, 1) := by decide +kernel
theorem d_Tc_bytesPass_7 : decode b_Tc_bytesPass 7 = .ok (.aload_n 0, 1) := by decide +kernel
theorem d_Tc_bytesPass_8 : decode b_Tc_bytesPass 8 = .ok (.iload_n 1, 1) := by decide +kernel
theorem d_Tc_bytesPass_9 : decode b_Tc_bytesPass 9 = .ok (.iconst 4, 1) := by decide +kernel
theorem d_Tc_bytesPass_10 : decode b_Tc_bytesPass 10 = .ok (.invokevirtual 82, 3) := by decide +kernel
theorem d_Tc_bytesPass_13 : decode b_Tc_bytesPass 13 = .ok (.istore_n 3, 1) := by decide +kernel
theorem d_Tc_bytesPass_14 : decode b_Tc_bytesPass 14 = .ok (.iload_n 2, 1) := by decide +kernel
theorem d_Tc_bytesPass_15 : decode b_Tc_bytesPass 15 = .ok (.aload_n 0, 1) := by decide +kernel
theorem d_Tc_bytesPass_16 : decode b_Tc_bytesPass 16 = .ok (.getfield 9, 3) := by decide +kernel
theorem d_Tc_bytesPass_19 : decode b_Tc_bytesPass 19 = .ok (.invokevirtual 51, 3) := by decide +kernel
theorem d_Tc_bytesPass_22 : decode b_Tc_bytesPass 22 = .ok (.if_icmp .gt 16, 3) := by decide +kernel
theorem d_Tc_bytesPass_25 : decode b_Tc_bytesPass 25 = .ok (.iload_n 3, 1) := by decide +kernel
theorem d_Tc_bytesPass_26 : decode b_Tc_bytesPass 26 = .ok (.aload_n 0, 1) := by decide +kernel
theorem d_Tc_bytesPass_27 : decode b_Tc_bytesPass 27 = .ok (.getfield 9, 3) := by decide +kernel
theorem d_Tc_bytesPass_30 : decode b_Tc_bytesPass 30 = .ok (.invokevirtual 51, 3) := by decide +kernel
theorem d_Tc_bytesPass_33 : decode b_Tc_bytesPass 33 = .ok (.iload_n 2, 1) := by decide +kernel
theorem d_Tc_bytesPass_34 : decode b_Tc_bytesPass 34 = .ok (.isub, 1) := by decide +kernel
theorem d_Tc_bytesPass_35 : decode b_Tc_bytesPass 35 = .ok (.if_icmp .le 15, 3) := by decide +kernel
theorem d_Tc_bytesPass_38 : decode b_Tc_bytesPass 38 = .ok (.aload_n 0, 1) := by decide +kernel
theorem d_Tc_bytesPass_39 : decode b_Tc_bytesPass 39 = .ok (.iconst 1, 1) := by decide +kernel
theorem d_Tc_bytesPass_40 : decode b_Tc_bytesPass 40 = .ok (.aload_n 0, 1) := by decide +kernel
theorem d_Tc_bytesPass_41 : decode b_Tc_bytesPass 41 = .ok (.iload_n 1, 1) := by decide +kernel
theorem d_Tc_bytesPass_42 : decode b_Tc_bytesPass 42 = .ok (.iconst 1, 1) := by decide +kernel
theorem d_Tc_bytesPass_43 : decode b_Tc_bytesPass 43 = .ok (.invokevirtual 35, 3) := by decide +kernel
theorem d_Tc_bytesPass_46 : decode b_Tc_bytesPass 46 = .ok (.invokevirtual 55, 3) := by decide +kernel
theorem d_Tc_bytesPass_49 : decode b_Tc_bytesPass 49 = .ok (.ireturn, 1) := by decide +kernel
theorem d_Tc_bytesPass_50 : decode b_Tc_bytesPass 50 = .ok (.iconst 0, 1) := by decide +kernel
theorem d_Tc_bytesPass_51 : decode b_Tc_bytesPass 51 = .ok (.istore 4, 2) := by decide +kernel
theorem d_Tc_bytesPass_53 : decode b_Tc_bytesPass 53 = .ok (.iload 4, 2) := by decide +kernel
theorem d_Tc_bytesPass_55 : decode b_Tc_bytesPass 55 = .ok (.iload_n 1, 1) := by decide +kernel
theorem d_Tc_bytesPass_56 : decode b_Tc_bytesPass 56 = .ok (.if_icmp .ge 43, 3) := by decide +kernel
theorem d_Tc_bytesPass_59 : decode b_Tc_bytesPass 59 = .ok (.iload_n 2, 1) := by decide +kernel
theorem d_Tc_bytesPass_60 : decode b_Tc_bytesPass 60 = .ok (.iload_n 3, 1) := by decide +kernel
theorem d_Tc_bytesPass_61 : decode b_Tc_bytesPass 61 = .ok (.aload_n 0, 1) := by decide +kernel
theorem d_Tc_bytesPass_62 : decode b_Tc_bytesPass 62 = .ok (.iload 4, 2) := by decide +kernel
theorem d_Tc_bytesPass_64 : decode b_Tc_bytesPass 64 = .ok (.iconst 1, 1) := by decide +kernel
theorem d_Tc_bytesPass_65 : decode b_Tc_bytesPass 65 = .ok (.invokevirtual 82, 3) := by decide +kernel
theorem d_Tc_bytesPass_68 : decode b_Tc_bytesPass 68 = .ok (.aload_n 0, 1) := by decide +kernel
theorem d_Tc_bytesPass_69 : decode b_Tc_bytesPass 69 = .ok (.iload 4, 2) := by decide +kernel
theorem d_Tc_bytesPass_71 : decode b_Tc_bytesPass 71 = .ok (.iconst 4, 1) := by decide +kernel
theorem d_Tc_bytesPass_72 : decode b_Tc_bytesPass 72 = .ok (.invokevirtual 82, 3) := by decide +kernel
theorem d_Tc_bytesPass_75 : decode b_Tc_bytesPass 75 = .ok (.invokestatic 97, 3) := by decide +kernel
theorem d_Tc_bytesPass_78 : decode b_Tc_bytesPass 78 = .ok (.ifCond .eq 15, 3) := by decide +kernel
theorem d_Tc_bytesPass_81 : decode b_Tc_bytesPass 81 = .ok (.aload_n 0, 1) := by decide +kernel
theorem d_Tc_bytesPass_82 : decode b_Tc_bytesPass 82 = .ok (.iconst 4, 1) := by decide +kernel
theorem d_Tc_bytesPass_83 : decode b_Tc_bytesPass 83 = .ok (.aload_n 0, 1) := by decide +kernel
theorem d_Tc_bytesPass_84 : decode b_Tc_bytesPass 84 = .ok (.iload_n 1, 1) := by decide +kernel
theorem d_Tc_bytesPass_85 : decode b_Tc_bytesPass 85 = .ok (.iconst 1, 1) := by decide +kernel
theorem d_Tc_bytesPass_86 : decode b_Tc_bytesPass 86 = .ok (.invokevirtual 35, 3) := by decide +kernel
theorem d_Tc_bytesPass_89 : decode b_Tc_bytesPass 89 = .ok (.invokevirtual 55, 3) := by decide +kernel
theorem d_Tc_bytesPass_92 : decode b_Tc_bytesPass 92 = .ok (.ireturn, 1) := by decide +kernel
theorem d_Tc_bytesPass_93 : decode b_Tc_bytesPass 93 = .ok (.iinc 4 1, 3) := by decide +kernel
theorem d_Tc_bytesPass_96 : decode b_Tc_bytesPass 96 = .ok (.goto (-43), 3) := by decide +kernel
theorem d_Tc_bytesPass_99 : decode b_Tc_bytesPass 99 = .ok (.iconst 1, 1) := by decide +kernel
theorem d_Tc_bytesPass_100 : decode b_Tc_bytesPass 100 = .ok (.ireturn, 1) := by decide +kernel
theorem d_Tc_addressesPass_0 : decode b_Tc_addressesPass 0 = .ok (.aload_n 0, 1) := by decide +kernel
theorem d_Tc_addressesPass_1 : decode b_Tc_addressesPass 1 = .ok (.iload_n 1, 1) := by decide +kernel
theorem d_Tc_addressesPass_2 : decode b_Tc_addressesPass 2 = .ok (.iconst 2, 1) := by decide +kernel
theorem d_Tc_addressesPass_3 : decode b_Tc_addressesPass 3 = .ok (.invokevirtual 82, 3) := by decide +kernel
theorem d_Tc_addressesPass_6 : decode b_Tc_addressesPass 6 = .ok (.istore_n 2, 1) := by decide +kernel
theorem d_Tc_addressesPass_7 : decode b_Tc_addressesPass 7 = .ok (.aload_n 0, 1) := by decide +kernel
theorem d_Tc_addressesPass_8 : decode b_Tc_addressesPass 8 = .ok (.iload_n 1, 1) := by decide +kernel
theorem d_Tc_addressesPass_9 : decode b_Tc_addressesPass 9 = .ok (.iconst 5, 1) := by decide +kernel
theorem d_Tc_addressesPass_10 : decode b_Tc_addressesPass 10 = .ok (.invokevirtual 82, 3) := by decide +kernel
theorem d_Tc_addressesPass_13 : decode b_Tc_addressesPass 13 = .ok (.istore_n 3, 1) := by decide +kernel
theorem d_Tc_addressesPass_14 : decode b_Tc_addressesPass 14 = .ok (.iconst 1, 1) := by decide +kernel
theorem d_Tc_addressesPass_15 : decode b_Tc_addressesPass 15 = .ok (.istore 4, 2) := by decide +kernel
theorem d_Tc_addressesPass_17 : decode b_Tc_addressesPass 17 = .ok (.iload 4, 2) := by decide +kernel
theorem d_Tc_addressesPass_19 : decode b_Tc_addressesPass 19 = .ok (.iload_n 1, 1) := by decide +kernel
theorem d_Tc_addressesPass_20 : decode b_Tc_addressesPass 20 = .ok (.if_icmp .ge 43, 3) := by decide +kernel
theorem d_Tc_addressesPass_23 : decode b_Tc_addressesPass 23 = .ok (.iload_n 2, 1) := by decide +kernel
theorem d_Tc_addressesPass_24 : decode b_Tc_addressesPass 24 = .ok (.iload_n 3, 1) := by decide +kernel
theorem d_Tc_addressesPass_25 : decode b_Tc_addressesPass 25 = .ok (.aload_n 0, 1) := by decide +kernel
theorem d_Tc_addressesPass_26 : decode b_Tc_addressesPass 26 = .ok (.iload 4, 2) := by decide +kernel
theorem d_Tc_addressesPass_28 : decode b_Tc_addressesPass 28 = .ok (.iconst 2, 1) := by decide +kernel
theorem d_Tc_addressesPass_29 : decode b_Tc_addressesPass 29 = .ok (.invokevirtual 82, 3) := by decide +kernel
theorem d_Tc_addressesPass_32 : decode b_Tc_addressesPass 32 = .ok (.aload_n 0, 1) := by decide +kernel
theorem d_Tc_addressesPass_33 : decode b_Tc_addressesPass 33 = .ok (.iload 4, 2) := by decide +kernel
theorem d_Tc_addressesPass_35 : decode b_Tc_addressesPass 35 = .ok (.iconst 5, 1) := by decide +kernel
theorem d_Tc_addressesPass_36 : decode b_Tc_addressesPass 36 = .ok (.invokevirtual 82, 3) := by decide +kernel
theorem d_Tc_addressesPass_39 : decode b_Tc_addressesPass 39 = .ok (.invokestatic 97, 3) := by decide +kernel
theorem d_Tc_addressesPass_42 : decode b_Tc_addressesPass 42 = .ok (.ifCond .eq 15, 3) := by decide +kernel
theorem d_Tc_addressesPass_45 : decode b_Tc_addressesPass 45 = .ok (.aload_n 0, 1) := by decide +kernel
theorem d_Tc_addressesPass_46 : decode b_Tc_addressesPass 46 = .ok (.iconst 5, 1) := by decide +kernel
theorem d_Tc_addressesPass_47 : decode b_Tc_addressesPass 47 = .ok (.aload_n 0, 1) := by decide +kernel
theorem d_Tc_addressesPass_48 : decode b_Tc_addressesPass 48 = .ok (.iload_n 1, 1) := by decide +kernel
theorem d_Tc_addressesPass_49 : decode b_Tc_addressesPass 49 = .ok (.iconst 2, 1) := by decide +kernel
theorem d_Tc_addressesPass_50 : decode b_Tc_addressesPass 50 = .ok (.invokevirtual 35, 3) := by decide +kernel
theorem d_Tc_addressesPass_53 : decode b_Tc_addressesPass 53 = .ok (.invokevirtual 55, 3) := by decide +kernel
theorem d_Tc_addressesPass_56 : decode b_Tc_addressesPass 56 = .ok (.ireturn, 1) := by decide +kernel
theorem d_Tc_addressesPass_57 : decode b_Tc_addressesPass 57 = .ok (.iinc 4 1, 3) := by decide +kernel
theorem d_Tc_addressesPass_60 : decode b_Tc_addressesPass 60 = .ok (.goto (-43), 3) := by decide +kernel
theorem d_Tc_addressesPass_63 : decode b_Tc_addressesPass 63 = .ok (.iconst 1, 1) := by decide +kernel
theorem d_Tc_addressesPass_64 : decode b_Tc_addressesPass 64 = .ok (.ireturn, 1) := by decide +kernel
theorem d_Tc_notesPass_0 : decode b_Tc_notesPass 0 = .ok (.aload_n 0, 1) := by decide +kernel
theorem d_Tc_notesPass_1 : decode b_Tc_notesPass 1 = .ok (.iconst 0, 1) := by decide +kernel
theorem d_Tc_notesPass_2 : decode b_Tc_notesPass 2 = .ok (.iconst 1, 1) := by decide +kernel
theorem d_Tc_notesPass_3 : decode b_Tc_notesPass 3 = .ok (.invokevirtual 82, 3) := by decide +kernel
theorem d_Tc_notesPass_6 : decode b_Tc_notesPass 6 = .ok (.istore_n 1, 1) := by decide +kernel
theorem d_Tc_notesPass_7 : decode b_Tc_notesPass 7 = .ok (.iload_n 1, 1) := by decide +kernel
theorem d_Tc_notesPass_8 : decode b_Tc_notesPass 8 = .ok (.aload_n 0, 1) := by decide +kernel
theorem d_Tc_notesPass_9 : decode b_Tc_notesPass 9 = .ok (.iconst 0, 1) := by decide +kernel
theorem d_Tc_notesPass_10 : decode b_Tc_notesPass 10 = .ok (.iconst 4, 1) := by decide +kernel
theorem d_Tc_notesPass_11 : decode b_Tc_notesPass 11 = .ok (.invokevirtual 82, 3) := by decide +kernel
theorem d_Tc_notesPass_14 : decode b_Tc_notesPass 14 = .ok (.iadd, 1) := by decide +kernel
theorem d_Tc_notesPass_15 : decode b_Tc_notesPass 15 = .ok (.istore_n 2, 1) := by decide +kernel
theorem d_Tc_notesPass_16 : decode b_Tc_notesPass 16 = .ok (.iconst 0, 1) := by decide +kernel
theorem d_Tc_notesPass_17 : decode b_Tc_notesPass 17 = .ok (.istore_n 3, 1) := by decide +kernel
theorem d_Tc_notesPass_18 : decode b_Tc_notesPass 18 = .ok (.iload_n 3, 1) := by decide +kernel
theorem d_Tc_notesPass_19 : decode b_Tc_notesPass 19 = .ok (.sipush 8192, 3) := by decide +kernel
theorem d_Tc_notesPass_22 : decode b_Tc_notesPass 22 = .ok (.if_icmp .ge 48, 3) := by decide +kernel
theorem d_Tc_notesPass_25 : decode b_Tc_notesPass 25 = .ok (.iload_n 1, 1) := by decide +kernel
theorem d_Tc_notesPass_26 : decode b_Tc_notesPass 26 = .ok (.iload_n 2, 1) := by decide +kernel
theorem d_Tc_notesPass_27 : decode b_Tc_notesPass 27 = .ok (.if_icmp .ge 43, 3) := by decide +kernel
theorem d_Tc_notesPass_30 : decode b_Tc_notesPass 30 = .ok (.aload_n 0, 1) := by decide +kernel
theorem d_Tc_notesPass_31 : decode b_Tc_notesPass 31 = .ok (.iload_n 1, 1) := by decide +kernel
theorem d_Tc_notesPass_32 : decode b_Tc_notesPass 32 = .ok (.iload_n 2, 1) := by decide +kernel
theorem d_Tc_notesPass_33 : decode b_Tc_notesPass 33 = .ok (.invokevirtual 101, 3) := by decide +kernel
theorem d_Tc_notesPass_36 : decode b_Tc_notesPass 36 = .ok (.ifCond .eq 11, 3) := by decide +kernel
theorem d_Tc_notesPass_39 : decode b_Tc_notesPass 39 = .ok (.aload_n 0, 1) := by decide +kernel
theorem d_Tc_notesPass_40 : decode b_Tc_notesPass 40 = .ok (.iload_n 1, 1) := by decide +kernel
theorem d_Tc_notesPass_41 : decode b_Tc_notesPass 41 = .ok (.invokevirtual 104, 3) := by decide +kernel
theorem d_Tc_notesPass_44 : decode b_Tc_notesPass 44 = .ok (.ifCond .ne 5, 3) := by decide +kernel
theorem d_Tc_notesPass_47 : decode b_Tc_notesPass 47 = .ok (.iconst 0, 1) := by decide +kernel
theorem d_Tc_notesPass_48 : decode b_Tc_notesPass 48 = .ok (.ireturn, 1) := by decide +kernel
theorem d_Tc_notesPass_49 : decode b_Tc_notesPass 49 = .ok (.iload_n 1, 1) := by decide +kernel
theorem d_Tc_notesPass_50 : decode b_Tc_notesPass 50 = .ok (.bipush 20, 2) := by decide +kernel
theorem d_Tc_notesPass_52 : decode b_Tc_notesPass 52 = .ok (.aload_n 0, 1) := by decide +kernel
theorem d_Tc_notesPass_53 : decode b_Tc_notesPass 53 = .ok (.aload_n 0, 1) := by decide +kernel
theorem d_Tc_notesPass_54 : decode b_Tc_notesPass 54 = .ok (.iload_n 1, 1) := by decide +kernel
theorem d_Tc_notesPass_55 : decode b_Tc_notesPass 55 = .ok (.invokevirtual 107, 3) := by decide +kernel
theorem d_Tc_notesPass_58 : decode b_Tc_notesPass 58 = .ok (.invokevirtual 111, 3) := by decide +kernel
theorem d_Tc_notesPass_61 : decode b_Tc_notesPass 61 = .ok (.iadd, 1) := by decide +kernel
theorem d_Tc_notesPass_62 : decode b_Tc_notesPass 62 = .ok (.iadd, 1) := by decide +kernel
theorem d_Tc_notesPass_63 : decode b_Tc_notesPass 63 = .ok (.istore_n 1, 1) := by decide +kernel
theorem d_Tc_notesPass_64 : decode b_Tc_notesPass 64 = .ok (.iinc 3 1, 3) := by decide +kernel
theorem d_Tc_notesPass_67 : decode b_Tc_notesPass 67 = .ok (.goto (-49), 3) := by decide +kernel
theorem d_Tc_notesPass_70 : decode b_Tc_notesPass 70 = .ok (.iconst 1, 1) := by decide +kernel
theorem d_Tc_notesPass_71 : decode b_Tc_notesPass 71 = .ok (.ireturn, 1) := by decide +kernel
theorem d_Tc_noteSize_0 : decode b_Tc_noteSize 0 = .ok (.aload_n 0, 1) := by decide +kernel
theorem d_Tc_noteSize_1 : decode b_Tc_noteSize 1 = .ok (.getfield 9, 3) := by decide +kernel
theorem d_Tc_noteSize_4 : decode b_Tc_noteSize 4 = .ok (.iload_n 1, 1) := by decide +kernel
theorem d_Tc_noteSize_5 : decode b_Tc_noteSize 5 = .ok (.iconst 4, 1) := by decide +kernel
theorem d_Tc_noteSize_6 : decode b_Tc_noteSize 6 = .ok (.iadd, 1) := by decide +kernel
theorem d_Tc_noteSize_7 : decode b_Tc_noteSize 7 = .ok (.iconst 4, 1) := by decide +kernel
theorem d_Tc_noteSize_8 : decode b_Tc_noteSize 8 = .ok (.invokevirtual 29, 3) := by decide +kernel
theorem d_Tc_noteSize_11 : decode b_Tc_noteSize 11 = .ok (.ireturn, 1) := by decide +kernel
theorem d_Tc_padded_0 : decode b_Tc_padded 0 = .ok (.iload_n 1, 1) := by decide +kernel
theorem d_Tc_padded_1 : decode b_Tc_padded 1 = .ok (.iconst 3, 1) := by decide +kernel
theorem d_Tc_padded_2 : decode b_Tc_padded 2 = .ok (.iadd, 1) := by decide +kernel
theorem d_Tc_padded_3 : decode b_Tc_padded 3 = .ok (.iconst 4, 1) := by decide +kernel
theorem d_Tc_padded_4 : decode b_Tc_padded 4 = .ok (.idiv, 1) := by decide +kernel
theorem d_Tc_padded_5 : decode b_Tc_padded 5 = .ok (.iconst 4, 1) := by decide +kernel
theorem d_Tc_padded_6 : decode b_Tc_padded 6 = .ok (.imul, 1) := by decide +kernel
theorem d_Tc_padded_7 : decode b_Tc_padded 7 = .ok (.ireturn, 1) := by decide +kernel
theorem d_Tc_noteHeadPasses_0 : decode b_Tc_noteHeadPasses 0 = .ok (.iload_n 2, 1) := by decide +kernel
theorem d_Tc_noteHeadPasses_1 : decode b_Tc_noteHeadPasses 1 = .ok (.iload_n 1, 1) := by decide +kernel
theorem d_Tc_noteHeadPasses_2 : decode b_Tc_noteHeadPasses 2 = .ok (.isub, 1) := by decide +kernel
theorem d_Tc_noteHeadPasses_3 : decode b_Tc_noteHeadPasses 3 = .ok (.bipush 20, 2) := by decide +kernel
theorem d_Tc_noteHeadPasses_5 : decode b_Tc_noteHeadPasses 5 = .ok (.isub, 1) := by decide +kernel
theorem d_Tc_noteHeadPasses_6 : decode b_Tc_noteHeadPasses 6 = .ok (.istore_n 3, 1) := by decide +kernel
theorem d_Tc_noteHeadPasses_7 : decode b_Tc_noteHeadPasses 7 = .ok (.iload_n 3, 1) := by decide +kernel
theorem d_Tc_noteHeadPasses_8 : decode b_Tc_noteHeadPasses 8 = .ok (.ifCond .lt 16, 3) := by decide +kernel
theorem d_Tc_noteHeadPasses_11 : decode b_Tc_noteHeadPasses 11 = .ok (.aload_n 0, 1) := by decide +kernel
theorem d_Tc_noteHeadPasses_12 : decode b_Tc_noteHeadPasses 12 = .ok (.getfield 9, 3) := by decide +kernel
theorem d_Tc_noteHeadPasses_15 : decode b_Tc_noteHeadPasses 15 = .ok (.iload_n 1, 1) := by decide +kernel
theorem d_Tc_noteHeadPasses_16 : decode b_Tc_noteHeadPasses 16 = .ok (.iconst 4, 1) := by decide +kernel
theorem d_Tc_noteHeadPasses_17 : decode b_Tc_noteHeadPasses 17 = .ok (.invokevirtual 29, 3) := by decide +kernel
theorem d_Tc_noteHeadPasses_20 : decode b_Tc_noteHeadPasses 20 = .ok (.iconst 5, 1) := by decide +kernel
theorem d_Tc_noteHeadPasses_21 : decode b_Tc_noteHeadPasses 21 = .ok (.if_icmp .eq 11, 3) := by decide +kernel
theorem d_Tc_noteHeadPasses_24 : decode b_Tc_noteHeadPasses 24 = .ok (.aload_n 0, 1) := by decide +kernel
theorem d_Tc_noteHeadPasses_25 : decode b_Tc_noteHeadPasses 25 = .ok (.bipush 6, 2) := by decide +kernel
theorem d_Tc_noteHeadPasses_27 : decode b_Tc_noteHeadPasses 27 = .ok (.iload_n 1, 1) := by decide +kernel
theorem d_Tc_noteHeadPasses_28 : decode b_Tc_noteHeadPasses 28 = .ok (.invokevirtual 55, 3) := by decide +kernel
theorem d_Tc_noteHeadPasses_31 : decode b_Tc_noteHeadPasses 31 = .ok (.ireturn, 1) := by decide +kernel
theorem d_Tc_noteHeadPasses_32 : decode b_Tc_noteHeadPasses 32 = .ok (.iconst 0, 1) := by decide +kernel
theorem d_Tc_noteHeadPasses_33 : decode b_Tc_noteHeadPasses 33 = .ok (.istore 4, 2) := by decide +kernel
theorem d_Tc_noteHeadPasses_35 : decode b_Tc_noteHeadPasses 35 = .ok (.iload 4, 2) := by decide +kernel
theorem d_Tc_noteHeadPasses_37 : decode b_Tc_noteHeadPasses 37 = .ok (.getstatic 114, 3) := by decide +kernel
theorem d_Tc_noteHeadPasses_40 : decode b_Tc_noteHeadPasses 40 = .ok (.arraylength, 1) := by decide +kernel
theorem d_Tc_noteHeadPasses_41 : decode b_Tc_noteHeadPasses 41 = .ok (.if_icmp .ge 46, 3) := by decide +kernel
theorem d_Tc_noteHeadPasses_44 : decode b_Tc_noteHeadPasses 44 = .ok (.aload_n 0, 1) := by decide +kernel
theorem d_Tc_noteHeadPasses_45 : decode b_Tc_noteHeadPasses 45 = .ok (.getfield 9, 3) := by decide +kernel
theorem d_Tc_noteHeadPasses_48 : decode b_Tc_noteHeadPasses 48 = .ok (.iload_n 1, 1) := by decide +kernel
theorem d_Tc_noteHeadPasses_49 : decode b_Tc_noteHeadPasses 49 = .ok (.bipush 12, 2) := by decide +kernel
theorem d_Tc_noteHeadPasses_51 : decode b_Tc_noteHeadPasses 51 = .ok (.iadd, 1) := by decide +kernel
theorem d_Tc_noteHeadPasses_52 : decode b_Tc_noteHeadPasses 52 = .ok (.iload 4, 2) := by decide +kernel
theorem d_Tc_noteHeadPasses_54 : decode b_Tc_noteHeadPasses 54 = .ok (.iadd, 1) := by decide +kernel
theorem d_Tc_noteHeadPasses_55 : decode b_Tc_noteHeadPasses 55 = .ok (.invokevirtual 117, 3) := by decide +kernel
theorem d_Tc_noteHeadPasses_58 : decode b_Tc_noteHeadPasses 58 = .ok (.getstatic 114, 3) := by decide +kernel
theorem d_Tc_noteHeadPasses_61 : decode b_Tc_noteHeadPasses 61 = .ok (.iload 4, 2) := by decide +kernel
theorem d_Tc_noteHeadPasses_63 : decode b_Tc_noteHeadPasses 63 = .ok (.iaload, 1) := by decide +kernel
theorem d_Tc_noteHeadPasses_64 : decode b_Tc_noteHeadPasses 64 = .ok (.if_icmp .eq 17, 3) := by decide +kernel
theorem d_Tc_noteHeadPasses_67 : decode b_Tc_noteHeadPasses 67 = .ok (.aload_n 0, 1) := by decide +kernel
theorem d_Tc_noteHeadPasses_68 : decode b_Tc_noteHeadPasses 68 = .ok (.bipush 6, 2) := by decide +kernel
theorem d_Tc_noteHeadPasses_70 : decode b_Tc_noteHeadPasses 70 = .ok (.iload_n 1, 1) := by decide +kernel
theorem d_Tc_noteHeadPasses_71 : decode b_Tc_noteHeadPasses 71 = .ok (.bipush 12, 2) := by decide +kernel
theorem d_Tc_noteHeadPasses_73 : decode b_Tc_noteHeadPasses 73 = .ok (.iadd, 1) := by decide +kernel
theorem d_Tc_noteHeadPasses_74 : decode b_Tc_noteHeadPasses 74 = .ok (.iload 4, 2) := by decide +kernel
theorem d_Tc_noteHeadPasses_76 : decode b_Tc_noteHeadPasses 76 = .ok (.iadd, 1) := by decide +kernel
theorem d_Tc_noteHeadPasses_77 : decode b_Tc_noteHeadPasses 77 = .ok (.invokevirtual 55, 3) := by decide +kernel
theorem d_Tc_noteHeadPasses_80 : decode b_Tc_noteHeadPasses 80 = .ok (.ireturn, 1) := by decide +kernel
theorem d_Tc_noteHeadPasses_81 : decode b_Tc_noteHeadPasses 81 = .ok (.iinc 4 1, 3) := by decide +kernel
theorem d_Tc_noteHeadPasses_84 : decode b_Tc_noteHeadPasses 84 = .ok (.goto (-49), 3) := by decide +kernel
theorem d_Tc_noteHeadPasses_87 : decode b_Tc_noteHeadPasses 87 = .ok (.aload_n 0, 1) := by decide +kernel
theorem d_Tc_noteHeadPasses_88 : decode b_Tc_noteHeadPasses 88 = .ok (.iload_n 1, 1) := by decide +kernel
theorem d_Tc_noteHeadPasses_89 : decode b_Tc_noteHeadPasses 89 = .ok (.invokevirtual 107, 3) := by decide +kernel
theorem d_Tc_noteHeadPasses_92 : decode b_Tc_noteHeadPasses 92 = .ok (.istore 4, 2) := by decide +kernel
theorem d_Tc_noteHeadPasses_94 : decode b_Tc_noteHeadPasses 94 = .ok (.iload 4, 2) := by decide +kernel
theorem d_Tc_noteHeadPasses_96 : decode b_Tc_noteHeadPasses 96 = .ok (.ifCond .lt 19, 3) := by decide +kernel
theorem d_Tc_noteHeadPasses_99 : decode b_Tc_noteHeadPasses 99 = .ok (.iload 4, 2) := by decide +kernel
theorem d_Tc_noteHeadPasses_101 : decode b_Tc_noteHeadPasses 101 = .ok (.iload_n 3, 1) := by decide +kernel
theorem d_Tc_noteHeadPasses_102 : decode b_Tc_noteHeadPasses 102 = .ok (.if_icmp .gt 13, 3) := by decide +kernel
theorem d_Tc_noteHeadPasses_105 : decode b_Tc_noteHeadPasses 105 = .ok (.aload_n 0, 1) := by decide +kernel
theorem d_Tc_noteHeadPasses_106 : decode b_Tc_noteHeadPasses 106 = .ok (.iload 4, 2) := by decide +kernel
theorem d_Tc_noteHeadPasses_108 : decode b_Tc_noteHeadPasses 108 = .ok (.invokevirtual 111, 3) := by decide +kernel
theorem d_Tc_noteHeadPasses_111 : decode b_Tc_noteHeadPasses 111 = .ok (.iload_n 3, 1) := by decide +kernel
theorem d_Tc_noteHeadPasses_112 : decode b_Tc_noteHeadPasses 112 = .ok (.if_icmp .le 13, 3) := by decide +kernel
theorem d_Tc_noteHeadPasses_115 : decode b_Tc_noteHeadPasses 115 = .ok (.aload_n 0, 1) := by decide +kernel
theorem d_Tc_noteHeadPasses_116 : decode b_Tc_noteHeadPasses 116 = .ok (.bipush 6, 2) := by decide +kernel
theorem d_Tc_noteHeadPasses_118 : decode b_Tc_noteHeadPasses 118 = .ok (.iload_n 1, 1) := by decide +kernel
theorem d_Tc_noteHeadPasses_119 : decode b_Tc_noteHeadPasses 119 = .ok (.iconst 4, 1) := by decide +kernel
theorem d_Tc_noteHeadPasses_120 : decode b_Tc_noteHeadPasses 120 = .ok (.iadd, 1) := by decide +kernel
theorem d_Tc_noteHeadPasses_121 : decode b_Tc_noteHeadPasses 121 = .ok (.invokevirtual 55, 3) := by decide +kernel
theorem d_Tc_noteHeadPasses_124 : decode b_Tc_noteHeadPasses 124 = .ok (.ireturn, 1) := by decide +kernel
theorem d_Tc_noteHeadPasses_125 : decode b_Tc_noteHeadPasses 125 = .ok (.iconst 1, 1) := by decide +kernel
theorem d_Tc_noteHeadPasses_126 : decode b_Tc_noteHeadPasses 126 = .ok (.ireturn, 1) := by decide +kernel
theorem d_Tc_threadPasses_0 : decode b_Tc_threadPasses 0 = .ok (.aload_n 0, 1) := by decide +kernel
theorem d_Tc_threadPasses_1 : decode b_Tc_threadPasses 1 = .ok (.getfield 9, 3) := by decide +kernel
theorem d_Tc_threadPasses_4 : decode b_Tc_threadPasses 4 = .ok (.iload_n 1, 1) := by decide +kernel
theorem d_Tc_threadPasses_5 : decode b_Tc_threadPasses 5 = .ok (.bipush 8, 2) := by decide +kernel
theorem d_Tc_threadPasses_7 : decode b_Tc_threadPasses 7 = .ok (.iadd, 1) := by decide +kernel
theorem d_Tc_threadPasses_8 : decode b_Tc_threadPasses 8 = .ok (.iconst 4, 1) := by decide +kernel
theorem d_Tc_threadPasses_9 : decode b_Tc_threadPasses 9 = .ok (.invokevirtual 29, 3) := by decide +kernel
theorem d_Tc_threadPasses_12 : decode b_Tc_threadPasses 12 = .ok (.iconst 1, 1) := by decide +kernel
theorem d_Tc_threadPasses_13 : decode b_Tc_threadPasses 13 = .ok (.if_icmp .eq 5, 3) := by decide +kernel
theorem d_Tc_threadPasses_16 : decode b_Tc_threadPasses 16 = .ok (.iconst 1, 1) := by decide +kernel
theorem d_Tc_threadPasses_17 : decode b_Tc_threadPasses 17 = .ok (.ireturn, 1) := by decide +kernel
theorem d_Tc_threadPasses_18 : decode b_Tc_threadPasses 18 = .ok (.aload_n 0, 1) := by decide +kernel
theorem d_Tc_threadPasses_19 : decode b_Tc_threadPasses 19 = .ok (.iload_n 1, 1) := by decide +kernel
theorem d_Tc_threadPasses_20 : decode b_Tc_threadPasses 20 = .ok (.invokevirtual 107, 3) := by decide +kernel
theorem d_Tc_threadPasses_23 : decode b_Tc_threadPasses 23 = .ok (.bipush 36, 2) := by decide +kernel
theorem d_Tc_threadPasses_25 : decode b_Tc_threadPasses 25 = .ok (.if_icmp .eq 13, 3) := by decide +kernel
theorem d_Tc_threadPasses_28 : decode b_Tc_threadPasses 28 = .ok (.aload_n 0, 1) := by decide +kernel
theorem d_Tc_threadPasses_29 : decode b_Tc_threadPasses 29 = .ok (.bipush 6, 2) := by decide +kernel
theorem d_Tc_threadPasses_31 : decode b_Tc_threadPasses 31 = .ok (.iload_n 1, 1) := by decide +kernel
theorem d_Tc_threadPasses_32 : decode b_Tc_threadPasses 32 = .ok (.iconst 4, 1) := by decide +kernel
theorem d_Tc_threadPasses_33 : decode b_Tc_threadPasses 33 = .ok (.iadd, 1) := by decide +kernel
theorem d_Tc_threadPasses_34 : decode b_Tc_threadPasses 34 = .ok (.invokevirtual 55, 3) := by decide +kernel
theorem d_Tc_threadPasses_37 : decode b_Tc_threadPasses 37 = .ok (.ireturn, 1) := by decide +kernel
theorem d_Tc_threadPasses_38 : decode b_Tc_threadPasses 38 = .ok (.iload_n 1, 1) := by decide +kernel
theorem d_Tc_threadPasses_39 : decode b_Tc_threadPasses 39 = .ok (.bipush 20, 2) := by decide +kernel
theorem d_Tc_threadPasses_41 : decode b_Tc_threadPasses 41 = .ok (.iadd, 1) := by decide +kernel
theorem d_Tc_threadPasses_42 : decode b_Tc_threadPasses 42 = .ok (.istore_n 2, 1) := by decide +kernel
theorem d_Tc_threadPasses_43 : decode b_Tc_threadPasses 43 = .ok (.aload_n 0, 1) := by decide +kernel
theorem d_Tc_threadPasses_44 : decode b_Tc_threadPasses 44 = .ok (.getfield 9, 3) := by decide +kernel
theorem d_Tc_threadPasses_47 : decode b_Tc_threadPasses 47 = .ok (.iload_n 2, 1) := by decide +kernel
theorem d_Tc_threadPasses_48 : decode b_Tc_threadPasses 48 = .ok (.iconst 4, 1) := by decide +kernel
theorem d_Tc_threadPasses_49 : decode b_Tc_threadPasses 49 = .ok (.invokevirtual 29, 3) := by decide +kernel
theorem d_Tc_threadPasses_52 : decode b_Tc_threadPasses 52 = .ok (.istore_n 3, 1) := by decide +kernel
theorem d_Tc_threadPasses_53 : decode b_Tc_threadPasses 53 = .ok (.aload_n 0, 1) := by decide +kernel
theorem d_Tc_threadPasses_54 : decode b_Tc_threadPasses 54 = .ok (.getfield 18, 3) := by decide +kernel
theorem d_Tc_threadPasses_57 : decode b_Tc_threadPasses 57 = .ok (.iload_n 3, 1) := by decide +kernel
theorem d_Tc_threadPasses_58 : decode b_Tc_threadPasses 58 = .ok (.invokevirtual 120, 3) := by decide +kernel
theorem d_Tc_threadPasses_61 : decode b_Tc_threadPasses 61 = .ok (.ifCond .eq 11, 3) := by decide +kernel
theorem d_Tc_threadPasses_64 : decode b_Tc_threadPasses 64 = .ok (.aload_n 0, 1) := by decide +kernel
theorem d_Tc_threadPasses_65 : decode b_Tc_threadPasses 65 = .ok (.bipush 6, 2) := by decide +kernel
theorem d_Tc_threadPasses_67 : decode b_Tc_threadPasses 67 = .ok (.iload_n 2, 1) := by decide +kernel
theorem d_Tc_threadPasses_68 : decode b_Tc_threadPasses 68 = .ok (.invokevirtual 55, 3) := by decide +kernel
theorem d_Tc_threadPasses_71 : decode b_Tc_threadPasses 71 = .ok (.ireturn, 1) := by decide +kernel
theorem d_Tc_threadPasses_72 : decode b_Tc_threadPasses 72 = .ok (.aload_n 0, 1) := by decide +kernel
theorem d_Tc_threadPasses_73 : decode b_Tc_threadPasses 73 = .ok (.getfield 18, 3) := by decide +kernel
theorem d_Tc_threadPasses_76 : decode b_Tc_threadPasses 76 = .ok (.iload_n 3, 1) := by decide +kernel
theorem d_Tc_threadPasses_77 : decode b_Tc_threadPasses 77 = .ok (.invokevirtual 123, 3) := by decide +kernel
theorem d_Tc_threadPasses_80 : decode b_Tc_threadPasses 80 = .ok (.istore 4, 2) := by decide +kernel
theorem d_Tc_threadPasses_82 : decode b_Tc_threadPasses 82 = .ok (.iload 4, 2) := by decide +kernel
theorem d_Tc_threadPasses_84 : decode b_Tc_threadPasses 84 = .ok (.iconst (-1), 1) := by decide +kernel
theorem d_Tc_threadPasses_85 : decode b_Tc_threadPasses 85 = .ok (.if_icmp .ne 11, 3) := by decide +kernel
theorem d_Tc_threadPasses_88 : decode b_Tc_threadPasses 88 = .ok (.aload_n 0, 1) := by decide +kernel
theorem d_Tc_threadPasses_89 : decode b_Tc_threadPasses 89 = .ok (.bipush 6, 2) := by decide +kernel
theorem d_Tc_threadPasses_91 : decode b_Tc_threadPasses 91 = .ok (.iload_n 1, 1) := by decide +kernel
theorem d_Tc_threadPasses_92 : decode b_Tc_threadPasses 92 = .ok (.invokevirtual 55, 3) := by decide +kernel
theorem d_Tc_threadPasses_95 : decode b_Tc_threadPasses 95 = .ok (.ireturn, 1) := by decide +kernel
theorem d_Tc_threadPasses_96 : decode b_Tc_threadPasses 96 = .ok (.iconst 0, 1) := by decide +kernel
theorem d_Tc_threadPasses_97 : decode b_Tc_threadPasses 97 = .ok (.istore 5, 2) := by decide +kernel
theorem d_Tc_threadPasses_99 : decode b_Tc_threadPasses 99 = .ok (.iload 5, 2) := by decide +kernel
theorem d_Tc_threadPasses_101 : decode b_Tc_threadPasses 101 = .ok (.bipush 8, 2) := by decide +kernel
theorem d_Tc_threadPasses_103 : decode b_Tc_threadPasses 103 = .ok (.if_icmp .ge 37, 3) := by decide +kernel
theorem d_Tc_threadPasses_106 : decode b_Tc_threadPasses 106 = .ok (.aload_n 0, 1) := by decide +kernel
theorem d_Tc_threadPasses_107 : decode b_Tc_threadPasses 107 = .ok (.getfield 18, 3) := by decide +kernel
theorem d_Tc_threadPasses_110 : decode b_Tc_threadPasses 110 = .ok (.iload 4, 2) := by decide +kernel
theorem d_Tc_threadPasses_112 : decode b_Tc_threadPasses 112 = .ok (.iload 5, 2) := by decide +kernel
theorem d_Tc_threadPasses_114 : decode b_Tc_threadPasses 114 = .ok (.aload_n 0, 1) := by decide +kernel
theorem d_Tc_threadPasses_115 : decode b_Tc_threadPasses 115 = .ok (.getfield 9, 3) := by decide +kernel
theorem d_Tc_threadPasses_118 : decode b_Tc_threadPasses 118 = .ok (.iload_n 2, 1) := by decide +kernel
theorem d_Tc_threadPasses_119 : decode b_Tc_threadPasses 119 = .ok (.iconst 4, 1) := by decide +kernel
theorem d_Tc_threadPasses_120 : decode b_Tc_threadPasses 120 = .ok (.iadd, 1) := by decide +kernel
theorem d_Tc_threadPasses_121 : decode b_Tc_threadPasses 121 = .ok (.iconst 4, 1) := by decide +kernel
theorem d_Tc_threadPasses_122 : decode b_Tc_threadPasses 122 = .ok (.iload 5, 2) := by decide +kernel
theorem d_Tc_threadPasses_124 : decode b_Tc_threadPasses 124 = .ok (.imul, 1) := by decide +kernel
theorem d_Tc_threadPasses_125 : decode b_Tc_threadPasses 125 = .ok (.iadd, 1) := by decide +kernel
theorem d_Tc_threadPasses_126 : decode b_Tc_threadPasses 126 = .ok (.iconst 4, 1) := by decide +kernel
theorem d_Tc_threadPasses_127 : decode b_Tc_threadPasses 127 = .ok (.invokevirtual 29, 3) := by decide +kernel
theorem d_Tc_threadPasses_130 : decode b_Tc_threadPasses 130 = .ok (.invokevirtual 126, 3) := by decide +kernel
theorem d_Tc_threadPasses_133 : decode b_Tc_threadPasses 133 = .ok (.pop, 1) := by decide +kernel
theorem d_Tc_threadPasses_134 : decode b_Tc_threadPasses 134 = .ok (.iinc 5 1, 3) := by decide +kernel
theorem d_Tc_threadPasses_137 : decode b_Tc_threadPasses 137 = .ok (.goto (-38), 3) := by decide +kernel
theorem d_Tc_threadPasses_140 : decode b_Tc_threadPasses 140 = .ok (.iconst 1, 1) := by decide +kernel
theorem d_Tc_threadPasses_141 : decode b_Tc_threadPasses 141 = .ok (.ireturn, 1) := by decide +kernel
theorem d_Desk_init_0 : decode b_Desk_init 0 = .ok (.aload_n 0, 1) := by decide +kernel
theorem d_Desk_init_1 : decode b_Desk_init 1 = .ok (.invokespecial 1, 3) := by decide +kernel
theorem d_Desk_init_4 : decode b_Desk_init 4 = .ok (.aload_n 0, 1) := by decide +kernel
theorem d_Desk_init_5 : decode b_Desk_init 5 = .ok (.new 7, 3) := by decide +kernel
theorem d_Desk_init_8 : decode b_Desk_init 8 = .ok (.dup, 1) := by decide +kernel
theorem d_Desk_init_9 : decode b_Desk_init 9 = .ok (.invokespecial 9, 3) := by decide +kernel
theorem d_Desk_init_12 : decode b_Desk_init 12 = .ok (.putfield 10, 3) := by decide +kernel
theorem d_Desk_init_15 : decode b_Desk_init 15 = .ok (.aload_n 0, 1) := by decide +kernel
theorem d_Desk_init_16 : decode b_Desk_init 16 = .ok (.new 16, 3) := by decide +kernel
theorem d_Desk_init_19 : decode b_Desk_init 19 = .ok (.dup, 1) := by decide +kernel
theorem d_Desk_init_20 : decode b_Desk_init 20 = .ok (.invokespecial 18, 3) := by decide +kernel
theorem d_Desk_init_23 : decode b_Desk_init 23 = .ok (.putfield 19, 3) := by decide +kernel
theorem d_Desk_init_26 : decode b_Desk_init 26 = .ok (.aload_n 0, 1) := by decide +kernel
theorem d_Desk_init_27 : decode b_Desk_init 27 = .ok (.new 23, 3) := by decide +kernel
theorem d_Desk_init_30 : decode b_Desk_init 30 = .ok (.dup, 1) := by decide +kernel
theorem d_Desk_init_31 : decode b_Desk_init 31 = .ok (.sipush 6588, 3) := by decide +kernel
theorem d_Desk_init_34 : decode b_Desk_init 34 = .ok (.invokespecial 25, 3) := by decide +kernel
theorem d_Desk_init_37 : decode b_Desk_init 37 = .ok (.putfield 28, 3) := by decide +kernel
theorem d_Desk_init_40 : decode b_Desk_init 40 = .ok (.aload_n 0, 1) := by decide +kernel
theorem d_Desk_init_41 : decode b_Desk_init 41 = .ok (.new 32, 3) := by decide +kernel
theorem d_Desk_init_44 : decode b_Desk_init 44 = .ok (.dup, 1) := by decide +kernel
theorem d_Desk_init_45 : decode b_Desk_init 45 = .ok (.aload_n 0, 1) := by decide +kernel
theorem d_Desk_init_46 : decode b_Desk_init 46 = .ok (.getfield 28, 3) := by decide +kernel
theorem d_Desk_init_49 : decode b_Desk_init 49 = .ok (.aload_n 0, 1) := by decide +kernel
theorem d_Desk_init_50 : decode b_Desk_init 50 = .ok (.getfield 10, 3) := by decide +kernel
theorem d_Desk_init_53 : decode b_Desk_init 53 = .ok (.aload_n 0, 1) := by decide +kernel
theorem d_Desk_init_54 : decode b_Desk_init 54 = .ok (.getfield 19, 3) := by decide +kernel
theorem d_Desk_init_57 : decode b_Desk_init 57 = .ok (.invokespecial 34, 3) := by decide +kernel
theorem d_Desk_init_60 : decode b_Desk_init 60 = .ok (.putfield 37, 3) := by decide +kernel
theorem d_Desk_init_63 : decode b_Desk_init 63 = .ok (.aload_n 0, 1) := by decide +kernel
theorem d_Desk_init_64 : decode b_Desk_init 64 = .ok (.new 23, 3) := by decide +kernel
theorem d_Desk_init_67 : decode b_Desk_init 67 = .ok (.dup, 1) := by decide +kernel
theorem d_Desk_init_68 : decode b_Desk_init 68 = .ok (.sipush 8192, 3) := by decide +kernel
theorem d_Desk_init_71 : decode b_Desk_init 71 = .ok (.invokespecial 25, 3) := by decide +kernel
theorem d_Desk_init_74 : decode b_Desk_init 74 = .ok (.putfield 41, 3) := by decide +kernel
theorem d_Desk_init_77 : decode b_Desk_init 77 = .ok (.aload_n 0, 1) := by decide +kernel
theorem d_Desk_init_78 : decode b_Desk_init 78 = .ok (.new 44, 3) := by decide +kernel
theorem d_Desk_init_81 : decode b_Desk_init 81 = .ok (.dup, 1) := by decide +kernel
theorem d_Desk_init_82 : decode b_Desk_init 82 = .ok (.aload_n 0, 1) := by decide +kernel
theorem d_Desk_init_83 : decode b_Desk_init 83 = .ok (.getfield 41, 3) := by decide +kernel
theorem d_Desk_init_86 : decode b_Desk_init 86 = .ok (.invokespecial 46, 3) := by decide +kernel
theorem d_Desk_init_89 : decode b_Desk_init 89 = .ok (.putfield 49, 3) := by decide +kernel
theorem d_Desk_init_92 : decode b_Desk_init 92 = .ok (.aload_n 0, 1) := by decide +kernel
theorem d_Desk_init_93 : decode b_Desk_init 93 = .ok (.new 7, 3) := by decide +kernel
theorem d_Desk_init_96 : decode b_Desk_init 96 = .ok (.dup, 1) := by decide +kernel
theorem d_Desk_init_97 : decode b_Desk_init 97 = .ok (.invokespecial 9, 3) := by decide +kernel
theorem d_Desk_init_100 : decode b_Desk_init 100 = .ok (.putfield 53, 3) := by decide +kernel
theorem d_Desk_init_103 : decode b_Desk_init 103 = .ok (.aload_n 0, 1) := by decide +kernel
theorem d_Desk_init_104 : decode b_Desk_init 104 = .ok (.new 16, 3) := by decide +kernel
theorem d_Desk_init_107 : decode b_Desk_init 107 = .ok (.dup, 1) := by decide +kernel
theorem d_Desk_init_108 : decode b_Desk_init 108 = .ok (.invokespecial 18, 3) := by decide +kernel
theorem d_Desk_init_111 : decode b_Desk_init 111 = .ok (.putfield 56, 3) := by decide +kernel
theorem d_Desk_init_114 : decode b_Desk_init 114 = .ok (.aload_n 0, 1) := by decide +kernel
theorem d_Desk_init_115 : decode b_Desk_init 115 = .ok (.iconst 0, 1) := by decide +kernel
theorem d_Desk_init_116 : decode b_Desk_init 116 = .ok (.putfield 59, 3) := by decide +kernel
theorem d_Desk_init_119 : decode b_Desk_init 119 = .ok (.return_, 1) := by decide +kernel
theorem d_Desk_map_0 : decode b_Desk_map 0 = .ok (.iload_n 2, 1) := by decide +kernel
theorem d_Desk_map_1 : decode b_Desk_map 1 = .ok (.iconst 1, 1) := by decide +kernel
theorem d_Desk_map_2 : decode b_Desk_map 2 = .ok (.if_icmp .lt 9, 3) := by decide +kernel
theorem d_Desk_map_5 : decode b_Desk_map 5 = .ok (.iload_n 2, 1) := by decide +kernel
theorem d_Desk_map_6 : decode b_Desk_map 6 = .ok (.bipush 16, 2) := by decide +kernel
theorem d_Desk_map_8 : decode b_Desk_map 8 = .ok (.if_icmp .le 5, 3) := by decide +kernel
theorem d_Desk_map_11 : decode b_Desk_map 11 = .ok (.iconst 0, 1) := by decide +kernel
theorem d_Desk_map_12 : decode b_Desk_map 12 = .ok (.ireturn, 1) := by decide +kernel
theorem d_Desk_map_13 : decode b_Desk_map 13 = .ok (.aload_n 0, 1) := by decide +kernel
theorem d_Desk_map_14 : decode b_Desk_map 14 = .ok (.getfield 10, 3) := by decide +kernel
theorem d_Desk_map_17 : decode b_Desk_map 17 = .ok (.iload_n 1, 1) := by decide +kernel
theorem d_Desk_map_18 : decode b_Desk_map 18 = .ok (.iload_n 2, 1) := by decide +kernel
theorem d_Desk_map_19 : decode b_Desk_map 19 = .ok (.bipush 64, 2) := by decide +kernel
theorem d_Desk_map_21 : decode b_Desk_map 21 = .ok (.imul, 1) := by decide +kernel
theorem d_Desk_map_22 : decode b_Desk_map 22 = .ok (.iload_n 3, 1) := by decide +kernel
theorem d_Desk_map_23 : decode b_Desk_map 23 = .ok (.invokevirtual 63, 3) := by decide +kernel
theorem d_Desk_map_26 : decode b_Desk_map 26 = .ok (.ireturn, 1) := by decide +kernel
theorem d_Desk_unmap_0 : decode b_Desk_unmap 0 = .ok (.aload_n 0, 1) := by decide +kernel
theorem d_Desk_unmap_1 : decode b_Desk_unmap 1 = .ok (.getfield 10, 3) := by decide +kernel
theorem d_Desk_unmap_4 : decode b_Desk_unmap 4 = .ok (.iload_n 1, 1) := by decide +kernel
theorem d_Desk_unmap_5 : decode b_Desk_unmap 5 = .ok (.invokevirtual 67, 3) := by decide +kernel
theorem d_Desk_unmap_8 : decode b_Desk_unmap 8 = .ok (.ireturn, 1) := by decide +kernel
theorem d_Desk_poke_0 : decode b_Desk_poke 0 = .ok (.aload_n 0, 1) := by decide +kernel
theorem d_Desk_poke_1 : decode b_Desk_poke 1 = .ok (.getfield 10, 3) := by decide +kernel
theorem d_Desk_poke_4 : decode b_Desk_poke 4 = .ok (.iload_n 1, 1) := by decide +kernel
theorem d_Desk_poke_5 : decode b_Desk_poke 5 = .ok (.iload_n 2, 1) := by decide +kernel
theorem d_Desk_poke_6 : decode b_Desk_poke 6 = .ok (.invokevirtual 71, 3) := by decide +kernel
theorem d_Desk_poke_9 : decode b_Desk_poke 9 = .ok (.ireturn, 1) := by decide +kernel
theorem d_Desk_pokeFour_0 : decode b_Desk_pokeFour 0 = .ok (.aload_n 0, 1) := by decide +kernel
theorem d_Desk_pokeFour_1 : decode b_Desk_pokeFour 1 = .ok (.getfield 10, 3) := by decide +kernel
theorem d_Desk_pokeFour_4 : decode b_Desk_pokeFour 4 = .ok (.iload_n 1, 1) := by decide +kernel
theorem d_Desk_pokeFour_5 : decode b_Desk_pokeFour 5 = .ok (.iload_n 2, 1) := by decide +kernel
theorem d_Desk_pokeFour_6 : decode b_Desk_pokeFour 6 = .ok (.invokevirtual 75, 3) := by decide +kernel
theorem d_Desk_pokeFour_9 : decode b_Desk_pokeFour 9 = .ok (.ireturn, 1) := by decide +kernel
theorem d_Desk_thread_0 : decode b_Desk_thread 0 = .ok (.aload_n 0, 1) := by decide +kernel
theorem d_Desk_thread_1 : decode b_Desk_thread 1 = .ok (.getfield 19, 3) := by decide +kernel
theorem d_Desk_thread_4 : decode b_Desk_thread 4 = .ok (.iload_n 1, 1) := by decide +kernel
theorem d_Desk_thread_5 : decode b_Desk_thread 5 = .ok (.invokevirtual 78, 3) := by decide +kernel
theorem d_Desk_thread_8 : decode b_Desk_thread 8 = .ok (.ireturn, 1) := by decide +kernel
theorem d_Desk_set_0 : decode b_Desk_set 0 = .ok (.aload_n 0, 1) := by decide +kernel
theorem d_Desk_set_1 : decode b_Desk_set 1 = .ok (.getfield 19, 3) := by decide +kernel
theorem d_Desk_set_4 : decode b_Desk_set 4 = .ok (.iload_n 1, 1) := by decide +kernel
theorem d_Desk_set_5 : decode b_Desk_set 5 = .ok (.iload_n 2, 1) := by decide +kernel
theorem d_Desk_set_6 : decode b_Desk_set 6 = .ok (.iload_n 3, 1) := by decide +kernel
theorem d_Desk_set_7 : decode b_Desk_set 7 = .ok (.invokevirtual 82, 3) := by decide +kernel
theorem d_Desk_set_10 : decode b_Desk_set 10 = .ok (.ireturn, 1) := by decide +kernel
theorem d_Desk_dump_0 : decode b_Desk_dump 0 = .ok (.aload_n 0, 1) := by decide +kernel
theorem d_Desk_dump_1 : decode b_Desk_dump 1 = .ok (.getfield 37, 3) := by decide +kernel
theorem d_Desk_dump_4 : decode b_Desk_dump 4 = .ok (.invokevirtual 85, 3) := by decide +kernel
theorem d_Desk_dump_7 : decode b_Desk_dump 7 = .ok (.aload_n 0, 1) := by decide +kernel
theorem d_Desk_dump_8 : decode b_Desk_dump 8 = .ok (.getfield 28, 3) := by decide +kernel
theorem d_Desk_dump_11 : decode b_Desk_dump 11 = .ok (.invokevirtual 88, 3) := by decide +kernel
theorem d_Desk_dump_14 : decode b_Desk_dump 14 = .ok (.ireturn, 1) := by decide +kernel
theorem d_Desk_byteAt_0 : decode b_Desk_byteAt 0 = .ok (.aload_n 0, 1) := by decide +kernel
theorem d_Desk_byteAt_1 : decode b_Desk_byteAt 1 = .ok (.getfield 28, 3) := by decide +kernel
theorem d_Desk_byteAt_4 : decode b_Desk_byteAt 4 = .ok (.iload_n 1, 1) := by decide +kernel
theorem d_Desk_byteAt_5 : decode b_Desk_byteAt 5 = .ok (.invokevirtual 92, 3) := by decide +kernel
theorem d_Desk_byteAt_8 : decode b_Desk_byteAt 8 = .ok (.ireturn, 1) := by decide +kernel
theorem d_Desk_copy_0 : decode b_Desk_copy 0 = .ok (.aload_n 0, 1) := by decide +kernel
theorem d_Desk_copy_1 : decode b_Desk_copy 1 = .ok (.getfield 41, 3) := by decide +kernel
theorem d_Desk_copy_4 : decode b_Desk_copy 4 = .ok (.aload_n 0, 1) := by decide +kernel
theorem d_Desk_copy_5 : decode b_Desk_copy 5 = .ok (.getfield 28, 3) := by decide +kernel
theorem d_Desk_copy_8 : decode b_Desk_copy 8 = .ok (.invokevirtual 95, 3) := by decide +kernel
theorem d_Desk_copy_11 : decode b_Desk_copy 11 = .ok (.aload_n 0, 1) := by decide +kernel
theorem d_Desk_copy_12 : decode b_Desk_copy 12 = .ok (.getfield 41, 3) := by decide +kernel
theorem d_Desk_copy_15 : decode b_Desk_copy 15 = .ok (.invokevirtual 88, 3) := by decide +kernel
theorem d_Desk_copy_18 : decode b_Desk_copy 18 = .ok (.ireturn, 1) := by decide +kernel
theorem d_Desk_put_0 : decode b_Desk_put 0 = .ok (.iload_n 1, 1) := by decide +kernel
theorem d_Desk_put_1 : decode b_Desk_put 1 = .ok (.aload_n 0, 1) := by decide +kernel
theorem d_Desk_put_2 : decode b_Desk_put 2 = .ok (.getfield 41, 3) := by decide +kernel
theorem d_Desk_put_5 : decode b_Desk_put 5 = .ok (.invokevirtual 88, 3) := by decide +kernel
theorem d_Desk_put_8 : decode b_Desk_put 8 = .ok (.if_icmp .ne 14, 3) := by decide +kernel
theorem d_Desk_put_11 : decode b_Desk_put 11 = .ok (.aload_n 0, 1) := by decide +kernel
theorem d_Desk_put_12 : decode b_Desk_put 12 = .ok (.getfield 41, 3) := by decide +kernel
theorem d_Desk_put_15 : decode b_Desk_put 15 = .ok (.iload_n 2, 1) := by decide +kernel
theorem d_Desk_put_16 : decode b_Desk_put 16 = .ok (.invokevirtual 98, 3) := by decide +kernel
theorem d_Desk_put_19 : decode b_Desk_put 19 = .ok (.goto 12, 3) := by decide +kernel
theorem d_Desk_put_22 : decode b_Desk_put 22 = .ok (.aload_n 0, 1) := by decide +kernel
theorem d_Desk_put_23 : decode b_Desk_put 23 = .ok (.getfield 41, 3) := by decide +kernel
theorem d_Desk_put_26 : decode b_Desk_put 26 = .ok (.iload_n 1, 1) := by decide +kernel
theorem d_Desk_put_27 : decode b_Desk_put 27 = .ok (.iload_n 2, 1) := by decide +kernel
theorem d_Desk_put_28 : decode b_Desk_put 28 = .ok (.invokevirtual 101, 3) := by decide +kernel
theorem d_Desk_put_31 : decode b_Desk_put 31 = .ok (.ireturn, 1) := by decide +kernel
theorem d_Desk_cut_0 : decode b_Desk_cut 0 = .ok (.aload_n 0, 1) := by decide +kernel
theorem d_Desk_cut_1 : decode b_Desk_cut 1 = .ok (.getfield 41, 3) := by decide +kernel
theorem d_Desk_cut_4 : decode b_Desk_cut 4 = .ok (.iload_n 1, 1) := by decide +kernel
theorem d_Desk_cut_5 : decode b_Desk_cut 5 = .ok (.invokevirtual 104, 3) := by decide +kernel
theorem d_Desk_cut_8 : decode b_Desk_cut 8 = .ok (.ireturn, 1) := by decide +kernel
theorem d_Desk_load_0 : decode b_Desk_load 0 = .ok (.aload_n 0, 1) := by decide +kernel
theorem d_Desk_load_1 : decode b_Desk_load 1 = .ok (.getfield 49, 3) := by decide +kernel
theorem d_Desk_load_4 : decode b_Desk_load 4 = .ok (.invokevirtual 107, 3) := by decide +kernel
theorem d_Desk_load_7 : decode b_Desk_load 7 = .ok (.ifCond .ne 11, 3) := by decide +kernel
theorem d_Desk_load_10 : decode b_Desk_load 10 = .ok (.new 111, 3) := by decide +kernel
theorem d_Desk_load_13 : decode b_Desk_load 13 = .ok (.dup, 1) := by decide +kernel
theorem d_Desk_load_14 : decode b_Desk_load 14 = .ok (.invokespecial 113, 3) := by decide +kernel
theorem d_Desk_load_17 : decode b_Desk_load 17 = .ok (.athrow, 1) := by decide +kernel
theorem d_Desk_load_18 : decode b_Desk_load 18 = .ok (.aload_n 0, 1) := by decide +kernel
theorem d_Desk_load_19 : decode b_Desk_load 19 = .ok (.invokevirtual 114, 3) := by decide +kernel
theorem d_Desk_load_22 : decode b_Desk_load 22 = .ok (.aload_n 0, 1) := by decide +kernel
theorem d_Desk_load_23 : decode b_Desk_load 23 = .ok (.getfield 53, 3) := by decide +kernel
theorem d_Desk_load_26 : decode b_Desk_load 26 = .ok (.invokevirtual 117, 3) := by decide +kernel
theorem d_Desk_load_29 : decode b_Desk_load 29 = .ok (.ireturn, 1) := by decide +kernel
theorem d_Desk_error_0 : decode b_Desk_error 0 = .ok (.iload_n 1, 1) := by decide +kernel
theorem d_Desk_error_1 : decode b_Desk_error 1 = .ok (.ifCond .ne 11, 3) := by decide +kernel
theorem d_Desk_error_4 : decode b_Desk_error 4 = .ok (.aload_n 0, 1) := by decide +kernel
theorem d_Desk_error_5 : decode b_Desk_error 5 = .ok (.getfield 49, 3) := by decide +kernel
theorem d_Desk_error_8 : decode b_Desk_error 8 = .ok (.invokevirtual 120, 3) := by decide +kernel
theorem d_Desk_error_11 : decode b_Desk_error 11 = .ok (.ireturn, 1) := by decide +kernel
theorem d_Desk_error_12 : decode b_Desk_error 12 = .ok (.iload_n 1, 1) := by decide +kernel
theorem d_Desk_error_13 : decode b_Desk_error 13 = .ok (.iconst 1, 1) := by decide +kernel
theorem d_Desk_error_14 : decode b_Desk_error 14 = .ok (.if_icmp .ne 13, 3) := by decide +kernel
theorem d_Desk_error_17 : decode b_Desk_error 17 = .ok (.aload_n 0, 1) := by decide +kernel
theorem d_Desk_error_18 : decode b_Desk_error 18 = .ok (.getfield 49, 3) := by decide +kernel
theorem d_Desk_error_21 : decode b_Desk_error 21 = .ok (.invokevirtual 123, 3) := by decide +kernel
theorem d_Desk_error_24 : decode b_Desk_error 24 = .ok (.goto 4, 3) := by decide +kernel
theorem d_Desk_error_27 : decode b_Desk_error 27 = .ok (.iconst 0, 1) := by decide +kernel
theorem d_Desk_error_28 : decode b_Desk_error 28 = .ok (.ireturn, 1) := by decide +kernel
theorem d_Desk_core_0 : decode b_Desk_core 0 = .ok (.aload_n 0, 1) := by decide +kernel
theorem d_Desk_core_1 : decode b_Desk_core 1 = .ok (.getfield 59, 3) := by decide +kernel
theorem d_Desk_core_4 : decode b_Desk_core 4 = .ok (.ifCond .ne 5, 3) := by decide +kernel
theorem d_Desk_core_7 : decode b_Desk_core 7 = .ok (.iconst (-1), 1) := by decide +kernel
theorem d_Desk_core_8 : decode b_Desk_core 8 = .ok (.ireturn, 1) := by decide +kernel
theorem d_Desk_core_9 : decode b_Desk_core 9 = .ok (.iload_n 1, 1) := by decide +kernel
theorem d_Desk_core_10 : decode b_Desk_core 10 = .ok (.ifCond .ne 11, 3) := by decide +kernel
theorem d_Desk_core_13 : decode b_Desk_core 13 = .ok (.aload_n 0, 1) := by decide +kernel
theorem d_Desk_core_14 : decode b_Desk_core 14 = .ok (.getfield 53, 3) := by decide +kernel
theorem d_Desk_core_17 : decode b_Desk_core 17 = .ok (.invokevirtual 117, 3) := by decide +kernel
theorem d_Desk_core_20 : decode b_Desk_core 20 = .ok (.ireturn, 1) := by decide +kernel
theorem d_Desk_core_21 : decode b_Desk_core 21 = .ok (.iload_n 1, 1) := by decide +kernel
theorem d_Desk_core_22 : decode b_Desk_core 22 = .ok (.iconst 1, 1) := by decide +kernel
theorem d_Desk_core_23 : decode b_Desk_core 23 = .ok (.if_icmp .ne 13, 3) := by decide +kernel
theorem d_Desk_core_26 : decode b_Desk_core 26 = .ok (.aload_n 0, 1) := by decide +kernel
theorem d_Desk_core_27 : decode b_Desk_core 27 = .ok (.getfield 56, 3) := by decide +kernel
theorem d_Desk_core_30 : decode b_Desk_core 30 = .ok (.invokevirtual 126, 3) := by decide +kernel
theorem d_Desk_core_33 : decode b_Desk_core 33 = .ok (.goto 4, 3) := by decide +kernel
theorem d_Desk_core_36 : decode b_Desk_core 36 = .ok (.iconst (-1), 1) := by decide +kernel
theorem d_Desk_core_37 : decode b_Desk_core 37 = .ok (.ireturn, 1) := by decide +kernel
theorem d_Desk_peek_0 : decode b_Desk_peek 0 = .ok (.aload_n 0, 1) := by decide +kernel
theorem d_Desk_peek_1 : decode b_Desk_peek 1 = .ok (.getfield 53, 3) := by decide +kernel
theorem d_Desk_peek_4 : decode b_Desk_peek 4 = .ok (.iload_n 1, 1) := by decide +kernel
theorem d_Desk_peek_5 : decode b_Desk_peek 5 = .ok (.invokevirtual 127, 3) := by decide +kernel
theorem d_Desk_peek_8 : decode b_Desk_peek 8 = .ok (.ireturn, 1) := by decide +kernel
theorem d_Desk_flags_0 : decode b_Desk_flags 0 = .ok (.aload_n 0, 1) := by decide +kernel
theorem d_Desk_flags_1 : decode b_Desk_flags 1 = .ok (.getfield 53, 3) := by decide +kernel
theorem d_Desk_flags_4 : decode b_Desk_flags 4 = .ok (.iload_n 1, 1) := by decide +kernel
theorem d_Desk_flags_5 : decode b_Desk_flags 5 = .ok (.invokevirtual 130, 3) := by decide +kernel
theorem d_Desk_flags_8 : decode b_Desk_flags 8 = .ok (.ireturn, 1) := by decide +kernel
theorem d_Desk_register_0 : decode b_Desk_register 0 = .ok (.aload_n 0, 1) := by decide +kernel
theorem d_Desk_register_1 : decode b_Desk_register 1 = .ok (.getfield 56, 3) := by decide +kernel
theorem d_Desk_register_4 : decode b_Desk_register 4 = .ok (.iload_n 1, 1) := by decide +kernel
theorem d_Desk_register_5 : decode b_Desk_register 5 = .ok (.invokevirtual 133, 3) := by decide +kernel
theorem d_Desk_register_8 : decode b_Desk_register 8 = .ok (.ifCond .eq 38, 3) := by decide +kernel
theorem d_Desk_register_11 : decode b_Desk_register 11 = .ok (.iload_n 2, 1) := by decide +kernel
theorem d_Desk_register_12 : decode b_Desk_register 12 = .ok (.bipush 8, 2) := by decide +kernel
theorem d_Desk_register_14 : decode b_Desk_register 14 = .ok (.if_icmp .ne 12, 3) := by decide +kernel
theorem d_Desk_register_17 : decode b_Desk_register 17 = .ok (.aload_n 0, 1) := by decide +kernel
theorem d_Desk_register_18 : decode b_Desk_register 18 = .ok (.getfield 56, 3) := by decide +kernel
theorem d_Desk_register_21 : decode b_Desk_register 21 = .ok (.iload_n 1, 1) := by decide +kernel
theorem d_Desk_register_22 : decode b_Desk_register 22 = .ok (.invokevirtual 136, 3) := by decide +kernel
theorem d_Desk_register_25 : decode b_Desk_register 25 = .ok (.ireturn, 1) := by decide +kernel
theorem d_Desk_register_26 : decode b_Desk_register 26 = .ok (.iload_n 2, 1) := by decide +kernel
theorem d_Desk_register_27 : decode b_Desk_register 27 = .ok (.ifCond .lt 19, 3) := by decide +kernel
theorem d_Desk_register_30 : decode b_Desk_register 30 = .ok (.iload_n 2, 1) := by decide +kernel
theorem d_Desk_register_31 : decode b_Desk_register 31 = .ok (.bipush 8, 2) := by decide +kernel
theorem d_Desk_register_33 : decode b_Desk_register 33 = .ok (.if_icmp .ge 13, 3) := by decide +kernel
theorem d_Desk_register_36 : decode b_Desk_register 36 = .ok (.aload_n 0, 1) := by decide +kernel
theorem d_Desk_register_37 : decode b_Desk_register 37 = .ok (.getfield 56, 3) := by decide +kernel
theorem d_Desk_register_40 : decode b_Desk_register 40 = .ok (.iload_n 1, 1) := by decide +kernel
theorem d_Desk_register_41 : decode b_Desk_register 41 = .ok (.iload_n 2, 1) := by decide +kernel
theorem d_Desk_register_42 : decode b_Desk_register 42 = .ok (.invokevirtual 139, 3) := by decide +kernel
theorem d_Desk_register_45 : decode b_Desk_register 45 = .ok (.ireturn, 1) := by decide +kernel
theorem d_Desk_register_46 : decode b_Desk_register 46 = .ok (.new 143, 3) := by decide +kernel
theorem d_Desk_register_49 : decode b_Desk_register 49 = .ok (.dup, 1) := by decide +kernel
theorem d_Desk_register_50 : decode b_Desk_register 50 = .ok (.invokespecial 145, 3) := by decide +kernel
theorem d_Desk_register_53 : decode b_Desk_register 53 = .ok (.athrow, 1) := by decide +kernel
theorem d_Desk_find_0 : decode b_Desk_find 0 = .ok (.aload_n 0, 1) := by decide +kernel
theorem d_Desk_find_1 : decode b_Desk_find 1 = .ok (.getfield 53, 3) := by decide +kernel
theorem d_Desk_find_4 : decode b_Desk_find 4 = .ok (.iload_n 1, 1) := by decide +kernel
theorem d_Desk_find_5 : decode b_Desk_find 5 = .ok (.iload_n 2, 1) := by decide +kernel
theorem d_Desk_find_6 : decode b_Desk_find 6 = .ok (.invokevirtual 146, 3) := by decide +kernel
theorem d_Desk_find_9 : decode b_Desk_find 9 = .ok (.ireturn, 1) := by decide +kernel
theorem d_Desk_caller_0 : decode b_Desk_caller 0 = .ok (.aload_n 0, 1) := by decide +kernel
theorem d_Desk_caller_1 : decode b_Desk_caller 1 = .ok (.getfield 56, 3) := by decide +kernel
theorem d_Desk_caller_4 : decode b_Desk_caller 4 = .ok (.iload_n 1, 1) := by decide +kernel
theorem d_Desk_caller_5 : decode b_Desk_caller 5 = .ok (.invokevirtual 133, 3) := by decide +kernel
theorem d_Desk_caller_8 : decode b_Desk_caller 8 = .ok (.ifCond .eq 14, 3) := by decide +kernel
theorem d_Desk_caller_11 : decode b_Desk_caller 11 = .ok (.iload_n 2, 1) := by decide +kernel
theorem d_Desk_caller_12 : decode b_Desk_caller 12 = .ok (.ifCond .lt 10, 3) := by decide +kernel
theorem d_Desk_caller_15 : decode b_Desk_caller 15 = .ok (.iload_n 2, 1) := by decide +kernel
theorem d_Desk_caller_16 : decode b_Desk_caller 16 = .ok (.sipush 6144, 3) := by decide +kernel
theorem d_Desk_caller_19 : decode b_Desk_caller 19 = .ok (.if_icmp .lt 5, 3) := by decide +kernel
theorem d_Desk_caller_22 : decode b_Desk_caller 22 = .ok (.iconst (-1), 1) := by decide +kernel
theorem d_Desk_caller_23 : decode b_Desk_caller 23 = .ok (.ireturn, 1) := by decide +kernel
theorem d_Desk_caller_24 : decode b_Desk_caller 24 = .ok (.aload_n 0, 1) := by decide +kernel
theorem d_Desk_caller_25 : decode b_Desk_caller 25 = .ok (.getfield 56, 3) := by decide +kernel
theorem d_Desk_caller_28 : decode b_Desk_caller 28 = .ok (.iload_n 1, 1) := by decide +kernel
theorem d_Desk_caller_29 : decode b_Desk_caller 29 = .ok (.bipush 7, 2) := by decide +kernel
theorem d_Desk_caller_31 : decode b_Desk_caller 31 = .ok (.invokevirtual 139, 3) := by decide +kernel
theorem d_Desk_caller_34 : decode b_Desk_caller 34 = .ok (.istore_n 3, 1) := by decide +kernel
theorem d_Desk_caller_35 : decode b_Desk_caller 35 = .ok (.iconst 0, 1) := by decide +kernel
theorem d_Desk_caller_36 : decode b_Desk_caller 36 = .ok (.istore 4, 2) := by decide +kernel
theorem d_Desk_caller_38 : decode b_Desk_caller 38 = .ok (.iconst 0, 1) := by decide +kernel
theorem d_Desk_caller_39 : decode b_Desk_caller 39 = .ok (.istore 5, 2) := by decide +kernel
theorem d_Desk_caller_41 : decode b_Desk_caller 41 = .ok (.iload 5, 2) := by decide +kernel
theorem d_Desk_caller_43 : decode b_Desk_caller 43 = .ok (.iload_n 2, 1) := by decide +kernel
theorem d_Desk_caller_44 : decode b_Desk_caller 44 = .ok (.if_icmp .ge 33, 3) := by decide +kernel
theorem d_Desk_caller_47 : decode b_Desk_caller 47 = .ok (.aload_n 0, 1) := by decide +kernel
theorem d_Desk_caller_48 : decode b_Desk_caller 48 = .ok (.iload_n 3, 1) := by decide +kernel
theorem d_Desk_caller_49 : decode b_Desk_caller 49 = .ok (.iload 4, 2) := by decide +kernel
theorem d_Desk_caller_51 : decode b_Desk_caller 51 = .ok (.invokevirtual 149, 3) := by decide +kernel
theorem d_Desk_caller_54 : decode b_Desk_caller 54 = .ok (.ifCond .ne 5, 3) := by decide +kernel
theorem d_Desk_caller_57 : decode b_Desk_caller 57 = .ok (.iconst (-1), 1) := by decide +kernel
theorem d_Desk_caller_58 : decode b_Desk_caller 58 = .ok (.ireturn, 1) := by decide +kernel
theorem d_Desk_caller_59 : decode b_Desk_caller 59 = .ok (.iload_n 3, 1) := by decide +kernel
theorem d_Desk_caller_60 : decode b_Desk_caller 60 = .ok (.istore 4, 2) := by decide +kernel
theorem d_Desk_caller_62 : decode b_Desk_caller 62 = .ok (.aload_n 0, 1) := by decide +kernel
theorem d_Desk_caller_63 : decode b_Desk_caller 63 = .ok (.getfield 53, 3) := by decide +kernel
theorem d_Desk_caller_66 : decode b_Desk_caller 66 = .ok (.iload_n 3, 1) := by decide +kernel
theorem d_Desk_caller_67 : decode b_Desk_caller 67 = .ok (.invokevirtual 152, 3) := by decide +kernel
theorem d_Desk_caller_70 : decode b_Desk_caller 70 = .ok (.istore_n 3, 1) := by decide +kernel
theorem d_Desk_caller_71 : decode b_Desk_caller 71 = .ok (.iinc 5 1, 3) := by decide +kernel
theorem d_Desk_caller_74 : decode b_Desk_caller 74 = .ok (.goto (-33), 3) := by decide +kernel
theorem d_Desk_caller_77 : decode b_Desk_caller 77 = .ok (.aload_n 0, 1) := by decide +kernel
theorem d_Desk_caller_78 : decode b_Desk_caller 78 = .ok (.iload_n 3, 1) := by decide +kernel
theorem d_Desk_caller_79 : decode b_Desk_caller 79 = .ok (.iload 4, 2) := by decide +kernel
theorem d_Desk_caller_81 : decode b_Desk_caller 81 = .ok (.invokevirtual 149, 3) := by decide +kernel
theorem d_Desk_caller_84 : decode b_Desk_caller 84 = .ok (.ifCond .eq 16, 3) := by decide +kernel
theorem d_Desk_caller_87 : decode b_Desk_caller 87 = .ok (.aload_n 0, 1) := by decide +kernel
theorem d_Desk_caller_88 : decode b_Desk_caller 88 = .ok (.getfield 53, 3) := by decide +kernel
theorem d_Desk_caller_91 : decode b_Desk_caller 91 = .ok (.iload_n 3, 1) := by decide +kernel
theorem d_Desk_caller_92 : decode b_Desk_caller 92 = .ok (.iconst 4, 1) := by decide +kernel
theorem d_Desk_caller_93 : decode b_Desk_caller 93 = .ok (.iadd, 1) := by decide +kernel
theorem d_Desk_caller_94 : decode b_Desk_caller 94 = .ok (.invokevirtual 152, 3) := by decide +kernel
theorem d_Desk_caller_97 : decode b_Desk_caller 97 = .ok (.goto 4, 3) := by decide +kernel
theorem d_Desk_caller_100 : decode b_Desk_caller 100 = .ok (.iconst (-1), 1) := by decide +kernel
theorem d_Desk_caller_101 : decode b_Desk_caller 101 = .ok (.ireturn, 1) := by decide +kernel
theorem d_Desk_isFrame_0 : decode b_Desk_isFrame 0 = .ok (.iload_n 1, 1) := by decide +kernel
theorem d_Desk_isFrame_1 : decode b_Desk_isFrame 1 = .ok (.iload_n 2, 1) := by decide +kernel
theorem d_Desk_isFrame_2 : decode b_Desk_isFrame 2 = .ok (.if_icmp .le 20, 3) := by decide +kernel
theorem d_Desk_isFrame_5 : decode b_Desk_isFrame 5 = .ok (.aload_n 0, 1) := by decide +kernel
theorem d_Desk_isFrame_6 : decode b_Desk_isFrame 6 = .ok (.getfield 53, 3) := by decide +kernel
theorem d_Desk_isFrame_9 : decode b_Desk_isFrame 9 = .ok (.iload_n 1, 1) := by decide +kernel
theorem d_Desk_isFrame_10 : decode b_Desk_isFrame 10 = .ok (.bipush 8, 2) := by decide +kernel
theorem d_Desk_isFrame_12 : decode b_Desk_isFrame 12 = .ok (.invokevirtual 155, 3) := by decide +kernel
theorem d_Desk_isFrame_15 : decode b_Desk_isFrame 15 = .ok (.ifCond .eq 7, 3) := by decide +kernel
theorem d_Desk_isFrame_18 : decode b_Desk_isFrame 18 = .ok (.iconst 1, 1) := by decide +kernel
theorem d_Desk_isFrame_19 : decode b_Desk_isFrame 19 = .ok (.goto 4, 3) := by decide +kernel
theorem d_Desk_isFrame_22 : decode b_Desk_isFrame 22 = .ok (.iconst 0, 1) := by decide +kernel
theorem d_Desk_isFrame_23 : decode b_Desk_isFrame 23 = .ok (.ireturn, 1) := by decide +kernel
theorem d_Desk_takeCore_0 : decode b_Desk_takeCore 0 = .ok (.aload_n 0, 1) := by decide +kernel
theorem d_Desk_takeCore_1 : decode b_Desk_takeCore 1 = .ok (.getfield 53, 3) := by decide +kernel
theorem d_Desk_takeCore_4 : decode b_Desk_takeCore 4 = .ok (.invokevirtual 158, 3) := by decide +kernel
theorem d_Desk_takeCore_7 : decode b_Desk_takeCore 7 = .ok (.aload_n 0, 1) := by decide +kernel
theorem d_Desk_takeCore_8 : decode b_Desk_takeCore 8 = .ok (.getfield 49, 3) := by decide +kernel
theorem d_Desk_takeCore_11 : decode b_Desk_takeCore 11 = .ok (.invokevirtual 161, 3) := by decide +kernel
theorem d_Desk_takeCore_14 : decode b_Desk_takeCore 14 = .ok (.istore_n 1, 1) := by decide +kernel
theorem d_Desk_takeCore_15 : decode b_Desk_takeCore 15 = .ok (.iconst 1, 1) := by decide +kernel
theorem d_Desk_takeCore_16 : decode b_Desk_takeCore 16 = .ok (.istore_n 2, 1) := by decide +kernel
theorem d_Desk_takeCore_17 : decode b_Desk_takeCore 17 = .ok (.iload_n 2, 1) := by decide +kernel
theorem d_Desk_takeCore_18 : decode b_Desk_takeCore 18 = .ok (.iload_n 1, 1) := by decide +kernel
theorem d_Desk_takeCore_19 : decode b_Desk_takeCore 19 = .ok (.if_icmp .ge 77, 3) := by decide +kernel
theorem d_Desk_takeCore_22 : decode b_Desk_takeCore 22 = .ok (.aload_n 0, 1) := by decide +kernel
theorem d_Desk_takeCore_23 : decode b_Desk_takeCore 23 = .ok (.getfield 49, 3) := by decide +kernel
theorem d_Desk_takeCore_26 : decode b_Desk_takeCore 26 = .ok (.iload_n 2, 1) := by decide +kernel
theorem d_Desk_takeCore_27 : decode b_Desk_takeCore 27 = .ok (.iconst 2, 1) := by decide +kernel
theorem d_Desk_takeCore_28 : decode b_Desk_takeCore 28 = .ok (.invokevirtual 164, 3) := by decide +kernel
theorem d_Desk_takeCore_31 : decode b_Desk_takeCore 31 = .ok (.istore_n 3, 1) := by decide +kernel
theorem d_Desk_takeCore_32 : decode b_Desk_takeCore 32 = .ok (.aload_n 0, 1) := by decide +kernel
theorem d_Desk_takeCore_33 : decode b_Desk_takeCore 33 = .ok (.getfield 53, 3) := by decide +kernel
theorem d_Desk_takeCore_36 : decode b_Desk_takeCore 36 = .ok (.iload_n 3, 1) := by decide +kernel
theorem d_Desk_takeCore_37 : decode b_Desk_takeCore 37 = .ok (.aload_n 0, 1) := by decide +kernel
theorem d_Desk_takeCore_38 : decode b_Desk_takeCore 38 = .ok (.getfield 49, 3) := by decide +kernel
theorem d_Desk_takeCore_41 : decode b_Desk_takeCore 41 = .ok (.iload_n 2, 1) := by decide +kernel
theorem d_Desk_takeCore_42 : decode b_Desk_takeCore 42 = .ok (.iconst 5, 1) := by decide +kernel
theorem d_Desk_takeCore_43 : decode b_Desk_takeCore 43 = .ok (.invokevirtual 164, 3) := by decide +kernel
theorem d_Desk_takeCore_46 : decode b_Desk_takeCore 46 = .ok (.aload_n 0, 1) := by decide +kernel
theorem d_Desk_takeCore_47 : decode b_Desk_takeCore 47 = .ok (.getfield 49, 3) := by decide +kernel
theorem d_Desk_takeCore_50 : decode b_Desk_takeCore 50 = .ok (.iload_n 2, 1) := by decide +kernel
theorem d_Desk_takeCore_51 : decode b_Desk_takeCore 51 = .ok (.bipush 6, 2) := by decide +kernel
theorem d_Desk_takeCore_53 : decode b_Desk_takeCore 53 = .ok (.invokevirtual 164, 3) := by decide +kernel
theorem d_Desk_takeCore_56 : decode b_Desk_takeCore 56 = .ok (.invokevirtual 63, 3) := by decide +kernel
theorem d_Desk_takeCore_59 : decode b_Desk_takeCore 59 = .ok (.pop, 1) := by decide +kernel
theorem d_Desk_takeCore_60 : decode b_Desk_takeCore 60 = .ok (.aload_n 0, 1) := by decide +kernel
theorem d_Desk_takeCore_61 : decode b_Desk_takeCore 61 = .ok (.getfield 53, 3) := by decide +kernel
theorem d_Desk_takeCore_64 : decode b_Desk_takeCore 64 = .ok (.iload_n 3, 1) := by decide +kernel
theorem d_Desk_takeCore_65 : decode b_Desk_takeCore 65 = .ok (.aload_n 0, 1) := by decide +kernel
theorem d_Desk_takeCore_66 : decode b_Desk_takeCore 66 = .ok (.getfield 41, 3) := by decide +kernel
theorem d_Desk_takeCore_69 : decode b_Desk_takeCore 69 = .ok (.aload_n 0, 1) := by decide +kernel
theorem d_Desk_takeCore_70 : decode b_Desk_takeCore 70 = .ok (.getfield 49, 3) := by decide +kernel
theorem d_Desk_takeCore_73 : decode b_Desk_takeCore 73 = .ok (.iload_n 2, 1) := by decide +kernel
theorem d_Desk_takeCore_74 : decode b_Desk_takeCore 74 = .ok (.iconst 1, 1) := by decide +kernel
theorem d_Desk_takeCore_75 : decode b_Desk_takeCore 75 = .ok (.invokevirtual 164, 3) := by decide +kernel
theorem d_Desk_takeCore_78 : decode b_Desk_takeCore 78 = .ok (.aload_n 0, 1) := by decide +kernel
theorem d_Desk_takeCore_79 : decode b_Desk_takeCore 79 = .ok (.getfield 49, 3) := by decide +kernel
theorem d_Desk_takeCore_82 : decode b_Desk_takeCore 82 = .ok (.iload_n 2, 1) := by decide +kernel
theorem d_Desk_takeCore_83 : decode b_Desk_takeCore 83 = .ok (.iconst 4, 1) := by decide +kernel
theorem d_Desk_takeCore_84 : decode b_Desk_takeCore 84 = .ok (.invokevirtual 164, 3) := by decide +kernel
theorem d_Desk_takeCore_87 : decode b_Desk_takeCore 87 = .ok (.invokevirtual 167, 3) := by decide +kernel
theorem d_Desk_takeCore_90 : decode b_Desk_takeCore 90 = .ok (.iinc 2 1, 3) := by decide +kernel
theorem d_Desk_takeCore_93 : decode b_Desk_takeCore 93 = .ok (.goto (-76), 3) := by decide +kernel
theorem d_Desk_takeCore_96 : decode b_Desk_takeCore 96 = .ok (.aload_n 0, 1) := by decide +kernel
theorem d_Desk_takeCore_97 : decode b_Desk_takeCore 97 = .ok (.getfield 56, 3) := by decide +kernel
theorem d_Desk_takeCore_100 : decode b_Desk_takeCore 100 = .ok (.aload_n 0, 1) := by decide +kernel
theorem d_Desk_takeCore_101 : decode b_Desk_takeCore 101 = .ok (.getfield 49, 3) := by decide +kernel
theorem d_Desk_takeCore_104 : decode b_Desk_takeCore 104 = .ok (.invokevirtual 171, 3) := by decide +kernel
theorem d_Desk_takeCore_107 : decode b_Desk_takeCore 107 = .ok (.invokevirtual 175, 3) := by decide +kernel
theorem d_Desk_takeCore_110 : decode b_Desk_takeCore 110 = .ok (.aload_n 0, 1) := by decide +kernel
theorem d_Desk_takeCore_111 : decode b_Desk_takeCore 111 = .ok (.iconst 1, 1) := by decide +kernel
theorem d_Desk_takeCore_112 : decode b_Desk_takeCore 112 = .ok (.putfield 59, 3) := by decide +kernel
theorem d_Desk_takeCore_115 : decode b_Desk_takeCore 115 = .ok (.return_, 1) := by decide +kernel
end
section
def cd_T (tt : Nat → ClassId) : List (ClassId × FieldType) := [(tt 0, .byte), (tt 1, .int), (tt 2, .long), (tt 3, .object "CoreDesk$Region")]
def cd_hv (j : Nat) : Int32 := [127, 69, 76, 70, 1, 1, 1, 0, 0, 0, 0, 0, 0, 0, 0, 0, 4, 8, 1, 0, 52, 0, 0, 52, 32, 0, 0, 0, 0].getD j 0
def cd_hw (j : Nat) : Int32 := [1, 1, 1, 1, 1, 1, 1, 1, 1, 1, 1, 1, 1, 1, 1, 1, 2, 2, 4, 4, 4, 4, 4, 2, 2, 2, 2, 2, 2].getD j 0
def cd_nn (j : Nat) : Int32 := [67, 79, 82, 69, 0, 0, 0, 0].getD j 0
def cd_Z (zs : Nat → Nat) (A : Nat → Prop) (U : State) : Prop := va_Z "CoreDesk" "HEADER_VALUES" "[I" (.ref (zs 0)) A U U.heap ∧ va_T .int (zs 0) 29 (fun j => .int (cd_hv j)) A U U.heap ∧ va_Z "CoreDesk" "HEADER_WIDTHS" "[I" (.ref (zs 1)) A U U.heap ∧ va_T .int (zs 1) 29 (fun j => .int (cd_hw j)) A U U.heap ∧ va_Z "CoreDesk" "NOTE_NAME" "[I" (.ref (zs 2)) A U U.heap ∧ va_T .int (zs 2) 8 (fun j => .int (cd_nn j)) A U U.heap ∧ cd_N U
-- the world as a function of places: place k lies at the address (ad k) and holds (w k); places 0 .. N-1
def cd_W (ad : Nat → Nat) (N : Nat) (w : Nat → va_E) : va_W := (List.range N).map (fun k => (ad k, w k))
theorem cd_W_at {ad : Nat → Nat} {N : Nat} {w : Nat → va_E} {k : Nat} {e : va_E} (hk : k < N) (hc : w k = e) : (cd_W ad N w)[k]? = some (ad k, e) := by
  subst hc
  simp [cd_W, hk]
theorem cd_W_no {ad : Nat → Nat} {N : Nat} {w : Nat → va_E} {k : Nat} (hk : N ≤ k) : (cd_W ad N w)[k]? = none := by
  simp [cd_W, hk]
theorem cd_up_s {α : Type} {f : Nat → α} {k : Nat} {v : α} : va_up f k v k = v := by simp [va_up]
theorem cd_up_n {α : Type} {f : Nat → α} {k : Nat} {v : α} (i : Nat) (h : i ≠ k) : va_up f k v i = f i := by simp [va_up, h]
theorem cd_W_set {ad : Nat → Nat} {N : Nat} {w : Nat → va_E} {k : Nat} {e : va_E} : (cd_W ad N w).set k (ad k, e) = cd_W ad N (va_up w k e) := by
  apply List.ext_getElem?
  intro j
  by_cases hj : j < N
  · rw [cd_W_at hj rfl]
    by_cases h : k = j
    · subst h
      rw [List.getElem?_set_self (by simpa [cd_W] using hj), cd_up_s]
    · rw [List.getElem?_set_ne h, cd_W_at hj rfl, cd_up_n j (Ne.symm h)]
  · rw [cd_W_no (by omega), List.getElem?_eq_none (by simp [cd_W]; omega)]
def cd_P (D : va_G) (ad : Nat → Nat) (N : Nat) (A : Nat → Prop) (w : Nat → va_E) (H : Heap) : Prop := va_P D cd_cl (cd_W ad N w) H ∧ va_D A (cd_W ad N w)
def cd_U (D : va_G) (tt : Nat → ClassId) (ad : Nat → Nat) (N : Nat) (A : Nat → Prop) (zs : Nat → Nat) (w : Nat → va_E) (U : State) : Prop := cd_P D ad N A w U.heap ∧ va_K D cd_cl (cd_T tt) U ∧ cd_Z zs A U
theorem cd_Z_moved {zs : Nat → Nat} {A : Nat → Prop} {u U : State} (hvm : u.vm = U.vm) (hh : U.heap = u.heap) (h : cd_Z zs A u) : cd_Z zs A U := by
  obtain ⟨h1, h2, h3, h4, h5, h6, h7⟩ := h
  have ha : u.vm.Alike U.vm := by rw [hvm]; exact Vm.Alike.refl _
  unfold cd_Z
  rw [hh]
  exact ⟨h1.moved ha, h2.moved ha, h3.moved ha, h4.moved ha, h5.moved ha, h6.moved ha, fun t ht => va_Nw.same rfl hvm (h7 t ht)⟩
theorem cd_Z_to {zs : Nat → Nat} {A : Nat → Prop} {s U : State} {H : Heap} {locs : List Loc} (h : cd_Z zs A s) (hS : va_S A s.heap H locs) (hU : U.heap = H) (hW : s.WarmedH U.vm) : cd_Z zs A U := by
  obtain ⟨h1, h2, h3, h4, h5, h6, h7⟩ := h
  have hvm := hW.alike
  unfold cd_Z
  rw [hU]
  exact ⟨(h1.kept hS.2.1).moved hvm, (h2.kept hS.2.1).moved hvm, (h3.kept hS.2.1).moved hvm, (h4.kept hS.2.1).moved hvm, (h5.kept hS.2.1).moved hvm, (h6.kept hS.2.1).moved hvm, fun t ht => va_Nw.warmF hW (h7 t ht)⟩
theorem cd_blind {D : va_G} {tt : Nat → ClassId} {ad : Nat → Nat} {N : Nat} {A : Nat → Prop} {zs : Nat → Nat} {w : Nat → va_E} {av : List Value} : FrameBlind (va_Pc av (cd_U D tt ad N A zs w)) := by
  intro a U g mk h
  obtain ⟨h1, h2, h3, h4⟩ := h
  exact ⟨h1, h2, va_K.moved (u := U) (U := U.calling g mk a) (Vm.Alike.refl U.vm) h3, cd_Z_moved (u := U) (U := U.calling g mk a) rfl rfl h4⟩
theorem cd_inc (x v : Int32) (n : Int) (h : Int32.ofInt n = v) : x + Int32.ofInt n = x + v := by rw [h]
theorem cd_out0_7 {x : Int32} (h0 : ¬ x = (0 : Int32)) (h1 : ¬ x = (1 : Int32)) (h2 : ¬ x = (2 : Int32)) (h3 : ¬ x = (3 : Int32)) (h4 : ¬ x = (4 : Int32)) (h5 : ¬ x = (5 : Int32)) (h6 : ¬ x = (6 : Int32)) (h7 : ¬ x = (7 : Int32)) : x.toInt < 0 ∨ 7 < x.toInt := by
  have a0 : x.toInt ≠ 0 := fun e => h0 (Int32.toInt_inj.mp (e.trans (by decide)))
  have a1 : x.toInt ≠ 1 := fun e => h1 (Int32.toInt_inj.mp (e.trans (by decide)))
  have a2 : x.toInt ≠ 2 := fun e => h2 (Int32.toInt_inj.mp (e.trans (by decide)))
  have a3 : x.toInt ≠ 3 := fun e => h3 (Int32.toInt_inj.mp (e.trans (by decide)))
  have a4 : x.toInt ≠ 4 := fun e => h4 (Int32.toInt_inj.mp (e.trans (by decide)))
  have a5 : x.toInt ≠ 5 := fun e => h5 (Int32.toInt_inj.mp (e.trans (by decide)))
  have a6 : x.toInt ≠ 6 := fun e => h6 (Int32.toInt_inj.mp (e.trans (by decide)))
  have a7 : x.toInt ≠ 7 := fun e => h7 (Int32.toInt_inj.mp (e.trans (by decide)))
  omega
theorem cd_nb {r : Int32} (h : r = 0 ∨ r = 1) : narrow .boolean (.int r) = .int r := by
  rcases h with rfl | rfl <;> rfl
theorem cd_good {c0 : Cond} (h : c0 ∈ cd_AW) : ∀ w ∈ c0 :: cd_AW, w ∈ cd_AW ∧ ((w.onTables && w.keeps) = true ∨ ∃ ty, w = .arrayClass ty) := by
  intro w hw
  have hm : w ∈ cd_AW := by
    rcases List.mem_cons.mp hw with rfl | h2
    · exact h
    · exact h2
  exact ⟨hm, cd_AW_ok w hm⟩
theorem cd_gV {own C : String} {idx : Nat} {y : MethodName} {b : ByteArray} {n : Nat} {r : Option FieldType} (h1 : Cond.methodLink own idx y ∈ cd_AW) (h2 : Cond.instanceMethod y ∈ cd_AW) (h3 : Cond.selects C y y ∈ cd_AW) (h4 : Cond.initialized C ∈ cd_AW) (h5 : Cond.code y b n r ∈ cd_AW) : GoodIn cd_AW (wsV own idx C y (.code y b n r :: cd_AW)) := by
  intro w hw
  unfold wsV at hw
  rcases List.mem_append.mp hw with h | h
  · have hm : w ∈ cd_AW := by
      simp only [List.mem_cons, List.not_mem_nil, or_false] at h
      rcases h with rfl | rfl | rfl | rfl <;> assumption
    exact ⟨hm, cd_AW_ok w hm⟩
  · exact cd_good h5 w h
theorem cd_gS {own : String} {idx : Nat} {y : MethodName} {b : ByteArray} {n : Nat} {r : Option FieldType} (h1 : Cond.methodLink own idx y ∈ cd_AW) (h2 : Cond.static y ∈ cd_AW) (h3 : Cond.initialized own ∈ cd_AW) (h5 : Cond.code y b n r ∈ cd_AW) : GoodIn cd_AW (wsS own idx y (.code y b n r :: cd_AW)) := by
  intro w hw
  unfold wsS at hw
  rcases List.mem_append.mp hw with h | h
  · have hm : w ∈ cd_AW := by
      simp only [List.mem_cons, List.not_mem_nil, or_false] at h
      rcases h with rfl | rfl | rfl <;> assumption
    exact ⟨hm, cd_AW_ok w hm⟩
  · exact cd_good h5 w h
theorem cd_gSx {own : String} {idx : Nat} {y : MethodName} {b : ByteArray} {n : Nat} {r : Option FieldType} (h1 : Cond.methodLink own idx y ∈ cd_AW) (h2 : Cond.static y ∈ cd_AW) (h3 : Cond.initialized y.cls ∈ cd_AW) (h5 : Cond.code y b n r ∈ cd_AW) : GoodIn cd_AW (va_wsS own idx y (.code y b n r :: cd_AW)) := by
  intro w hw
  unfold va_wsS at hw
  rcases List.mem_append.mp hw with h | h
  · have hm : w ∈ cd_AW := by
      simp only [List.mem_cons, List.not_mem_nil, or_false] at h
      rcases h with rfl | rfl | rfl <;> assumption
    exact ⟨hm, cd_AW_ok w hm⟩
  · exact cd_good h5 w h
section CDG
variable {p : Program} {l : Launch} {e : Env} {R : Room} {s : State} {m : MethodId} {args : Array Value} {below : List Frame} {meth : Method} {c : Code} {H : Heap} {locs : List Loc} {cells slots : Nat} {Q : State → Prop}
variable {cc : ByteArray} {pc : Nat} {ls : Array Slot} {rest : List Value} {D : va_G} {tt : Nat → ClassId} {ad : Nat → Nat} {N : Nat} {A : Nat → Prop} {zs : Nat → Nat} {w : Nat → va_E} {H0 : Heap} {k : Nat}
theorem cd_pre (hK : va_K D cd_cl (cd_T tt) s) (hP : cd_P D ad N A w H) (hZ : cd_Z zs A s) (hS : va_S A s.heap H locs) : ∀ U : State, U.heap = H → s.WarmedH U.vm → cd_U D tt ad N A zs w U := fun U hU hW => ⟨by rw [hU]; exact hP, va_K.moved hW.alike hK, cd_Z_to hZ hS hU hW⟩
theorem cd_Pt {U : State} (ht : U.heap = H) (h : cd_P D ad N A w H) : cd_P D ad N A w U.heap := by rw [ht]; exact h
theorem cd_Pf {U : State} (ht : U.heap = H) (h : cd_P D ad N A w U.heap) : cd_P D ad N A w H := by rw [← ht]; exact h
theorem cd_recv {ci : Nat} {q : vw_C} {fs : List Value} (hK : va_K D cd_cl (cd_T tt) s) (hP : cd_P D ad N A w H) (hk : k < N) (he : w k = .inr (ci, fs)) (hc : cd_cl[ci]? = some q) : ∃ cell : Cell, H[ad k]? = some cell ∧ cell.vm.isStatics = false ∧ s.vm.findClass q.1 = some cell.cls := va_recv hK hP.1 hc (cd_W_at hk he)
theorem g_get (hx : p.tables.exec = Jvm.exec) (hb : c.code = cc) {own ref C : String} {T : u_T} {Nf ci index : Nat} {Ts : List Cond} (hts : ∀ w ∈ Ts, w.before args s = true) (hin : ∀ w ∈ u_ws C T Nf, w ∈ Ts) (hown : s.vm.findClass own = some m.cls) (hK : va_K D cd_cl (cd_T tt) s) (hP : cd_P D ad N A w H) (hk : k < N) {fs : List Value} (he : w k = .inr (ci, fs)) (hc : cd_cl[ci]? = some (C, T, Nf)) (j : Nat) (hj : j < Nf) (hlink : (Cond.fieldLink own index ref (T j).2.1 (T j).2.2.1).before args s = true) (hsame : ∀ x, s.fieldFound? (T j).1 (T j).2.1 (T j).2.2.1 = some x → s.fieldFound? ref (T j).2.1 (T j).2.2.1 = some x) {v : Value} (hv : fs[j]? = some v) (hdg : decode cc pc = .ok (.getfield index, 3))
    (kk : W p l e R s m args below meth c H locs cells slots Q (F0 m (pc + 3) ls (v :: rest))) : W p l e R s m args below meth c H locs cells slots Q (F0 m pc ls (.ref (ad k) :: rest)) :=
  va_get hx hb hts hin hown hK hP.1 k (cd_W_at hk he) hc j hj hlink hsame hv hdg kk
theorem g_getN (hx : p.tables.exec = Jvm.exec) (hb : c.code = cc) {own ref C host : String} {T : u_T} {Nf ci index : Nat} {Ts : List Cond} (hts : ∀ w ∈ Ts, w.before args s = true) (hin : ∀ w ∈ u_ws C T Nf, w ∈ Ts) (hown : s.vm.findClass own = some m.cls) (hK : va_K D cd_cl (cd_T tt) s) (hP : cd_P D ad N A w H) (hk : k < N) {fs : List Value} (he : w k = .inr (ci, fs)) (hc : cd_cl[ci]? = some (C, T, Nf)) (j : Nat) (hj : j < Nf) (hlink : (Cond.fieldLinkNest own index ref (T j).2.1 (T j).2.2.1 host).before args s = true) (hsame : ∀ x, s.fieldFound? (T j).1 (T j).2.1 (T j).2.2.1 = some x → s.fieldFound? ref (T j).2.1 (T j).2.2.1 = some x) {v : Value} (hv : fs[j]? = some v) (hdg : decode cc pc = .ok (.getfield index, 3))
    (kk : W p l e R s m args below meth c H locs cells slots Q (F0 m (pc + 3) ls (v :: rest))) : W p l e R s m args below meth c H locs cells slots Q (F0 m pc ls (.ref (ad k) :: rest)) :=
  va_getN hx hb hts hin hown hK hP.1 k (cd_W_at hk he) hc j hj hlink hsame hv hdg kk
theorem g_put (hx : p.tables.exec = Jvm.exec) (hb : c.code = cc) {own ref C : String} {T : u_T} {Nf ci index : Nat} {Ts : List Cond} (hts : ∀ w ∈ Ts, w.before args s = true) (hin : ∀ w ∈ u_ws C T Nf, w ∈ Ts) (ty0 : Nat → FieldType) (hty : ∀ k, k < Nf → parseFieldDescriptor (T k).2.2.1 = some (ty0 k)) (hnm : ∀ a, a < Nf → ∀ b, b < Nf → a ≠ b → (T a).2.1 ≠ (T b).2.1) (hown : s.vm.findClass own = some m.cls) (hK : va_K D cd_cl (cd_T tt) s) (hP : cd_P D ad N A w H) (hS : va_S A H0 H locs) (hk : k < N) {fs : List Value} (he : w k = .inr (ci, fs)) (hc : cd_cl[ci]? = some (C, T, Nf)) (j : Nat) (hj : j < Nf) (hlink : (Cond.fieldLink own index ref (T j).2.1 (T j).2.2.1).before args s = true) (hsame : ∀ x, s.fieldFound? (T j).1 (T j).2.1 (T j).2.2.1 = some x → s.fieldFound? ref (T j).2.1 (T j).2.2.1 = some x) (hfin : (T j).2.2.2 = false) {ty : FieldType} {v : Value} (hd : parseFieldDescriptor (T j).2.2.1 = some ty) (hn : narrow ty v = v) (hfit : fits ty v = true) (hl : j < fs.length) (hdg : decode cc pc = .ok (.putfield index, 3))
    (kk : ∀ (H1 : Heap) (locs1 : List Loc) (w1 : Nat → va_E), w1 k = .inr (ci, fs.set j v) → (∀ i : Nat, i ≠ k → w1 i = w i) → cd_P D ad N A w1 H1 → va_S A H0 H1 locs1 → W p l e R s m args below meth c H1 locs1 cells slots Q (F0 m (pc + 3) ls rest)) : W p l e R s m args below meth c H locs cells slots Q (F0 m pc ls (v :: .ref (ad k) :: rest)) :=
  va_put hx hb hts hin ty0 hty hnm hown hK hP.1 hP.2 hS k (cd_W_at hk he) hc j hj hlink hsame hfin hd hn hfit hl hdg (fun H1 locs1 h1 h2 h3 => kk H1 locs1 _ cd_up_s cd_up_n ⟨by rw [cd_W_set] at h1; exact h1, by rw [cd_W_set] at h2; exact h2⟩ h3)
theorem g_iald (hx : p.tables.exec = Jvm.exec) (hb : c.code = cc) (hK : va_K D cd_cl (cd_T tt) s) (hP : cd_P D ad N A w H) (hk : k < N) {cA : ClassId} {n : Nat} {f : Nat → Int32} (he : w k = .inl (cA, n, .inl f)) (ht : (cd_T tt)[1]? = some (cA, .int)) {i : Int32} (hin : vp_in i n) (hdg : decode cc pc = .ok (.iaload, 1))
    (kk : W p l e R s m args below meth c H locs cells slots Q (F0 m (pc + 1) ls (.int (f i.toNatClampNeg) :: rest))) : W p l e R s m args below meth c H locs cells slots Q (F0 m pc ls (.int i :: .ref (ad k) :: rest)) :=
  va_iald hx hb hK hP.1 k 1 (cd_W_at hk he) ht hin hdg kk
theorem g_bald (hx : p.tables.exec = Jvm.exec) (hb : c.code = cc) (hK : va_K D cd_cl (cd_T tt) s) (hP : cd_P D ad N A w H) (hk : k < N) {cA : ClassId} {n : Nat} {f : Nat → Int32} (he : w k = .inl (cA, n, .inl f)) (ht : (cd_T tt)[0]? = some (cA, .byte)) {i : Int32} (hin : vp_in i n) (hdg : decode cc pc = .ok (.baload, 1))
    (kk : W p l e R s m args below meth c H locs cells slots Q (F0 m (pc + 1) ls (.int (f i.toNatClampNeg) :: rest))) : W p l e R s m args below meth c H locs cells slots Q (F0 m pc ls (.int i :: .ref (ad k) :: rest)) :=
  va_bald hx hb hK hP.1 k 0 (cd_W_at hk he) ht hin hdg kk
theorem g_iast (hx : p.tables.exec = Jvm.exec) (hb : c.code = cc) (hK : va_K D cd_cl (cd_T tt) s) (hP : cd_P D ad N A w H) (hS : va_S A H0 H locs) (hk : k < N) {cA : ClassId} {n : Nat} {f : Nat → Int32} (he : w k = .inl (cA, n, .inl f)) (ht : (cd_T tt)[1]? = some (cA, .int)) {i x : Int32} (hin : vp_in i n) (hdg : decode cc pc = .ok (.iastore, 1))
    (kk : ∀ (H1 : Heap) (locs1 : List Loc) (w1 : Nat → va_E), w1 k = .inl (cA, n, .inl (upd f i.toNatClampNeg x)) → (∀ i : Nat, i ≠ k → w1 i = w i) → cd_P D ad N A w1 H1 → va_S A H0 H1 locs1 → W p l e R s m args below meth c H1 locs1 cells slots Q (F0 m (pc + 1) ls rest)) : W p l e R s m args below meth c H locs cells slots Q (F0 m pc ls (.int x :: .int i :: .ref (ad k) :: rest)) :=
  va_iast hx hb hK hP.1 hP.2 hS k 1 (cd_W_at hk he) ht hin hdg (fun H1 locs1 h1 h2 h3 => kk H1 locs1 _ cd_up_s cd_up_n ⟨by rw [cd_W_set] at h1; exact h1, by rw [cd_W_set] at h2; exact h2⟩ h3)
theorem g_bast (hx : p.tables.exec = Jvm.exec) (hb : c.code = cc) (hK : va_K D cd_cl (cd_T tt) s) (hP : cd_P D ad N A w H) (hS : va_S A H0 H locs) (hk : k < N) {cA : ClassId} {n : Nat} {f : Nat → Int32} (he : w k = .inl (cA, n, .inl f)) (ht : (cd_T tt)[0]? = some (cA, .byte)) {i x : Int32} (hin : vp_in i n) (hdg : decode cc pc = .ok (.bastore, 1))
    (kk : ∀ (H1 : Heap) (locs1 : List Loc) (w1 : Nat → va_E), w1 k = .inl (cA, n, .inl (upd f i.toNatClampNeg (vp_nar .byte x))) → (∀ i : Nat, i ≠ k → w1 i = w i) → cd_P D ad N A w1 H1 → va_S A H0 H1 locs1 → W p l e R s m args below meth c H1 locs1 cells slots Q (F0 m (pc + 1) ls rest)) : W p l e R s m args below meth c H locs cells slots Q (F0 m pc ls (.int x :: .int i :: .ref (ad k) :: rest)) :=
  va_bast hx hb hK hP.1 hP.2 hS k 0 (cd_W_at hk he) ht hin hdg (fun H1 locs1 h1 h2 h3 => kk H1 locs1 _ cd_up_s cd_up_n ⟨by rw [cd_W_set] at h1; exact h1, by rw [cd_W_set] at h2; exact h2⟩ h3)
theorem g_alen (hx : p.tables.exec = Jvm.exec) (hb : c.code = cc) (hK : va_K D cd_cl (cd_T tt) s) (hP : cd_P D ad N A w H) (hk : k < N) {cA : ClassId} {x : vp_A} (he : w k = .inl (cA, x)) {t0 : Nat} {ty : FieldType} (ht : (cd_T tt)[t0]? = some (cA, ty)) {v : Int32} (hv : Int32.ofNat x.1 = v) (hdg : decode cc pc = .ok (.arraylength, 1))
    (kk : W p l e R s m args below meth c H locs cells slots Q (F0 m (pc + 1) ls (.int v :: rest))) : W p l e R s m args below meth c H locs cells slots Q (F0 m pc ls (.ref (ad k) :: rest)) :=
  va_alen hx hb hK hP.1 k t0 (cd_W_at hk he) ht hv hdg kk
theorem g_copyi (hx : p.tables.exec = Jvm.exec) (hb : c.code = cc) (hml : c.maxLocals = ls.size) {own : String} {index : Nat} (hown : s.vm.findClass own = some m.cls) (hlink : (Cond.methodLink own index arraycopyName).before args s = true) (hnat : (Cond.native arraycopyName).before args s = true) (hstat : (Cond.static arraycopyName).before args s = true) (hini : (Cond.initialized "java/lang/System").before args s = true) (hK : va_K D cd_cl (cd_T tt) s) (hP : cd_P D ad N A w H) (hS : va_S A H0 H locs) {k0 k1 : Nat} (hk0 : k0 < N) (hk1 : k1 < N) {c0 c1 : ClassId} {n0 n1 t0 t1 : Nat} {f g : Nat → Int32} {ty : FieldType} (he0 : w k0 = .inl (c0, n0, .inl f)) (he1 : w k1 = .inl (c1, n1, .inl g)) (ht0 : (cd_T tt)[t0]? = some (c0, ty)) (ht1 : (cd_T tt)[t1]? = some (c1, ty)) (hprim : refKind ty = false)
    {sp dp n : Int32} (h1 : ¬ sp < 0) (h2 : ¬ dp < 0) (h3 : ¬ n < 0) (h4 : sp.toNatClampNeg + n.toNatClampNeg ≤ n0) (h5 : dp.toNatClampNeg + n.toNatClampNeg ≤ n1) (hfit : ∀ i, i < n.toNatClampNeg → fits ty (.int (f (sp.toNatClampNeg + i))) = true)
    (hframes : 1 ≤ R.frames) (hlocals : (rest.map fun v => v.category).sum + (nativeFrameWords "java/lang/System" "arraycopy" 5 + 11) ≤ R.locals) (hdg : decode cc pc = .ok (.invokestatic index, 3))
    (kk : ∀ (H1 : Heap) (locs1 : List Loc) (w1 : Nat → va_E), w1 k1 = .inl (c1, n1, .inl (va_cpy f g sp.toNatClampNeg dp.toNatClampNeg n.toNatClampNeg)) → (∀ i : Nat, i ≠ k1 → w1 i = w i) → cd_P D ad N A w1 H1 → va_S A H0 H1 locs1 → W p l e R s m args below meth c H1 locs1 cells slots Q (F0 m (pc + 3) ls rest)) : W p l e R s m args below meth c H locs cells slots Q (F0 m pc ls (.int n :: .int dp :: .ref (ad k1) :: .int sp :: .ref (ad k0) :: rest)) :=
  va_copyi hx hb hml hown hlink hnat hstat hini hK hP.1 hP.2 hS k0 k1 t0 t1 (cd_W_at hk0 he0) (cd_W_at hk1 he1) ht0 ht1 hprim h1 h2 h3 h4 h5 hfit hframes hlocals hdg (fun H1 locs1 h1 h2 h3 => kk H1 locs1 _ cd_up_s cd_up_n ⟨by rw [cd_W_set] at h1; exact h1, by rw [cd_W_set] at h2; exact h2⟩ h3)
theorem g_aald (hx : p.tables.exec = Jvm.exec) (hb : c.code = cc) (hK : va_K D cd_cl (cd_T tt) s) (hP : cd_P D ad N A w H) (hk : k < N) {cA : ClassId} {n : Nat} {f : Nat → Option Nat} (he : w k = .inl (cA, n, .inr (.inr (.inr (.inr f))))) (ht : (cd_T tt)[3]? = some (cA, .object "CoreDesk$Region")) {i : Int32} (hin : vp_in i n) {a : Nat} (ha : f i.toNatClampNeg = some a) (hdg : decode cc pc = .ok (.aaload, 1))
    (kk : W p l e R s m args below meth c H locs cells slots Q (F0 m (pc + 1) ls (.ref a :: rest))) : W p l e R s m args below meth c H locs cells slots Q (F0 m pc ls (.int i :: .ref (ad k) :: rest)) :=
  va_aldq hx hb hK hP.1 k 3 (cd_W_at hk he) ht hin hdg (by rw [ha]; exact kk)
theorem g_aast (hx : p.tables.exec = Jvm.exec) (hb : c.code = cc) (hK : va_K D cd_cl (cd_T tt) s) (hP : cd_P D ad N A w H) (hS : va_S A H0 H locs) {kv ci : Nat} (hk : k < N) (hkv : kv < N) {cA : ClassId} {n : Nat} {r : vw_C} {vs : List Value} {f : Nat → Option Nat} (he : w k = .inl (cA, n, .inr (.inr (.inr (.inr f))))) (hv : w kv = .inr (ci, vs)) (hc : cd_cl[ci]? = some r) (ht : (cd_T tt)[3]? = some (cA, .object r.1)) {i : Int32} (hin : vp_in i n) (hdg : decode cc pc = .ok (.aastore, 1))
    (kk : ∀ (H1 : Heap) (locs1 : List Loc) (w1 : Nat → va_E), w1 k = .inl (cA, n, .inr (.inr (.inr (.inr (va_up f i.toNatClampNeg (some (ad kv))))))) → (∀ i : Nat, i ≠ k → w1 i = w i) → cd_P D ad N A w1 H1 → va_S A H0 H1 locs1 → W p l e R s m args below meth c H1 locs1 cells slots Q (F0 m (pc + 1) ls rest)) : W p l e R s m args below meth c H locs cells slots Q (F0 m pc ls (.ref (ad kv) :: .int i :: .ref (ad k) :: rest)) :=
  va_astq hx hb hK hP.1 hP.2 hS k 3 kv ci (cd_W_at hk he) ht (cd_W_at hkv hv) hc hin hdg (fun H1 locs1 h1 h2 h3 => kk H1 locs1 _ cd_up_s cd_up_n ⟨by rw [cd_W_set] at h1; exact h1, by rw [cd_W_set] at h2; exact h2⟩ h3)
theorem g_optN {r : Option Nat} {fn : Nat → Nat} (h : r = none) (k : W p l e R s m args below meth c H locs cells slots Q (F0 m pc ls (.null :: rest))) : W p l e R s m args below meth c H locs cells slots Q (F0 m pc ls (va_rf (r.map fn) :: rest)) := by
  subst h
  exact k
theorem g_optS {r : Option Nat} {fn : Nat → Nat} (h : ¬ r = none) (k : W p l e R s m args below meth c H locs cells slots Q (F0 m pc ls (.ref (fn (r.getD 0)) :: rest))) : W p l e R s m args below meth c H locs cells slots Q (F0 m pc ls (va_rf (r.map fn) :: rest)) := by
  cases r with
  | none => exact absurd rfl h
  | some x => exact k
theorem g_tabIn (hx : p.tables.exec = Jvm.exec) (hb : c.code = cc) {dflt lo hi : Int} {offs : Array Int} {len : Nat} {x y : Int32} {off : Int} {tgt : Nat} (hdg : decode cc pc = .ok (.tableswitch dflt lo hi offs, len)) (h : x = y) (h1 : ¬ y.toInt < lo) (h2 : ¬ hi < y.toInt) (ho : offs[(y.toInt - lo).toNat]? = some off) (ht : (pc : Int) + off = (tgt : Int))
    (k : W p l e R s m args below meth c H locs cells slots Q (F0 m tgt ls rest)) : W p l e R s m args below meth c H locs cells slots Q (F0 m pc ls (.int x :: rest)) := by
  subst h
  exact lv_tableIn hx hb hdg h1 h2 ho ht k
end CDG
end
section
abbrev cd_Row : Type := Int32 × (Nat → Int32)
def cd_RowAt (N : Nat) (tt : Nat → ClassId) (ad : Nat → Nat) (w : Nat → va_E) (q : Nat) (n : Nat) (u : cd_Row) : Prop := q + 2 ≤ N ∧ w q = .inr (0, [.ref (ad (q + 1)), .int u.1]) ∧ w (q + 1) = .inl (tt 0, n, .inl u.2)
theorem cd_RowAt_keep {N : Nat} {tt : Nat → ClassId} {ad : Nat → Nat} {w w' : Nat → va_E} {q n : Nat} {u : cd_Row} (h : cd_RowAt N tt ad w q n u) (hk : ∀ k : Nat, q ≤ k → k < q + 2 → w' k = w k) : cd_RowAt N tt ad w' q n u := by
  obtain ⟨hn, h0, h1⟩ := h
  exact ⟨hn, (hk q (by omega) (by omega)).trans h0, (hk (q + 1) (by omega) (by omega)).trans h1⟩
abbrev cd_Reg : Type := Int32 × Int32 × Int32 × (Nat → Int32)
def cd_RegAt (N : Nat) (tt : Nat → ClassId) (ad : Nat → Nat) (w : Nat → va_E) (q : Nat) (u : cd_Reg) : Prop := q + 2 ≤ N ∧ w q = .inr (1, [.ref (ad (q + 1)), .int u.1, .int u.2.1, .int u.2.2.1]) ∧ w (q + 1) = .inl (tt 0, 1024, .inl u.2.2.2)
theorem cd_RegAt_keep {N : Nat} {tt : Nat → ClassId} {ad : Nat → Nat} {w w' : Nat → va_E} {q : Nat} {u : cd_Reg} (h : cd_RegAt N tt ad w q u) (hk : ∀ k : Nat, q ≤ k → k < q + 2 → w' k = w k) : cd_RegAt N tt ad w' q u := by
  obtain ⟨hn, h0, h1⟩ := h
  exact ⟨hn, (hk q (by omega) (by omega)).trans h0, (hk (q + 1) (by omega) (by omega)).trans h1⟩
abbrev cd_Tt : Type := Int32 × (Nat → Int32) × (Nat → Int32)
def cd_TtAt (N : Nat) (tt : Nat → ClassId) (ad : Nat → Nat) (w : Nat → va_E) (q : Nat) (u : cd_Tt) : Prop := q + 3 ≤ N ∧ w q = .inr (2, [.ref (ad (q + 1)), .ref (ad (q + 2)), .int u.1]) ∧ w (q + 1) = .inl (tt 1, 3, .inl u.2.1) ∧ w (q + 2) = .inl (tt 1, 24, .inl u.2.2)
theorem cd_TtAt_keep {N : Nat} {tt : Nat → ClassId} {ad : Nat → Nat} {w w' : Nat → va_E} {q : Nat} {u : cd_Tt} (h : cd_TtAt N tt ad w q u) (hk : ∀ k : Nat, q ≤ k → k < q + 3 → w' k = w k) : cd_TtAt N tt ad w' q u := by
  obtain ⟨hn, h0, h1, h2⟩ := h
  exact ⟨hn, (hk q (by omega) (by omega)).trans h0, (hk (q + 1) (by omega) (by omega)).trans h1, (hk (q + 2) (by omega) (by omega)).trans h2⟩
abbrev cd_By : Type := Nat → Int32
def cd_ByAt (N : Nat) (tt : Nat → ClassId) (ad : Nat → Nat) (w : Nat → va_E) (q : Nat) (n : Nat) (u : cd_By) : Prop := q + 1 ≤ N ∧ w q = .inl (tt 0, n, .inl u)
theorem cd_ByAt_keep {N : Nat} {tt : Nat → ClassId} {ad : Nat → Nat} {w w' : Nat → va_E} {q n : Nat} {u : cd_By} (h : cd_ByAt N tt ad w q n u) (hk : ∀ k : Nat, q ≤ k → k < q + 1 → w' k = w k) : cd_ByAt N tt ad w' q n u := by
  obtain ⟨hn, h0⟩ := h
  exact ⟨hn, (hk q (by omega) (by omega)).trans h0⟩
abbrev cd_Ia : Type := Nat → Int32
def cd_IaAt (N : Nat) (tt : Nat → ClassId) (ad : Nat → Nat) (w : Nat → va_E) (q : Nat) (n : Nat) (u : cd_Ia) : Prop := q + 1 ≤ N ∧ w q = .inl (tt 1, n, .inl u)
theorem cd_IaAt_keep {N : Nat} {tt : Nat → ClassId} {ad : Nat → Nat} {w w' : Nat → va_E} {q n : Nat} {u : cd_Ia} (h : cd_IaAt N tt ad w q n u) (hk : ∀ k : Nat, q ≤ k → k < q + 1 → w' k = w k) : cd_IaAt N tt ad w' q n u := by
  obtain ⟨hn, h0⟩ := h
  exact ⟨hn, (hk q (by omega) (by omega)).trans h0⟩
abbrev cd_Mem : Type := Int32 × (Nat → Nat) × (Nat → cd_Reg)
def cd_MemAt (N : Nat) (tt : Nat → ClassId) (ad : Nat → Nat) (w : Nat → va_E) (q : Nat) (u : cd_Mem) : Prop := q + 14 ≤ N ∧ w q = .inr (3, [.ref (ad (q + 1)), .int u.1]) ∧ (∃ rf : Nat → Option Nat, w (q + 1) = .inl (tt 3, 6, .inr (.inr (.inr (.inr rf)))) ∧ ∀ i : Nat, i < 6 → u.2.1 i < 6 ∧ rf i = some (ad ((q + 2) + 2 * u.2.1 i))) ∧ ∀ j : Nat, j < 6 → cd_RegAt N tt ad w ((q + 2) + 2 * j) (u.2.2 j)
theorem cd_pool_keep {N : Nat} {tt : Nat → ClassId} {ad : Nat → Nat} {w w' : Nat → va_E} {q : Nat} {P : Nat → cd_Reg} (h : ∀ j : Nat, j < 6 → cd_RegAt N tt ad w (q + 2 * j) (P j)) (hk : ∀ k : Nat, q ≤ k → k < q + 12 → w' k = w k) : ∀ j : Nat, j < 6 → cd_RegAt N tt ad w' (q + 2 * j) (P j) := fun j hj => cd_RegAt_keep (h j hj) (fun k h1 h2 => hk k (by omega) (by omega))
theorem cd_pool_put {N : Nat} {tt : Nat → ClassId} {ad : Nat → Nat} {w w' : Nat → va_E} {q : Nat} {P : Nat → cd_Reg} {i : Nat} {r : cd_Reg} (h : ∀ j : Nat, j < 6 → cd_RegAt N tt ad w (q + 2 * j) (P j)) (_ : i < 6) (hr : cd_RegAt N tt ad w' (q + 2 * i) r) (hk : ∀ k : Nat, (k < q + 2 * i ∨ q + 2 * i + 2 ≤ k) → w' k = w k) : ∀ j : Nat, j < 6 → cd_RegAt N tt ad w' (q + 2 * j) (va_up P i r j) := by
  intro j hj
  by_cases hji : j = i
  · subst hji
    rw [cd_up_s]
    exact hr
  · rw [cd_up_n j hji]
    exact cd_RegAt_keep (h j hj) (fun k h1 h2 => hk k (by omega))
theorem cd_refs_put {ad : Nat → Nat} {q i t : Nat} {pi : Nat → Nat} {rf : Nat → Option Nat} (h : ∀ i : Nat, i < 6 → pi i < 6 ∧ rf i = some (ad (q + 2 * pi i))) (ht : t < 6) : ∀ j : Nat, j < 6 → va_up pi i t j < 6 ∧ va_up rf i (some (ad (q + 2 * t))) j = some (ad (q + 2 * va_up pi i t j)) := by
  intro j hj
  by_cases hji : j = i
  · subst hji
    rw [cd_up_s, cd_up_s]
    exact ⟨ht, rfl⟩
  · rw [cd_up_n j hji, cd_up_n j hji]
    exact h j hj
theorem cd_MemAt_keep {N : Nat} {tt : Nat → ClassId} {ad : Nat → Nat} {w w' : Nat → va_E} {q : Nat} {u : cd_Mem} (h : cd_MemAt N tt ad w q u) (hk : ∀ k : Nat, q ≤ k → k < q + 14 → w' k = w k) : cd_MemAt N tt ad w' q u := by
  obtain ⟨hn, h0, ⟨rf, h1, h2⟩, h3⟩ := h
  exact ⟨hn, (hk q (by omega) (by omega)).trans h0, ⟨rf, (hk (q + 1) (by omega) (by omega)).trans h1, h2⟩, cd_pool_keep h3 (fun k h1 h2 => hk k (by omega) (by omega))⟩
theorem cd_in6 {i : Int32} (h : vp_in i 6) : i.toNatClampNeg < 6 := by
  unfold vp_in at h
  omega
def cd_FwAt (N : Nat) (tt : Nat → ClassId) (ad : Nat → Nat) (w : Nat → va_E) (q : Nat) (qf : Nat) (qm : Nat) (qt : Nat) : Prop := q + 1 ≤ N ∧ w q = .inr (4, [.ref (ad qf), .ref (ad qm), .ref (ad qt)])
theorem cd_FwAt_keep {N : Nat} {tt : Nat → ClassId} {ad : Nat → Nat} {w w' : Nat → va_E} {q qf qm qt : Nat} (h : cd_FwAt N tt ad w q qf qm qt) (hk : ∀ k : Nat, q ≤ k → k < q + 1 → w' k = w k) : cd_FwAt N tt ad w' q qf qm qt := ⟨h.1, (hk q (by omega) (by omega)).trans h.2⟩
abbrev cd_Tc : Type := Int32 × Int32
def cd_TcAt (N : Nat) (tt : Nat → ClassId) (ad : Nat → Nat) (w : Nat → va_E) (q : Nat) (qp : Nat) (u : cd_Tc) : Prop := q + 1 ≤ N ∧ w q = .inr (5, [.ref (ad qp), .ref (ad (q + 1)), .int u.1, .int u.2])
theorem cd_TcAt_keep {N : Nat} {tt : Nat → ClassId} {ad : Nat → Nat} {w w' : Nat → va_E} {q qp : Nat} {u : cd_Tc} (h : cd_TcAt N tt ad w q qp u) (hk : ∀ k : Nat, q ≤ k → k < q + 1 → w' k = w k) : cd_TcAt N tt ad w' q qp u := by
  obtain ⟨hn, h0⟩ := h
  exact ⟨hn, (hk q (by omega) (by omega)).trans h0⟩
abbrev cd_Has : Type := Int32
def cd_DeskAt (N : Nat) (tt : Nat → ClassId) (ad : Nat → Nat) (w : Nat → va_E) (q : Nat) (u : cd_Has) : Prop := q + 1 ≤ N ∧ w q = .inr (6, [.ref (ad (q + 1)), .ref (ad (q + 15)), .ref (ad (q + 18)), .ref (ad (q + 20)), .ref (ad (q + 21)), .ref (ad (q + 23)), .ref (ad (q + 27)), .ref (ad (q + 41)), .int u])
theorem cd_DeskAt_keep {N : Nat} {tt : Nat → ClassId} {ad : Nat → Nat} {w w' : Nat → va_E} {q : Nat} {u : cd_Has} (h : cd_DeskAt N tt ad w q u) (hk : ∀ k : Nat, q ≤ k → k < q + 1 → w' k = w k) : cd_DeskAt N tt ad w' q u := by
  obtain ⟨hn, h0⟩ := h
  exact ⟨hn, (hk q (by omega) (by omega)).trans h0⟩
end
section
def f_Row_length (n : Nat) (u : cd_Row) : Int32 := u.1
set_option maxHeartbeats 4000000 in
set_option maxRecDepth 100000 in
theorem c_Row_length (l : Launch) (D : va_G) (tt : Nat → ClassId) (ad : Nat → Nat) (N : Nat) (A : Nat → Prop) (zs : Nat → Nat) (w0 : Nat → va_E) (q n : Nat) (u : cd_Row) (hR0 : cd_RowAt N tt ad w0 q n u) : Met l y_Row_length w_Row_length ({ frames := 0, cells := 0, slots := 0, locals := 0 }) (va_Pc [.ref (ad q)] (cd_U D tt ad N A zs w0)) (va_Qi (fun r w' => (f_Row_length n u) = r ∧ w0 = w') (fun w' t => cd_P D ad N A w' t.heap) A) 0 0 A := by
  refine Met.ofW (cc := b_Row_length) (maxL := 1) (ret := (some .int)) (by decide) rfl ?_
  intro p e s m args below meth c s₁ B hml hv
  obtain ⟨rfl, hP, hK, hZ⟩ := hv
  have hx := B.exec
  have hb := B.bytes
  have hr := B.returns
  have hA : ∀ w ∈ cd_AW, w.before _ s = true := fun w h => atoms_spec (ws := w_Row_length) B.pre w (List.mem_cons_of_mem _ h)
  have hown : s.vm.findClass R_Row = some m.cls := findClass_of_methodNamed B.named
  have hlocks := B.notSynchronized
  have hS : va_S A s.heap s.heap [] := va_S.rf
  have hl := lv_entry ([.ref (ad q)]) (n := 1) (Nat.le_of_ble_eq_true rfl)
  rw [lg_entry_eq]
  generalize (lg_sl ([.ref (ad q)]) ++ List.replicate (1 - (lg_sl ([.ref (ad q)])).length) Slot.unset).toArray = ls at hl ⊢
  have hl : lv_has ls 1 [(0, .ref (ad q))] := hl
  obtain ⟨hn1, fa2, fa3⟩ := hR0
  refine lv_aload_n hx hb d_Row_length_0 rfl (lv_at hl 0 rfl) ?_
  refine g_get (ci := 0) (C := R_Row) (T := F_Row) (Nf := 2) (v := .int u.1) hx hb hA in_Row hown hK hP (k := q) (by omega) fa2 rfl 1 (by decide) (hA _ aw_69) (fun _ h9 => h9) rfl d_Row_length_1 ?_
  have hf4 : (f_Row_length n u) = u.1 := by rw [f_Row_length]
  exact W.iret (v := u.1) hx hb hr (fun tE ht _ => ⟨⟨_, w0, rfl, ⟨hf4, rfl⟩, cd_Pt ht hP⟩, hS.F ht⟩) hS.2.2 d_Row_length_4
def f_Row_at (n : Nat) (u : cd_Row) (k : Int32) : Int32 := (if k < 0 then (-1 : Int32) else (if k < u.1 then ((u.2 k.toNatClampNeg) &&& (255 : Int32)) else (-1 : Int32)))
def o_Row_at (n : Nat) (u : cd_Row) (k : Int32) : Prop := (¬ k < 0 → k < u.1 → vp_in k n)
set_option maxHeartbeats 4000000 in
set_option maxRecDepth 100000 in
theorem c_Row_at (l : Launch) (D : va_G) (tt : Nat → ClassId) (ad : Nat → Nat) (N : Nat) (A : Nat → Prop) (zs : Nat → Nat) (w0 : Nat → va_E) (q n : Nat) (u : cd_Row) (k : Int32) (hR0 : cd_RowAt N tt ad w0 q n u) (ho : o_Row_at n u k) : Met l y_Row_at w_Row_at ({ frames := 0, cells := 0, slots := 0, locals := 0 }) (va_Pc [.ref (ad q), .int k] (cd_U D tt ad N A zs w0)) (va_Qi (fun r w' => (f_Row_at n u k) = r ∧ w0 = w') (fun w' t => cd_P D ad N A w' t.heap) A) 0 0 A := by
  refine Met.ofW (cc := b_Row_at) (maxL := 2) (ret := (some .int)) (by decide) rfl ?_
  intro p e s m args below meth c s₁ B hml hv
  obtain ⟨rfl, hP, hK, hZ⟩ := hv
  have hx := B.exec
  have hb := B.bytes
  have hr := B.returns
  have hA : ∀ w ∈ cd_AW, w.before _ s = true := fun w h => atoms_spec (ws := w_Row_at) B.pre w (List.mem_cons_of_mem _ h)
  have hown : s.vm.findClass R_Row = some m.cls := findClass_of_methodNamed B.named
  have hlocks := B.notSynchronized
  have hS : va_S A s.heap s.heap [] := va_S.rf
  have hl := lv_entry ([.ref (ad q), .int k]) (n := 2) (Nat.le_of_ble_eq_true rfl)
  rw [lg_entry_eq]
  generalize (lg_sl ([.ref (ad q), .int k]) ++ List.replicate (2 - (lg_sl ([.ref (ad q), .int k])).length) Slot.unset).toArray = ls at hl ⊢
  have hl : lv_has ls 2 [(0, .ref (ad q)), (1, .int k)] := hl
  have ho : (¬ k < 0 → k < u.1 → vp_in k n) := ho
  obtain ⟨hn1, fa2, fa3⟩ := hR0
  refine lv_iload_n hx hb d_Row_at_0 rfl (lv_at hl 1 rfl) ?_
  refine lv_if_lt (tgt := 12) hx hb d_Row_at_1 (by decide) (fun hc4 => ?_) (fun hc4 => ?_)
  · refine lv_iconst (v := (-1 : Int32)) hx hb d_Row_at_12 (by decide) ?_
    refine lv_goto (tgt := 26) hx hb d_Row_at_13 (by decide) ?_
    have hf5 : (f_Row_at n u k) = (-1 : Int32) := by rw [f_Row_at, if_pos hc4]
    exact W.iret (v := (-1 : Int32)) hx hb hr (fun tE ht _ => ⟨⟨_, w0, rfl, ⟨hf5, rfl⟩, cd_Pt ht hP⟩, hS.F ht⟩) hS.2.2 d_Row_at_26
  · refine lv_iload_n hx hb d_Row_at_4 rfl (lv_at hl 1 rfl) ?_
    refine lv_aload_n hx hb d_Row_at_5 rfl (lv_at hl 0 rfl) ?_
    refine g_get (ci := 0) (C := R_Row) (T := F_Row) (Nf := 2) (v := .int u.1) hx hb hA in_Row hown hK hP (k := q) (by omega) fa2 rfl 1 (by decide) (hA _ aw_69) (fun _ h9 => h9) rfl d_Row_at_6 ?_
    refine lv_icmp_lt (tgt := 16) hx hb d_Row_at_9 (by decide) (fun hc6 => ?_) (fun hc6 => ?_)
    · refine lv_aload_n hx hb d_Row_at_16 rfl (lv_at hl 0 rfl) ?_
      refine g_get (ci := 0) (C := R_Row) (T := F_Row) (Nf := 2) (v := .ref (ad (q + 1))) hx hb hA in_Row hown hK hP (k := q) (by omega) fa2 rfl 0 (by decide) (hA _ aw_68) (fun _ h9 => h9) rfl d_Row_at_17 ?_
      refine lv_iload_n hx hb d_Row_at_20 rfl (lv_at hl 1 rfl) ?_
      refine g_bald hx hb hK hP (k := (q + 1)) (by omega) fa3 rfl (ho hc4 hc6) d_Row_at_21 ?_
      refine lv_sipush (v := (255 : Int32)) hx hb d_Row_at_22 (by decide) ?_
      refine lv_iand hx hb d_Row_at_25 ?_
      have hf7 : (f_Row_at n u k) = ((u.2 k.toNatClampNeg) &&& (255 : Int32)) := by rw [f_Row_at, if_neg hc4, if_pos hc6]
      exact W.iret (v := ((u.2 k.toNatClampNeg) &&& (255 : Int32))) hx hb hr (fun tE ht _ => ⟨⟨_, w0, rfl, ⟨hf7, rfl⟩, cd_Pt ht hP⟩, hS.F ht⟩) hS.2.2 d_Row_at_26
    · refine lv_iconst (v := (-1 : Int32)) hx hb d_Row_at_12 (by decide) ?_
      refine lv_goto (tgt := 26) hx hb d_Row_at_13 (by decide) ?_
      have hf8 : (f_Row_at n u k) = (-1 : Int32) := by rw [f_Row_at, if_neg hc4, if_neg hc6]
      exact W.iret (v := (-1 : Int32)) hx hb hr (fun tE ht _ => ⟨⟨_, w0, rfl, ⟨hf8, rfl⟩, cd_Pt ht hP⟩, hS.F ht⟩) hS.2.2 d_Row_at_26
def f_Row_number_L23 (n : Nat) (u : cd_Row) (k : Int32) (x : Int32) : Nat → Int32 → Int32 → Int32
  | 0, _, _ => default
  | gn + 1, v, i => (if i < 0 then v else (f_Row_number_L23 n u k x gn ((v <<< ((8 : Int32) &&& 31)) ||| ((u.2 (k + i).toNatClampNeg) &&& (255 : Int32))) (i + (-1 : Int32))))
def f_Row_number (n : Nat) (u : cd_Row) (k : Int32) (x : Int32) : Int32 := (if k < 0 then (0 : Int32) else (if k ≤ (u.1 - x) then (f_Row_number_L23 n u k x 5 (0 : Int32) (x - (1 : Int32))) else (0 : Int32)))
def o_Row_number_L23 (n : Nat) (u : cd_Row) (k : Int32) (x : Int32) : Nat → Int32 → Int32 → Prop
  | 0, _, _ => False
  | gn + 1, v, i => (¬ i < 0 → vp_in (k + i) n) ∧ (¬ i < 0 → o_Row_number_L23 n u k x gn ((v <<< ((8 : Int32) &&& 31)) ||| ((u.2 (k + i).toNatClampNeg) &&& (255 : Int32))) (i + (-1 : Int32)))
def o_Row_number (n : Nat) (u : cd_Row) (k : Int32) (x : Int32) : Prop := (¬ k < 0 → k ≤ (u.1 - x) → o_Row_number_L23 n u k x 5 (0 : Int32) (x - (1 : Int32)))
set_option maxHeartbeats 4000000 in
set_option maxRecDepth 100000 in
theorem c_Row_number (l : Launch) (D : va_G) (tt : Nat → ClassId) (ad : Nat → Nat) (N : Nat) (A : Nat → Prop) (zs : Nat → Nat) (w0 : Nat → va_E) (q n : Nat) (u : cd_Row) (k : Int32) (x : Int32) (hR0 : cd_RowAt N tt ad w0 q n u) (ho : o_Row_number n u k x) : Met l y_Row_number w_Row_number ({ frames := 0, cells := 0, slots := 0, locals := 0 }) (va_Pc [.ref (ad q), .int k, .int x] (cd_U D tt ad N A zs w0)) (va_Qi (fun r w' => (f_Row_number n u k x) = r ∧ w0 = w') (fun w' t => cd_P D ad N A w' t.heap) A) 0 0 A := by
  refine Met.ofW (cc := b_Row_number) (maxL := 5) (ret := (some .int)) (by decide) rfl ?_
  intro p e s m args below meth c s₁ B hml hv
  obtain ⟨rfl, hP, hK, hZ⟩ := hv
  have hx := B.exec
  have hb := B.bytes
  have hr := B.returns
  have hA : ∀ w ∈ cd_AW, w.before _ s = true := fun w h => atoms_spec (ws := w_Row_number) B.pre w (List.mem_cons_of_mem _ h)
  have hown : s.vm.findClass R_Row = some m.cls := findClass_of_methodNamed B.named
  have hlocks := B.notSynchronized
  have L23 : ∀ (gn : Nat) (v : Int32) (i : Int32) (H : Heap) (locs : List Loc) (ls : Array Slot), lv_has ls 5 [(0, .ref (ad q)), (1, .int k), (2, .int x), (3, .int v), (4, .int i)] → (f_Row_number n u k x) = f_Row_number_L23 n u k x gn v i → cd_RowAt N tt ad w0 q n u → cd_P D ad N A w0 H → va_S A s.heap H locs → o_Row_number_L23 n u k x gn v i → W p l e (headSpec w_Row_number ({ frames := 0, cells := 0, slots := 0, locals := 0 })).room s m [.ref (ad q), .int k, .int x].toArray below meth c H locs 0 0 (MQ below (va_Qi (fun r w' => (f_Row_number n u k x) = r ∧ w0 = w') (fun w' t => cd_P D ad N A w' t.heap) A) [.ref (ad q), .int k, .int x].toArray s 0 0 A) (F0 m 23 ls []) := by
    intro gn
    induction gn with
    | zero => intro v i H locs ls hl he hL0 hP hS ho; exact ho.elim
    | succ gn ih =>
      intro v i H locs ls hl he hL0 hP hS ho
      have ho : (¬ i < 0 → vp_in (k + i) n) ∧ (¬ i < 0 → o_Row_number_L23 n u k x gn ((v <<< ((8 : Int32) &&& 31)) ||| ((u.2 (k + i).toNatClampNeg) &&& (255 : Int32))) (i + (-1 : Int32))) := ho
      obtain ⟨hn1, fa2, fa3⟩ := hL0
      refine lv_iload hx hb d_Row_number_23 (lv_at hl 4 rfl) ?_
      refine lv_if_lt (tgt := 53) hx hb d_Row_number_25 (by decide) (fun hc4 => ?_) (fun hc4 => ?_)
      · refine lv_iload_n hx hb d_Row_number_53 rfl (lv_at hl 3 rfl) ?_
        have hf5 : (f_Row_number n u k x) = v := by rw [he, f_Row_number_L23, if_pos hc4]
        exact W.iret (v := v) hx hb hr (fun tE ht _ => ⟨⟨_, w0, rfl, ⟨hf5, rfl⟩, cd_Pt ht hP⟩, hS.F ht⟩) hS.2.2 d_Row_number_54
      · refine lv_iload_n hx hb d_Row_number_28 rfl (lv_at hl 3 rfl) ?_
        refine lv_bipush (v := (8 : Int32)) hx hb d_Row_number_29 (by decide) ?_
        refine lv_ishl hx hb d_Row_number_31 ?_
        refine lv_aload_n hx hb d_Row_number_32 rfl (lv_at hl 0 rfl) ?_
        refine g_get (ci := 0) (C := R_Row) (T := F_Row) (Nf := 2) (v := .ref (ad (q + 1))) hx hb hA in_Row hown hK hP (k := q) (by omega) fa2 rfl 0 (by decide) (hA _ aw_68) (fun _ h9 => h9) rfl d_Row_number_33 ?_
        refine lv_iload_n hx hb d_Row_number_36 rfl (lv_at hl 1 rfl) ?_
        refine lv_iload hx hb d_Row_number_37 (lv_at hl 4 rfl) ?_
        refine lv_iadd hx hb d_Row_number_39 ?_
        refine g_bald hx hb hK hP (k := (q + 1)) (by omega) fa3 rfl (ho.1 hc4) d_Row_number_40 ?_
        refine lv_sipush (v := (255 : Int32)) hx hb d_Row_number_41 (by decide) ?_
        refine lv_iand hx hb d_Row_number_44 ?_
        refine lv_ior hx hb d_Row_number_45 ?_
        refine lv_istore_n (lv' := [(3, .int ((v <<< ((8 : Int32) &&& 31)) ||| ((u.2 (k + i).toNatClampNeg) &&& (255 : Int32)))), (0, .ref (ad q)), (1, .int k), (2, .int x), (4, .int i)]) hx hb d_Row_number_46 rfl hl (by decide) rfl (fun ls hl => ?_)
        refine lv_iinc (k := 4) (v := (i + (-1 : Int32))) (lv' := [(4, .int (i + (-1 : Int32))), (3, .int ((v <<< ((8 : Int32) &&& 31)) ||| ((u.2 (k + i).toNatClampNeg) &&& (255 : Int32)))), (0, .ref (ad q)), (1, .int k), (2, .int x)]) hx hb d_Row_number_47 hl rfl (cd_inc _ _ _ (by decide)) (by decide) rfl (fun ls hl => ?_)
        refine lv_goto (tgt := 23) hx hb d_Row_number_50 (by decide) ?_
        exact ih ((v <<< ((8 : Int32) &&& 31)) ||| ((u.2 (k + i).toNatClampNeg) &&& (255 : Int32))) (i + (-1 : Int32)) H locs ls (lv_sub hl [2, 3, 4, 1, 0] rfl) (show (f_Row_number n u k x) = f_Row_number_L23 n u k x gn ((v <<< ((8 : Int32) &&& 31)) ||| ((u.2 (k + i).toNatClampNeg) &&& (255 : Int32))) (i + (-1 : Int32)) by rw [he, f_Row_number_L23, if_neg hc4]) (⟨hn1, fa2, fa3⟩) hP hS (ho.2 hc4)
  have hS : va_S A s.heap s.heap [] := va_S.rf
  have hl := lv_entry ([.ref (ad q), .int k, .int x]) (n := 5) (Nat.le_of_ble_eq_true rfl)
  rw [lg_entry_eq]
  generalize (lg_sl ([.ref (ad q), .int k, .int x]) ++ List.replicate (5 - (lg_sl ([.ref (ad q), .int k, .int x])).length) Slot.unset).toArray = ls at hl ⊢
  have hl : lv_has ls 5 [(0, .ref (ad q)), (1, .int k), (2, .int x)] := hl
  have ho : (¬ k < 0 → k ≤ (u.1 - x) → o_Row_number_L23 n u k x 5 (0 : Int32) (x - (1 : Int32))) := ho
  obtain ⟨hn6, fa7, fa8⟩ := hR0
  refine lv_iload_n hx hb d_Row_number_0 rfl (lv_at hl 1 rfl) ?_
  refine lv_if_lt (tgt := 14) hx hb d_Row_number_1 (by decide) (fun hc9 => ?_) (fun hc9 => ?_)
  · refine lv_iconst (v := (0 : Int32)) hx hb d_Row_number_14 (by decide) ?_
    have hf10 : (f_Row_number n u k x) = (0 : Int32) := by rw [f_Row_number, if_pos hc9]
    exact W.iret (v := (0 : Int32)) hx hb hr (fun tE ht _ => ⟨⟨_, w0, rfl, ⟨hf10, rfl⟩, cd_Pt ht hP⟩, hS.F ht⟩) hS.2.2 d_Row_number_15
  · refine lv_iload_n hx hb d_Row_number_4 rfl (lv_at hl 1 rfl) ?_
    refine lv_aload_n hx hb d_Row_number_5 rfl (lv_at hl 0 rfl) ?_
    refine g_get (ci := 0) (C := R_Row) (T := F_Row) (Nf := 2) (v := .int u.1) hx hb hA in_Row hown hK hP (k := q) (by omega) fa7 rfl 1 (by decide) (hA _ aw_69) (fun _ h9 => h9) rfl d_Row_number_6 ?_
    refine lv_iload_n hx hb d_Row_number_9 rfl (lv_at hl 2 rfl) ?_
    refine lv_isub hx hb d_Row_number_10 ?_
    refine lv_icmp_le (tgt := 16) hx hb d_Row_number_11 (by decide) (fun hc11 => ?_) (fun hc11 => ?_)
    · refine lv_iconst (v := (0 : Int32)) hx hb d_Row_number_16 (by decide) ?_
      refine lv_istore_n (lv' := [(3, .int (0 : Int32)), (0, .ref (ad q)), (1, .int k), (2, .int x)]) hx hb d_Row_number_17 rfl hl (by decide) rfl (fun ls hl => ?_)
      refine lv_iload_n hx hb d_Row_number_18 rfl (lv_at hl 3 rfl) ?_
      refine lv_iconst (v := (1 : Int32)) hx hb d_Row_number_19 (by decide) ?_
      refine lv_isub hx hb d_Row_number_20 ?_
      refine lv_istore (lv' := [(4, .int (x - (1 : Int32))), (3, .int (0 : Int32)), (0, .ref (ad q)), (1, .int k), (2, .int x)]) hx hb d_Row_number_21 hl (by decide) rfl (fun ls hl => ?_)
      exact L23 5 (0 : Int32) (x - (1 : Int32)) s.heap [] ls (lv_sub hl [2, 3, 4, 1, 0] rfl) (show (f_Row_number n u k x) = f_Row_number_L23 n u k x 5 (0 : Int32) (x - (1 : Int32)) by rw [f_Row_number, if_neg hc9, if_pos hc11]) (⟨hn6, fa7, fa8⟩) hP hS (ho hc9 hc11)
    · refine lv_iconst (v := (0 : Int32)) hx hb d_Row_number_14 (by decide) ?_
      have hf12 : (f_Row_number n u k x) = (0 : Int32) := by rw [f_Row_number, if_neg hc9, if_neg hc11]
      exact W.iret (v := (0 : Int32)) hx hb hr (fun tE ht _ => ⟨⟨_, w0, rfl, ⟨hf12, rfl⟩, cd_Pt ht hP⟩, hS.F ht⟩) hS.2.2 d_Row_number_15
def f_Row_change (n : Nat) (u : cd_Row) (k : Int32) (v : Int32) : Int32 × cd_Row := (if k < 0 then ((0 : Int32), u) else (if k < u.1 then ((1 : Int32), (u.1, (upd u.2 k.toNatClampNeg (vp_nar .byte v.toInt8.toInt32)))) else ((0 : Int32), u)))
def o_Row_change (n : Nat) (u : cd_Row) (k : Int32) (v : Int32) : Prop := (¬ k < 0 → k < u.1 → vp_in k n)
set_option maxHeartbeats 4000000 in
set_option maxRecDepth 100000 in
theorem c_Row_change (l : Launch) (D : va_G) (tt : Nat → ClassId) (ad : Nat → Nat) (N : Nat) (A : Nat → Prop) (zs : Nat → Nat) (w0 : Nat → va_E) (q n : Nat) (u : cd_Row) (k : Int32) (v : Int32) (hR0 : cd_RowAt N tt ad w0 q n u) (ho : o_Row_change n u k v) : Met l y_Row_change w_Row_change ({ frames := 0, cells := 0, slots := 0, locals := 0 }) (va_Pc [.ref (ad q), .int k, .int v] (cd_U D tt ad N A zs w0)) (va_Qi (fun r w' => (f_Row_change n u k v).1 = r ∧ (r = 0 ∨ r = 1) ∧ cd_RowAt N tt ad w' q n ((f_Row_change n u k v).2) ∧ (∀ k : Nat, (k < q ∨ q + 2 ≤ k) → w' k = w0 k)) (fun w' t => cd_P D ad N A w' t.heap) A) 0 0 A := by
  refine Met.ofW (cc := b_Row_change) (maxL := 3) (ret := (some .boolean)) (by decide) rfl ?_
  intro p e s m args below meth c s₁ B hml hv
  obtain ⟨rfl, hP, hK, hZ⟩ := hv
  have hx := B.exec
  have hb := B.bytes
  have hr := B.returns
  have hA : ∀ w ∈ cd_AW, w.before _ s = true := fun w h => atoms_spec (ws := w_Row_change) B.pre w (List.mem_cons_of_mem _ h)
  have hown : s.vm.findClass R_Row = some m.cls := findClass_of_methodNamed B.named
  have hlocks := B.notSynchronized
  have hS : va_S A s.heap s.heap [] := va_S.rf
  have hl := lv_entry ([.ref (ad q), .int k, .int v]) (n := 3) (Nat.le_of_ble_eq_true rfl)
  rw [lg_entry_eq]
  generalize (lg_sl ([.ref (ad q), .int k, .int v]) ++ List.replicate (3 - (lg_sl ([.ref (ad q), .int k, .int v])).length) Slot.unset).toArray = ls at hl ⊢
  have hl : lv_has ls 3 [(0, .ref (ad q)), (1, .int k), (2, .int v)] := hl
  have ho : (¬ k < 0 → k < u.1 → vp_in k n) := ho
  obtain ⟨hn1, fa2, fa3⟩ := hR0
  refine lv_iload_n hx hb d_Row_change_0 rfl (lv_at hl 1 rfl) ?_
  refine lv_if_lt (tgt := 12) hx hb d_Row_change_1 (by decide) (fun hc4 => ?_) (fun hc4 => ?_)
  · refine lv_iconst (v := (0 : Int32)) hx hb d_Row_change_12 (by decide) ?_
    have hf5 : (f_Row_change n u k v) = ((0 : Int32), u) := by rw [f_Row_change, if_pos hc4]
    exact W.zret (ty := .boolean) (v := (0 : Int32)) hx hb hr rfl (fun tE ht _ => ⟨⟨_, w0, rfl, ⟨(by rw [hf5]), (Or.inl rfl), (by rw [hf5]; exact ⟨hn1, fa2, fa3⟩), (fun _ _ => rfl)⟩, cd_Pt ht hP⟩, hS.F ht⟩) hS.2.2 d_Row_change_13
  · refine lv_iload_n hx hb d_Row_change_4 rfl (lv_at hl 1 rfl) ?_
    refine lv_aload_n hx hb d_Row_change_5 rfl (lv_at hl 0 rfl) ?_
    refine g_get (ci := 0) (C := R_Row) (T := F_Row) (Nf := 2) (v := .int u.1) hx hb hA in_Row hown hK hP (k := q) (by omega) fa2 rfl 1 (by decide) (hA _ aw_69) (fun _ h9 => h9) rfl d_Row_change_6 ?_
    refine lv_icmp_lt (tgt := 14) hx hb d_Row_change_9 (by decide) (fun hc6 => ?_) (fun hc6 => ?_)
    · refine lv_aload_n hx hb d_Row_change_14 rfl (lv_at hl 0 rfl) ?_
      refine g_get (ci := 0) (C := R_Row) (T := F_Row) (Nf := 2) (v := .ref (ad (q + 1))) hx hb hA in_Row hown hK hP (k := q) (by omega) fa2 rfl 0 (by decide) (hA _ aw_68) (fun _ h9 => h9) rfl d_Row_change_15 ?_
      refine lv_iload_n hx hb d_Row_change_18 rfl (lv_at hl 1 rfl) ?_
      refine lv_iload_n hx hb d_Row_change_19 rfl (lv_at hl 2 rfl) ?_
      refine lv_i2b hx hb d_Row_change_20 rfl ?_
      refine g_bast hx hb hK hP hS (k := (q + 1)) (by omega) fa3 rfl (ho hc4 hc6) d_Row_change_21 (fun H locs w1 fa7 e1 hP hS => ?_)
      have fa8 := (e1 q (by omega)).trans fa2
      refine lv_iconst (v := (1 : Int32)) hx hb d_Row_change_22 (by decide) ?_
      have hf9 : (f_Row_change n u k v) = ((1 : Int32), (u.1, (upd u.2 k.toNatClampNeg (vp_nar .byte v.toInt8.toInt32)))) := by rw [f_Row_change, if_neg hc4, if_pos hc6]
      exact W.zret (ty := .boolean) (v := (1 : Int32)) hx hb hr rfl (fun tE ht _ => ⟨⟨_, w1, rfl, ⟨(by rw [hf9]), (Or.inr rfl), (by rw [hf9]; exact ⟨hn1, fa8, fa7⟩), (fun k hk => (e1 k (by omega)))⟩, cd_Pt ht hP⟩, hS.F ht⟩) hS.2.2 d_Row_change_23
    · refine lv_iconst (v := (0 : Int32)) hx hb d_Row_change_12 (by decide) ?_
      have hf10 : (f_Row_change n u k v) = ((0 : Int32), u) := by rw [f_Row_change, if_neg hc4, if_neg hc6]
      exact W.zret (ty := .boolean) (v := (0 : Int32)) hx hb hr rfl (fun tE ht _ => ⟨⟨_, w0, rfl, ⟨(by rw [hf10]), (Or.inl rfl), (by rw [hf10]; exact ⟨hn1, fa2, fa3⟩), (fun _ _ => rfl)⟩, cd_Pt ht hP⟩, hS.F ht⟩) hS.2.2 d_Row_change_13
def f_Row_append (n : Nat) (u : cd_Row) (v : Int32) : Int32 × cd_Row := (if u.1 < (nI n) then ((1 : Int32), ((u.1 + (1 : Int32)), (upd u.2 u.1.toNatClampNeg (vp_nar .byte v.toInt8.toInt32)))) else ((0 : Int32), u))
def o_Row_append (n : Nat) (u : cd_Row) (v : Int32) : Prop := (u.1 < (nI n) → vp_in u.1 n)
set_option maxHeartbeats 4000000 in
set_option maxRecDepth 100000 in
theorem c_Row_append (l : Launch) (D : va_G) (tt : Nat → ClassId) (ad : Nat → Nat) (N : Nat) (A : Nat → Prop) (zs : Nat → Nat) (w0 : Nat → va_E) (q n : Nat) (u : cd_Row) (v : Int32) (hR0 : cd_RowAt N tt ad w0 q n u) (ho : o_Row_append n u v) : Met l y_Row_append w_Row_append ({ frames := 0, cells := 0, slots := 0, locals := 0 }) (va_Pc [.ref (ad q), .int v] (cd_U D tt ad N A zs w0)) (va_Qi (fun r w' => (f_Row_append n u v).1 = r ∧ (r = 0 ∨ r = 1) ∧ cd_RowAt N tt ad w' q n ((f_Row_append n u v).2) ∧ (∀ k : Nat, (k < q ∨ q + 2 ≤ k) → w' k = w0 k)) (fun w' t => cd_P D ad N A w' t.heap) A) 0 0 A := by
  refine Met.ofW (cc := b_Row_append) (maxL := 2) (ret := (some .boolean)) (by decide) rfl ?_
  intro p e s m args below meth c s₁ B hml hv
  obtain ⟨rfl, hP, hK, hZ⟩ := hv
  have hx := B.exec
  have hb := B.bytes
  have hr := B.returns
  have hA : ∀ w ∈ cd_AW, w.before _ s = true := fun w h => atoms_spec (ws := w_Row_append) B.pre w (List.mem_cons_of_mem _ h)
  have hown : s.vm.findClass R_Row = some m.cls := findClass_of_methodNamed B.named
  have hlocks := B.notSynchronized
  have hS : va_S A s.heap s.heap [] := va_S.rf
  have hl := lv_entry ([.ref (ad q), .int v]) (n := 2) (Nat.le_of_ble_eq_true rfl)
  rw [lg_entry_eq]
  generalize (lg_sl ([.ref (ad q), .int v]) ++ List.replicate (2 - (lg_sl ([.ref (ad q), .int v])).length) Slot.unset).toArray = ls at hl ⊢
  have hl : lv_has ls 2 [(0, .ref (ad q)), (1, .int v)] := hl
  have ho : (u.1 < (nI n) → vp_in u.1 n) := ho
  obtain ⟨hn1, fa2, fa3⟩ := hR0
  refine lv_aload_n hx hb d_Row_append_0 rfl (lv_at hl 0 rfl) ?_
  refine g_get (ci := 0) (C := R_Row) (T := F_Row) (Nf := 2) (v := .int u.1) hx hb hA in_Row hown hK hP (k := q) (by omega) fa2 rfl 1 (by decide) (hA _ aw_69) (fun _ h9 => h9) rfl d_Row_append_1 ?_
  refine lv_aload_n hx hb d_Row_append_4 rfl (lv_at hl 0 rfl) ?_
  refine g_get (ci := 0) (C := R_Row) (T := F_Row) (Nf := 2) (v := .ref (ad (q + 1))) hx hb hA in_Row hown hK hP (k := q) (by omega) fa2 rfl 0 (by decide) (hA _ aw_68) (fun _ h9 => h9) rfl d_Row_append_5 ?_
  refine g_alen (v := (nI n)) hx hb hK hP (k := (q + 1)) (by omega) fa3 (t0 := 0) rfl rfl d_Row_append_8 ?_
  refine lv_icmp_lt (tgt := 14) hx hb d_Row_append_9 (by decide) (fun hc4 => ?_) (fun hc4 => ?_)
  · refine lv_aload_n hx hb d_Row_append_14 rfl (lv_at hl 0 rfl) ?_
    refine g_get (ci := 0) (C := R_Row) (T := F_Row) (Nf := 2) (v := .ref (ad (q + 1))) hx hb hA in_Row hown hK hP (k := q) (by omega) fa2 rfl 0 (by decide) (hA _ aw_68) (fun _ h9 => h9) rfl d_Row_append_15 ?_
    refine lv_aload_n hx hb d_Row_append_18 rfl (lv_at hl 0 rfl) ?_
    refine g_get (ci := 0) (C := R_Row) (T := F_Row) (Nf := 2) (v := .int u.1) hx hb hA in_Row hown hK hP (k := q) (by omega) fa2 rfl 1 (by decide) (hA _ aw_69) (fun _ h9 => h9) rfl d_Row_append_19 ?_
    refine lv_iload_n hx hb d_Row_append_22 rfl (lv_at hl 1 rfl) ?_
    refine lv_i2b hx hb d_Row_append_23 rfl ?_
    refine g_bast hx hb hK hP hS (k := (q + 1)) (by omega) fa3 rfl (ho hc4) d_Row_append_24 (fun H locs w1 fa5 e1 hP hS => ?_)
    have fa6 := (e1 q (by omega)).trans fa2
    refine lv_aload_n hx hb d_Row_append_25 rfl (lv_at hl 0 rfl) ?_
    refine lv_dup hx hb d_Row_append_26 rfl ?_
    refine g_get (ci := 0) (C := R_Row) (T := F_Row) (Nf := 2) (v := .int u.1) hx hb hA in_Row hown hK hP (k := q) (by omega) fa6 rfl 1 (by decide) (hA _ aw_69) (fun _ h9 => h9) rfl d_Row_append_27 ?_
    refine lv_iconst (v := (1 : Int32)) hx hb d_Row_append_30 (by decide) ?_
    refine lv_iadd hx hb d_Row_append_31 ?_
    refine g_put (ci := 0) (C := R_Row) (T := F_Row) (Nf := 2) (v := .int (u.1 + (1 : Int32))) (ty := .int) hx hb hA in_Row t_Row t_Row_ok n_Row hown hK hP hS (k := q) (by omega) fa6 rfl 1 (by decide) (hA _ aw_69) (fun _ h9 => h9) rfl (by decide +kernel) rfl rfl (Nat.le_of_ble_eq_true rfl) d_Row_append_32 (fun H locs w2 fa7 e2 hP hS => ?_)
    have fa7 : w2 q = .inr (0, [.ref (ad (q + 1)), .int (u.1 + (1 : Int32))]) := fa7
    have fa8 := (e2 (q + 1) (by omega)).trans fa5
    refine lv_iconst (v := (1 : Int32)) hx hb d_Row_append_35 (by decide) ?_
    have hf9 : (f_Row_append n u v) = ((1 : Int32), ((u.1 + (1 : Int32)), (upd u.2 u.1.toNatClampNeg (vp_nar .byte v.toInt8.toInt32)))) := by rw [f_Row_append, if_pos hc4]
    exact W.zret (ty := .boolean) (v := (1 : Int32)) hx hb hr rfl (fun tE ht _ => ⟨⟨_, w2, rfl, ⟨(by rw [hf9]), (Or.inr rfl), (by rw [hf9]; exact ⟨hn1, fa7, fa8⟩), (fun k hk => ((e2 k (by omega)).trans (e1 k (by omega))))⟩, cd_Pt ht hP⟩, hS.F ht⟩) hS.2.2 d_Row_append_36
  · refine lv_iconst (v := (0 : Int32)) hx hb d_Row_append_12 (by decide) ?_
    have hf10 : (f_Row_append n u v) = ((0 : Int32), u) := by rw [f_Row_append, if_neg hc4]
    exact W.zret (ty := .boolean) (v := (0 : Int32)) hx hb hr rfl (fun tE ht _ => ⟨⟨_, w0, rfl, ⟨(by rw [hf10]), (Or.inl rfl), (by rw [hf10]; exact ⟨hn1, fa2, fa3⟩), (fun _ _ => rfl)⟩, cd_Pt ht hP⟩, hS.F ht⟩) hS.2.2 d_Row_append_13
def f_Row_appendNumber_L5 (n : Nat) (u : cd_Row) (v : Int32) (x : Int32) : Nat → Int32 → Int32 → cd_Row → cd_Row
  | 0, _, _, _ => default
  | gn + 1, y, i, u' => (if x ≤ i then u' else (f_Row_appendNumber_L5 n u v x gn (y >>> ((8 : Int32) &&& 31)) (i + (1 : Int32)) ((f_Row_append n u' y).2)))
def f_Row_appendNumber (n : Nat) (u : cd_Row) (v : Int32) (x : Int32) : cd_Row := (f_Row_appendNumber_L5 n u v x 5 v (0 : Int32) u)
def o_Row_appendNumber_L5 (n : Nat) (u : cd_Row) (v : Int32) (x : Int32) : Nat → Int32 → Int32 → cd_Row → Prop
  | 0, _, _, _ => False
  | gn + 1, y, i, u' => (¬ x ≤ i → o_Row_append n u' y) ∧ (¬ x ≤ i → o_Row_appendNumber_L5 n u v x gn (y >>> ((8 : Int32) &&& 31)) (i + (1 : Int32)) ((f_Row_append n u' y).2))
def o_Row_appendNumber (n : Nat) (u : cd_Row) (v : Int32) (x : Int32) : Prop := (o_Row_appendNumber_L5 n u v x 5 v (0 : Int32) u)
set_option maxHeartbeats 4000000 in
set_option maxRecDepth 100000 in
theorem c_Row_appendNumber (l : Launch) (D : va_G) (tt : Nat → ClassId) (ad : Nat → Nat) (N : Nat) (A : Nat → Prop) (zs : Nat → Nat) (w0 : Nat → va_E) (q n : Nat) (u : cd_Row) (v : Int32) (x : Int32) (hR0 : cd_RowAt N tt ad w0 q n u) (ho : o_Row_appendNumber n u v x) : Met l y_Row_appendNumber w_Row_appendNumber ({ frames := 1, cells := 0, slots := 0, locals := 21 }) (va_Pc [.ref (ad q), .int v, .int x] (cd_U D tt ad N A zs w0)) (va_Qv (fun w' => cd_RowAt N tt ad w' q n (f_Row_appendNumber n u v x) ∧ (∀ k : Nat, (k < q ∨ q + 2 ≤ k) → w' k = w0 k)) (fun w' t => cd_P D ad N A w' t.heap) A) 0 0 A := by
  refine Met.ofW (cc := b_Row_appendNumber) (maxL := 5) (ret := none) (by decide) rfl ?_
  intro p e s m args below meth c s₁ B hml hv
  obtain ⟨rfl, hP, hK, hZ⟩ := hv
  have hx := B.exec
  have hb := B.bytes
  have hr := B.returns
  have hA : ∀ w ∈ cd_AW, w.before _ s = true := fun w h => atoms_spec (ws := w_Row_appendNumber) B.pre w (List.mem_cons_of_mem _ h)
  have hown : s.vm.findClass R_Row = some m.cls := findClass_of_methodNamed B.named
  have hlocks := B.notSynchronized
  have L5 : ∀ (gn : Nat) (y : Int32) (i : Int32) (u' : cd_Row) (w : Nat → va_E) (efr : ∀ k : Nat, (k < q ∨ q + 2 ≤ k) → w k = w0 k) (H : Heap) (locs : List Loc) (ls : Array Slot), lv_has ls 5 [(0, .ref (ad q)), (1, .int v), (2, .int x), (3, .int y), (4, .int i)] → (f_Row_appendNumber n u v x) = f_Row_appendNumber_L5 n u v x gn y i u' → cd_RowAt N tt ad w q n u' → cd_P D ad N A w H → va_S A s.heap H locs → o_Row_appendNumber_L5 n u v x gn y i u' → W p l e (headSpec w_Row_appendNumber ({ frames := 1, cells := 0, slots := 0, locals := 21 })).room s m [.ref (ad q), .int v, .int x].toArray below meth c H locs 0 0 (MQ below (va_Qv (fun w' => cd_RowAt N tt ad w' q n (f_Row_appendNumber n u v x) ∧ (∀ k : Nat, (k < q ∨ q + 2 ≤ k) → w' k = w0 k)) (fun w' t => cd_P D ad N A w' t.heap) A) [.ref (ad q), .int v, .int x].toArray s 0 0 A) (F0 m 5 ls []) := by
    intro gn
    induction gn with
    | zero => intro y i u' w efr H locs ls hl he hL0 hP hS ho; exact ho.elim
    | succ gn ih =>
      intro y i u' w efr H locs ls hl he hL0 hP hS ho
      have ho : (¬ x ≤ i → o_Row_append n u' y) ∧ (¬ x ≤ i → o_Row_appendNumber_L5 n u v x gn (y >>> ((8 : Int32) &&& 31)) (i + (1 : Int32)) ((f_Row_append n u' y).2)) := ho
      obtain ⟨hn1, fa2, fa3⟩ := hL0
      refine lv_iload hx hb d_Row_appendNumber_5 (lv_at hl 4 rfl) ?_
      refine lv_iload_n hx hb d_Row_appendNumber_7 rfl (lv_at hl 2 rfl) ?_
      refine lv_icmp_ge (tgt := 28) hx hb d_Row_appendNumber_8 (by decide) (fun hc4 => ?_) (fun hc4 => ?_)
      · have hf5 : (f_Row_appendNumber n u v x) = u' := by rw [he, f_Row_appendNumber_L5, if_pos hc4]
        exact W.vret hx hb hr (fun tE ht _ => ⟨⟨w, rfl, ⟨(by rw [hf5]; exact ⟨hn1, fa2, fa3⟩), (fun k hk => (efr k (by omega)))⟩, cd_Pt ht hP⟩, hS.F ht⟩) hS.2.2 d_Row_appendNumber_28
      · refine lv_aload_n hx hb d_Row_appendNumber_11 rfl (lv_at hl 0 rfl) ?_
        refine lv_iload_n hx hb d_Row_appendNumber_12 rfl (lv_at hl 3 rfl) ?_
        refine va_calli (va_runV (As := [.int y]) (rest := []) ⟨hx, hb, hml, hown, hA⟩ (c_Row_append l D tt ad N A zs w q n u' y (⟨hn1, fa2, fa3⟩) (ho.1 hc4)) (cwV 1 hA (cd_gV aw_233 aw_234 aw_235 aw_5 aw_236) rfl rfl rfl ⟨rfl, by decide, by decide, by decide +kernel⟩ ⟨Nat.le_of_ble_eq_true rfl, Nat.le_of_ble_eq_true rfl⟩) ⟨cd_blind, cd_recv hK hP (k := q) (by omega) fa2 rfl, fun U hU hW => ⟨rfl, cd_pre hK hP hZ hS U hU hW⟩⟩ rfl rfl hl.1 rfl (lv_room (Nat.le_of_ble_eq_true rfl)) d_Row_appendNumber_13 ⟨Nat.zero_le _, Nat.zero_le _⟩) hS (fun _ _ h => h) (fun _ h => h) (fun r6 w1 tE H locs ht hvm hr7 hP hz1 hk1 hS => ?_)
        have hP := cd_Pf ht hP
        obtain ⟨rfl, hbo9, at10, e1⟩ := hr7
        obtain ⟨hn11, fa12, fa13⟩ := at10
        refine lv_pop hx hb d_Row_appendNumber_16 rfl ?_
        refine lv_iload_n hx hb d_Row_appendNumber_17 rfl (lv_at hl 3 rfl) ?_
        refine lv_bipush (v := (8 : Int32)) hx hb d_Row_appendNumber_18 (by decide) ?_
        refine lv_ishr hx hb d_Row_appendNumber_20 ?_
        refine lv_istore_n (lv' := [(3, .int (y >>> ((8 : Int32) &&& 31))), (0, .ref (ad q)), (1, .int v), (2, .int x), (4, .int i)]) hx hb d_Row_appendNumber_21 rfl hl (by decide) rfl (fun ls hl => ?_)
        refine lv_iinc (k := 4) (v := (i + (1 : Int32))) (lv' := [(4, .int (i + (1 : Int32))), (3, .int (y >>> ((8 : Int32) &&& 31))), (0, .ref (ad q)), (1, .int v), (2, .int x)]) hx hb d_Row_appendNumber_22 hl rfl (cd_inc _ _ _ (by decide)) (by decide) rfl (fun ls hl => ?_)
        refine lv_goto (tgt := 5) hx hb d_Row_appendNumber_25 (by decide) ?_
        exact ih (y >>> ((8 : Int32) &&& 31)) (i + (1 : Int32)) ((f_Row_append n u' y).2) w1 (fun k hk => ((e1 k (by omega)).trans (efr k (by omega)))) H locs ls (lv_sub hl [2, 3, 4, 1, 0] rfl) (show (f_Row_appendNumber n u v x) = f_Row_appendNumber_L5 n u v x gn (y >>> ((8 : Int32) &&& 31)) (i + (1 : Int32)) ((f_Row_append n u' y).2) by rw [he, f_Row_appendNumber_L5, if_neg hc4]) (⟨hn11, fa12, fa13⟩) hP hS (ho.2 hc4)
  have hS : va_S A s.heap s.heap [] := va_S.rf
  have hl := lv_entry ([.ref (ad q), .int v, .int x]) (n := 5) (Nat.le_of_ble_eq_true rfl)
  rw [lg_entry_eq]
  generalize (lg_sl ([.ref (ad q), .int v, .int x]) ++ List.replicate (5 - (lg_sl ([.ref (ad q), .int v, .int x])).length) Slot.unset).toArray = ls at hl ⊢
  have hl : lv_has ls 5 [(0, .ref (ad q)), (1, .int v), (2, .int x)] := hl
  have ho : (o_Row_appendNumber_L5 n u v x 5 v (0 : Int32) u) := ho
  obtain ⟨hn14, fa15, fa16⟩ := hR0
  refine lv_iload_n hx hb d_Row_appendNumber_0 rfl (lv_at hl 1 rfl) ?_
  refine lv_istore_n (lv' := [(3, .int v), (0, .ref (ad q)), (1, .int v), (2, .int x)]) hx hb d_Row_appendNumber_1 rfl hl (by decide) rfl (fun ls hl => ?_)
  refine lv_iconst (v := (0 : Int32)) hx hb d_Row_appendNumber_2 (by decide) ?_
  refine lv_istore (lv' := [(4, .int (0 : Int32)), (3, .int v), (0, .ref (ad q)), (1, .int v), (2, .int x)]) hx hb d_Row_appendNumber_3 hl (by decide) rfl (fun ls hl => ?_)
  exact L5 5 v (0 : Int32) u w0 (fun _ _ => rfl) s.heap [] ls (lv_sub hl [2, 3, 4, 1, 0] rfl) (show (f_Row_appendNumber n u v x) = f_Row_appendNumber_L5 n u v x 5 v (0 : Int32) u by rw [f_Row_appendNumber]) (⟨hn14, fa15, fa16⟩) hP hS (ho)
def f_Row_appendBytes (n : Nat) (u : cd_Row) (n1 : Nat) (u1 : cd_By) (x : Int32) : cd_Row := (if x < 0 then u else (if (nI n1) < x then u else (if x ≤ ((nI n) - u.1) then ((u.1 + x), (va_cpy u1 u.2 (0 : Int32).toNatClampNeg u.1.toNatClampNeg x.toNatClampNeg)) else u)))
def o_Row_appendBytes (n : Nat) (u : cd_Row) (n1 : Nat) (u1 : cd_By) (x : Int32) : Prop := (¬ x < 0 → ¬ (nI n1) < x → x ≤ ((nI n) - u.1) → ¬ (0 : Int32) < 0) ∧ (¬ x < 0 → ¬ (nI n1) < x → x ≤ ((nI n) - u.1) → ¬ u.1 < 0) ∧ (¬ x < 0 → ¬ (nI n1) < x → x ≤ ((nI n) - u.1) → ¬ x < 0) ∧ (¬ x < 0 → ¬ (nI n1) < x → x ≤ ((nI n) - u.1) → (0 : Int32).toNatClampNeg + x.toNatClampNeg ≤ n1) ∧ (¬ x < 0 → ¬ (nI n1) < x → x ≤ ((nI n) - u.1) → u.1.toNatClampNeg + x.toNatClampNeg ≤ n) ∧ (¬ x < 0 → ¬ (nI n1) < x → x ≤ ((nI n) - u.1) → ∀ i, i < x.toNatClampNeg → fits .byte (.int (u1 ((0 : Int32).toNatClampNeg + i))) = true)
set_option maxHeartbeats 4000000 in
set_option maxRecDepth 100000 in
theorem c_Row_appendBytes (l : Launch) (D : va_G) (tt : Nat → ClassId) (ad : Nat → Nat) (N : Nat) (A : Nat → Prop) (zs : Nat → Nat) (w0 : Nat → va_E) (q n : Nat) (u : cd_Row) (q1 n1 : Nat) (u1 : cd_By) (x : Int32) (hR0 : cd_RowAt N tt ad w0 q n u) (hR1 : cd_ByAt N tt ad w0 q1 n1 u1) (hap0 : q1 < q ∨ q + 2 ≤ q1) (ho : o_Row_appendBytes n u n1 u1 x) : Met l y_Row_appendBytes w_Row_appendBytes ({ frames := 1, cells := 0, slots := 0, locals := 60 }) (va_Pc [.ref (ad q), .ref (ad q1), .int x] (cd_U D tt ad N A zs w0)) (va_Qv (fun w' => cd_RowAt N tt ad w' q n (f_Row_appendBytes n u n1 u1 x) ∧ (∀ k : Nat, (k < q ∨ q + 2 ≤ k) → w' k = w0 k)) (fun w' t => cd_P D ad N A w' t.heap) A) 0 0 A := by
  refine Met.ofW (cc := b_Row_appendBytes) (maxL := 3) (ret := none) (by decide) rfl ?_
  intro p e s m args below meth c s₁ B hml hv
  obtain ⟨rfl, hP, hK, hZ⟩ := hv
  have hx := B.exec
  have hb := B.bytes
  have hr := B.returns
  have hA : ∀ w ∈ cd_AW, w.before _ s = true := fun w h => atoms_spec (ws := w_Row_appendBytes) B.pre w (List.mem_cons_of_mem _ h)
  have hown : s.vm.findClass R_Row = some m.cls := findClass_of_methodNamed B.named
  have hlocks := B.notSynchronized
  have hS : va_S A s.heap s.heap [] := va_S.rf
  have hl := lv_entry ([.ref (ad q), .ref (ad q1), .int x]) (n := 3) (Nat.le_of_ble_eq_true rfl)
  rw [lg_entry_eq]
  generalize (lg_sl ([.ref (ad q), .ref (ad q1), .int x]) ++ List.replicate (3 - (lg_sl ([.ref (ad q), .ref (ad q1), .int x])).length) Slot.unset).toArray = ls at hl ⊢
  have hl : lv_has ls 3 [(0, .ref (ad q)), (1, .ref (ad q1)), (2, .int x)] := hl
  have ho : (¬ x < 0 → ¬ (nI n1) < x → x ≤ ((nI n) - u.1) → ¬ (0 : Int32) < 0) ∧ (¬ x < 0 → ¬ (nI n1) < x → x ≤ ((nI n) - u.1) → ¬ u.1 < 0) ∧ (¬ x < 0 → ¬ (nI n1) < x → x ≤ ((nI n) - u.1) → ¬ x < 0) ∧ (¬ x < 0 → ¬ (nI n1) < x → x ≤ ((nI n) - u.1) → (0 : Int32).toNatClampNeg + x.toNatClampNeg ≤ n1) ∧ (¬ x < 0 → ¬ (nI n1) < x → x ≤ ((nI n) - u.1) → u.1.toNatClampNeg + x.toNatClampNeg ≤ n) ∧ (¬ x < 0 → ¬ (nI n1) < x → x ≤ ((nI n) - u.1) → ∀ i, i < x.toNatClampNeg → fits .byte (.int (u1 ((0 : Int32).toNatClampNeg + i))) = true) := ho
  obtain ⟨hn1, fa2, fa3⟩ := hR0
  refine lv_iload_n hx hb d_Row_appendBytes_0 rfl (lv_at hl 2 rfl) ?_
  refine lv_if_lt (tgt := 24) hx hb d_Row_appendBytes_1 (by decide) (fun hc4 => ?_) (fun hc4 => ?_)
  · have hf5 : (f_Row_appendBytes n u n1 u1 x) = u := by rw [f_Row_appendBytes, if_pos hc4]
    exact W.vret hx hb hr (fun tE ht _ => ⟨⟨w0, rfl, ⟨(by rw [hf5]; exact ⟨hn1, fa2, fa3⟩), (fun _ _ => rfl)⟩, cd_Pt ht hP⟩, hS.F ht⟩) hS.2.2 d_Row_appendBytes_24
  · refine lv_iload_n hx hb d_Row_appendBytes_4 rfl (lv_at hl 2 rfl) ?_
    refine lv_aload_n hx hb d_Row_appendBytes_5 rfl (lv_at hl 1 rfl) ?_
    obtain ⟨hn6, fa7⟩ := hR1
    refine g_alen (v := (nI n1)) hx hb hK hP (k := q1) (by omega) fa7 (t0 := 0) rfl rfl d_Row_appendBytes_6 ?_
    refine lv_icmp_gt (tgt := 24) hx hb d_Row_appendBytes_7 (by decide) (fun hc8 => ?_) (fun hc8 => ?_)
    · have hf9 : (f_Row_appendBytes n u n1 u1 x) = u := by rw [f_Row_appendBytes, if_neg hc4, if_pos hc8]
      exact W.vret hx hb hr (fun tE ht _ => ⟨⟨w0, rfl, ⟨(by rw [hf9]; exact ⟨hn1, fa2, fa3⟩), (fun _ _ => rfl)⟩, cd_Pt ht hP⟩, hS.F ht⟩) hS.2.2 d_Row_appendBytes_24
    · refine lv_iload_n hx hb d_Row_appendBytes_10 rfl (lv_at hl 2 rfl) ?_
      refine lv_aload_n hx hb d_Row_appendBytes_11 rfl (lv_at hl 0 rfl) ?_
      refine g_get (ci := 0) (C := R_Row) (T := F_Row) (Nf := 2) (v := .ref (ad (q + 1))) hx hb hA in_Row hown hK hP (k := q) (by omega) fa2 rfl 0 (by decide) (hA _ aw_68) (fun _ h9 => h9) rfl d_Row_appendBytes_12 ?_
      refine g_alen (v := (nI n)) hx hb hK hP (k := (q + 1)) (by omega) fa3 (t0 := 0) rfl rfl d_Row_appendBytes_15 ?_
      refine lv_aload_n hx hb d_Row_appendBytes_16 rfl (lv_at hl 0 rfl) ?_
      refine g_get (ci := 0) (C := R_Row) (T := F_Row) (Nf := 2) (v := .int u.1) hx hb hA in_Row hown hK hP (k := q) (by omega) fa2 rfl 1 (by decide) (hA _ aw_69) (fun _ h9 => h9) rfl d_Row_appendBytes_17 ?_
      refine lv_isub hx hb d_Row_appendBytes_20 ?_
      refine lv_icmp_le (tgt := 25) hx hb d_Row_appendBytes_21 (by decide) (fun hc10 => ?_) (fun hc10 => ?_)
      · refine lv_aload_n hx hb d_Row_appendBytes_25 rfl (lv_at hl 1 rfl) ?_
        refine lv_iconst (v := (0 : Int32)) hx hb d_Row_appendBytes_26 (by decide) ?_
        refine lv_aload_n hx hb d_Row_appendBytes_27 rfl (lv_at hl 0 rfl) ?_
        refine g_get (ci := 0) (C := R_Row) (T := F_Row) (Nf := 2) (v := .ref (ad (q + 1))) hx hb hA in_Row hown hK hP (k := q) (by omega) fa2 rfl 0 (by decide) (hA _ aw_68) (fun _ h9 => h9) rfl d_Row_appendBytes_28 ?_
        refine lv_aload_n hx hb d_Row_appendBytes_31 rfl (lv_at hl 0 rfl) ?_
        refine g_get (ci := 0) (C := R_Row) (T := F_Row) (Nf := 2) (v := .int u.1) hx hb hA in_Row hown hK hP (k := q) (by omega) fa2 rfl 1 (by decide) (hA _ aw_69) (fun _ h9 => h9) rfl d_Row_appendBytes_32 ?_
        refine lv_iload_n hx hb d_Row_appendBytes_35 rfl (lv_at hl 2 rfl) ?_
        refine g_copyi (ty := .byte) (t0 := 0) (t1 := 0) hx hb (hml.trans hl.1.symm) hown (hA _ aw_281) (hA _ aw_283) (hA _ aw_282) (hA _ aw_10) hK hP hS (k0 := q1) (k1 := (q + 1)) (by omega) (by omega) fa7 fa3 rfl rfl rfl (ho.1 hc4 hc8 hc10) (ho.2.1 hc4 hc8 hc10) (ho.2.2.1 hc4 hc8 hc10) (ho.2.2.2.1 hc4 hc8 hc10) (ho.2.2.2.2.1 hc4 hc8 hc10) (ho.2.2.2.2.2 hc4 hc8 hc10) (by decide) (by decide) d_Row_appendBytes_36 (fun H locs w1 fa11 e1 hP hS => ?_)
        have fa12 := (e1 q (by omega)).trans fa2
        have fa13 := (e1 q1 (by omega)).trans fa7
        refine lv_aload_n hx hb d_Row_appendBytes_39 rfl (lv_at hl 0 rfl) ?_
        refine lv_dup hx hb d_Row_appendBytes_40 rfl ?_
        refine g_get (ci := 0) (C := R_Row) (T := F_Row) (Nf := 2) (v := .int u.1) hx hb hA in_Row hown hK hP (k := q) (by omega) fa12 rfl 1 (by decide) (hA _ aw_69) (fun _ h9 => h9) rfl d_Row_appendBytes_41 ?_
        refine lv_iload_n hx hb d_Row_appendBytes_44 rfl (lv_at hl 2 rfl) ?_
        refine lv_iadd hx hb d_Row_appendBytes_45 ?_
        refine g_put (ci := 0) (C := R_Row) (T := F_Row) (Nf := 2) (v := .int (u.1 + x)) (ty := .int) hx hb hA in_Row t_Row t_Row_ok n_Row hown hK hP hS (k := q) (by omega) fa12 rfl 1 (by decide) (hA _ aw_69) (fun _ h9 => h9) rfl (by decide +kernel) rfl rfl (Nat.le_of_ble_eq_true rfl) d_Row_appendBytes_46 (fun H locs w2 fa14 e2 hP hS => ?_)
        have fa14 : w2 q = .inr (0, [.ref (ad (q + 1)), .int (u.1 + x)]) := fa14
        have fa15 := (e2 (q + 1) (by omega)).trans fa11
        have fa16 := (e2 q1 (by omega)).trans fa13
        have hf17 : (f_Row_appendBytes n u n1 u1 x) = ((u.1 + x), (va_cpy u1 u.2 (0 : Int32).toNatClampNeg u.1.toNatClampNeg x.toNatClampNeg)) := by rw [f_Row_appendBytes, if_neg hc4, if_neg hc8, if_pos hc10]
        exact W.vret hx hb hr (fun tE ht _ => ⟨⟨w2, rfl, ⟨(by rw [hf17]; exact ⟨hn1, fa14, fa15⟩), (fun k hk => ((e2 k (by omega)).trans (e1 k (by omega))))⟩, cd_Pt ht hP⟩, hS.F ht⟩) hS.2.2 d_Row_appendBytes_49
      · have hf18 : (f_Row_appendBytes n u n1 u1 x) = u := by rw [f_Row_appendBytes, if_neg hc4, if_neg hc8, if_neg hc10]
        exact W.vret hx hb hr (fun tE ht _ => ⟨⟨w0, rfl, ⟨(by rw [hf18]; exact ⟨hn1, fa2, fa3⟩), (fun _ _ => rfl)⟩, cd_Pt ht hP⟩, hS.F ht⟩) hS.2.2 d_Row_appendBytes_24
def f_Row_giveBytes (n : Nat) (u : cd_Row) (n1 : Nat) (u1 : cd_By) (k : Int32) (x : Int32) : cd_By := (if k < 0 then u1 else (if x < 0 then u1 else (if (nI n1) < x then u1 else (if u.1 < k then u1 else (if x ≤ (u.1 - k) then (va_cpy u.2 u1 k.toNatClampNeg (0 : Int32).toNatClampNeg x.toNatClampNeg) else u1)))))
def o_Row_giveBytes (n : Nat) (u : cd_Row) (n1 : Nat) (u1 : cd_By) (k : Int32) (x : Int32) : Prop := (¬ k < 0 → ¬ x < 0 → ¬ (nI n1) < x → ¬ u.1 < k → x ≤ (u.1 - k) → ¬ k < 0) ∧ (¬ k < 0 → ¬ x < 0 → ¬ (nI n1) < x → ¬ u.1 < k → x ≤ (u.1 - k) → ¬ (0 : Int32) < 0) ∧ (¬ k < 0 → ¬ x < 0 → ¬ (nI n1) < x → ¬ u.1 < k → x ≤ (u.1 - k) → ¬ x < 0) ∧ (¬ k < 0 → ¬ x < 0 → ¬ (nI n1) < x → ¬ u.1 < k → x ≤ (u.1 - k) → k.toNatClampNeg + x.toNatClampNeg ≤ n) ∧ (¬ k < 0 → ¬ x < 0 → ¬ (nI n1) < x → ¬ u.1 < k → x ≤ (u.1 - k) → (0 : Int32).toNatClampNeg + x.toNatClampNeg ≤ n1) ∧ (¬ k < 0 → ¬ x < 0 → ¬ (nI n1) < x → ¬ u.1 < k → x ≤ (u.1 - k) → ∀ i, i < x.toNatClampNeg → fits .byte (.int (u.2 (k.toNatClampNeg + i))) = true)
set_option maxHeartbeats 4000000 in
set_option maxRecDepth 100000 in
theorem c_Row_giveBytes (l : Launch) (D : va_G) (tt : Nat → ClassId) (ad : Nat → Nat) (N : Nat) (A : Nat → Prop) (zs : Nat → Nat) (w0 : Nat → va_E) (q n : Nat) (u : cd_Row) (q1 n1 : Nat) (u1 : cd_By) (k : Int32) (x : Int32) (hR0 : cd_RowAt N tt ad w0 q n u) (hR1 : cd_ByAt N tt ad w0 q1 n1 u1) (hap0 : q1 < q ∨ q + 2 ≤ q1) (ho : o_Row_giveBytes n u n1 u1 k x) : Met l y_Row_giveBytes w_Row_giveBytes ({ frames := 1, cells := 0, slots := 0, locals := 60 }) (va_Pc [.ref (ad q), .int k, .ref (ad q1), .int x] (cd_U D tt ad N A zs w0)) (va_Qv (fun w' => cd_ByAt N tt ad w' q1 n1 (f_Row_giveBytes n u n1 u1 k x) ∧ (∀ k : Nat, (k < q1 ∨ q1 + 1 ≤ k) → w' k = w0 k)) (fun w' t => cd_P D ad N A w' t.heap) A) 0 0 A := by
  refine Met.ofW (cc := b_Row_giveBytes) (maxL := 4) (ret := none) (by decide) rfl ?_
  intro p e s m args below meth c s₁ B hml hv
  obtain ⟨rfl, hP, hK, hZ⟩ := hv
  have hx := B.exec
  have hb := B.bytes
  have hr := B.returns
  have hA : ∀ w ∈ cd_AW, w.before _ s = true := fun w h => atoms_spec (ws := w_Row_giveBytes) B.pre w (List.mem_cons_of_mem _ h)
  have hown : s.vm.findClass R_Row = some m.cls := findClass_of_methodNamed B.named
  have hlocks := B.notSynchronized
  have hS : va_S A s.heap s.heap [] := va_S.rf
  have hl := lv_entry ([.ref (ad q), .int k, .ref (ad q1), .int x]) (n := 4) (Nat.le_of_ble_eq_true rfl)
  rw [lg_entry_eq]
  generalize (lg_sl ([.ref (ad q), .int k, .ref (ad q1), .int x]) ++ List.replicate (4 - (lg_sl ([.ref (ad q), .int k, .ref (ad q1), .int x])).length) Slot.unset).toArray = ls at hl ⊢
  have hl : lv_has ls 4 [(0, .ref (ad q)), (1, .int k), (2, .ref (ad q1)), (3, .int x)] := hl
  have ho : (¬ k < 0 → ¬ x < 0 → ¬ (nI n1) < x → ¬ u.1 < k → x ≤ (u.1 - k) → ¬ k < 0) ∧ (¬ k < 0 → ¬ x < 0 → ¬ (nI n1) < x → ¬ u.1 < k → x ≤ (u.1 - k) → ¬ (0 : Int32) < 0) ∧ (¬ k < 0 → ¬ x < 0 → ¬ (nI n1) < x → ¬ u.1 < k → x ≤ (u.1 - k) → ¬ x < 0) ∧ (¬ k < 0 → ¬ x < 0 → ¬ (nI n1) < x → ¬ u.1 < k → x ≤ (u.1 - k) → k.toNatClampNeg + x.toNatClampNeg ≤ n) ∧ (¬ k < 0 → ¬ x < 0 → ¬ (nI n1) < x → ¬ u.1 < k → x ≤ (u.1 - k) → (0 : Int32).toNatClampNeg + x.toNatClampNeg ≤ n1) ∧ (¬ k < 0 → ¬ x < 0 → ¬ (nI n1) < x → ¬ u.1 < k → x ≤ (u.1 - k) → ∀ i, i < x.toNatClampNeg → fits .byte (.int (u.2 (k.toNatClampNeg + i))) = true) := ho
  obtain ⟨hn1, fa2, fa3⟩ := hR0
  refine lv_iload_n hx hb d_Row_giveBytes_0 rfl (lv_at hl 1 rfl) ?_
  refine lv_if_lt (tgt := 32) hx hb d_Row_giveBytes_1 (by decide) (fun hc4 => ?_) (fun hc4 => ?_)
  · have hf5 : (f_Row_giveBytes n u n1 u1 k x) = u1 := by rw [f_Row_giveBytes, if_pos hc4]
    exact W.vret hx hb hr (fun tE ht _ => ⟨⟨w0, rfl, ⟨(by rw [hf5]; exact hR1), (fun _ _ => rfl)⟩, cd_Pt ht hP⟩, hS.F ht⟩) hS.2.2 d_Row_giveBytes_32
  · refine lv_iload_n hx hb d_Row_giveBytes_4 rfl (lv_at hl 3 rfl) ?_
    refine lv_if_lt (tgt := 32) hx hb d_Row_giveBytes_5 (by decide) (fun hc6 => ?_) (fun hc6 => ?_)
    · have hf7 : (f_Row_giveBytes n u n1 u1 k x) = u1 := by rw [f_Row_giveBytes, if_neg hc4, if_pos hc6]
      exact W.vret hx hb hr (fun tE ht _ => ⟨⟨w0, rfl, ⟨(by rw [hf7]; exact hR1), (fun _ _ => rfl)⟩, cd_Pt ht hP⟩, hS.F ht⟩) hS.2.2 d_Row_giveBytes_32
    · refine lv_iload_n hx hb d_Row_giveBytes_8 rfl (lv_at hl 3 rfl) ?_
      refine lv_aload_n hx hb d_Row_giveBytes_9 rfl (lv_at hl 2 rfl) ?_
      obtain ⟨hn8, fa9⟩ := hR1
      refine g_alen (v := (nI n1)) hx hb hK hP (k := q1) (by omega) fa9 (t0 := 0) rfl rfl d_Row_giveBytes_10 ?_
      refine lv_icmp_gt (tgt := 32) hx hb d_Row_giveBytes_11 (by decide) (fun hc10 => ?_) (fun hc10 => ?_)
      · have hf11 : (f_Row_giveBytes n u n1 u1 k x) = u1 := by rw [f_Row_giveBytes, if_neg hc4, if_neg hc6, if_pos hc10]
        exact W.vret hx hb hr (fun tE ht _ => ⟨⟨w0, rfl, ⟨(by rw [hf11]; exact ⟨hn8, fa9⟩), (fun _ _ => rfl)⟩, cd_Pt ht hP⟩, hS.F ht⟩) hS.2.2 d_Row_giveBytes_32
      · refine lv_iload_n hx hb d_Row_giveBytes_14 rfl (lv_at hl 1 rfl) ?_
        refine lv_aload_n hx hb d_Row_giveBytes_15 rfl (lv_at hl 0 rfl) ?_
        refine g_get (ci := 0) (C := R_Row) (T := F_Row) (Nf := 2) (v := .int u.1) hx hb hA in_Row hown hK hP (k := q) (by omega) fa2 rfl 1 (by decide) (hA _ aw_69) (fun _ h9 => h9) rfl d_Row_giveBytes_16 ?_
        refine lv_icmp_gt (tgt := 32) hx hb d_Row_giveBytes_19 (by decide) (fun hc12 => ?_) (fun hc12 => ?_)
        · have hf13 : (f_Row_giveBytes n u n1 u1 k x) = u1 := by rw [f_Row_giveBytes, if_neg hc4, if_neg hc6, if_neg hc10, if_pos hc12]
          exact W.vret hx hb hr (fun tE ht _ => ⟨⟨w0, rfl, ⟨(by rw [hf13]; exact ⟨hn8, fa9⟩), (fun _ _ => rfl)⟩, cd_Pt ht hP⟩, hS.F ht⟩) hS.2.2 d_Row_giveBytes_32
        · refine lv_iload_n hx hb d_Row_giveBytes_22 rfl (lv_at hl 3 rfl) ?_
          refine lv_aload_n hx hb d_Row_giveBytes_23 rfl (lv_at hl 0 rfl) ?_
          refine g_get (ci := 0) (C := R_Row) (T := F_Row) (Nf := 2) (v := .int u.1) hx hb hA in_Row hown hK hP (k := q) (by omega) fa2 rfl 1 (by decide) (hA _ aw_69) (fun _ h9 => h9) rfl d_Row_giveBytes_24 ?_
          refine lv_iload_n hx hb d_Row_giveBytes_27 rfl (lv_at hl 1 rfl) ?_
          refine lv_isub hx hb d_Row_giveBytes_28 ?_
          refine lv_icmp_le (tgt := 33) hx hb d_Row_giveBytes_29 (by decide) (fun hc14 => ?_) (fun hc14 => ?_)
          · refine lv_aload_n hx hb d_Row_giveBytes_33 rfl (lv_at hl 0 rfl) ?_
            refine g_get (ci := 0) (C := R_Row) (T := F_Row) (Nf := 2) (v := .ref (ad (q + 1))) hx hb hA in_Row hown hK hP (k := q) (by omega) fa2 rfl 0 (by decide) (hA _ aw_68) (fun _ h9 => h9) rfl d_Row_giveBytes_34 ?_
            refine lv_iload_n hx hb d_Row_giveBytes_37 rfl (lv_at hl 1 rfl) ?_
            refine lv_aload_n hx hb d_Row_giveBytes_38 rfl (lv_at hl 2 rfl) ?_
            refine lv_iconst (v := (0 : Int32)) hx hb d_Row_giveBytes_39 (by decide) ?_
            refine lv_iload_n hx hb d_Row_giveBytes_40 rfl (lv_at hl 3 rfl) ?_
            refine g_copyi (ty := .byte) (t0 := 0) (t1 := 0) hx hb (hml.trans hl.1.symm) hown (hA _ aw_281) (hA _ aw_283) (hA _ aw_282) (hA _ aw_10) hK hP hS (k0 := (q + 1)) (k1 := q1) (by omega) (by omega) fa3 fa9 rfl rfl rfl (ho.1 hc4 hc6 hc10 hc12 hc14) (ho.2.1 hc4 hc6 hc10 hc12 hc14) (ho.2.2.1 hc4 hc6 hc10 hc12 hc14) (ho.2.2.2.1 hc4 hc6 hc10 hc12 hc14) (ho.2.2.2.2.1 hc4 hc6 hc10 hc12 hc14) (ho.2.2.2.2.2 hc4 hc6 hc10 hc12 hc14) (by decide) (by decide) d_Row_giveBytes_41 (fun H locs w1 fa15 e1 hP hS => ?_)
            have fa16 := (e1 q (by omega)).trans fa2
            have fa17 := (e1 (q + 1) (by omega)).trans fa3
            have hf18 : (f_Row_giveBytes n u n1 u1 k x) = (va_cpy u.2 u1 k.toNatClampNeg (0 : Int32).toNatClampNeg x.toNatClampNeg) := by rw [f_Row_giveBytes, if_neg hc4, if_neg hc6, if_neg hc10, if_neg hc12, if_pos hc14]
            exact W.vret hx hb hr (fun tE ht _ => ⟨⟨w1, rfl, ⟨(by rw [hf18]; exact ⟨hn8, fa15⟩), (fun k hk => (e1 k (by omega)))⟩, cd_Pt ht hP⟩, hS.F ht⟩) hS.2.2 d_Row_giveBytes_44
          · have hf19 : (f_Row_giveBytes n u n1 u1 k x) = u1 := by rw [f_Row_giveBytes, if_neg hc4, if_neg hc6, if_neg hc10, if_neg hc12, if_neg hc14]
            exact W.vret hx hb hr (fun tE ht _ => ⟨⟨w0, rfl, ⟨(by rw [hf19]; exact ⟨hn8, fa9⟩), (fun _ _ => rfl)⟩, cd_Pt ht hP⟩, hS.F ht⟩) hS.2.2 d_Row_giveBytes_32
def f_Row_shorten (n : Nat) (u : cd_Row) (x : Int32) : Int32 × cd_Row := (if x < 0 then ((0 : Int32), u) else (if x ≤ u.1 then ((1 : Int32), (x, u.2)) else ((0 : Int32), u)))
set_option maxHeartbeats 4000000 in
set_option maxRecDepth 100000 in
theorem c_Row_shorten (l : Launch) (D : va_G) (tt : Nat → ClassId) (ad : Nat → Nat) (N : Nat) (A : Nat → Prop) (zs : Nat → Nat) (w0 : Nat → va_E) (q n : Nat) (u : cd_Row) (x : Int32) (hR0 : cd_RowAt N tt ad w0 q n u) : Met l y_Row_shorten w_Row_shorten ({ frames := 0, cells := 0, slots := 0, locals := 0 }) (va_Pc [.ref (ad q), .int x] (cd_U D tt ad N A zs w0)) (va_Qi (fun r w' => (f_Row_shorten n u x).1 = r ∧ (r = 0 ∨ r = 1) ∧ cd_RowAt N tt ad w' q n ((f_Row_shorten n u x).2) ∧ (∀ k : Nat, (k < q ∨ q + 2 ≤ k) → w' k = w0 k)) (fun w' t => cd_P D ad N A w' t.heap) A) 0 0 A := by
  refine Met.ofW (cc := b_Row_shorten) (maxL := 2) (ret := (some .boolean)) (by decide) rfl ?_
  intro p e s m args below meth c s₁ B hml hv
  obtain ⟨rfl, hP, hK, hZ⟩ := hv
  have hx := B.exec
  have hb := B.bytes
  have hr := B.returns
  have hA : ∀ w ∈ cd_AW, w.before _ s = true := fun w h => atoms_spec (ws := w_Row_shorten) B.pre w (List.mem_cons_of_mem _ h)
  have hown : s.vm.findClass R_Row = some m.cls := findClass_of_methodNamed B.named
  have hlocks := B.notSynchronized
  have hS : va_S A s.heap s.heap [] := va_S.rf
  have hl := lv_entry ([.ref (ad q), .int x]) (n := 2) (Nat.le_of_ble_eq_true rfl)
  rw [lg_entry_eq]
  generalize (lg_sl ([.ref (ad q), .int x]) ++ List.replicate (2 - (lg_sl ([.ref (ad q), .int x])).length) Slot.unset).toArray = ls at hl ⊢
  have hl : lv_has ls 2 [(0, .ref (ad q)), (1, .int x)] := hl
  obtain ⟨hn1, fa2, fa3⟩ := hR0
  refine lv_iload_n hx hb d_Row_shorten_0 rfl (lv_at hl 1 rfl) ?_
  refine lv_if_lt (tgt := 12) hx hb d_Row_shorten_1 (by decide) (fun hc4 => ?_) (fun hc4 => ?_)
  · refine lv_iconst (v := (0 : Int32)) hx hb d_Row_shorten_12 (by decide) ?_
    have hf5 : (f_Row_shorten n u x) = ((0 : Int32), u) := by rw [f_Row_shorten, if_pos hc4]
    exact W.zret (ty := .boolean) (v := (0 : Int32)) hx hb hr rfl (fun tE ht _ => ⟨⟨_, w0, rfl, ⟨(by rw [hf5]), (Or.inl rfl), (by rw [hf5]; exact ⟨hn1, fa2, fa3⟩), (fun _ _ => rfl)⟩, cd_Pt ht hP⟩, hS.F ht⟩) hS.2.2 d_Row_shorten_13
  · refine lv_iload_n hx hb d_Row_shorten_4 rfl (lv_at hl 1 rfl) ?_
    refine lv_aload_n hx hb d_Row_shorten_5 rfl (lv_at hl 0 rfl) ?_
    refine g_get (ci := 0) (C := R_Row) (T := F_Row) (Nf := 2) (v := .int u.1) hx hb hA in_Row hown hK hP (k := q) (by omega) fa2 rfl 1 (by decide) (hA _ aw_69) (fun _ h9 => h9) rfl d_Row_shorten_6 ?_
    refine lv_icmp_le (tgt := 14) hx hb d_Row_shorten_9 (by decide) (fun hc6 => ?_) (fun hc6 => ?_)
    · refine lv_aload_n hx hb d_Row_shorten_14 rfl (lv_at hl 0 rfl) ?_
      refine lv_iload_n hx hb d_Row_shorten_15 rfl (lv_at hl 1 rfl) ?_
      refine g_put (ci := 0) (C := R_Row) (T := F_Row) (Nf := 2) (v := .int x) (ty := .int) hx hb hA in_Row t_Row t_Row_ok n_Row hown hK hP hS (k := q) (by omega) fa2 rfl 1 (by decide) (hA _ aw_69) (fun _ h9 => h9) rfl (by decide +kernel) rfl rfl (Nat.le_of_ble_eq_true rfl) d_Row_shorten_16 (fun H locs w1 fa7 e1 hP hS => ?_)
      have fa7 : w1 q = .inr (0, [.ref (ad (q + 1)), .int x]) := fa7
      have fa8 := (e1 (q + 1) (by omega)).trans fa3
      refine lv_iconst (v := (1 : Int32)) hx hb d_Row_shorten_19 (by decide) ?_
      have hf9 : (f_Row_shorten n u x) = ((1 : Int32), (x, u.2)) := by rw [f_Row_shorten, if_neg hc4, if_pos hc6]
      exact W.zret (ty := .boolean) (v := (1 : Int32)) hx hb hr rfl (fun tE ht _ => ⟨⟨_, w1, rfl, ⟨(by rw [hf9]), (Or.inr rfl), (by rw [hf9]; exact ⟨hn1, fa7, fa8⟩), (fun k hk => (e1 k (by omega)))⟩, cd_Pt ht hP⟩, hS.F ht⟩) hS.2.2 d_Row_shorten_20
    · refine lv_iconst (v := (0 : Int32)) hx hb d_Row_shorten_12 (by decide) ?_
      have hf10 : (f_Row_shorten n u x) = ((0 : Int32), u) := by rw [f_Row_shorten, if_neg hc4, if_neg hc6]
      exact W.zret (ty := .boolean) (v := (0 : Int32)) hx hb hr rfl (fun tE ht _ => ⟨⟨_, w0, rfl, ⟨(by rw [hf10]), (Or.inl rfl), (by rw [hf10]; exact ⟨hn1, fa2, fa3⟩), (fun _ _ => rfl)⟩, cd_Pt ht hP⟩, hS.F ht⟩) hS.2.2 d_Row_shorten_13
def f_Row_become (n : Nat) (u : cd_Row) (n1 : Nat) (u1 : cd_Row) : cd_Row := (f_Row_appendBytes n ((0 : Int32), u.2) n1 u1.2 u1.1)
def o_Row_become (n : Nat) (u : cd_Row) (n1 : Nat) (u1 : cd_Row) : Prop := (o_Row_appendBytes n ((0 : Int32), u.2) n1 u1.2 u1.1)
set_option maxHeartbeats 4000000 in
set_option maxRecDepth 100000 in
theorem c_Row_become (l : Launch) (D : va_G) (tt : Nat → ClassId) (ad : Nat → Nat) (N : Nat) (A : Nat → Prop) (zs : Nat → Nat) (w0 : Nat → va_E) (q n : Nat) (u : cd_Row) (q1 n1 : Nat) (u1 : cd_Row) (hR0 : cd_RowAt N tt ad w0 q n u) (hR1 : cd_RowAt N tt ad w0 q1 n1 u1) (hap0 : q1 + 2 ≤ q ∨ q + 2 ≤ q1) (ho : o_Row_become n u n1 u1) : Met l y_Row_become w_Row_become ({ frames := 2, cells := 0, slots := 0, locals := 82 }) (va_Pc [.ref (ad q), .ref (ad q1)] (cd_U D tt ad N A zs w0)) (va_Qv (fun w' => cd_RowAt N tt ad w' q n (f_Row_become n u n1 u1) ∧ (∀ k : Nat, (k < q ∨ q + 2 ≤ k) → w' k = w0 k)) (fun w' t => cd_P D ad N A w' t.heap) A) 0 0 A := by
  refine Met.ofW (cc := b_Row_become) (maxL := 2) (ret := none) (by decide) rfl ?_
  intro p e s m args below meth c s₁ B hml hv
  obtain ⟨rfl, hP, hK, hZ⟩ := hv
  have hx := B.exec
  have hb := B.bytes
  have hr := B.returns
  have hA : ∀ w ∈ cd_AW, w.before _ s = true := fun w h => atoms_spec (ws := w_Row_become) B.pre w (List.mem_cons_of_mem _ h)
  have hown : s.vm.findClass R_Row = some m.cls := findClass_of_methodNamed B.named
  have hlocks := B.notSynchronized
  have hS : va_S A s.heap s.heap [] := va_S.rf
  have hl := lv_entry ([.ref (ad q), .ref (ad q1)]) (n := 2) (Nat.le_of_ble_eq_true rfl)
  rw [lg_entry_eq]
  generalize (lg_sl ([.ref (ad q), .ref (ad q1)]) ++ List.replicate (2 - (lg_sl ([.ref (ad q), .ref (ad q1)])).length) Slot.unset).toArray = ls at hl ⊢
  have hl : lv_has ls 2 [(0, .ref (ad q)), (1, .ref (ad q1))] := hl
  have ho : (o_Row_appendBytes n ((0 : Int32), u.2) n1 u1.2 u1.1) := ho
  obtain ⟨hn1, fa2, fa3⟩ := hR0
  refine lv_aload_n hx hb d_Row_become_0 rfl (lv_at hl 0 rfl) ?_
  refine lv_iconst (v := (0 : Int32)) hx hb d_Row_become_1 (by decide) ?_
  refine g_put (ci := 0) (C := R_Row) (T := F_Row) (Nf := 2) (v := .int (0 : Int32)) (ty := .int) hx hb hA in_Row t_Row t_Row_ok n_Row hown hK hP hS (k := q) (by omega) fa2 rfl 1 (by decide) (hA _ aw_69) (fun _ h9 => h9) rfl (by decide +kernel) rfl rfl (Nat.le_of_ble_eq_true rfl) d_Row_become_2 (fun H locs w1 fa4 e1 hP hS => ?_)
  have fa4 : w1 q = .inr (0, [.ref (ad (q + 1)), .int (0 : Int32)]) := fa4
  have fa5 := (e1 (q + 1) (by omega)).trans fa3
  have at6 := cd_RowAt_keep hR1 (fun k h1 h2 => e1 k (by omega))
  refine lv_aload_n hx hb d_Row_become_5 rfl (lv_at hl 0 rfl) ?_
  refine lv_aload_n hx hb d_Row_become_6 rfl (lv_at hl 1 rfl) ?_
  obtain ⟨hn7, fa8, fa9⟩ := at6
  refine g_get (ci := 0) (C := R_Row) (T := F_Row) (Nf := 2) (v := .ref (ad (q1 + 1))) hx hb hA in_Row hown hK hP (k := q1) (by omega) fa8 rfl 0 (by decide) (hA _ aw_68) (fun _ h9 => h9) rfl d_Row_become_7 ?_
  refine lv_aload_n hx hb d_Row_become_10 rfl (lv_at hl 1 rfl) ?_
  refine g_get (ci := 0) (C := R_Row) (T := F_Row) (Nf := 2) (v := .int u1.1) hx hb hA in_Row hown hK hP (k := q1) (by omega) fa8 rfl 1 (by decide) (hA _ aw_69) (fun _ h9 => h9) rfl d_Row_become_11 ?_
  refine va_callv (va_runV (As := [.ref (ad (q1 + 1)), .int u1.1]) (rest := []) ⟨hx, hb, hml, hown, hA⟩ (c_Row_appendBytes l D tt ad N A zs w1 q n ((0 : Int32), u.2) (q1 + 1) n1 u1.2 u1.1 (⟨hn1, fa4, fa5⟩) (⟨by omega, fa9⟩) (by omega) (ho)) (cwV 2 hA (cd_gV aw_304 aw_278 aw_279 aw_5 aw_280) rfl rfl rfl ⟨rfl, by decide, by decide, by decide +kernel⟩ ⟨Nat.le_of_ble_eq_true rfl, Nat.le_of_ble_eq_true rfl⟩) ⟨cd_blind, cd_recv hK hP (k := q) (by omega) fa4 rfl, fun U hU hW => ⟨rfl, cd_pre hK hP hZ hS U hU hW⟩⟩ rfl rfl hl.1 rfl (lv_room (Nat.le_of_ble_eq_true rfl)) d_Row_become_14 ⟨Nat.zero_le _, Nat.zero_le _⟩) hS (fun _ _ h => h) (fun _ h => h) (fun w2 tE H locs ht hvm hr11 hP hz1 hk1 hS => ?_)
  have hP := cd_Pf ht hP
  obtain ⟨at13, e2⟩ := hr11
  have fa14 := (e2 q1 (by omega)).trans fa8
  have fa15 := (e2 (q1 + 1) (by omega)).trans fa9
  obtain ⟨hn16, fa17, fa18⟩ := at13
  have hf19 : (f_Row_become n u n1 u1) = (f_Row_appendBytes n ((0 : Int32), u.2) n1 u1.2 u1.1) := by rw [f_Row_become]
  exact W.vret hx hb hr (fun tE ht _ => ⟨⟨w2, rfl, ⟨(by rw [hf19]; exact ⟨hn16, fa17, fa18⟩), (fun k hk => ((e2 k (by omega)).trans (e1 k (by omega))))⟩, cd_Pt ht hP⟩, hS.F ht⟩) hS.2.2 d_Row_become_17
end
