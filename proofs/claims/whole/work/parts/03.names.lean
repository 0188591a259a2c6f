def RX0 : String := "OnceDisc$Blocks"
def TX0 : u_T := fun k => match k with
  | 0 => ("OnceDisc$Blocks", "count", "I", false)
  | 1 => ("OnceDisc$Blocks", "main", "I", false)
  | 2 => ("OnceDisc$Blocks", "next", "I", false)
  | 3 => ("OnceDisc$Blocks", "kinds", "[I", true)
  | 4 => ("OnceDisc$Blocks", "bad", "[Z", true)
  | 5 => ("OnceDisc$Blocks", "unreadable", "[Z", true)
  | 6 => ("OnceDisc$Blocks", "writers", "[I", true)
  | 7 => ("OnceDisc$Blocks", "versions", "[I", true)
  | 8 => ("OnceDisc$Blocks", "numbers", "[I", true)
  | 9 => ("OnceDisc$Blocks", "insteadOf", "[I", true)
  | _ => ("OnceDisc$Blocks", "places", "[I", true)
def tyX0 : Nat → FieldType := fun k => match k with
  | 0 => .int
  | 1 => .int
  | 2 => .int
  | 3 => .array .int
  | 4 => .array .boolean
  | 5 => .array .boolean
  | 6 => .array .int
  | 7 => .array .int
  | 8 => .array .int
  | 9 => .array .int
  | _ => .array .int
abbrev wsX00 : List Cond := u_ws RX0 TX0 11
theorem nmX0 : ∀ a, a < 11 → ∀ b, b < 11 → a ≠ b → (TX0 a).2.1 ≠ (TX0 b).2.1 := by decide +kernel
theorem tyX0_ok : ∀ k, k < 11 → parseFieldDescriptor (TX0 k).2.2.1 = some (tyX0 k) := by decide +kernel
abbrev cX0_init : ByteArray := prog_2_method_1_code
def yX0_init : MethodName := ⟨RX0, "<init>", "()V"⟩
abbrev cX0_format : ByteArray := prog_2_method_2_code
def yX0_format : MethodName := ⟨RX0, "format", "(II)V"⟩
abbrev cX0_takeFrom : ByteArray := prog_2_method_3_code
def yX0_takeFrom : MethodName := ⟨RX0, "takeFrom", "(LOnceDisc$Blocks;)V"⟩
abbrev cX0_kindOf : ByteArray := prog_2_method_4_code
def yX0_kindOf : MethodName := ⟨RX0, "kindOf", "(I)I"⟩
abbrev cX0_writerOf : ByteArray := prog_2_method_5_code
def yX0_writerOf : MethodName := ⟨RX0, "writerOf", "(I)I"⟩
abbrev cX0_dataVersionOf : ByteArray := prog_2_method_6_code
def yX0_dataVersionOf : MethodName := ⟨RX0, "dataVersionOf", "(I)I"⟩
abbrev cX0_placeOf : ByteArray := prog_2_method_7_code
def yX0_placeOf : MethodName := ⟨RX0, "placeOf", "(I)I"⟩
abbrev cX0_isBad : ByteArray := prog_2_method_8_code
def yX0_isBad : MethodName := ⟨RX0, "isBad", "(I)Z"⟩
abbrev cX0_isUnreadable : ByteArray := prog_2_method_9_code
def yX0_isUnreadable : MethodName := ⟨RX0, "isUnreadable", "(I)Z"⟩
abbrev cX0_property : ByteArray := prog_2_method_10_code
def yX0_property : MethodName := ⟨RX0, "property", "(II)I"⟩
abbrev cX0_emptySpares : ByteArray := prog_2_method_11_code
def yX0_emptySpares : MethodName := ⟨RX0, "emptySpares", "()I"⟩
abbrev cX0_badOnes : ByteArray := prog_2_method_12_code
def yX0_badOnes : MethodName := ⟨RX0, "badOnes", "()I"⟩
abbrev cX0_mainBlocksOf : ByteArray := prog_2_method_13_code
def yX0_mainBlocksOf : MethodName := ⟨RX0, "mainBlocksOf", "(I)I"⟩
abbrev cX0_spareBlocksOf : ByteArray := prog_2_method_14_code
def yX0_spareBlocksOf : MethodName := ⟨RX0, "spareBlocksOf", "(I)I"⟩
abbrev cX0_blocksOf : ByteArray := prog_2_method_15_code
def yX0_blocksOf : MethodName := ⟨RX0, "blocksOf", "(III)I"⟩
abbrev cX0_hasRoomFor : ByteArray := prog_2_method_16_code
def yX0_hasRoomFor : MethodName := ⟨RX0, "hasRoomFor", "(I)Z"⟩
abbrev cX0_canRelocate : ByteArray := prog_2_method_17_code
def yX0_canRelocate : MethodName := ⟨RX0, "canRelocate", "(I)Z"⟩
abbrev cX0_writeNext : ByteArray := prog_2_method_18_code
def yX0_writeNext : MethodName := ⟨RX0, "writeNext", "(IIII)V"⟩
abbrev cX0_takeSpare : ByteArray := prog_2_method_19_code
def yX0_takeSpare : MethodName := ⟨RX0, "takeSpare", "(I)I"⟩
abbrev cX0_canRead : ByteArray := prog_2_method_20_code
def yX0_canRead : MethodName := ⟨RX0, "canRead", "(II)Z"⟩
abbrev cX0_makeBad : ByteArray := prog_2_method_21_code
def yX0_makeBad : MethodName := ⟨RX0, "makeBad", "(I)V"⟩
abbrev cX0_damage : ByteArray := prog_2_method_22_code
def yX0_damage : MethodName := ⟨RX0, "damage", "(I)Z"⟩
def RX1 : String := "OnceDisc$Disc"
def TX1 : u_T := fun k => match k with
  | 0 => ("OnceDisc$Disc", "blocks", "LOnceDisc$Blocks;", true)
  | 1 => ("OnceDisc$Disc", "versions", "LOnceDisc$Versions;", true)
  | 2 => ("OnceDisc$Disc", "sessions", "LOnceDisc$Sessions;", true)
  | 3 => ("OnceDisc$Disc", "fileCount", "I", false)
  | 4 => ("OnceDisc$Disc", "names", "[J", true)
  | 5 => ("OnceDisc$Disc", "scan", "Z", false)
  | _ => ("OnceDisc$Disc", "view", "LOnceDisc$View;", true)
def tyX1 : Nat → FieldType := fun k => match k with
  | 0 => .object "OnceDisc$Blocks"
  | 1 => .object "OnceDisc$Versions"
  | 2 => .object "OnceDisc$Sessions"
  | 3 => .int
  | 4 => .array .long
  | 5 => .boolean
  | _ => .object "OnceDisc$View"
abbrev wsX10 : List Cond := u_ws RX1 TX1 7
theorem nmX1 : ∀ a, a < 7 → ∀ b, b < 7 → a ≠ b → (TX1 a).2.1 ≠ (TX1 b).2.1 := by decide +kernel
theorem tyX1_ok : ∀ k, k < 7 → parseFieldDescriptor (TX1 k).2.2.1 = some (tyX1 k) := by decide +kernel
abbrev cX1_init : ByteArray := prog_3_method_1_code
def yX1_init : MethodName := ⟨RX1, "<init>", "()V"⟩
abbrev cX1_format : ByteArray := prog_3_method_2_code
def yX1_format : MethodName := ⟨RX1, "format", "(II)V"⟩
abbrev cX1_begin : ByteArray := prog_3_method_3_code
def yX1_begin : MethodName := ⟨RX1, "begin", "(LOnceDisc$Text;)V"⟩
abbrev cX1_reasonAgainstStatement : ByteArray := prog_3_method_4_code
def yX1_reasonAgainstStatement : MethodName := ⟨RX1, "reasonAgainstStatement", "(LOnceDisc$Text;I)I"⟩
abbrev cX1_doStatement : ByteArray := prog_3_method_5_code
def yX1_doStatement : MethodName := ⟨RX1, "doStatement", "(LOnceDisc$Text;I)V"⟩
abbrev cX1_takeFrom : ByteArray := prog_3_method_6_code
def yX1_takeFrom : MethodName := ⟨RX1, "takeFrom", "(LOnceDisc$Disc;)V"⟩
abbrev cX1_fileNamed : ByteArray := prog_3_method_7_code
def yX1_fileNamed : MethodName := ⟨RX1, "fileNamed", "(J)I"⟩
abbrev cX1_canReadVersion : ByteArray := prog_3_method_8_code
def yX1_canReadVersion : MethodName := ⟨RX1, "canReadVersion", "(I)Z"⟩
abbrev cX1_relocatedBlock : ByteArray := prog_3_method_9_code
def yX1_relocatedBlock : MethodName := ⟨RX1, "relocatedBlock", "(I)I"⟩
abbrev cX1_filesLostBy : ByteArray := prog_3_method_10_code
def yX1_filesLostBy : MethodName := ⟨RX1, "filesLostBy", "(ILOnceDisc$View;LOnceDisc$View;)I"⟩
abbrev cX1_blocksUsed : ByteArray := prog_3_method_11_code
def yX1_blocksUsed : MethodName := ⟨RX1, "blocksUsed", "(II)I"⟩
abbrev cX1_useOf : ByteArray := prog_3_method_12_code
def yX1_useOf : MethodName := ⟨RX1, "useOf", "(ILOnceDisc$View;)I"⟩
abbrev cX1_reasonAgainstWrite : ByteArray := prog_3_method_13_code
def yX1_reasonAgainstWrite : MethodName := ⟨RX1, "reasonAgainstWrite", "(II)I"⟩
abbrev cX1_reasonAgainstErase : ByteArray := prog_3_method_14_code
def yX1_reasonAgainstErase : MethodName := ⟨RX1, "reasonAgainstErase", "(I)I"⟩
abbrev cX1_reasonAgainstClose : ByteArray := prog_3_method_15_code
def yX1_reasonAgainstClose : MethodName := ⟨RX1, "reasonAgainstClose", "()I"⟩
abbrev cX1_reasonAgainstCrash : ByteArray := prog_3_method_16_code
def yX1_reasonAgainstCrash : MethodName := ⟨RX1, "reasonAgainstCrash", "()I"⟩
abbrev cX1_reasonAgainstRecover : ByteArray := prog_3_method_17_code
def yX1_reasonAgainstRecover : MethodName := ⟨RX1, "reasonAgainstRecover", "()I"⟩
abbrev cX1_reasonAgainstDirectory : ByteArray := prog_3_method_18_code
def yX1_reasonAgainstDirectory : MethodName := ⟨RX1, "reasonAgainstDirectory", "(I)I"⟩
abbrev cX1_writeVersion : ByteArray := prog_3_method_19_code
def yX1_writeVersion : MethodName := ⟨RX1, "writeVersion", "(III)I"⟩
abbrev cX1_eraseFile : ByteArray := prog_3_method_20_code
def yX1_eraseFile : MethodName := ⟨RX1, "eraseFile", "(I)V"⟩
abbrev cX1_beginIfNeeded : ByteArray := prog_3_method_21_code
def yX1_beginIfNeeded : MethodName := ⟨RX1, "beginIfNeeded", "()V"⟩
abbrev cX1_closeSession : ByteArray := prog_3_method_22_code
def yX1_closeSession : MethodName := ⟨RX1, "closeSession", "()I"⟩
abbrev cX1_loseSession : ByteArray := prog_3_method_23_code
def yX1_loseSession : MethodName := ⟨RX1, "loseSession", "()I"⟩
abbrev cX1_recoverSession : ByteArray := prog_3_method_24_code
def yX1_recoverSession : MethodName := ⟨RX1, "recoverSession", "()I"⟩
abbrev cX1_recoverableVersions : ByteArray := prog_3_method_25_code
def yX1_recoverableVersions : MethodName := ⟨RX1, "recoverableVersions", "()I"⟩
abbrev cX1_recoverableVersionOf : ByteArray := prog_3_method_26_code
def yX1_recoverableVersionOf : MethodName := ⟨RX1, "recoverableVersionOf", "(II)I"⟩
def RX2 : String := "OnceDisc$History"
def TX2 : u_T := fun k => match k with
  | 0 => ("OnceDisc$History", "count", "I", false)
  | 1 => ("OnceDisc$History", "oldest", "I", false)
  | _ => ("OnceDisc$History", "ring", "[LOnceDisc$Disc;", true)
def tyX2 : Nat → FieldType := fun k => match k with
  | 0 => .int
  | 1 => .int
  | _ => .array (.object "OnceDisc$Disc")
abbrev wsX20 : List Cond := u_ws RX2 TX2 3
theorem nmX2 : ∀ a, a < 3 → ∀ b, b < 3 → a ≠ b → (TX2 a).2.1 ≠ (TX2 b).2.1 := by decide +kernel
theorem tyX2_ok : ∀ k, k < 3 → parseFieldDescriptor (TX2 k).2.2.1 = some (tyX2 k) := by decide +kernel
abbrev cX2_init : ByteArray := prog_4_method_1_code
def yX2_init : MethodName := ⟨RX2, "<init>", "()V"⟩
abbrev cX2_clear : ByteArray := prog_4_method_2_code
def yX2_clear : MethodName := ⟨RX2, "clear", "()V"⟩
abbrev cX2_keep : ByteArray := prog_4_method_3_code
def yX2_keep : MethodName := ⟨RX2, "keep", "(LOnceDisc$Disc;)V"⟩
abbrev cX2_bringBack : ByteArray := prog_4_method_4_code
def yX2_bringBack : MethodName := ⟨RX2, "bringBack", "(LOnceDisc$Disc;)Z"⟩
def RX3 : String := "OnceDisc$Input"
def TX3 : u_T := fun k => match k with
  | 0 => ("OnceDisc$Input", "bytes", "[I", true)
  | _ => ("OnceDisc$Input", "used", "I", false)
def tyX3 : Nat → FieldType := fun k => match k with
  | 0 => .array .int
  | _ => .int
abbrev wsX30 : List Cond := u_ws RX3 TX3 2
theorem nmX3 : ∀ a, a < 2 → ∀ b, b < 2 → a ≠ b → (TX3 a).2.1 ≠ (TX3 b).2.1 := by decide +kernel
theorem tyX3_ok : ∀ k, k < 2 → parseFieldDescriptor (TX3 k).2.2.1 = some (tyX3 k) := by decide +kernel
abbrev cX3_init : ByteArray := prog_5_method_1_code
def yX3_init : MethodName := ⟨RX3, "<init>", "()V"⟩
abbrev cX3_hasRoom : ByteArray := prog_5_method_2_code
def yX3_hasRoom : MethodName := ⟨RX3, "hasRoom", "(I)Z"⟩
abbrev cX3_addBytes : ByteArray := prog_5_method_3_code
def yX3_addBytes : MethodName := ⟨RX3, "addBytes", "(I)V"⟩
abbrev cX3_addByte : ByteArray := prog_5_method_4_code
def yX3_addByte : MethodName := ⟨RX3, "addByte", "(I)V"⟩
abbrev cX3_byteAt : ByteArray := prog_5_method_5_code
def yX3_byteAt : MethodName := ⟨RX3, "byteAt", "(I)I"⟩
abbrev cX3_kindAt : ByteArray := prog_5_method_6_code
def yX3_kindAt : MethodName := ⟨RX3, "kindAt", "(I)I"⟩
abbrev cX3_nameAlone : ByteArray := prog_5_method_7_code
def yX3_nameAlone : MethodName := ⟨RX3, "nameAlone", "()J"⟩
def RX5 : String := "OnceDisc$Sessions"
def TX5 : u_T := fun k => match k with
  | 0 => ("OnceDisc$Sessions", "count", "I", false)
  | 1 => ("OnceDisc$Sessions", "states", "[I", true)
  | 2 => ("OnceDisc$Sessions", "firsts", "[I", true)
  | 3 => ("OnceDisc$Sessions", "directories", "[I", true)
  | 4 => ("OnceDisc$Sessions", "directoryLengths", "[I", true)
  | 5 => ("OnceDisc$Sessions", "entries", "[I", true)
  | 6 => ("OnceDisc$Sessions", "entryFiles", "[I", true)
  | _ => ("OnceDisc$Sessions", "entryVersions", "[I", true)
def tyX5 : Nat → FieldType := fun k => match k with
  | 0 => .int
  | 1 => .array .int
  | 2 => .array .int
  | 3 => .array .int
  | 4 => .array .int
  | 5 => .array .int
  | 6 => .array .int
  | _ => .array .int
abbrev wsX50 : List Cond := u_ws RX5 TX5 8
theorem nmX5 : ∀ a, a < 8 → ∀ b, b < 8 → a ≠ b → (TX5 a).2.1 ≠ (TX5 b).2.1 := by decide +kernel
theorem tyX5_ok : ∀ k, k < 8 → parseFieldDescriptor (TX5 k).2.2.1 = some (tyX5 k) := by decide +kernel
abbrev cX5_init : ByteArray := prog_6_method_1_code
def yX5_init : MethodName := ⟨RX5, "<init>", "()V"⟩
abbrev cX5_takeFrom : ByteArray := prog_6_method_2_code
def yX5_takeFrom : MethodName := ⟨RX5, "takeFrom", "(LOnceDisc$Sessions;)V"⟩
abbrev cX5_latest : ByteArray := prog_6_method_3_code
def yX5_latest : MethodName := ⟨RX5, "latest", "()I"⟩
abbrev cX5_isOpen : ByteArray := prog_6_method_4_code
def yX5_isOpen : MethodName := ⟨RX5, "isOpen", "()Z"⟩
abbrev cX5_latestIsLost : ByteArray := prog_6_method_5_code
def yX5_latestIsLost : MethodName := ⟨RX5, "latestIsLost", "()Z"⟩
abbrev cX5_oneMoreIsTooMany : ByteArray := prog_6_method_6_code
def yX5_oneMoreIsTooMany : MethodName := ⟨RX5, "oneMoreIsTooMany", "()Z"⟩
abbrev cX5_stateOf : ByteArray := prog_6_method_7_code
def yX5_stateOf : MethodName := ⟨RX5, "stateOf", "(I)I"⟩
abbrev cX5_firstOf : ByteArray := prog_6_method_8_code
def yX5_firstOf : MethodName := ⟨RX5, "firstOf", "(I)I"⟩
abbrev cX5_directoryOf : ByteArray := prog_6_method_9_code
def yX5_directoryOf : MethodName := ⟨RX5, "directoryOf", "(I)I"⟩
abbrev cX5_directoryLengthOf : ByteArray := prog_6_method_10_code
def yX5_directoryLengthOf : MethodName := ⟨RX5, "directoryLengthOf", "(I)I"⟩
abbrev cX5_entriesOf : ByteArray := prog_6_method_11_code
def yX5_entriesOf : MethodName := ⟨RX5, "entriesOf", "(I)I"⟩
abbrev cX5_fileAt : ByteArray := prog_6_method_12_code
def yX5_fileAt : MethodName := ⟨RX5, "fileAt", "(II)I"⟩
abbrev cX5_hasEntry : ByteArray := prog_6_method_13_code
def yX5_hasEntry : MethodName := ⟨RX5, "hasEntry", "(II)Z"⟩
abbrev cX5_versionFor : ByteArray := prog_6_method_14_code
def yX5_versionFor : MethodName := ⟨RX5, "versionFor", "(II)I"⟩
abbrev cX5_begin : ByteArray := prog_6_method_15_code
def yX5_begin : MethodName := ⟨RX5, "begin", "(I)V"⟩
abbrev cX5_forgetEntries : ByteArray := prog_6_method_16_code
def yX5_forgetEntries : MethodName := ⟨RX5, "forgetEntries", "(I)V"⟩
abbrev cX5_enter : ByteArray := prog_6_method_17_code
def yX5_enter : MethodName := ⟨RX5, "enter", "(II)V"⟩
abbrev cX5_entriesWith : ByteArray := prog_6_method_18_code
def yX5_entriesWith : MethodName := ⟨RX5, "entriesWith", "(I)I"⟩
abbrev cX5_markClosed : ByteArray := prog_6_method_19_code
def yX5_markClosed : MethodName := ⟨RX5, "markClosed", "(II)V"⟩
abbrev cX5_markLost : ByteArray := prog_6_method_20_code
def yX5_markLost : MethodName := ⟨RX5, "markLost", "()V"⟩
abbrev cX5_markRecovered : ByteArray := prog_6_method_21_code
def yX5_markRecovered : MethodName := ⟨RX5, "markRecovered", "()V"⟩
abbrev cX5_linkOf : ByteArray := prog_6_method_22_code
def yX5_linkOf : MethodName := ⟨RX5, "linkOf", "(I)I"⟩
def RX6 : String := "OnceDisc$Snapshots"
def TX6 : u_T := fun k => match k with
  | 0 => ("OnceDisc$Snapshots", "stored", "[Z", true)
  | _ => ("OnceDisc$Snapshots", "discs", "[LOnceDisc$Disc;", true)
def tyX6 : Nat → FieldType := fun k => match k with
  | 0 => .array .boolean
  | _ => .array (.object "OnceDisc$Disc")
abbrev wsX60 : List Cond := u_ws RX6 TX6 2
theorem nmX6 : ∀ a, a < 2 → ∀ b, b < 2 → a ≠ b → (TX6 a).2.1 ≠ (TX6 b).2.1 := by decide +kernel
theorem tyX6_ok : ∀ k, k < 2 → parseFieldDescriptor (TX6 k).2.2.1 = some (tyX6 k) := by decide +kernel
abbrev cX6_init : ByteArray := prog_7_method_1_code
def yX6_init : MethodName := ⟨RX6, "<init>", "()V"⟩
abbrev cX6_clear : ByteArray := prog_7_method_2_code
def yX6_clear : MethodName := ⟨RX6, "clear", "()V"⟩
abbrev cX6_isStored : ByteArray := prog_7_method_3_code
def yX6_isStored : MethodName := ⟨RX6, "isStored", "(I)Z"⟩
abbrev cX6_store : ByteArray := prog_7_method_4_code
def yX6_store : MethodName := ⟨RX6, "store", "(ILOnceDisc$Disc;)V"⟩
abbrev cX6_load : ByteArray := prog_7_method_5_code
def yX6_load : MethodName := ⟨RX6, "load", "(ILOnceDisc$Disc;)V"⟩
def RX4 : String := "OnceDisc$Text"
def TX4 : u_T := fun k => match k with
  | 0 => ("OnceDisc$Text", "code", "I", false)
  | 1 => ("OnceDisc$Text", "position", "I", false)
  | 2 => ("OnceDisc$Text", "blocks", "I", false)
  | 3 => ("OnceDisc$Text", "spare", "I", false)
  | 4 => ("OnceDisc$Text", "fileCount", "I", false)
  | 5 => ("OnceDisc$Text", "names", "[J", true)
  | 6 => ("OnceDisc$Text", "count", "I", false)
  | 7 => ("OnceDisc$Text", "kinds", "[I", true)
  | 8 => ("OnceDisc$Text", "starts", "[I", true)
  | 9 => ("OnceDisc$Text", "targets", "[I", true)
  | 10 => ("OnceDisc$Text", "lengths", "[I", true)
  | 11 => ("OnceDisc$Text", "tags", "[I", true)
  | 12 => ("OnceDisc$Text", "bad", "[Z", true)
  | 13 => ("OnceDisc$Text", "tokens", "LOnceDisc$Tokens;", true)
  | _ => ("OnceDisc$Text", "token", "I", false)
def tyX4 : Nat → FieldType := fun k => match k with
  | 0 => .int
  | 1 => .int
  | 2 => .int
  | 3 => .int
  | 4 => .int
  | 5 => .array .long
  | 6 => .int
  | 7 => .array .int
  | 8 => .array .int
  | 9 => .array .int
  | 10 => .array .int
  | 11 => .array .int
  | 12 => .array .boolean
  | 13 => .object "OnceDisc$Tokens"
  | _ => .int
abbrev wsX40 : List Cond := u_ws RX4 TX4 15
theorem nmX4 : ∀ a, a < 15 → ∀ b, b < 15 → a ≠ b → (TX4 a).2.1 ≠ (TX4 b).2.1 := by decide +kernel
theorem tyX4_ok : ∀ k, k < 15 → parseFieldDescriptor (TX4 k).2.2.1 = some (tyX4 k) := by decide +kernel
abbrev cX4_init : ByteArray := prog_8_method_1_code
def yX4_init : MethodName := ⟨RX4, "<init>", "()V"⟩
abbrev cX4_read : ByteArray := prog_8_method_2_code
def yX4_read : MethodName := ⟨RX4, "read", "(LOnceDisc$Input;I)V"⟩
abbrev cX4_refuseStatement : ByteArray := prog_8_method_3_code
def yX4_refuseStatement : MethodName := ⟨RX4, "refuseStatement", "(I)V"⟩
abbrev cX4_kindOf : ByteArray := prog_8_method_4_code
def yX4_kindOf : MethodName := ⟨RX4, "kindOf", "(I)I"⟩
abbrev cX4_targetOf : ByteArray := prog_8_method_5_code
def yX4_targetOf : MethodName := ⟨RX4, "targetOf", "(I)I"⟩
abbrev cX4_lengthOf : ByteArray := prog_8_method_6_code
def yX4_lengthOf : MethodName := ⟨RX4, "lengthOf", "(I)I"⟩
abbrev cX4_tagOf : ByteArray := prog_8_method_7_code
def yX4_tagOf : MethodName := ⟨RX4, "tagOf", "(I)I"⟩
abbrev cX4_fail : ByteArray := prog_8_method_8_code
def yX4_fail : MethodName := ⟨RX4, "fail", "(I)Z"⟩
abbrev cX4_readHead : ByteArray := prog_8_method_9_code
def yX4_readHead : MethodName := ⟨RX4, "readHead", "()Z"⟩
abbrev cX4_readStatement : ByteArray := prog_8_method_10_code
def yX4_readStatement : MethodName := ⟨RX4, "readStatement", "()Z"⟩
abbrev cX4_readBad : ByteArray := prog_8_method_11_code
def yX4_readBad : MethodName := ⟨RX4, "readBad", "()Z"⟩
abbrev cX4_readNewFile : ByteArray := prog_8_method_12_code
def yX4_readNewFile : MethodName := ⟨RX4, "readNewFile", "()Z"⟩
abbrev cX4_readWrite : ByteArray := prog_8_method_13_code
def yX4_readWrite : MethodName := ⟨RX4, "readWrite", "()Z"⟩
abbrev cX4_readErase : ByteArray := prog_8_method_14_code
def yX4_readErase : MethodName := ⟨RX4, "readErase", "()Z"⟩
abbrev cX4_add : ByteArray := prog_8_method_15_code
def yX4_add : MethodName := ⟨RX4, "add", "(III)Z"⟩
abbrev cX4_isWord : ByteArray := prog_8_method_16_code
def yX4_isWord : MethodName := ⟨RX4, "isWord", "(Ljava/lang/String;)Z"⟩
abbrev cX4_readFile : ByteArray := prog_8_method_17_code
def yX4_readFile : MethodName := ⟨RX4, "readFile", "()I"⟩
abbrev cX4_readNumber : ByteArray := prog_8_method_18_code
def yX4_readNumber : MethodName := ⟨RX4, "readNumber", "(II)Z"⟩
abbrev cX4_readSemicolon : ByteArray := prog_8_method_19_code
def yX4_readSemicolon : MethodName := ⟨RX4, "readSemicolon", "()Z"⟩
def RX11 : String := "OnceDisc$Tokens"
def TX11 : u_T := fun k => match k with
  | 0 => ("OnceDisc$Tokens", "count", "I", false)
  | 1 => ("OnceDisc$Tokens", "length", "I", false)
  | 2 => ("OnceDisc$Tokens", "kinds", "[I", true)
  | 3 => ("OnceDisc$Tokens", "starts", "[I", true)
  | _ => ("OnceDisc$Tokens", "values", "[J", true)
def tyX11 : Nat → FieldType := fun k => match k with
  | 0 => .int
  | 1 => .int
  | 2 => .array .int
  | 3 => .array .int
  | _ => .array .long
abbrev wsX110 : List Cond := u_ws RX11 TX11 5
theorem nmX11 : ∀ a, a < 5 → ∀ b, b < 5 → a ≠ b → (TX11 a).2.1 ≠ (TX11 b).2.1 := by decide +kernel
theorem tyX11_ok : ∀ k, k < 5 → parseFieldDescriptor (TX11 k).2.2.1 = some (tyX11 k) := by decide +kernel
abbrev cX11_init : ByteArray := prog_9_method_1_code
def yX11_init : MethodName := ⟨RX11, "<init>", "()V"⟩
abbrev cX11_read : ByteArray := prog_9_method_2_code
def yX11_read : MethodName := ⟨RX11, "read", "(LOnceDisc$Input;I)V"⟩
abbrev cX11_kindOf : ByteArray := prog_9_method_3_code
def yX11_kindOf : MethodName := ⟨RX11, "kindOf", "(I)I"⟩
abbrev cX11_startOf : ByteArray := prog_9_method_4_code
def yX11_startOf : MethodName := ⟨RX11, "startOf", "(I)I"⟩
abbrev cX11_numberOf : ByteArray := prog_9_method_5_code
def yX11_numberOf : MethodName := ⟨RX11, "numberOf", "(I)I"⟩
abbrev cX11_valueOf : ByteArray := prog_9_method_6_code
def yX11_valueOf : MethodName := ⟨RX11, "valueOf", "(I)J"⟩
abbrev cX11_begin : ByteArray := prog_9_method_7_code
def yX11_begin : MethodName := ⟨RX11, "begin", "(II)V"⟩
abbrev cX11_takeLetter : ByteArray := prog_9_method_8_code
def yX11_takeLetter : MethodName := ⟨RX11, "takeLetter", "(II)V"⟩
abbrev cX11_takeDigit : ByteArray := prog_9_method_9_code
def yX11_takeDigit : MethodName := ⟨RX11, "takeDigit", "(II)V"⟩
def RX7 : String := "OnceDisc$Versions"
def TX7 : u_T := fun k => match k with
  | 0 => ("OnceDisc$Versions", "count", "I", false)
  | 1 => ("OnceDisc$Versions", "files", "[I", true)
  | 2 => ("OnceDisc$Versions", "firsts", "[I", true)
  | 3 => ("OnceDisc$Versions", "lengths", "[I", true)
  | 4 => ("OnceDisc$Versions", "tags", "[I", true)
  | _ => ("OnceDisc$Versions", "writers", "[I", true)
def tyX7 : Nat → FieldType := fun k => match k with
  | 0 => .int
  | 1 => .array .int
  | 2 => .array .int
  | 3 => .array .int
  | 4 => .array .int
  | _ => .array .int
abbrev wsX70 : List Cond := u_ws RX7 TX7 6
theorem nmX7 : ∀ a, a < 6 → ∀ b, b < 6 → a ≠ b → (TX7 a).2.1 ≠ (TX7 b).2.1 := by decide +kernel
theorem tyX7_ok : ∀ k, k < 6 → parseFieldDescriptor (TX7 k).2.2.1 = some (tyX7 k) := by decide +kernel
abbrev cX7_init : ByteArray := prog_10_method_1_code
def yX7_init : MethodName := ⟨RX7, "<init>", "()V"⟩
abbrev cX7_takeFrom : ByteArray := prog_10_method_2_code
def yX7_takeFrom : MethodName := ⟨RX7, "takeFrom", "(LOnceDisc$Versions;)V"⟩
abbrev cX7_add : ByteArray := prog_10_method_3_code
def yX7_add : MethodName := ⟨RX7, "add", "(IIIII)I"⟩
abbrev cX7_fileOf : ByteArray := prog_10_method_4_code
def yX7_fileOf : MethodName := ⟨RX7, "fileOf", "(I)I"⟩
abbrev cX7_firstOf : ByteArray := prog_10_method_5_code
def yX7_firstOf : MethodName := ⟨RX7, "firstOf", "(I)I"⟩
abbrev cX7_lengthOf : ByteArray := prog_10_method_6_code
def yX7_lengthOf : MethodName := ⟨RX7, "lengthOf", "(I)I"⟩
abbrev cX7_tagOf : ByteArray := prog_10_method_7_code
def yX7_tagOf : MethodName := ⟨RX7, "tagOf", "(I)I"⟩
abbrev cX7_writerOf : ByteArray := prog_10_method_8_code
def yX7_writerOf : MethodName := ⟨RX7, "writerOf", "(I)I"⟩
abbrev cX7_countOf : ByteArray := prog_10_method_9_code
def yX7_countOf : MethodName := ⟨RX7, "countOf", "(I)I"⟩
def RX8 : String := "OnceDisc$View"
def TX8 : u_T := fun k => match k with
  | 0 => ("OnceDisc$View", "fileCount", "I", false)
  | 1 => ("OnceDisc$View", "reached", "[Z", true)
  | 2 => ("OnceDisc$View", "sessions", "[I", true)
  | 3 => ("OnceDisc$View", "versions", "[I", true)
  | _ => ("OnceDisc$View", "readable", "[Z", true)
def tyX8 : Nat → FieldType := fun k => match k with
  | 0 => .int
  | 1 => .array .boolean
  | 2 => .array .int
  | 3 => .array .int
  | _ => .array .boolean
abbrev wsX80 : List Cond := u_ws RX8 TX8 5
theorem nmX8 : ∀ a, a < 5 → ∀ b, b < 5 → a ≠ b → (TX8 a).2.1 ≠ (TX8 b).2.1 := by decide +kernel
theorem tyX8_ok : ∀ k, k < 5 → parseFieldDescriptor (TX8 k).2.2.1 = some (tyX8 k) := by decide +kernel
abbrev cX8_init : ByteArray := prog_11_method_1_code
def yX8_init : MethodName := ⟨RX8, "<init>", "()V"⟩
abbrev cX8_lookAt : ByteArray := prog_11_method_2_code
def yX8_lookAt : MethodName := ⟨RX8, "lookAt", "(LOnceDisc$Disc;)LOnceDisc$View;"⟩
abbrev cX8_markReached : ByteArray := prog_11_method_3_code
def yX8_markReached : MethodName := ⟨RX8, "markReached", "(LOnceDisc$Disc;)V"⟩
abbrev cX8_sessionThatCounts : ByteArray := prog_11_method_4_code
def yX8_sessionThatCounts : MethodName := ⟨RX8, "sessionThatCounts", "(LOnceDisc$Sessions;II)I"⟩
abbrev cX8_isReached : ByteArray := prog_11_method_5_code
def yX8_isReached : MethodName := ⟨RX8, "isReached", "(I)Z"⟩
abbrev cX8_sessionOf : ByteArray := prog_11_method_6_code
def yX8_sessionOf : MethodName := ⟨RX8, "sessionOf", "(I)I"⟩
abbrev cX8_versionOf : ByteArray := prog_11_method_7_code
def yX8_versionOf : MethodName := ⟨RX8, "versionOf", "(I)I"⟩
abbrev cX8_isReadable : ByteArray := prog_11_method_8_code
def yX8_isReadable : MethodName := ⟨RX8, "isReadable", "(I)Z"⟩
abbrev cX8_filesThere : ByteArray := prog_11_method_9_code
def yX8_filesThere : MethodName := ⟨RX8, "filesThere", "()I"⟩
abbrev cX8_filesReadable : ByteArray := prog_11_method_10_code
def yX8_filesReadable : MethodName := ⟨RX8, "filesReadable", "()I"⟩
abbrev cX8_filesThereBefore : ByteArray := prog_11_method_11_code
def yX8_filesThereBefore : MethodName := ⟨RX8, "filesThereBefore", "(LOnceDisc$Sessions;I)I"⟩
def RX9 : String := "OnceDisc"
def TX9 : u_T := fun k => match k with
  | 0 => ("OnceDisc", "input", "LOnceDisc$Input;", true)
  | 1 => ("OnceDisc", "text", "LOnceDisc$Text;", true)
  | 2 => ("OnceDisc", "history", "LOnceDisc$History;", true)
  | 3 => ("OnceDisc", "snapshots", "LOnceDisc$Snapshots;", true)
  | 4 => ("OnceDisc", "afterScratch", "LOnceDisc$View;", true)
  | 5 => ("OnceDisc", "disc", "LOnceDisc$Disc;", false)
  | _ => ("OnceDisc", "draft", "LOnceDisc$Disc;", false)
def tyX9 : Nat → FieldType := fun k => match k with
  | 0 => .object "OnceDisc$Input"
  | 1 => .object "OnceDisc$Text"
  | 2 => .object "OnceDisc$History"
  | 3 => .object "OnceDisc$Snapshots"
  | 4 => .object "OnceDisc$View"
  | 5 => .object "OnceDisc$Disc"
  | _ => .object "OnceDisc$Disc"
abbrev wsX90 : List Cond := u_ws RX9 TX9 7
theorem nmX9 : ∀ a, a < 7 → ∀ b, b < 7 → a ≠ b → (TX9 a).2.1 ≠ (TX9 b).2.1 := by decide +kernel
theorem tyX9_ok : ∀ k, k < 7 → parseFieldDescriptor (TX9 k).2.2.1 = some (tyX9 k) := by decide +kernel
abbrev cX9_init : ByteArray := prog_1_method_1_code
def yX9_init : MethodName := ⟨RX9, "<init>", "()V"⟩
abbrev cX9_append : ByteArray := prog_1_method_2_code
def yX9_append : MethodName := ⟨RX9, "append", "(IIIII)I"⟩
abbrev cX9_parse : ByteArray := prog_1_method_3_code
def yX9_parse : MethodName := ⟨RX9, "parse", "(I)I"⟩
abbrev cX9_errorPosition : ByteArray := prog_1_method_4_code
def yX9_errorPosition : MethodName := ⟨RX9, "errorPosition", "()I"⟩
abbrev cX9_size : ByteArray := prog_1_method_5_code
def yX9_size : MethodName := ⟨RX9, "size", "(I)I"⟩
abbrev cX9_find : ByteArray := prog_1_method_6_code
def yX9_find : MethodName := ⟨RX9, "find", "()I"⟩
abbrev cX9_block : ByteArray := prog_1_method_7_code
def yX9_block : MethodName := ⟨RX9, "block", "(II)I"⟩
abbrev cX9_place : ByteArray := prog_1_method_8_code
def yX9_place : MethodName := ⟨RX9, "place", "(I)I"⟩
abbrev cX9_session : ByteArray := prog_1_method_9_code
def yX9_session : MethodName := ⟨RX9, "session", "(II)I"⟩
abbrev cX9_entry : ByteArray := prog_1_method_10_code
def yX9_entry : MethodName := ⟨RX9, "entry", "(III)I"⟩
abbrev cX9_file : ByteArray := prog_1_method_11_code
def yX9_file : MethodName := ⟨RX9, "file", "(II)I"⟩
abbrev cX9_where : ByteArray := prog_1_method_12_code
def yX9_where : MethodName := ⟨RX9, "where", "(II)I"⟩
abbrev cX9_defect : ByteArray := prog_1_method_13_code
def yX9_defect : MethodName := ⟨RX9, "defect", "(IZ)I"⟩
abbrev cX9_whyNotWrite : ByteArray := prog_1_method_14_code
def yX9_whyNotWrite : MethodName := ⟨RX9, "whyNotWrite", "(II)I"⟩
abbrev cX9_whyNot : ByteArray := prog_1_method_15_code
def yX9_whyNot : MethodName := ⟨RX9, "whyNot", "(I)I"⟩
abbrev cX9_couldRecover : ByteArray := prog_1_method_16_code
def yX9_couldRecover : MethodName := ⟨RX9, "couldRecover", "()I"⟩
abbrev cX9_risk : ByteArray := prog_1_method_17_code
def yX9_risk : MethodName := ⟨RX9, "risk", "(I)I"⟩
abbrev cX9_weakest : ByteArray := prog_1_method_18_code
def yX9_weakest : MethodName := ⟨RX9, "weakest", "()I"⟩
abbrev cX9_filesBefore : ByteArray := prog_1_method_19_code
def yX9_filesBefore : MethodName := ⟨RX9, "filesBefore", "(I)I"⟩
abbrev cX9_space : ByteArray := prog_1_method_20_code
def yX9_space : MethodName := ⟨RX9, "space", "(I)I"⟩
abbrev cX9_spaceOf : ByteArray := prog_1_method_21_code
def yX9_spaceOf : MethodName := ⟨RX9, "spaceOf", "(II)I"⟩
abbrev cX9_share : ByteArray := prog_1_method_22_code
def yX9_share : MethodName := ⟨RX9, "share", "()D"⟩
abbrev cX9_write : ByteArray := prog_1_method_23_code
def yX9_write : MethodName := ⟨RX9, "write", "(III)I"⟩
abbrev cX9_erase : ByteArray := prog_1_method_24_code
def yX9_erase : MethodName := ⟨RX9, "erase", "(I)I"⟩
abbrev cX9_close : ByteArray := prog_1_method_25_code
def yX9_close : MethodName := ⟨RX9, "close", "()I"⟩
abbrev cX9_crash : ByteArray := prog_1_method_26_code
def yX9_crash : MethodName := ⟨RX9, "crash", "()I"⟩
abbrev cX9_recover : ByteArray := prog_1_method_27_code
def yX9_recover : MethodName := ⟨RX9, "recover", "()I"⟩
abbrev cX9_scratch : ByteArray := prog_1_method_28_code
def yX9_scratch : MethodName := ⟨RX9, "scratch", "(I)Z"⟩
abbrev cX9_setScan : ByteArray := prog_1_method_29_code
def yX9_setScan : MethodName := ⟨RX9, "setScan", "(Z)Z"⟩
abbrev cX9_undo : ByteArray := prog_1_method_30_code
def yX9_undo : MethodName := ⟨RX9, "undo", "()I"⟩
abbrev cX9_saveSnapshot : ByteArray := prog_1_method_31_code
def yX9_saveSnapshot : MethodName := ⟨RX9, "saveSnapshot", "(I)Z"⟩
abbrev cX9_restoreSnapshot : ByteArray := prog_1_method_32_code
def yX9_restoreSnapshot : MethodName := ⟨RX9, "restoreSnapshot", "(I)I"⟩
abbrev cX9_checkIndex : ByteArray := prog_1_method_33_code
def yX9_checkIndex : MethodName := ⟨RX9, "checkIndex", "(II)V"⟩
abbrev cX9_checkRange : ByteArray := prog_1_method_34_code
def yX9_checkRange : MethodName := ⟨RX9, "checkRange", "(III)V"⟩
abbrev cX9_checkAllowed : ByteArray := prog_1_method_35_code
def yX9_checkAllowed : MethodName := ⟨RX9, "checkAllowed", "(I)V"⟩
abbrev cX9_oneIf : ByteArray := prog_1_method_36_code
def yX9_oneIf : MethodName := ⟨RX9, "oneIf", "(Z)I"⟩
abbrev cX9_withLetter : ByteArray := prog_1_method_37_code
def yX9_withLetter : MethodName := ⟨RX9, "withLetter", "(JI)J"⟩
abbrev cX9_isLetter : ByteArray := prog_1_method_38_code
def yX9_isLetter : MethodName := ⟨RX9, "isLetter", "(I)Z"⟩
abbrev cX9_packed : ByteArray := prog_1_method_39_code
def yX9_packed : MethodName := ⟨RX9, "packed", "(Ljava/lang/String;)J"⟩
abbrev cX9_directoryLength : ByteArray := prog_1_method_40_code
def yX9_directoryLength : MethodName := ⟨RX9, "directoryLength", "(I)I"⟩
abbrev cX9_at : ByteArray := prog_1_method_41_code
def yX9_at : MethodName := ⟨RX9, "at", "([III)I"⟩
abbrev cX9_at_ : ByteArray := prog_1_method_42_code
def yX9_at_ : MethodName := ⟨RX9, "at", "([JIJ)J"⟩
abbrev cX9_isSet : ByteArray := prog_1_method_43_code
def yX9_isSet : MethodName := ⟨RX9, "isSet", "([ZI)Z"⟩
abbrev cX9_put : ByteArray := prog_1_method_44_code
def yX9_put : MethodName := ⟨RX9, "put", "([III)V"⟩
abbrev cX9_put_ : ByteArray := prog_1_method_45_code
def yX9_put_ : MethodName := ⟨RX9, "put", "([JIJ)V"⟩
abbrev cX9_mark : ByteArray := prog_1_method_46_code
def yX9_mark : MethodName := ⟨RX9, "mark", "([ZIZ)V"⟩
abbrev cX9_fill : ByteArray := prog_1_method_47_code
def yX9_fill : MethodName := ⟨RX9, "fill", "([II)V"⟩
abbrev cX9_fill_ : ByteArray := prog_1_method_48_code
def yX9_fill_ : MethodName := ⟨RX9, "fill", "([ZZ)V"⟩
abbrev cX9_copy : ByteArray := prog_1_method_49_code
def yX9_copy : MethodName := ⟨RX9, "copy", "([I[I)V"⟩
abbrev cX9_copy_ : ByteArray := prog_1_method_50_code
def yX9_copy_ : MethodName := ⟨RX9, "copy", "([Z[Z)V"⟩
abbrev cX9_copy__ : ByteArray := prog_1_method_51_code
def yX9_copy__ : MethodName := ⟨RX9, "copy", "([J[J)V"⟩
abbrev cX9_indexOf : ByteArray := prog_1_method_52_code
def yX9_indexOf : MethodName := ⟨RX9, "indexOf", "([JIJ)I"⟩
abbrev cX9_storeIn : ByteArray := prog_1_method_53_code
def yX9_storeIn : MethodName := ⟨RX9, "storeIn", "([LOnceDisc$Disc;ILOnceDisc$Disc;)V"⟩
abbrev cX9_loadFrom : ByteArray := prog_1_method_54_code
def yX9_loadFrom : MethodName := ⟨RX9, "loadFrom", "([LOnceDisc$Disc;ILOnceDisc$Disc;)V"⟩
def RX10 : String := "OnceDiscModel"
def TX10 : u_T := fun k => match k with
  | 0 => ("OnceDiscModel", "thrown", "I", false)
  | 1 => ("OnceDiscModel", "now", "[I", true)
  | 2 => ("OnceDiscModel", "names", "[J", true)
  | 3 => ("OnceDiscModel", "text", "[B", true)
  | 4 => ("OnceDiscModel", "length", "I", false)
  | 5 => ("OnceDiscModel", "textSize", "I", false)
  | 6 => ("OnceDiscModel", "start", "I", false)
  | 7 => ("OnceDiscModel", "next", "I", false)
  | 8 => ("OnceDiscModel", "token", "I", false)
  | 9 => ("OnceDiscModel", "value", "I", false)
  | 10 => ("OnceDiscModel", "letters", "J", false)
  | 11 => ("OnceDiscModel", "error", "I", false)
  | 12 => ("OnceDiscModel", "errorAt", "I", false)
  | 13 => ("OnceDiscModel", "number", "I", false)
  | 14 => ("OnceDiscModel", "waiting", "[I", true)
  | 15 => ("OnceDiscModel", "readNames", "[J", true)
  | 16 => ("OnceDiscModel", "fileRead", "I", false)
  | 17 => ("OnceDiscModel", "reached", "[I", true)
  | 18 => ("OnceDiscModel", "reachedMany", "I", false)
  | 19 => ("OnceDiscModel", "foundSession", "I", false)
  | 20 => ("OnceDiscModel", "foundVersion", "I", false)
  | 21 => ("OnceDiscModel", "could", "[I", true)
  | 22 => ("OnceDiscModel", "couldMany", "I", false)
  | 23 => ("OnceDiscModel", "counts", "[Z", true)
  | 24 => ("OnceDiscModel", "undos", "I", false)
  | 25 => ("OnceDiscModel", "undo", "[I", true)
  | 26 => ("OnceDiscModel", "slots", "[I", true)
  | _ => ("OnceDiscModel", "isSaved", "[Z", true)
def tyX10 : Nat → FieldType := fun k => match k with
  | 0 => .int
  | 1 => .array .int
  | 2 => .array .long
  | 3 => .array .byte
  | 4 => .int
  | 5 => .int
  | 6 => .int
  | 7 => .int
  | 8 => .int
  | 9 => .int
  | 10 => .long
  | 11 => .int
  | 12 => .int
  | 13 => .int
  | 14 => .array .int
  | 15 => .array .long
  | 16 => .int
  | 17 => .array .int
  | 18 => .int
  | 19 => .int
  | 20 => .int
  | 21 => .array .int
  | 22 => .int
  | 23 => .array .boolean
  | 24 => .int
  | 25 => .array .int
  | 26 => .array .int
  | _ => .array .boolean
abbrev wsX100 : List Cond := u_ws RX10 TX10 28
theorem nmX10 : ∀ a, a < 28 → ∀ b, b < 28 → a ≠ b → (TX10 a).2.1 ≠ (TX10 b).2.1 := by decide +kernel
theorem tyX10_ok : ∀ k, k < 28 → parseFieldDescriptor (TX10 k).2.2.1 = some (tyX10 k) := by decide +kernel
abbrev cX10_init : ByteArray := prog_13_method_1_code
def yX10_init : MethodName := ⟨RX10, "<init>", "()V"⟩
abbrev cX10_thrown : ByteArray := prog_13_method_2_code
def yX10_thrown : MethodName := ⟨RX10, "thrown", "()I"⟩
abbrev cX10_within : ByteArray := prog_13_method_3_code
def yX10_within : MethodName := ⟨RX10, "within", "(III)Z"⟩
abbrev cX10_throwsIf : ByteArray := prog_13_method_4_code
def yX10_throwsIf : MethodName := ⟨RX10, "throwsIf", "(ZI)Z"⟩
abbrev cX10_append : ByteArray := prog_13_method_5_code
def yX10_append : MethodName := ⟨RX10, "append", "(IIIII)I"⟩
abbrev cX10_bytesOf : ByteArray := prog_13_method_6_code
def yX10_bytesOf : MethodName := ⟨RX10, "bytesOf", "(I)V"⟩
abbrev cX10_byteAt : ByteArray := prog_13_method_7_code
def yX10_byteAt : MethodName := ⟨RX10, "byteAt", "(I)I"⟩
abbrev cX10_takesLetters : ByteArray := prog_13_method_8_code
def yX10_takesLetters : MethodName := ⟨RX10, "takesLetters", "()V"⟩
abbrev cX10_advance : ByteArray := prog_13_method_9_code
def yX10_advance : MethodName := ⟨RX10, "advance", "()V"⟩
abbrev cX10_isWord : ByteArray := prog_13_method_10_code
def yX10_isWord : MethodName := ⟨RX10, "isWord", "(Ljava/lang/String;)Z"⟩
abbrev cX10_failsAt : ByteArray := prog_13_method_11_code
def yX10_failsAt : MethodName := ⟨RX10, "failsAt", "(II)Z"⟩
abbrev cX10_fails : ByteArray := prog_13_method_12_code
def yX10_fails : MethodName := ⟨RX10, "fails", "(I)Z"⟩
abbrev cX10_starts : ByteArray := prog_13_method_13_code
def yX10_starts : MethodName := ⟨RX10, "starts", "(IZ)Z"⟩
abbrev cX10_takes : ByteArray := prog_13_method_14_code
def yX10_takes : MethodName := ⟨RX10, "takes", "(II)Z"⟩
abbrev cX10_closes : ByteArray := prog_13_method_15_code
def yX10_closes : MethodName := ⟨RX10, "closes", "()Z"⟩
abbrev cX10_named : ByteArray := prog_13_method_16_code
def yX10_named : MethodName := ⟨RX10, "named", "([JIJ)I"⟩
abbrev cX10_badLine : ByteArray := prog_13_method_17_code
def yX10_badLine : MethodName := ⟨RX10, "badLine", "()Z"⟩
abbrev cX10_fileLine : ByteArray := prog_13_method_18_code
def yX10_fileLine : MethodName := ⟨RX10, "fileLine", "()Z"⟩
abbrev cX10_takesFile : ByteArray := prog_13_method_19_code
def yX10_takesFile : MethodName := ⟨RX10, "takesFile", "()Z"⟩
abbrev cX10_writeLine : ByteArray := prog_13_method_20_code
def yX10_writeLine : MethodName := ⟨RX10, "writeLine", "(I)Z"⟩
abbrev cX10_eraseLine : ByteArray := prog_13_method_21_code
def yX10_eraseLine : MethodName := ⟨RX10, "eraseLine", "(I)Z"⟩
abbrev cX10_closeLine : ByteArray := prog_13_method_22_code
def yX10_closeLine : MethodName := ⟨RX10, "closeLine", "(I)Z"⟩
abbrev cX10_statement : ByteArray := prog_13_method_23_code
def yX10_statement : MethodName := ⟨RX10, "statement", "()Z"⟩
abbrev cX10_head : ByteArray := prog_13_method_24_code
def yX10_head : MethodName := ⟨RX10, "head", "()Z"⟩
abbrev cX10_parse : ByteArray := prog_13_method_25_code
def yX10_parse : MethodName := ⟨RX10, "parse", "(I)I"⟩
abbrev cX10_errorPosition : ByteArray := prog_13_method_26_code
def yX10_errorPosition : MethodName := ⟨RX10, "errorPosition", "()I"⟩
abbrev cX10_find : ByteArray := prog_13_method_27_code
def yX10_find : MethodName := ⟨RX10, "find", "()I"⟩
abbrev cX10_mainMany : ByteArray := prog_13_method_28_code
def yX10_mainMany : MethodName := ⟨RX10, "mainMany", "()I"⟩
abbrev cX10_isMain : ByteArray := prog_13_method_29_code
def yX10_isMain : MethodName := ⟨RX10, "isMain", "(I)Z"⟩
abbrev cX10_placeOf : ByteArray := prog_13_method_30_code
def yX10_placeOf : MethodName := ⟨RX10, "placeOf", "(I)I"⟩
abbrev cX10_canRead : ByteArray := prog_13_method_31_code
def yX10_canRead : MethodName := ⟨RX10, "canRead", "(II)Z"⟩
abbrev cX10_lays : ByteArray := prog_13_method_32_code
def yX10_lays : MethodName := ⟨RX10, "lays", "(IIIII)V"⟩
abbrev cX10_writesBlock : ByteArray := prog_13_method_33_code
def yX10_writesBlock : MethodName := ⟨RX10, "writesBlock", "(IIII)V"⟩
abbrev cX10_hasSpare : ByteArray := prog_13_method_34_code
def yX10_hasSpare : MethodName := ⟨RX10, "hasSpare", "(I)Z"⟩
abbrev cX10_hasRoom : ByteArray := prog_13_method_35_code
def yX10_hasRoom : MethodName := ⟨RX10, "hasRoom", "(I)Z"⟩
abbrev cX10_directoryLong : ByteArray := prog_13_method_36_code
def yX10_directoryLong : MethodName := ⟨RX10, "directoryLong", "(I)I"⟩
abbrev cX10_of : ByteArray := prog_13_method_37_code
def yX10_of : MethodName := ⟨RX10, "of", "(II)I"⟩
abbrev cX10_sets : ByteArray := prog_13_method_38_code
def yX10_sets : MethodName := ⟨RX10, "sets", "(III)V"⟩
abbrev cX10_ofVersion : ByteArray := prog_13_method_39_code
def yX10_ofVersion : MethodName := ⟨RX10, "ofVersion", "(II)I"⟩
abbrev cX10_latest : ByteArray := prog_13_method_40_code
def yX10_latest : MethodName := ⟨RX10, "latest", "()I"⟩
abbrev cX10_isOpen : ByteArray := prog_13_method_41_code
def yX10_isOpen : MethodName := ⟨RX10, "isOpen", "()Z"⟩
abbrev cX10_entryOf : ByteArray := prog_13_method_42_code
def yX10_entryOf : MethodName := ⟨RX10, "entryOf", "(II)I"⟩
abbrev cX10_canReadDirectory : ByteArray := prog_13_method_43_code
def yX10_canReadDirectory : MethodName := ⟨RX10, "canReadDirectory", "(I)Z"⟩
abbrev cX10_searches : ByteArray := prog_13_method_44_code
def yX10_searches : MethodName := ⟨RX10, "searches", "()V"⟩
abbrev cX10_isReached : ByteArray := prog_13_method_45_code
def yX10_isReached : MethodName := ⟨RX10, "isReached", "(I)Z"⟩
abbrev cX10_seeks : ByteArray := prog_13_method_46_code
def yX10_seeks : MethodName := ⟨RX10, "seeks", "(II)V"⟩
abbrev cX10_finds : ByteArray := prog_13_method_47_code
def yX10_finds : MethodName := ⟨RX10, "finds", "(I)V"⟩
abbrev cX10_isReadable : ByteArray := prog_13_method_48_code
def yX10_isReadable : MethodName := ⟨RX10, "isReadable", "(I)Z"⟩
abbrev cX10_filesThere : ByteArray := prog_13_method_49_code
def yX10_filesThere : MethodName := ⟨RX10, "filesThere", "(I)I"⟩
abbrev cX10_goodFiles : ByteArray := prog_13_method_50_code
def yX10_goodFiles : MethodName := ⟨RX10, "goodFiles", "()I"⟩
abbrev cX10_ones : ByteArray := prog_13_method_51_code
def yX10_ones : MethodName := ⟨RX10, "ones", "(I)I"⟩
abbrev cX10_entriesWith : ByteArray := prog_13_method_52_code
def yX10_entriesWith : MethodName := ⟨RX10, "entriesWith", "(I)I"⟩
abbrev cX10_whyWrite : ByteArray := prog_13_method_53_code
def yX10_whyWrite : MethodName := ⟨RX10, "whyWrite", "(II)I"⟩
abbrev cX10_whyErase : ByteArray := prog_13_method_54_code
def yX10_whyErase : MethodName := ⟨RX10, "whyErase", "(I)I"⟩
abbrev cX10_whyClose : ByteArray := prog_13_method_55_code
def yX10_whyClose : MethodName := ⟨RX10, "whyClose", "()I"⟩
abbrev cX10_begins : ByteArray := prog_13_method_56_code
def yX10_begins : MethodName := ⟨RX10, "begins", "()I"⟩
abbrev cX10_enters : ByteArray := prog_13_method_57_code
def yX10_enters : MethodName := ⟨RX10, "enters", "(II)V"⟩
abbrev cX10_writes : ByteArray := prog_13_method_58_code
def yX10_writes : MethodName := ⟨RX10, "writes", "(III)I"⟩
abbrev cX10_erases : ByteArray := prog_13_method_59_code
def yX10_erases : MethodName := ⟨RX10, "erases", "(I)V"⟩
abbrev cX10_closedBefore : ByteArray := prog_13_method_60_code
def yX10_closedBefore : MethodName := ⟨RX10, "closedBefore", "(I)I"⟩
abbrev cX10_closesOpen : ByteArray := prog_13_method_61_code
def yX10_closesOpen : MethodName := ⟨RX10, "closesOpen", "()V"⟩
abbrev cX10_findsLost : ByteArray := prog_13_method_62_code
def yX10_findsLost : MethodName := ⟨RX10, "findsLost", "()V"⟩
abbrev cX10_isOutdone : ByteArray := prog_13_method_63_code
def yX10_isOutdone : MethodName := ⟨RX10, "isOutdone", "(I)Z"⟩
abbrev cX10_whyRecover : ByteArray := prog_13_method_64_code
def yX10_whyRecover : MethodName := ⟨RX10, "whyRecover", "()I"⟩
abbrev cX10_badMany : ByteArray := prog_13_method_65_code
def yX10_badMany : MethodName := ⟨RX10, "badMany", "()I"⟩
abbrev cX10_emptySpares : ByteArray := prog_13_method_66_code
def yX10_emptySpares : MethodName := ⟨RX10, "emptySpares", "()I"⟩
abbrev cX10_size : ByteArray := prog_13_method_67_code
def yX10_size : MethodName := ⟨RX10, "size", "(I)I"⟩
abbrev cX10_no : ByteArray := prog_13_method_68_code
def yX10_no : MethodName := ⟨RX10, "no", "(II)Z"⟩
abbrev cX10_noBlock : ByteArray := prog_13_method_69_code
def yX10_noBlock : MethodName := ⟨RX10, "noBlock", "(I)Z"⟩
abbrev cX10_noSession : ByteArray := prog_13_method_70_code
def yX10_noSession : MethodName := ⟨RX10, "noSession", "(I)Z"⟩
abbrev cX10_noFile : ByteArray := prog_13_method_71_code
def yX10_noFile : MethodName := ⟨RX10, "noFile", "(I)Z"⟩
abbrev cX10_block : ByteArray := prog_13_method_72_code
def yX10_block : MethodName := ⟨RX10, "block", "(II)I"⟩
abbrev cX10_place : ByteArray := prog_13_method_73_code
def yX10_place : MethodName := ⟨RX10, "place", "(I)I"⟩
abbrev cX10_writtenBy : ByteArray := prog_13_method_74_code
def yX10_writtenBy : MethodName := ⟨RX10, "writtenBy", "(IZ)I"⟩
abbrev cX10_session : ByteArray := prog_13_method_75_code
def yX10_session : MethodName := ⟨RX10, "session", "(II)I"⟩
abbrev cX10_entry : ByteArray := prog_13_method_76_code
def yX10_entry : MethodName := ⟨RX10, "entry", "(III)I"⟩
abbrev cX10_versionsOf : ByteArray := prog_13_method_77_code
def yX10_versionsOf : MethodName := ⟨RX10, "versionsOf", "(I)I"⟩
abbrev cX10_file : ByteArray := prog_13_method_78_code
def yX10_file : MethodName := ⟨RX10, "file", "(II)I"⟩
abbrev cX10_where : ByteArray := prog_13_method_79_code
def yX10_where : MethodName := ⟨RX10, "where", "(II)I"⟩
abbrev cX10_defect : ByteArray := prog_13_method_80_code
def yX10_defect : MethodName := ⟨RX10, "defect", "(IZ)I"⟩
abbrev cX10_whyNotWrite : ByteArray := prog_13_method_81_code
def yX10_whyNotWrite : MethodName := ⟨RX10, "whyNotWrite", "(II)I"⟩
abbrev cX10_whyNot : ByteArray := prog_13_method_82_code
def yX10_whyNot : MethodName := ⟨RX10, "whyNot", "(I)I"⟩
abbrev cX10_couldRecover : ByteArray := prog_13_method_83_code
def yX10_couldRecover : MethodName := ⟨RX10, "couldRecover", "()I"⟩
abbrev cX10_riskOf : ByteArray := prog_13_method_84_code
def yX10_riskOf : MethodName := ⟨RX10, "riskOf", "(I)I"⟩
abbrev cX10_risk : ByteArray := prog_13_method_85_code
def yX10_risk : MethodName := ⟨RX10, "risk", "(I)I"⟩
abbrev cX10_weakest : ByteArray := prog_13_method_86_code
def yX10_weakest : MethodName := ⟨RX10, "weakest", "()I"⟩
abbrev cX10_filesBefore : ByteArray := prog_13_method_87_code
def yX10_filesBefore : MethodName := ⟨RX10, "filesBefore", "(I)I"⟩
abbrev cX10_findsCounting : ByteArray := prog_13_method_88_code
def yX10_findsCounting : MethodName := ⟨RX10, "findsCounting", "()V"⟩
abbrev cX10_useOf : ByteArray := prog_13_method_89_code
def yX10_useOf : MethodName := ⟨RX10, "useOf", "(I)I"⟩
abbrev cX10_spaceBy : ByteArray := prog_13_method_90_code
def yX10_spaceBy : MethodName := ⟨RX10, "spaceBy", "(II)I"⟩
abbrev cX10_space : ByteArray := prog_13_method_91_code
def yX10_space : MethodName := ⟨RX10, "space", "(I)I"⟩
abbrev cX10_spaceOf : ByteArray := prog_13_method_92_code
def yX10_spaceOf : MethodName := ⟨RX10, "spaceOf", "(II)I"⟩
abbrev cX10_share : ByteArray := prog_13_method_93_code
def yX10_share : MethodName := ⟨RX10, "share", "()D"⟩
abbrev cX10_write : ByteArray := prog_13_method_94_code
def yX10_write : MethodName := ⟨RX10, "write", "(III)I"⟩
abbrev cX10_erase : ByteArray := prog_13_method_95_code
def yX10_erase : MethodName := ⟨RX10, "erase", "(I)I"⟩
abbrev cX10_close : ByteArray := prog_13_method_96_code
def yX10_close : MethodName := ⟨RX10, "close", "()I"⟩
abbrev cX10_crash : ByteArray := prog_13_method_97_code
def yX10_crash : MethodName := ⟨RX10, "crash", "()I"⟩
abbrev cX10_recover : ByteArray := prog_13_method_98_code
def yX10_recover : MethodName := ⟨RX10, "recover", "()I"⟩
abbrev cX10_scratch : ByteArray := prog_13_method_99_code
def yX10_scratch : MethodName := ⟨RX10, "scratch", "(I)Z"⟩
abbrev cX10_setScan : ByteArray := prog_13_method_100_code
def yX10_setScan : MethodName := ⟨RX10, "setScan", "(Z)Z"⟩
abbrev cX10_copies : ByteArray := prog_13_method_101_code
def yX10_copies : MethodName := ⟨RX10, "copies", "([II[II)V"⟩
abbrev cX10_keeps : ByteArray := prog_13_method_102_code
def yX10_keeps : MethodName := ⟨RX10, "keeps", "()V"⟩
abbrev cX10_undo : ByteArray := prog_13_method_103_code
def yX10_undo : MethodName := ⟨RX10, "undo", "()I"⟩
abbrev cX10_saveSnapshot : ByteArray := prog_13_method_104_code
def yX10_saveSnapshot : MethodName := ⟨RX10, "saveSnapshot", "(I)Z"⟩
abbrev cX10_restoreSnapshot : ByteArray := prog_13_method_105_code
def yX10_restoreSnapshot : MethodName := ⟨RX10, "restoreSnapshot", "(I)I"⟩
def RJ9 : String := "java/lang/Math"
def TJ9 : u_T := fun k => match k with
  | _ => ("", "", "", false)
def tyJ9 : Nat → FieldType := fun k => match k with
  | _ => .int
abbrev wsJ90 : List Cond := u_ws RJ9 TJ9 0
theorem nmJ9 : ∀ a, a < 0 → ∀ b, b < 0 → a ≠ b → (TJ9 a).2.1 ≠ (TJ9 b).2.1 := by decide +kernel
theorem tyJ9_ok : ∀ k, k < 0 → parseFieldDescriptor (TJ9 k).2.2.1 = some (tyJ9 k) := by decide +kernel
abbrev cJ9_min_7cf53 : ByteArray := prog_18_method_69_code
def yJ9_min_7cf53 : MethodName := ⟨RJ9, "min", "(II)I"⟩
def RJ0 : String := "java/lang/String"
def TJ0 : u_T := fun k => match k with
  | _ => ("", "", "", false)
def tyJ0 : Nat → FieldType := fun k => match k with
  | _ => .int
abbrev wsJ00 : List Cond := u_ws RJ0 TJ0 0
theorem nmJ0 : ∀ a, a < 0 → ∀ b, b < 0 → a ≠ b → (TJ0 a).2.1 ≠ (TJ0 b).2.1 := by decide +kernel
theorem tyJ0_ok : ∀ k, k < 0 → parseFieldDescriptor (TJ0 k).2.2.1 = some (tyJ0 k) := by decide +kernel
abbrev cJ0_length_8abf5 : ByteArray := prog_20_method_54_code
def yJ0_length_8abf5 : MethodName := ⟨RJ0, "length", "()I"⟩
abbrev cJ0_charAt_5068e : ByteArray := prog_20_method_56_code
def yJ0_charAt_5068e : MethodName := ⟨RJ0, "charAt", "(I)C"⟩
abbrev cJ0_coder_7d493 : ByteArray := prog_20_method_152_code
def yJ0_coder_7d493 : MethodName := ⟨RJ0, "coder", "()B"⟩
abbrev cJ0_isLatin1_aae02 : ByteArray := prog_20_method_154_code
def yJ0_isLatin1_aae02 : MethodName := ⟨RJ0, "isLatin1", "()Z"⟩
abbrev cJ0_checkIndex_df160 : ByteArray := prog_20_method_155_code
def yJ0_checkIndex_df160 : MethodName := ⟨RJ0, "checkIndex", "(II)V"⟩
def RJ1 : String := "java/lang/StringLatin1"
def TJ1 : u_T := fun k => match k with
  | _ => ("", "", "", false)
def tyJ1 : Nat → FieldType := fun k => match k with
  | _ => .int
abbrev wsJ10 : List Cond := u_ws RJ1 TJ1 0
theorem nmJ1 : ∀ a, a < 0 → ∀ b, b < 0 → a ≠ b → (TJ1 a).2.1 ≠ (TJ1 b).2.1 := by decide +kernel
theorem tyJ1_ok : ∀ k, k < 0 → parseFieldDescriptor (TJ1 k).2.2.1 = some (tyJ1 k) := by decide +kernel
abbrev cJ1_charAt_3b067 : ByteArray := prog_21_method_2_code
def yJ1_charAt_3b067 : MethodName := ⟨RJ1, "charAt", "([BI)C"⟩
def RJ2 : String := "java/lang/StringUTF16"
def TJ2 : u_T := fun k => match k with
  | _ => ("", "", "", false)
def tyJ2 : Nat → FieldType := fun k => match k with
  | _ => .int
abbrev wsJ20 : List Cond := u_ws RJ2 TJ2 0
theorem nmJ2 : ∀ a, a < 0 → ∀ b, b < 0 → a ≠ b → (TJ2 a).2.1 ≠ (TJ2 b).2.1 := by decide +kernel
theorem tyJ2_ok : ∀ k, k < 0 → parseFieldDescriptor (TJ2 k).2.2.1 = some (tyJ2 k) := by decide +kernel
abbrev cJ2_getChar_3b067 : ByteArray := prog_22_method_5_code
def yJ2_getChar_3b067 : MethodName := ⟨RJ2, "getChar", "([BI)C"⟩
abbrev cJ2_length_9d52b : ByteArray := prog_22_method_6_code
def yJ2_length_9d52b : MethodName := ⟨RJ2, "length", "([B)I"⟩
abbrev cJ2_charAt_3b067 : ByteArray := prog_22_method_83_code
def yJ2_charAt_3b067 : MethodName := ⟨RJ2, "charAt", "([BI)C"⟩
abbrev cJ2_checkIndex_2214a : ByteArray := prog_22_method_91_code
def yJ2_checkIndex_2214a : MethodName := ⟨RJ2, "checkIndex", "(I[B)V"⟩
def RJ3 : String := "jdk/internal/util/Preconditions"
def TJ3 : u_T := fun k => match k with
  | _ => ("", "", "", false)
def tyJ3 : Nat → FieldType := fun k => match k with
  | _ => .int
abbrev wsJ30 : List Cond := u_ws RJ3 TJ3 0
theorem nmJ3 : ∀ a, a < 0 → ∀ b, b < 0 → a ≠ b → (TJ3 a).2.1 ≠ (TJ3 b).2.1 := by decide +kernel
theorem tyJ3_ok : ∀ k, k < 0 → parseFieldDescriptor (TJ3 k).2.2.1 = some (tyJ3 k) := by decide +kernel
abbrev cJ3_checkIndex_8e157 : ByteArray := prog_24_method_11_code
def yJ3_checkIndex_8e157 : MethodName := ⟨RJ3, "checkIndex", "(IILjava/util/function/BiFunction;)I"⟩
def RL : String := "OnceDiscLaw"
abbrev cL_parse : ByteArray := method_3_code
def yL_parse : MethodName := ⟨RL, "parse", "(LOnceDisc;I[J)I"⟩
abbrev cL_size : ByteArray := method_4_code
def yL_size : MethodName := ⟨RL, "size", "(LOnceDisc;I[J)I"⟩
abbrev cL_block : ByteArray := method_5_code
def yL_block : MethodName := ⟨RL, "block", "(LOnceDisc;II[J)I"⟩
abbrev cL_place : ByteArray := method_6_code
def yL_place : MethodName := ⟨RL, "place", "(LOnceDisc;I[J)I"⟩
abbrev cL_session : ByteArray := method_7_code
def yL_session : MethodName := ⟨RL, "session", "(LOnceDisc;II[J)I"⟩
abbrev cL_entry : ByteArray := method_8_code
def yL_entry : MethodName := ⟨RL, "entry", "(LOnceDisc;III[J)I"⟩
abbrev cL_file : ByteArray := method_9_code
def yL_file : MethodName := ⟨RL, "file", "(LOnceDisc;II[J)I"⟩
abbrev cL_where : ByteArray := method_10_code
def yL_where : MethodName := ⟨RL, "where", "(LOnceDisc;II[J)I"⟩
abbrev cL_whyNotWrite : ByteArray := method_11_code
def yL_whyNotWrite : MethodName := ⟨RL, "whyNotWrite", "(LOnceDisc;II[J)I"⟩
abbrev cL_whyNot : ByteArray := method_12_code
def yL_whyNot : MethodName := ⟨RL, "whyNot", "(LOnceDisc;I[J)I"⟩
abbrev cL_risk : ByteArray := method_13_code
def yL_risk : MethodName := ⟨RL, "risk", "(LOnceDisc;I[J)I"⟩
abbrev cL_filesBefore : ByteArray := method_14_code
def yL_filesBefore : MethodName := ⟨RL, "filesBefore", "(LOnceDisc;I[J)I"⟩
abbrev cL_space : ByteArray := method_15_code
def yL_space : MethodName := ⟨RL, "space", "(LOnceDisc;I[J)I"⟩
abbrev cL_spaceOf : ByteArray := method_16_code
def yL_spaceOf : MethodName := ⟨RL, "spaceOf", "(LOnceDisc;II[J)I"⟩
abbrev cL_write : ByteArray := method_17_code
def yL_write : MethodName := ⟨RL, "write", "(LOnceDisc;III[J)I"⟩
abbrev cL_erase : ByteArray := method_18_code
def yL_erase : MethodName := ⟨RL, "erase", "(LOnceDisc;I[J)I"⟩
abbrev cL_close : ByteArray := method_19_code
def yL_close : MethodName := ⟨RL, "close", "(LOnceDisc;[J)I"⟩
abbrev cL_crash : ByteArray := method_20_code
def yL_crash : MethodName := ⟨RL, "crash", "(LOnceDisc;[J)I"⟩
abbrev cL_recover : ByteArray := method_21_code
def yL_recover : MethodName := ⟨RL, "recover", "(LOnceDisc;[J)I"⟩
abbrev cL_scratch : ByteArray := method_22_code
def yL_scratch : MethodName := ⟨RL, "scratch", "(LOnceDisc;I[J)I"⟩
abbrev cL_saveSnapshot : ByteArray := method_23_code
def yL_saveSnapshot : MethodName := ⟨RL, "saveSnapshot", "(LOnceDisc;I[J)I"⟩
abbrev cL_restoreSnapshot : ByteArray := method_24_code
def yL_restoreSnapshot : MethodName := ⟨RL, "restoreSnapshot", "(LOnceDisc;I[J)I"⟩
abbrev cL_law : ByteArray := code
def yL_law : MethodName := ⟨RL, "law", "([I)Z"⟩
def wsL_law0_r1 : List Cond := [Cond.classLink RL 8 RX9, Cond.instantiable RX9 7, Cond.initialized RX9, Cond.classLink RL 87 RX10, Cond.instantiable RX10 28, Cond.initialized RX10, Cond.arrayClass .long, Cond.methodLink RL 86 yX9_init, Cond.instanceMethod yX9_init, Cond.code yX9_init cX9_init 1 none, Cond.methodLink RX9 3 objectInit, Cond.instanceMethod objectInit, Cond.code objectInit ⟨#[0xb1]⟩ 1 none, Cond.classLink RX9 9 RX3, Cond.instantiable RX3 2, Cond.initialized RX3, Cond.fieldLink RX9 12 "OnceDisc" "input" "LOnceDisc$Input;", Cond.classLink RX9 16 RX4, Cond.instantiable RX4 15, Cond.initialized RX4, Cond.fieldLink RX9 19 "OnceDisc" "text" "LOnceDisc$Text;", Cond.classLink RX9 23 RX2, Cond.instantiable RX2 3, Cond.initialized RX2]
def wsL_law0_r2 : List Cond := [Cond.fieldLink RX9 26 "OnceDisc" "history" "LOnceDisc$History;", Cond.classLink RX9 30 RX6, Cond.instantiable RX6 2, Cond.initialized RX6, Cond.fieldLink RX9 33 "OnceDisc" "snapshots" "LOnceDisc$Snapshots;", Cond.classLink RX9 37 RX8, Cond.instantiable RX8 5, Cond.initialized RX8, Cond.fieldLink RX9 40 "OnceDisc" "afterScratch" "LOnceDisc$View;", Cond.classLink RX9 44 RX1, Cond.instantiable RX1 7, Cond.initialized RX1, Cond.fieldLink RX9 47 "OnceDisc" "disc" "LOnceDisc$Disc;", Cond.fieldLink RX9 51 "OnceDisc" "draft" "LOnceDisc$Disc;", Cond.instanceMethod yX3_init, Cond.code yX3_init cX3_init 1 none, Cond.methodLink RX3 3 objectInit, Cond.arrayClass .int, Cond.fieldLink RX3 9 "OnceDisc$Input" "bytes" "[I", Cond.fieldLink RX3 15 "OnceDisc$Input" "used" "I", Cond.instanceMethod yX4_init, Cond.code yX4_init cX4_init 1 none, Cond.methodLink RX4 3 objectInit, Cond.fieldLink RX4 9 "OnceDisc$Text" "code" "I"]
def wsL_law0_r3 : List Cond := [Cond.fieldLink RX4 15 "OnceDisc$Text" "position" "I", Cond.fieldLink RX4 18 "OnceDisc$Text" "blocks" "I", Cond.fieldLink RX4 21 "OnceDisc$Text" "spare" "I", Cond.fieldLink RX4 24 "OnceDisc$Text" "fileCount" "I", Cond.fieldLink RX4 27 "OnceDisc$Text" "names" "[J", Cond.fieldLink RX4 31 "OnceDisc$Text" "count" "I", Cond.fieldLink RX4 34 "OnceDisc$Text" "kinds" "[I", Cond.fieldLink RX4 38 "OnceDisc$Text" "starts" "[I", Cond.fieldLink RX4 41 "OnceDisc$Text" "targets" "[I", Cond.fieldLink RX4 44 "OnceDisc$Text" "lengths" "[I", Cond.fieldLink RX4 47 "OnceDisc$Text" "tags" "[I", Cond.arrayClass .boolean, Cond.fieldLink RX4 50 "OnceDisc$Text" "bad" "[Z", Cond.classLink RX4 54 RX11, Cond.instantiable RX11 5, Cond.initialized RX11, Cond.fieldLink RX4 57 "OnceDisc$Text" "tokens" "LOnceDisc$Tokens;", Cond.fieldLink RX4 61 "OnceDisc$Text" "token" "I", Cond.instanceMethod yX11_init, Cond.code yX11_init cX11_init 1 none, Cond.methodLink RX11 3 objectInit, Cond.fieldLink RX11 9 "OnceDisc$Tokens" "count" "I", Cond.fieldLink RX11 15 "OnceDisc$Tokens" "length" "I", Cond.fieldLink RX11 18 "OnceDisc$Tokens" "kinds" "[I"]
def wsL_law0_r4 : List Cond := [Cond.fieldLink RX11 22 "OnceDisc$Tokens" "starts" "[I", Cond.fieldLink RX11 25 "OnceDisc$Tokens" "values" "[J", Cond.instanceMethod yX2_init, Cond.code yX2_init cX2_init 1 none, Cond.methodLink RX2 3 objectInit, Cond.fieldLink RX2 9 "OnceDisc$History" "count" "I", Cond.fieldLink RX2 15 "OnceDisc$History" "oldest" "I", Cond.classLink RX2 18 RX1, Cond.fieldLink RX2 20 "OnceDisc$History" "ring" "[LOnceDisc$Disc;", Cond.instanceMethod yX6_init, Cond.code yX6_init cX6_init 1 none, Cond.methodLink RX6 3 objectInit, Cond.fieldLink RX6 9 "OnceDisc$Snapshots" "stored" "[Z", Cond.classLink RX6 15 RX1, Cond.fieldLink RX6 17 "OnceDisc$Snapshots" "discs" "[LOnceDisc$Disc;", Cond.instanceMethod yX8_init, Cond.code yX8_init cX8_init 1 none, Cond.methodLink RX8 3 objectInit, Cond.fieldLink RX8 9 "OnceDisc$View" "fileCount" "I", Cond.fieldLink RX8 15 "OnceDisc$View" "reached" "[Z", Cond.fieldLink RX8 19 "OnceDisc$View" "sessions" "[I", Cond.fieldLink RX8 23 "OnceDisc$View" "versions" "[I", Cond.fieldLink RX8 26 "OnceDisc$View" "readable" "[Z", Cond.instanceMethod yX1_init]
def wsL_law0_r5 : List Cond := [Cond.code yX1_init cX1_init 1 none, Cond.methodLink RX1 3 objectInit, Cond.classLink RX1 9 RX0, Cond.instantiable RX0 11, Cond.initialized RX0, Cond.fieldLink RX1 12 "OnceDisc$Disc" "blocks" "LOnceDisc$Blocks;", Cond.classLink RX1 18 RX7, Cond.instantiable RX7 6, Cond.initialized RX7, Cond.fieldLink RX1 21 "OnceDisc$Disc" "versions" "LOnceDisc$Versions;", Cond.classLink RX1 25 RX5, Cond.instantiable RX5 8, Cond.initialized RX5, Cond.fieldLink RX1 28 "OnceDisc$Disc" "sessions" "LOnceDisc$Sessions;", Cond.fieldLink RX1 32 "OnceDisc$Disc" "fileCount" "I", Cond.fieldLink RX1 36 "OnceDisc$Disc" "names" "[J", Cond.fieldLink RX1 40 "OnceDisc$Disc" "scan" "Z", Cond.classLink RX1 44 RX8, Cond.fieldLink RX1 47 "OnceDisc$Disc" "view" "LOnceDisc$View;", Cond.instanceMethod yX0_init, Cond.code yX0_init cX0_init 1 none, Cond.methodLink RX0 3 objectInit, Cond.fieldLink RX0 9 "OnceDisc$Blocks" "count" "I", Cond.fieldLink RX0 15 "OnceDisc$Blocks" "main" "I"]
def wsL_law0_r6 : List Cond := [Cond.fieldLink RX0 18 "OnceDisc$Blocks" "next" "I", Cond.fieldLink RX0 21 "OnceDisc$Blocks" "kinds" "[I", Cond.fieldLink RX0 25 "OnceDisc$Blocks" "bad" "[Z", Cond.fieldLink RX0 29 "OnceDisc$Blocks" "unreadable" "[Z", Cond.fieldLink RX0 32 "OnceDisc$Blocks" "writers" "[I", Cond.fieldLink RX0 35 "OnceDisc$Blocks" "versions" "[I", Cond.fieldLink RX0 38 "OnceDisc$Blocks" "numbers" "[I", Cond.fieldLink RX0 41 "OnceDisc$Blocks" "insteadOf" "[I", Cond.fieldLink RX0 44 "OnceDisc$Blocks" "places" "[I", Cond.instanceMethod yX7_init, Cond.code yX7_init cX7_init 1 none, Cond.methodLink RX7 3 objectInit, Cond.fieldLink RX7 9 "OnceDisc$Versions" "count" "I", Cond.fieldLink RX7 15 "OnceDisc$Versions" "files" "[I", Cond.fieldLink RX7 19 "OnceDisc$Versions" "firsts" "[I", Cond.fieldLink RX7 22 "OnceDisc$Versions" "lengths" "[I", Cond.fieldLink RX7 25 "OnceDisc$Versions" "tags" "[I", Cond.fieldLink RX7 28 "OnceDisc$Versions" "writers" "[I", Cond.instanceMethod yX5_init, Cond.code yX5_init cX5_init 1 none, Cond.methodLink RX5 3 objectInit, Cond.fieldLink RX5 9 "OnceDisc$Sessions" "count" "I", Cond.fieldLink RX5 15 "OnceDisc$Sessions" "states" "[I", Cond.fieldLink RX5 19 "OnceDisc$Sessions" "firsts" "[I"]
def wsL_law0_r7 : List Cond := [Cond.fieldLink RX5 22 "OnceDisc$Sessions" "directories" "[I", Cond.fieldLink RX5 25 "OnceDisc$Sessions" "directoryLengths" "[I", Cond.fieldLink RX5 28 "OnceDisc$Sessions" "entries" "[I", Cond.fieldLink RX5 31 "OnceDisc$Sessions" "entryFiles" "[I", Cond.fieldLink RX5 34 "OnceDisc$Sessions" "entryVersions" "[I", Cond.methodLink RX9 54 yX1_format, Cond.instanceMethod yX1_format, Cond.selects RX1 yX1_format yX1_format, Cond.code yX1_format cX1_format 3 none, Cond.fieldLink RX1 55 "OnceDisc$Versions" "count" "I", Cond.fieldLink RX1 58 "OnceDisc$Sessions" "count" "I", Cond.methodLink RX1 51 yX0_format, Cond.instanceMethod yX0_format, Cond.selects RX0 yX0_format yX0_format, Cond.code yX0_format cX0_format 3 none, Cond.static yX9_fill, Cond.code yX9_fill cX9_fill 3 none, Cond.static yX9_fill_, Cond.code yX9_fill_ cX9_fill_ 3 none, Cond.methodLink RL 89 yX10_init, Cond.instanceMethod yX10_init, Cond.code yX10_init cX10_init 1 none, Cond.methodLink RX10 1 objectInit, Cond.fieldLink RX10 7 "OnceDiscModel" "now" "[I"]
def wsL_law0_r8 : List Cond := [Cond.fieldLink RX10 13 "OnceDiscModel" "names" "[J", Cond.arrayClass .byte, Cond.fieldLink RX10 17 "OnceDiscModel" "text" "[B", Cond.fieldLink RX10 21 "OnceDiscModel" "errorAt" "I", Cond.fieldLink RX10 25 "OnceDiscModel" "waiting" "[I", Cond.fieldLink RX10 28 "OnceDiscModel" "readNames" "[J", Cond.fieldLink RX10 31 "OnceDiscModel" "reached" "[I", Cond.fieldLink RX10 34 "OnceDiscModel" "could" "[I", Cond.fieldLink RX10 37 "OnceDiscModel" "counts" "[Z", Cond.fieldLink RX10 41 "OnceDiscModel" "undo" "[I", Cond.fieldLink RX10 44 "OnceDiscModel" "slots" "[I", Cond.fieldLink RX10 47 "OnceDiscModel" "isSaved" "[Z", Cond.methodLink RL 90 yX9_append, Cond.instanceMethod yX9_append, Cond.selects RX9 yX9_append yX9_append, Cond.code yX9_append cX9_append 6 (some .int), Cond.fieldLink RX9 66 "OnceDisc$Input" "used" "I", Cond.methodLink RX9 58 yX3_hasRoom, Cond.instanceMethod yX3_hasRoom, Cond.selects RX3 yX3_hasRoom yX3_hasRoom, Cond.code yX3_hasRoom cX3_hasRoom 2 (some .boolean), Cond.methodLink RX9 62 yX3_addBytes, Cond.instanceMethod yX3_addBytes, Cond.selects RX3 yX3_addBytes yX3_addBytes]
def wsL_law0_r9 : List Cond := [Cond.code yX3_addBytes cX3_addBytes 2 none, Cond.methodLink RX3 19 yX3_addByte, Cond.instanceMethod yX3_addByte, Cond.selects RX3 yX3_addByte yX3_addByte, Cond.code yX3_addByte cX3_addByte 2 none, Cond.static yX9_put, Cond.code yX9_put cX9_put 3 none, Cond.methodLink RL 94 yX10_append, Cond.instanceMethod yX10_append, Cond.selects RX10 yX10_append yX10_append, Cond.code yX10_append cX10_append 6 (some .int), Cond.fieldLink RX10 50 "OnceDiscModel" "thrown" "I", Cond.fieldLink RX10 53 "OnceDiscModel" "length" "I", Cond.methodLink RX10 56 yX10_bytesOf, Cond.instanceMethod yX10_bytesOf, Cond.selects RX10 yX10_bytesOf yX10_bytesOf, Cond.code yX10_bytesOf cX10_bytesOf 3 none, Cond.methodLink RL 95 yL_parse, Cond.static yL_parse, Cond.initialized RL, Cond.codeWith yL_parse cL_parse 4 (some .int) [(0, 9, 12, 13)], Cond.classLink RL 13 "java/lang/IllegalArgumentException", Cond.methodLink RL 7 yX9_parse, Cond.instanceMethod yX9_parse]
def wsL_law0_r10 : List Cond := [Cond.selects RX9 yX9_parse yX9_parse, Cond.code yX9_parse cX9_parse 3 (some .int), Cond.fieldLink RX9 82 "OnceDisc$Text" "count" "I", Cond.fieldLink RX9 96 "OnceDisc$Text" "code" "I", Cond.methodLink RX9 70 yX9_checkRange, Cond.static yX9_checkRange, Cond.code yX9_checkRange cX9_checkRange 3 none, Cond.classLink RX9 330 "java/lang/IllegalArgumentException", Cond.initialized "java/lang/IllegalArgumentException", Cond.methodLink RX9 74 yX4_read, Cond.instanceMethod yX4_read, Cond.selects RX4 yX4_read yX4_read, Cond.code yX4_read cX4_read 4 none, Cond.fieldLink RX4 76 "OnceDisc$Tokens" "count" "I", Cond.methodLink RX4 68 yX11_read, Cond.instanceMethod yX11_read, Cond.selects RX11 yX11_read yX11_read, Cond.code yX11_read cX11_read 7 none, Cond.methodLink RX11 29 yX3_kindAt, Cond.instanceMethod yX3_kindAt, Cond.selects RX3 yX3_kindAt yX3_kindAt, Cond.code yX3_kindAt cX3_kindAt 3 (some .int), Cond.methodLink RX3 31 yX3_byteAt, Cond.instanceMethod yX3_byteAt]
def wsL_law0_r11 : List Cond := [Cond.selects RX3 yX3_byteAt yX3_byteAt, Cond.code yX3_byteAt cX3_byteAt 2 (some .int), Cond.static yX9_at, Cond.code yX9_at cX9_at 3 (some .int), Cond.static yX9_isLetter, Cond.code yX9_isLetter cX9_isLetter 1 (some .boolean), Cond.methodLink RX11 35 yX11_begin, Cond.instanceMethod yX11_begin, Cond.selects RX11 yX11_begin yX11_begin, Cond.code yX11_begin cX11_begin 3 none, Cond.static yX9_put_, Cond.code yX9_put_ cX9_put_ 4 none, Cond.methodLink RX11 39 yX3_byteAt, Cond.methodLink RX11 42 yX11_takeLetter, Cond.instanceMethod yX11_takeLetter, Cond.selects RX11 yX11_takeLetter yX11_takeLetter, Cond.code yX11_takeLetter cX11_takeLetter 4 none, Cond.methodLink RX11 64 yX11_valueOf, Cond.instanceMethod yX11_valueOf, Cond.selects RX11 yX11_valueOf yX11_valueOf, Cond.code yX11_valueOf cX11_valueOf 2 (some .long), Cond.constantLong RX11 52 (-1), Cond.static yX9_at_, Cond.code yX9_at_ cX9_at_ 4 (some .long)]
def wsL_law0_r12 : List Cond := [Cond.static yX9_withLetter, Cond.code yX9_withLetter cX9_withLetter 3 (some .long), Cond.constantLong RX9 337 (27), Cond.methodLink RX11 72 yX11_startOf, Cond.instanceMethod yX11_startOf, Cond.selects RX11 yX11_startOf yX11_startOf, Cond.code yX11_startOf cX11_startOf 2 (some .int), Cond.methodLink RX11 45 yX11_takeDigit, Cond.instanceMethod yX11_takeDigit, Cond.selects RX11 yX11_takeDigit yX11_takeDigit, Cond.code yX11_takeDigit cX11_takeDigit 4 none, Cond.constantLong RX11 75 (10), Cond.methodLink RX4 72 yX4_readHead, Cond.instanceMethod yX4_readHead, Cond.selects RX4 yX4_readHead yX4_readHead, Cond.code yX4_readHead cX4_readHead 1 (some .boolean), Cond.methodLink RX4 108 Lib.Math.min.name, Cond.static Lib.Math.min.name, Cond.initialized "java/lang/Math", Cond.code Lib.Math.min.name Lib.Math.min.code 2 (some .int), Cond.methodLink RX4 93 yX4_isWord, Cond.instanceMethod yX4_isWord, Cond.selects RX4 yX4_isWord yX4_isWord, Cond.code yX4_isWord cX4_isWord 2 (some .boolean)]
def wsL_law0_r13 : List Cond := [Cond.methodLink RX4 147 yX11_kindOf, Cond.instanceMethod yX11_kindOf, Cond.selects RX11 yX11_kindOf yX11_kindOf, Cond.code yX11_kindOf cX11_kindOf 2 (some .int), Cond.methodLink RX4 150 yX11_valueOf, Cond.static yX9_packed, Cond.code yX9_packed cX9_packed 4 (some .long), Cond.methodLink RX9 339 yJ0_length_8abf5, Cond.instanceMethod yJ0_length_8abf5, Cond.selects RJ0 yJ0_length_8abf5 yJ0_length_8abf5, Cond.initialized RJ0, Cond.code yJ0_length_8abf5 cJ0_length_8abf5 1 (some .int), Cond.fieldLink RJ0 9 "java/lang/String" "value" "[B", Cond.methodLink RJ0 335 yJ0_coder_7d493, Cond.instanceMethod yJ0_coder_7d493, Cond.selects RJ0 yJ0_coder_7d493 yJ0_coder_7d493, Cond.code yJ0_coder_7d493 cJ0_coder_7d493 1 (some .byte), Cond.fieldLink RJ0 38 "java/lang/String" "COMPACT_STRINGS" "Z", Cond.fieldLink RJ0 15 "java/lang/String" "coder" "B", Cond.methodLink RX9 344 yJ0_charAt_5068e, Cond.instanceMethod yJ0_charAt_5068e, Cond.selects RJ0 yJ0_charAt_5068e yJ0_charAt_5068e, Cond.code yJ0_charAt_5068e cJ0_charAt_5068e 2 (some .char), Cond.methodLink RJ0 492 yJ0_isLatin1_aae02]
def wsL_law0_r14 : List Cond := [Cond.instanceMethod yJ0_isLatin1_aae02, Cond.selects RJ0 yJ0_isLatin1_aae02 yJ0_isLatin1_aae02, Cond.code yJ0_isLatin1_aae02 cJ0_isLatin1_aae02 1 (some .boolean), Cond.methodLink RJ0 495 yJ1_charAt_3b067, Cond.static yJ1_charAt_3b067, Cond.initialized RJ1, Cond.code yJ1_charAt_3b067 cJ1_charAt_3b067 2 (some .char), Cond.methodLink RJ1 9 yJ0_checkIndex_df160, Cond.static yJ0_checkIndex_df160, Cond.code yJ0_checkIndex_df160 cJ0_checkIndex_df160 2 none, Cond.fieldLink RJ0 1053 "jdk/internal/util/Preconditions" "SIOOBE_FORMATTER" "Ljava/util/function/BiFunction;", Cond.methodLink RJ0 1059 yJ3_checkIndex_8e157, Cond.static yJ3_checkIndex_8e157, Cond.initialized RJ3, Cond.code yJ3_checkIndex_8e157 cJ3_checkIndex_8e157 3 (some .int), Cond.methodLink RJ0 498 yJ2_charAt_3b067, Cond.static yJ2_charAt_3b067, Cond.initialized RJ2, Cond.code yJ2_charAt_3b067 cJ2_charAt_3b067 2 (some .char), Cond.methodLink RJ2 67 yJ2_checkIndex_2214a, Cond.static yJ2_checkIndex_2214a, Cond.code yJ2_checkIndex_2214a cJ2_checkIndex_2214a 2 none, Cond.methodLink RJ2 48 yJ2_length_9d52b, Cond.static yJ2_length_9d52b]
def wsL_law0_r15 : List Cond := [Cond.code yJ2_length_9d52b cJ2_length_9d52b 1 (some .int), Cond.methodLink RJ2 414 yJ0_checkIndex_df160, Cond.methodLink RJ2 71 yJ2_getChar_3b067, Cond.static yJ2_getChar_3b067, Cond.code yJ2_getChar_3b067 cJ2_getChar_3b067 2 (some .char), Cond.fieldLink RJ2 44 "java/lang/StringUTF16" "$assertionsDisabled" "Z", Cond.fieldLink RJ2 59 "java/lang/StringUTF16" "HI_BYTE_SHIFT" "I", Cond.fieldLink RJ2 63 "java/lang/StringUTF16" "LO_BYTE_SHIFT" "I", Cond.methodLink RX9 348 yX9_withLetter, Cond.methodLink RX4 97 yX4_fail, Cond.instanceMethod yX4_fail, Cond.selects RX4 yX4_fail yX4_fail, Cond.code yX4_fail cX4_fail 2 (some .boolean), Cond.methodLink RX4 101 yX4_readNumber, Cond.instanceMethod yX4_readNumber, Cond.selects RX4 yX4_readNumber yX4_readNumber, Cond.code yX4_readNumber cX4_readNumber 4 (some .boolean), Cond.methodLink RX4 105 yX11_numberOf, Cond.instanceMethod yX11_numberOf, Cond.selects RX11 yX11_numberOf yX11_numberOf, Cond.code yX11_numberOf cX11_numberOf 2 (some .int), Cond.methodLink RX4 80 yX4_readSemicolon, Cond.instanceMethod yX4_readSemicolon, Cond.selects RX4 yX4_readSemicolon yX4_readSemicolon]
def wsL_law0_r16 : List Cond := [Cond.code yX4_readSemicolon cX4_readSemicolon 1 (some .boolean), Cond.methodLink RX4 77 yX4_readStatement, Cond.instanceMethod yX4_readStatement, Cond.selects RX4 yX4_readStatement yX4_readStatement, Cond.code yX4_readStatement cX4_readStatement 1 (some .boolean), Cond.methodLink RX4 115 yX4_readBad, Cond.instanceMethod yX4_readBad, Cond.selects RX4 yX4_readBad yX4_readBad, Cond.code yX4_readBad cX4_readBad 3 (some .boolean), Cond.methodLink RX4 83 yX11_startOf, Cond.static yX9_isSet, Cond.code yX9_isSet cX9_isSet 2 (some .boolean), Cond.static yX9_mark, Cond.code yX9_mark cX9_mark 3 none, Cond.methodLink RX4 135 yX4_add, Cond.instanceMethod yX4_add, Cond.selects RX4 yX4_add yX4_add, Cond.code yX4_add cX4_add 4 (some .boolean), Cond.methodLink RX4 120 yX4_readNewFile, Cond.instanceMethod yX4_readNewFile, Cond.selects RX4 yX4_readNewFile yX4_readNewFile, Cond.code yX4_readNewFile cX4_readNewFile 3 (some .boolean), Cond.static yX9_indexOf, Cond.code yX9_indexOf cX9_indexOf 5 (some .int)]
def wsL_law0_r17 : List Cond := [Cond.methodLink RX4 125 yX4_readWrite, Cond.instanceMethod yX4_readWrite, Cond.selects RX4 yX4_readWrite yX4_readWrite, Cond.code yX4_readWrite cX4_readWrite 4 (some .boolean), Cond.methodLink RX4 162 yX4_readFile, Cond.instanceMethod yX4_readFile, Cond.selects RX4 yX4_readFile yX4_readFile, Cond.code yX4_readFile cX4_readFile 2 (some .int), Cond.methodLink RX4 130 yX4_readErase, Cond.instanceMethod yX4_readErase, Cond.selects RX4 yX4_readErase yX4_readErase, Cond.code yX4_readErase cX4_readErase 3 (some .boolean), Cond.methodLink RX9 78 yX1_begin, Cond.instanceMethod yX1_begin, Cond.selects RX1 yX1_begin yX1_begin, Cond.code yX1_begin cX1_begin 2 none, Cond.fieldLink RX1 59 "OnceDisc$Text" "blocks" "I", Cond.fieldLink RX1 63 "OnceDisc$Text" "spare" "I", Cond.fieldLink RX1 67 "OnceDisc$Text" "fileCount" "I", Cond.fieldLink RX1 68 "OnceDisc$Text" "names" "[J", Cond.methodLink RX1 66 yX1_format, Cond.static yX9_copy__, Cond.code yX9_copy__ cX9_copy__ 3 none, Cond.methodLink RX9 85 yX1_reasonAgainstStatement]
def wsL_law0_r18 : List Cond := [Cond.instanceMethod yX1_reasonAgainstStatement, Cond.selects RX1 yX1_reasonAgainstStatement yX1_reasonAgainstStatement, Cond.code yX1_reasonAgainstStatement cX1_reasonAgainstStatement 3 (some .int), Cond.methodLink RX1 73 yX4_kindOf, Cond.instanceMethod yX4_kindOf, Cond.selects RX4 yX4_kindOf yX4_kindOf, Cond.code yX4_kindOf cX4_kindOf 2 (some .int), Cond.methodLink RX1 77 yX4_targetOf, Cond.instanceMethod yX4_targetOf, Cond.selects RX4 yX4_targetOf yX4_targetOf, Cond.code yX4_targetOf cX4_targetOf 2 (some .int), Cond.methodLink RX1 80 yX4_lengthOf, Cond.instanceMethod yX4_lengthOf, Cond.selects RX4 yX4_lengthOf yX4_lengthOf, Cond.code yX4_lengthOf cX4_lengthOf 2 (some .int), Cond.methodLink RX1 83 yX1_reasonAgainstWrite, Cond.instanceMethod yX1_reasonAgainstWrite, Cond.selects RX1 yX1_reasonAgainstWrite yX1_reasonAgainstWrite, Cond.code yX1_reasonAgainstWrite cX1_reasonAgainstWrite 3 (some .int), Cond.methodLink RX1 180 yX5_oneMoreIsTooMany, Cond.instanceMethod yX5_oneMoreIsTooMany, Cond.selects RX5 yX5_oneMoreIsTooMany yX5_oneMoreIsTooMany, Cond.code yX5_oneMoreIsTooMany cX5_oneMoreIsTooMany 1 (some .boolean), Cond.methodLink RX5 49 yX5_isOpen]
def wsL_law0_r19 : List Cond := [Cond.instanceMethod yX5_isOpen, Cond.selects RX5 yX5_isOpen yX5_isOpen, Cond.code yX5_isOpen cX5_isOpen 1 (some .boolean), Cond.methodLink RX5 41 yX5_latest, Cond.instanceMethod yX5_latest, Cond.selects RX5 yX5_latest yX5_latest, Cond.code yX5_latest cX5_latest 1 (some .int), Cond.methodLink RX5 45 yX5_stateOf, Cond.instanceMethod yX5_stateOf, Cond.selects RX5 yX5_stateOf yX5_stateOf, Cond.code yX5_stateOf cX5_stateOf 2 (some .int), Cond.methodLink RX1 184 yX5_entriesWith, Cond.instanceMethod yX5_entriesWith, Cond.selects RX5 yX5_entriesWith yX5_entriesWith, Cond.code yX5_entriesWith cX5_entriesWith 2 (some .int), Cond.methodLink RX5 57 yX5_entriesOf, Cond.instanceMethod yX5_entriesOf, Cond.selects RX5 yX5_entriesOf yX5_entriesOf, Cond.code yX5_entriesOf cX5_entriesOf 2 (some .int), Cond.methodLink RX5 68 yX5_hasEntry, Cond.instanceMethod yX5_hasEntry, Cond.selects RX5 yX5_hasEntry yX5_hasEntry, Cond.code yX5_hasEntry cX5_hasEntry 3 (some .boolean), Cond.static yX9_oneIf]
def wsL_law0_r20 : List Cond := [Cond.code yX9_oneIf cX9_oneIf 1 (some .int), Cond.static yX9_directoryLength, Cond.code yX9_directoryLength cX9_directoryLength 1 (some .int), Cond.methodLink RX1 190 yX0_hasRoomFor, Cond.instanceMethod yX0_hasRoomFor, Cond.selects RX0 yX0_hasRoomFor yX0_hasRoomFor, Cond.code yX0_hasRoomFor cX0_hasRoomFor 2 (some .boolean), Cond.methodLink RX1 193 yX0_canRelocate, Cond.instanceMethod yX0_canRelocate, Cond.selects RX0 yX0_canRelocate yX0_canRelocate, Cond.code yX0_canRelocate cX0_canRelocate 5 (some .boolean), Cond.methodLink RX0 73 yX0_isBad, Cond.instanceMethod yX0_isBad, Cond.selects RX0 yX0_isBad yX0_isBad, Cond.code yX0_isBad cX0_isBad 2 (some .boolean), Cond.methodLink RX0 69 yX0_kindOf, Cond.instanceMethod yX0_kindOf, Cond.selects RX0 yX0_kindOf yX0_kindOf, Cond.code yX0_kindOf cX0_kindOf 2 (some .int), Cond.methodLink RX1 87 yX1_reasonAgainstErase, Cond.instanceMethod yX1_reasonAgainstErase, Cond.selects RX1 yX1_reasonAgainstErase yX1_reasonAgainstErase, Cond.code yX1_reasonAgainstErase cX1_reasonAgainstErase 2 (some .int), Cond.methodLink RX1 155 yX8_lookAt]
def wsL_law0_r21 : List Cond := [Cond.instanceMethod yX8_lookAt, Cond.selects RX8 yX8_lookAt yX8_lookAt, Cond.code yX8_lookAt cX8_lookAt 5 (some (.object "OnceDisc$View")), Cond.fieldLink RX8 29 "OnceDisc$Disc" "fileCount" "I", Cond.fieldLink RX8 36 "OnceDisc$Disc" "sessions" "LOnceDisc$Sessions;", Cond.fieldLink RX8 39 "OnceDisc$Sessions" "count" "I", Cond.methodLink RX8 32 yX8_markReached, Cond.instanceMethod yX8_markReached, Cond.selects RX8 yX8_markReached yX8_markReached, Cond.code yX8_markReached cX8_markReached 7 none, Cond.fieldLink RX8 72 "OnceDisc$Disc" "blocks" "LOnceDisc$Blocks;", Cond.fieldLink RX8 88 "OnceDisc$Disc" "scan" "Z", Cond.methodLink RX8 64 yX5_latest, Cond.methodLink RX8 68 yX5_stateOf, Cond.methodLink RX8 76 yX5_directoryOf, Cond.instanceMethod yX5_directoryOf, Cond.selects RX5 yX5_directoryOf yX5_directoryOf, Cond.code yX5_directoryOf cX5_directoryOf 2 (some .int), Cond.methodLink RX8 79 yX5_directoryLengthOf, Cond.instanceMethod yX5_directoryLengthOf, Cond.selects RX5 yX5_directoryLengthOf yX5_directoryLengthOf, Cond.code yX5_directoryLengthOf cX5_directoryLengthOf 2 (some .int), Cond.methodLink RX8 82 yX0_canRead, Cond.instanceMethod yX0_canRead]
def wsL_law0_r22 : List Cond := [Cond.selects RX0 yX0_canRead yX0_canRead, Cond.code yX0_canRead cX0_canRead 4 (some .boolean), Cond.methodLink RX8 44 yX8_sessionThatCounts, Cond.instanceMethod yX8_sessionThatCounts, Cond.selects RX8 yX8_sessionThatCounts yX8_sessionThatCounts, Cond.code yX8_sessionThatCounts cX8_sessionThatCounts 5 (some .int), Cond.methodLink RX8 92 yX8_isReached, Cond.instanceMethod yX8_isReached, Cond.selects RX8 yX8_isReached yX8_isReached, Cond.code yX8_isReached cX8_isReached 2 (some .boolean), Cond.methodLink RX8 95 yX5_hasEntry, Cond.methodLink RX8 48 yX5_versionFor, Cond.instanceMethod yX5_versionFor, Cond.selects RX5 yX5_versionFor yX5_versionFor, Cond.code yX5_versionFor cX5_versionFor 4 (some .int), Cond.methodLink RX8 56 yX1_canReadVersion, Cond.instanceMethod yX1_canReadVersion, Cond.selects RX1 yX1_canReadVersion yX1_canReadVersion, Cond.code yX1_canReadVersion cX1_canReadVersion 2 (some .boolean), Cond.methodLink RX1 125 yX7_firstOf, Cond.instanceMethod yX7_firstOf, Cond.selects RX7 yX7_firstOf yX7_firstOf, Cond.code yX7_firstOf cX7_firstOf 2 (some .int), Cond.methodLink RX1 128 yX7_lengthOf]
def wsL_law0_r23 : List Cond := [Cond.instanceMethod yX7_lengthOf, Cond.selects RX7 yX7_lengthOf yX7_lengthOf, Cond.code yX7_lengthOf cX7_lengthOf 2 (some .int), Cond.methodLink RX1 129 yX0_canRead, Cond.methodLink RX1 177 yX8_versionOf, Cond.instanceMethod yX8_versionOf, Cond.selects RX8 yX8_versionOf yX8_versionOf, Cond.code yX8_versionOf cX8_versionOf 2 (some .int), Cond.methodLink RX1 90 yX1_reasonAgainstClose, Cond.instanceMethod yX1_reasonAgainstClose, Cond.selects RX1 yX1_reasonAgainstClose yX1_reasonAgainstClose, Cond.code yX1_reasonAgainstClose cX1_reasonAgainstClose 1 (some .int), Cond.methodLink RX1 196 yX5_isOpen, Cond.methodLink RX1 199 yX5_latest, Cond.methodLink RX1 202 yX5_entriesOf, Cond.methodLink RX1 205 yX1_reasonAgainstDirectory, Cond.instanceMethod yX1_reasonAgainstDirectory, Cond.selects RX1 yX1_reasonAgainstDirectory yX1_reasonAgainstDirectory, Cond.code yX1_reasonAgainstDirectory cX1_reasonAgainstDirectory 3 (some .int), Cond.methodLink RX9 89 yX4_refuseStatement, Cond.instanceMethod yX4_refuseStatement, Cond.selects RX4 yX4_refuseStatement yX4_refuseStatement, Cond.code yX4_refuseStatement cX4_refuseStatement 2 none, Cond.methodLink RX9 92 yX1_doStatement]
def wsL_law0_r24 : List Cond := [Cond.instanceMethod yX1_doStatement, Cond.selects RX1 yX1_doStatement yX1_doStatement, Cond.code yX1_doStatement cX1_doStatement 3 none, Cond.methodLink RX1 94 yX4_tagOf, Cond.instanceMethod yX4_tagOf, Cond.selects RX4 yX4_tagOf yX4_tagOf, Cond.code yX4_tagOf cX4_tagOf 2 (some .int), Cond.methodLink RX1 97 yX1_writeVersion, Cond.instanceMethod yX1_writeVersion, Cond.selects RX1 yX1_writeVersion yX1_writeVersion, Cond.code yX1_writeVersion cX1_writeVersion 7 (some .int), Cond.fieldLink RX1 214 "OnceDisc$Blocks" "next" "I", Cond.methodLink RX1 211 yX1_beginIfNeeded, Cond.instanceMethod yX1_beginIfNeeded, Cond.selects RX1 yX1_beginIfNeeded yX1_beginIfNeeded, Cond.code yX1_beginIfNeeded cX1_beginIfNeeded 1 none, Cond.methodLink RX1 228 yX5_begin, Cond.instanceMethod yX5_begin, Cond.selects RX5 yX5_begin yX5_begin, Cond.code yX5_begin cX5_begin 3 none, Cond.methodLink RX5 64 yX5_forgetEntries, Cond.instanceMethod yX5_forgetEntries, Cond.selects RX5 yX5_forgetEntries yX5_forgetEntries, Cond.code yX5_forgetEntries cX5_forgetEntries 3 none]
def wsL_law0_r25 : List Cond := [Cond.methodLink RX1 217 yX7_add, Cond.instanceMethod yX7_add, Cond.selects RX7 yX7_add yX7_add, Cond.code yX7_add cX7_add 7 (some .int), Cond.methodLink RX1 221 yX0_writeNext, Cond.instanceMethod yX0_writeNext, Cond.selects RX0 yX0_writeNext yX0_writeNext, Cond.code yX0_writeNext cX0_writeNext 7 none, Cond.methodLink RX0 98 yX0_takeSpare, Cond.instanceMethod yX0_takeSpare, Cond.selects RX0 yX0_takeSpare yX0_takeSpare, Cond.code yX0_takeSpare cX0_takeSpare 3 (some .int), Cond.methodLink RX1 225 yX5_enter, Cond.instanceMethod yX5_enter, Cond.selects RX5 yX5_enter yX5_enter, Cond.code yX5_enter cX5_enter 4 none, Cond.methodLink RX1 101 yX1_eraseFile, Cond.instanceMethod yX1_eraseFile, Cond.selects RX1 yX1_eraseFile yX1_eraseFile, Cond.code yX1_eraseFile cX1_eraseFile 2 none, Cond.methodLink RX1 105 yX1_closeSession, Cond.instanceMethod yX1_closeSession, Cond.selects RX1 yX1_closeSession yX1_closeSession, Cond.code yX1_closeSession cX1_closeSession 5 (some .int)]
def wsL_law0_r26 : List Cond := [Cond.methodLink RX1 231 yX5_markClosed, Cond.instanceMethod yX5_markClosed, Cond.selects RX5 yX5_markClosed yX5_markClosed, Cond.code yX5_markClosed cX5_markClosed 3 none, Cond.methodLink RX1 108 yX0_makeBad, Cond.instanceMethod yX0_makeBad, Cond.selects RX0 yX0_makeBad yX0_makeBad, Cond.code yX0_makeBad cX0_makeBad 2 none, Cond.methodLink RX9 99 yX2_clear, Cond.instanceMethod yX2_clear, Cond.selects RX2 yX2_clear yX2_clear, Cond.code yX2_clear cX2_clear 1 none, Cond.methodLink RX9 102 yX6_clear, Cond.instanceMethod yX6_clear, Cond.selects RX6 yX6_clear yX6_clear, Cond.code yX6_clear cX6_clear 1 none, Cond.methodLink RL 100 yX10_parse, Cond.instanceMethod yX10_parse, Cond.selects RX10 yX10_parse yX10_parse, Cond.code yX10_parse cX10_parse 4 (some .int), Cond.fieldLink RX10 60 "OnceDiscModel" "textSize" "I", Cond.fieldLink RX10 67 "OnceDiscModel" "next" "I", Cond.fieldLink RX10 99 "OnceDiscModel" "error" "I", Cond.fieldLink RX10 84 "OnceDiscModel" "token" "I"]
def wsL_law0_r27 : List Cond := [Cond.fieldLink RX10 202 "OnceDiscModel" "undos" "I", Cond.methodLink RX10 74 yX10_within, Cond.static yX10_within, Cond.code yX10_within cX10_within 3 (some .boolean), Cond.methodLink RX10 188 yX10_throwsIf, Cond.instanceMethod yX10_throwsIf, Cond.selects RX10 yX10_throwsIf yX10_throwsIf, Cond.code yX10_throwsIf cX10_throwsIf 3 (some .boolean), Cond.methodLink RX10 192 yX10_copies, Cond.static yX10_copies, Cond.code yX10_copies cX10_copies 5 none, Cond.methodLink RX10 110 yX10_advance, Cond.instanceMethod yX10_advance, Cond.selects RX10 yX10_advance yX10_advance, Cond.code yX10_advance cX10_advance 2 none, Cond.fieldLink RX10 78 "OnceDiscModel" "start" "I", Cond.fieldLink RX10 81 "OnceDiscModel" "value" "I", Cond.methodLink RX10 70 yX10_byteAt, Cond.instanceMethod yX10_byteAt, Cond.selects RX10 yX10_byteAt yX10_byteAt, Cond.code yX10_byteAt cX10_byteAt 2 (some .int), Cond.methodLink RX10 87 yX10_takesLetters, Cond.instanceMethod yX10_takesLetters, Cond.selects RX10 yX10_takesLetters yX10_takesLetters]
def wsL_law0_r28 : List Cond := [Cond.code yX10_takesLetters cX10_takesLetters 1 none, Cond.fieldLink RX10 63 "OnceDiscModel" "letters" "J", Cond.methodLink RX10 196 yX10_head, Cond.instanceMethod yX10_head, Cond.selects RX10 yX10_head yX10_head, Cond.code yX10_head cX10_head 2 (some .boolean), Cond.fieldLink RX10 113 "OnceDiscModel" "number" "I", Cond.methodLink RX10 156 yX10_isWord, Cond.instanceMethod yX10_isWord, Cond.selects RX10 yX10_isWord yX10_isWord, Cond.code yX10_isWord cX10_isWord 4 (some .boolean), Cond.methodLink RX10 90 yJ0_length_8abf5, Cond.methodLink RX10 95 yJ0_charAt_5068e, Cond.methodLink RX10 116 yX10_starts, Cond.instanceMethod yX10_starts, Cond.selects RX10 yX10_starts yX10_starts, Cond.code yX10_starts cX10_starts 3 (some .boolean), Cond.methodLink RX10 106 yX10_fails, Cond.instanceMethod yX10_fails, Cond.selects RX10 yX10_fails yX10_fails, Cond.code yX10_fails cX10_fails 2 (some .boolean), Cond.methodLink RX10 102 yX10_failsAt, Cond.instanceMethod yX10_failsAt, Cond.selects RX10 yX10_failsAt yX10_failsAt]
def wsL_law0_r29 : List Cond := [Cond.code yX10_failsAt cX10_failsAt 3 (some .boolean), Cond.methodLink RX10 120 yX10_takes, Cond.instanceMethod yX10_takes, Cond.selects RX10 yX10_takes yX10_takes, Cond.code yX10_takes cX10_takes 3 (some .boolean), Cond.methodLink RX10 185 yX10_closes, Cond.instanceMethod yX10_closes, Cond.selects RX10 yX10_closes yX10_closes, Cond.code yX10_closes cX10_closes 1 (some .boolean), Cond.methodLink RX10 199 yX10_statement, Cond.instanceMethod yX10_statement, Cond.selects RX10 yX10_statement yX10_statement, Cond.code yX10_statement cX10_statement 2 (some .boolean), Cond.methodLink RX10 160 yX10_badLine, Cond.instanceMethod yX10_badLine, Cond.selects RX10 yX10_badLine yX10_badLine, Cond.code yX10_badLine cX10_badLine 1 (some .boolean), Cond.methodLink RX10 165 yX10_fileLine, Cond.instanceMethod yX10_fileLine, Cond.selects RX10 yX10_fileLine yX10_fileLine, Cond.code yX10_fileLine cX10_fileLine 4 (some .boolean), Cond.methodLink RX10 123 yX10_named, Cond.static yX10_named, Cond.code yX10_named cX10_named 5 (some .int)]
def wsL_law0_r30 : List Cond := [Cond.methodLink RX10 170 yX10_writeLine, Cond.instanceMethod yX10_writeLine, Cond.selects RX10 yX10_writeLine yX10_writeLine, Cond.code yX10_writeLine cX10_writeLine 4 (some .boolean), Cond.fieldLink RX10 127 "OnceDiscModel" "fileRead" "I", Cond.methodLink RX10 130 yX10_takesFile, Cond.instanceMethod yX10_takesFile, Cond.selects RX10 yX10_takesFile yX10_takesFile, Cond.code yX10_takesFile cX10_takesFile 1 (some .boolean), Cond.methodLink RX10 134 yX10_whyWrite, Cond.instanceMethod yX10_whyWrite, Cond.selects RX10 yX10_whyWrite yX10_whyWrite, Cond.code yX10_whyWrite cX10_whyWrite 3 (some .int), Cond.methodLink RX10 255 yX10_isOpen, Cond.instanceMethod yX10_isOpen, Cond.selects RX10 yX10_isOpen yX10_isOpen, Cond.code yX10_isOpen cX10_isOpen 1 (some .boolean), Cond.methodLink RX10 215 yX10_latest, Cond.instanceMethod yX10_latest, Cond.selects RX10 yX10_latest yX10_latest, Cond.code yX10_latest cX10_latest 1 (some .int), Cond.methodLink RX10 218 yX10_of, Cond.instanceMethod yX10_of, Cond.selects RX10 yX10_of yX10_of]
def wsL_law0_r31 : List Cond := [Cond.code yX10_of cX10_of 3 (some .int), Cond.methodLink RX10 258 yX10_entriesWith, Cond.instanceMethod yX10_entriesWith, Cond.selects RX10 yX10_entriesWith yX10_entriesWith, Cond.code yX10_entriesWith cX10_entriesWith 2 (some .int), Cond.methodLink RX10 239 yX10_entryOf, Cond.instanceMethod yX10_entryOf, Cond.selects RX10 yX10_entryOf yX10_entryOf, Cond.code yX10_entryOf cX10_entryOf 4 (some .int), Cond.methodLink RX10 221 yX10_directoryLong, Cond.static yX10_directoryLong, Cond.code yX10_directoryLong cX10_directoryLong 1 (some .int), Cond.methodLink RX10 261 yX10_hasRoom, Cond.instanceMethod yX10_hasRoom, Cond.selects RX10 yX10_hasRoom yX10_hasRoom, Cond.code yX10_hasRoom cX10_hasRoom 2 (some .boolean), Cond.methodLink RX10 205 yX10_mainMany, Cond.instanceMethod yX10_mainMany, Cond.selects RX10 yX10_mainMany yX10_mainMany, Cond.code yX10_mainMany cX10_mainMany 1 (some .int), Cond.methodLink RX10 264 yX10_hasSpare, Cond.instanceMethod yX10_hasSpare, Cond.selects RX10 yX10_hasSpare yX10_hasSpare, Cond.code yX10_hasSpare cX10_hasSpare 4 (some .boolean)]
def wsL_law0_r32 : List Cond := [Cond.methodLink RX10 138 yX10_writes, Cond.instanceMethod yX10_writes, Cond.selects RX10 yX10_writes yX10_writes, Cond.code yX10_writes cX10_writes 7 (some .int), Cond.methodLink RX10 277 yX10_enters, Cond.instanceMethod yX10_enters, Cond.selects RX10 yX10_enters yX10_enters, Cond.code yX10_enters cX10_enters 5 none, Cond.methodLink RX10 274 yX10_begins, Cond.instanceMethod yX10_begins, Cond.selects RX10 yX10_begins yX10_begins, Cond.code yX10_begins cX10_begins 3 (some .int), Cond.methodLink RX10 270 yX10_sets, Cond.instanceMethod yX10_sets, Cond.selects RX10 yX10_sets yX10_sets, Cond.code yX10_sets cX10_sets 4 none, Cond.methodLink RX10 280 yX10_writesBlock, Cond.instanceMethod yX10_writesBlock, Cond.selects RX10 yX10_writesBlock yX10_writesBlock, Cond.code yX10_writesBlock cX10_writesBlock 7 none, Cond.methodLink RX10 211 yX10_lays, Cond.instanceMethod yX10_lays, Cond.selects RX10 yX10_lays yX10_lays, Cond.code yX10_lays cX10_lays 6 none]
def wsL_law0_r33 : List Cond := [Cond.methodLink RX10 175 yX10_eraseLine, Cond.instanceMethod yX10_eraseLine, Cond.selects RX10 yX10_eraseLine yX10_eraseLine, Cond.code yX10_eraseLine cX10_eraseLine 2 (some .boolean), Cond.methodLink RX10 142 yX10_whyErase, Cond.instanceMethod yX10_whyErase, Cond.selects RX10 yX10_whyErase yX10_whyErase, Cond.code yX10_whyErase cX10_whyErase 2 (some .int), Cond.fieldLink RX10 236 "OnceDiscModel" "foundVersion" "I", Cond.methodLink RX10 267 yX10_finds, Cond.instanceMethod yX10_finds, Cond.selects RX10 yX10_finds yX10_finds, Cond.code yX10_finds cX10_finds 2 none, Cond.methodLink RX10 242 yX10_searches, Cond.instanceMethod yX10_searches, Cond.selects RX10 yX10_searches yX10_searches, Cond.code yX10_searches cX10_searches 4 none, Cond.fieldLink RX10 227 "OnceDiscModel" "reachedMany" "I", Cond.methodLink RX10 230 yX10_canReadDirectory, Cond.instanceMethod yX10_canReadDirectory, Cond.selects RX10 yX10_canReadDirectory yX10_canReadDirectory, Cond.code yX10_canReadDirectory cX10_canReadDirectory 2 (some .boolean), Cond.methodLink RX10 224 yX10_canRead, Cond.instanceMethod yX10_canRead]
def wsL_law0_r34 : List Cond := [Cond.selects RX10 yX10_canRead yX10_canRead, Cond.code yX10_canRead cX10_canRead 5 (some .boolean), Cond.methodLink RX10 208 yX10_placeOf, Cond.instanceMethod yX10_placeOf, Cond.selects RX10 yX10_placeOf yX10_placeOf, Cond.code yX10_placeOf cX10_placeOf 2 (some .int), Cond.methodLink RX10 245 yX10_seeks, Cond.instanceMethod yX10_seeks, Cond.selects RX10 yX10_seeks yX10_seeks, Cond.code yX10_seeks cX10_seeks 6 none, Cond.fieldLink RX10 233 "OnceDiscModel" "foundSession" "I", Cond.methodLink RX10 145 yX10_erases, Cond.instanceMethod yX10_erases, Cond.selects RX10 yX10_erases yX10_erases, Cond.code yX10_erases cX10_erases 2 none, Cond.methodLink RX10 180 yX10_closeLine, Cond.instanceMethod yX10_closeLine, Cond.selects RX10 yX10_closeLine yX10_closeLine, Cond.code yX10_closeLine cX10_closeLine 2 (some .boolean), Cond.methodLink RX10 148 yX10_whyClose, Cond.instanceMethod yX10_whyClose, Cond.selects RX10 yX10_whyClose yX10_whyClose, Cond.code yX10_whyClose cX10_whyClose 2 (some .int), Cond.methodLink RX10 151 yX10_closesOpen]
def wsL_law0_r35 : List Cond := [Cond.instanceMethod yX10_closesOpen, Cond.selects RX10 yX10_closesOpen yX10_closesOpen, Cond.code yX10_closesOpen cX10_closesOpen 4 none, Cond.methodLink RX10 284 yX10_closedBefore, Cond.instanceMethod yX10_closedBefore, Cond.selects RX10 yX10_closedBefore yX10_closedBefore, Cond.code yX10_closedBefore cX10_closedBefore 3 (some .int), Cond.methodLink RL 101 yX10_thrown, Cond.instanceMethod yX10_thrown, Cond.selects RX10 yX10_thrown yX10_thrown, Cond.code yX10_thrown cX10_thrown 1 (some .int), Cond.methodLink RL 104 yX9_errorPosition, Cond.instanceMethod yX9_errorPosition, Cond.selects RX9 yX9_errorPosition yX9_errorPosition, Cond.code yX9_errorPosition cX9_errorPosition 1 (some .int), Cond.fieldLink RX9 103 "OnceDisc$Text" "position" "I", Cond.methodLink RL 107 yX10_errorPosition, Cond.instanceMethod yX10_errorPosition, Cond.selects RX10 yX10_errorPosition yX10_errorPosition, Cond.code yX10_errorPosition cX10_errorPosition 1 (some .int), Cond.methodLink RL 108 yL_size, Cond.static yL_size, Cond.codeWith yL_size cL_size 4 (some .int) [(0, 9, 12, 13)], Cond.methodLink RL 15 yX9_size]
def wsL_law0_r36 : List Cond := [Cond.instanceMethod yX9_size, Cond.selects RX9 yX9_size yX9_size, Cond.code yX9_size cX9_size 2 (some .int), Cond.fieldLink RX9 106 "OnceDisc$Disc" "blocks" "LOnceDisc$Blocks;", Cond.fieldLink RX9 110 "OnceDisc$Blocks" "count" "I", Cond.fieldLink RX9 113 "OnceDisc$Blocks" "main" "I", Cond.fieldLink RX9 116 "OnceDisc$Disc" "fileCount" "I", Cond.fieldLink RX9 119 "OnceDisc$Disc" "sessions" "LOnceDisc$Sessions;", Cond.fieldLink RX9 123 "OnceDisc$Sessions" "count" "I", Cond.fieldLink RX9 126 "OnceDisc$Blocks" "next" "I", Cond.fieldLink RX9 136 "OnceDisc$Disc" "view" "LOnceDisc$View;", Cond.fieldLink RX9 157 "OnceDisc$Disc" "scan" "Z", Cond.fieldLink RX9 161 "OnceDisc$History" "count" "I", Cond.fieldLink RX9 162 "OnceDisc$Disc" "versions" "LOnceDisc$Versions;", Cond.fieldLink RX9 166 "OnceDisc$Versions" "count" "I", Cond.methodLink RX9 129 yX0_emptySpares, Cond.instanceMethod yX0_emptySpares, Cond.selects RX0 yX0_emptySpares yX0_emptySpares, Cond.code yX0_emptySpares cX0_emptySpares 3 (some .int), Cond.methodLink RX9 133 yX0_badOnes, Cond.instanceMethod yX0_badOnes, Cond.selects RX0 yX0_badOnes yX0_badOnes, Cond.code yX0_badOnes cX0_badOnes 3 (some .int), Cond.methodLink RX9 139 yX8_lookAt]
def wsL_law0_r37 : List Cond := [Cond.methodLink RX9 143 yX8_filesThere, Cond.instanceMethod yX8_filesThere, Cond.selects RX8 yX8_filesThere yX8_filesThere, Cond.code yX8_filesThere cX8_filesThere 3 (some .int), Cond.methodLink RX8 106 yX8_versionOf, Cond.methodLink RX9 146 yX8_filesReadable, Cond.instanceMethod yX8_filesReadable, Cond.selects RX8 yX8_filesReadable yX8_filesReadable, Cond.code yX8_filesReadable cX8_filesReadable 3 (some .int), Cond.methodLink RX8 113 yX8_isReadable, Cond.instanceMethod yX8_isReadable, Cond.selects RX8 yX8_isReadable yX8_isReadable, Cond.code yX8_isReadable cX8_isReadable 2 (some .boolean), Cond.methodLink RX9 149 yX5_isOpen, Cond.methodLink RX9 153 yX9_oneIf, Cond.methodLink RL 110 yX10_size, Cond.instanceMethod yX10_size, Cond.selects RX10 yX10_size yX10_size, Cond.code yX10_size cX10_size 2 (some .int), Cond.methodLink RX10 296 yX10_emptySpares, Cond.instanceMethod yX10_emptySpares, Cond.selects RX10 yX10_emptySpares yX10_emptySpares, Cond.code yX10_emptySpares cX10_emptySpares 3 (some .int), Cond.methodLink RX10 299 yX10_badMany]
def wsL_law0_r38 : List Cond := [Cond.instanceMethod yX10_badMany, Cond.selects RX10 yX10_badMany yX10_badMany, Cond.code yX10_badMany cX10_badMany 3 (some .int), Cond.methodLink RX10 302 yX10_filesThere, Cond.instanceMethod yX10_filesThere, Cond.selects RX10 yX10_filesThere yX10_filesThere, Cond.code yX10_filesThere cX10_filesThere 4 (some .int), Cond.methodLink RX10 305 yX10_goodFiles, Cond.instanceMethod yX10_goodFiles, Cond.selects RX10 yX10_goodFiles yX10_goodFiles, Cond.code yX10_goodFiles cX10_goodFiles 3 (some .int), Cond.methodLink RX10 252 yX10_isReadable, Cond.instanceMethod yX10_isReadable, Cond.selects RX10 yX10_isReadable yX10_isReadable, Cond.code yX10_isReadable cX10_isReadable 2 (some .boolean), Cond.methodLink RX10 249 yX10_ofVersion, Cond.instanceMethod yX10_ofVersion, Cond.selects RX10 yX10_ofVersion yX10_ofVersion, Cond.code yX10_ofVersion cX10_ofVersion 3 (some .int), Cond.methodLink RX10 308 yX10_ones, Cond.static yX10_ones, Cond.code yX10_ones cX10_ones 3 (some .int), Cond.methodLink RL 111 yX9_find, Cond.instanceMethod yX9_find]
def wsL_law0_r39 : List Cond := [Cond.selects RX9 yX9_find yX9_find, Cond.code yX9_find cX9_find 3 (some .int), Cond.constantLong RX9 173 (-1), Cond.methodLink RX9 169 yX3_nameAlone, Cond.instanceMethod yX3_nameAlone, Cond.selects RX3 yX3_nameAlone yX3_nameAlone, Cond.code yX3_nameAlone cX3_nameAlone 6 (some .long), Cond.constantLong RX3 43 (-1), Cond.methodLink RX9 175 yX1_fileNamed, Cond.instanceMethod yX1_fileNamed, Cond.selects RX1 yX1_fileNamed yX1_fileNamed, Cond.code yX1_fileNamed cX1_fileNamed 3 (some .int), Cond.methodLink RL 114 yX10_find, Cond.instanceMethod yX10_find, Cond.selects RX10 yX10_find yX10_find, Cond.code yX10_find cX10_find 2 (some .int), Cond.methodLink RL 115 yL_block, Cond.static yL_block, Cond.codeWith yL_block cL_block 5 (some .int) [(0, 10, 13, 22), (0, 10, 17, 13)], Cond.classLink RL 22 "java/lang/IndexOutOfBoundsException", Cond.methodLink RL 18 yX9_block, Cond.instanceMethod yX9_block, Cond.selects RX9 yX9_block yX9_block, Cond.code yX9_block cX9_block 3 (some .int)]
def wsL_law0_r40 : List Cond := [Cond.methodLink RX9 179 yX9_checkIndex, Cond.static yX9_checkIndex, Cond.code yX9_checkIndex cX9_checkIndex 2 none, Cond.classLink RX9 325 "java/lang/IndexOutOfBoundsException", Cond.initialized "java/lang/IndexOutOfBoundsException", Cond.methodLink RX9 182 yX0_property, Cond.instanceMethod yX0_property, Cond.selects RX0 yX0_property yX0_property, Cond.code yX0_property cX0_property 3 (some .int), Cond.methodLink RX0 81 yX0_isUnreadable, Cond.instanceMethod yX0_isUnreadable, Cond.selects RX0 yX0_isUnreadable yX0_isUnreadable, Cond.code yX0_isUnreadable cX0_isUnreadable 2 (some .boolean), Cond.methodLink RX0 84 yX0_writerOf, Cond.instanceMethod yX0_writerOf, Cond.selects RX0 yX0_writerOf yX0_writerOf, Cond.code yX0_writerOf cX0_writerOf 2 (some .int), Cond.methodLink RX0 87 yX0_dataVersionOf, Cond.instanceMethod yX0_dataVersionOf, Cond.selects RX0 yX0_dataVersionOf yX0_dataVersionOf, Cond.code yX0_dataVersionOf cX0_dataVersionOf 2 (some .int), Cond.methodLink RL 118 yX10_block, Cond.instanceMethod yX10_block, Cond.selects RX10 yX10_block yX10_block]
def wsL_law0_r41 : List Cond := [Cond.code yX10_block cX10_block 3 (some .int), Cond.methodLink RX10 314 yX10_noBlock, Cond.instanceMethod yX10_noBlock, Cond.selects RX10 yX10_noBlock yX10_noBlock, Cond.code yX10_noBlock cX10_noBlock 2 (some .boolean), Cond.methodLink RX10 311 yX10_no, Cond.instanceMethod yX10_no, Cond.selects RX10 yX10_no yX10_no, Cond.code yX10_no cX10_no 3 (some .boolean), Cond.methodLink RL 119 yL_place, Cond.static yL_place, Cond.codeWith yL_place cL_place 4 (some .int) [(0, 9, 12, 22)], Cond.methodLink RL 24 yX9_place, Cond.instanceMethod yX9_place, Cond.selects RX9 yX9_place yX9_place, Cond.code yX9_place cX9_place 2 (some .int), Cond.methodLink RX9 186 yX0_placeOf, Cond.instanceMethod yX0_placeOf, Cond.selects RX0 yX0_placeOf yX0_placeOf, Cond.code yX0_placeOf cX0_placeOf 2 (some .int), Cond.methodLink RL 121 yX10_place, Cond.instanceMethod yX10_place, Cond.selects RX10 yX10_place yX10_place, Cond.code yX10_place cX10_place 2 (some .int)]
def wsL_law0_r42 : List Cond := [Cond.methodLink RX10 317 yX10_isMain, Cond.instanceMethod yX10_isMain, Cond.selects RX10 yX10_isMain yX10_isMain, Cond.code yX10_isMain cX10_isMain 2 (some .boolean), Cond.methodLink RL 122 yL_session, Cond.static yL_session, Cond.codeWith yL_session cL_session 5 (some .int) [(0, 10, 13, 22), (0, 10, 17, 13)], Cond.methodLink RL 27 yX9_session, Cond.instanceMethod yX9_session, Cond.selects RX9 yX9_session yX9_session, Cond.code yX9_session cX9_session 4 (some .int), Cond.methodLink RX9 190 yX5_stateOf, Cond.methodLink RX9 193 yX5_firstOf, Cond.instanceMethod yX5_firstOf, Cond.selects RX5 yX5_firstOf yX5_firstOf, Cond.code yX5_firstOf cX5_firstOf 2 (some .int), Cond.methodLink RX9 196 yX0_mainBlocksOf, Cond.instanceMethod yX0_mainBlocksOf, Cond.selects RX0 yX0_mainBlocksOf yX0_mainBlocksOf, Cond.code yX0_mainBlocksOf cX0_mainBlocksOf 2 (some .int), Cond.methodLink RX0 90 yX0_blocksOf, Cond.instanceMethod yX0_blocksOf, Cond.selects RX0 yX0_blocksOf yX0_blocksOf, Cond.code yX0_blocksOf cX0_blocksOf 6 (some .int)]
def wsL_law0_r43 : List Cond := [Cond.methodLink RX9 199 yX5_entriesOf, Cond.methodLink RX9 202 yX5_directoryOf, Cond.methodLink RX9 205 yX5_directoryLengthOf, Cond.methodLink RX9 208 yX0_canRead, Cond.methodLink RX9 212 yX5_linkOf, Cond.instanceMethod yX5_linkOf, Cond.selects RX5 yX5_linkOf yX5_linkOf, Cond.code yX5_linkOf cX5_linkOf 3 (some .int), Cond.methodLink RX5 76 yX5_directoryOf, Cond.methodLink RX9 215 yX8_isReached, Cond.methodLink RX9 218 yX0_spareBlocksOf, Cond.instanceMethod yX0_spareBlocksOf, Cond.selects RX0 yX0_spareBlocksOf yX0_spareBlocksOf, Cond.code yX0_spareBlocksOf cX0_spareBlocksOf 2 (some .int), Cond.methodLink RL 124 yX10_session, Cond.instanceMethod yX10_session, Cond.selects RX10 yX10_session yX10_session, Cond.code yX10_session cX10_session 3 (some .int), Cond.methodLink RX10 320 yX10_noSession, Cond.instanceMethod yX10_noSession, Cond.selects RX10 yX10_noSession yX10_noSession, Cond.code yX10_noSession cX10_noSession 2 (some .boolean), Cond.methodLink RX10 323 yX10_writtenBy, Cond.instanceMethod yX10_writtenBy]
def wsL_law0_r44 : List Cond := [Cond.selects RX10 yX10_writtenBy yX10_writtenBy, Cond.code yX10_writtenBy cX10_writtenBy 5 (some .int), Cond.methodLink RX10 327 yX10_isReached, Cond.instanceMethod yX10_isReached, Cond.selects RX10 yX10_isReached yX10_isReached, Cond.code yX10_isReached cX10_isReached 4 (some .boolean), Cond.methodLink RL 125 yL_entry, Cond.static yL_entry, Cond.codeWith yL_entry cL_entry 6 (some .int) [(0, 12, 15, 22), (0, 12, 19, 13)], Cond.methodLink RL 30 yX9_entry, Cond.instanceMethod yX9_entry, Cond.selects RX9 yX9_entry yX9_entry, Cond.code yX9_entry cX9_entry 6 (some .int), Cond.methodLink RX9 221 yX5_fileAt, Cond.instanceMethod yX5_fileAt, Cond.selects RX5 yX5_fileAt yX5_fileAt, Cond.code yX5_fileAt cX5_fileAt 3 (some .int), Cond.methodLink RX9 224 yX5_versionFor, Cond.methodLink RX9 227 yX7_firstOf, Cond.methodLink RX9 228 yX7_lengthOf, Cond.methodLink RX9 231 yX7_tagOf, Cond.instanceMethod yX7_tagOf, Cond.selects RX7 yX7_tagOf yX7_tagOf, Cond.code yX7_tagOf cX7_tagOf 2 (some .int)]
def wsL_law0_r45 : List Cond := [Cond.methodLink RL 128 yX10_entry, Cond.instanceMethod yX10_entry, Cond.selects RX10 yX10_entry yX10_entry, Cond.code yX10_entry cX10_entry 5 (some .int), Cond.methodLink RL 129 yL_file, Cond.static yL_file, Cond.codeWith yL_file cL_file 5 (some .int) [(0, 10, 13, 22), (0, 10, 17, 13)], Cond.methodLink RL 34 yX9_file, Cond.instanceMethod yX9_file, Cond.selects RX9 yX9_file yX9_file, Cond.code yX9_file cX9_file 5 (some .int), Cond.methodLink RX9 234 yX8_versionOf, Cond.methodLink RX9 237 yX8_isReadable, Cond.methodLink RX9 240 yX8_sessionOf, Cond.instanceMethod yX8_sessionOf, Cond.selects RX8 yX8_sessionOf yX8_sessionOf, Cond.code yX8_sessionOf cX8_sessionOf 2 (some .int), Cond.methodLink RX9 243 yX7_countOf, Cond.instanceMethod yX7_countOf, Cond.selects RX7 yX7_countOf yX7_countOf, Cond.code yX7_countOf cX7_countOf 4 (some .int), Cond.methodLink RX7 43 yX7_fileOf, Cond.instanceMethod yX7_fileOf, Cond.selects RX7 yX7_fileOf yX7_fileOf]
def wsL_law0_r46 : List Cond := [Cond.code yX7_fileOf cX7_fileOf 2 (some .int), Cond.methodLink RL 131 yX10_file, Cond.instanceMethod yX10_file, Cond.selects RX10 yX10_file yX10_file, Cond.code yX10_file cX10_file 4 (some .int), Cond.methodLink RX10 330 yX10_noFile, Cond.instanceMethod yX10_noFile, Cond.selects RX10 yX10_noFile yX10_noFile, Cond.code yX10_noFile cX10_noFile 2 (some .boolean), Cond.methodLink RX10 333 yX10_versionsOf, Cond.instanceMethod yX10_versionsOf, Cond.selects RX10 yX10_versionsOf yX10_versionsOf, Cond.code yX10_versionsOf cX10_versionsOf 4 (some .int), Cond.methodLink RL 132 yL_where, Cond.static yL_where, Cond.codeWith yL_where cL_where 5 (some .int) [(0, 10, 13, 22)], Cond.methodLink RL 37 yX9_where, Cond.instanceMethod yX9_where, Cond.selects RX9 yX9_where yX9_where, Cond.code yX9_where cX9_where 4 (some .int), Cond.methodLink RL 134 yX10_where, Cond.instanceMethod yX10_where, Cond.selects RX10 yX10_where yX10_where, Cond.code yX10_where cX10_where 4 (some .int)]
def wsL_law0_r47 : List Cond := [Cond.methodLink RL 135 yX9_defect, Cond.instanceMethod yX9_defect, Cond.selects RX9 yX9_defect yX9_defect, Cond.code yX9_defect cX9_defect 4 (some .int), Cond.methodLink RX9 246 yX1_relocatedBlock, Cond.instanceMethod yX1_relocatedBlock, Cond.selects RX1 yX1_relocatedBlock yX1_relocatedBlock, Cond.code yX1_relocatedBlock cX1_relocatedBlock 4 (some .int), Cond.fieldLink RX1 133 "OnceDisc$Blocks" "main" "I", Cond.methodLink RX1 136 yX0_kindOf, Cond.methodLink RX1 137 yX0_writerOf, Cond.methodLink RX1 140 yX5_stateOf, Cond.methodLink RL 139 yX10_defect, Cond.instanceMethod yX10_defect, Cond.selects RX10 yX10_defect yX10_defect, Cond.code yX10_defect cX10_defect 5 (some .int), Cond.methodLink RL 140 yL_whyNotWrite, Cond.static yL_whyNotWrite, Cond.codeWith yL_whyNotWrite cL_whyNotWrite 5 (some .int) [(0, 10, 13, 22), (0, 10, 17, 13)], Cond.methodLink RL 40 yX9_whyNotWrite, Cond.instanceMethod yX9_whyNotWrite, Cond.selects RX9 yX9_whyNotWrite yX9_whyNotWrite, Cond.code yX9_whyNotWrite cX9_whyNotWrite 3 (some .int), Cond.methodLink RX9 249 yX1_reasonAgainstWrite]
def wsL_law0_r48 : List Cond := [Cond.methodLink RL 142 yX10_whyNotWrite, Cond.instanceMethod yX10_whyNotWrite, Cond.selects RX10 yX10_whyNotWrite yX10_whyNotWrite, Cond.code yX10_whyNotWrite cX10_whyNotWrite 3 (some .int), Cond.methodLink RL 143 yL_whyNot, Cond.static yL_whyNot, Cond.codeWith yL_whyNot cL_whyNot 4 (some .int) [(0, 9, 12, 13)], Cond.methodLink RL 43 yX9_whyNot, Cond.instanceMethod yX9_whyNot, Cond.selects RX9 yX9_whyNot yX9_whyNot, Cond.code yX9_whyNot cX9_whyNot 2 (some .int), Cond.methodLink RX9 252 yX1_reasonAgainstClose, Cond.methodLink RX9 255 yX1_reasonAgainstCrash, Cond.instanceMethod yX1_reasonAgainstCrash, Cond.selects RX1 yX1_reasonAgainstCrash yX1_reasonAgainstCrash, Cond.code yX1_reasonAgainstCrash cX1_reasonAgainstCrash 1 (some .int), Cond.methodLink RX9 258 yX1_reasonAgainstRecover, Cond.instanceMethod yX1_reasonAgainstRecover, Cond.selects RX1 yX1_reasonAgainstRecover yX1_reasonAgainstRecover, Cond.code yX1_reasonAgainstRecover cX1_reasonAgainstRecover 2 (some .int), Cond.methodLink RX1 208 yX1_recoverableVersions, Cond.instanceMethod yX1_recoverableVersions, Cond.selects RX1 yX1_recoverableVersions yX1_recoverableVersions, Cond.code yX1_recoverableVersions cX1_recoverableVersions 3 (some .int)]
def wsL_law0_r49 : List Cond := [Cond.methodLink RX1 246 yX5_latestIsLost, Cond.instanceMethod yX5_latestIsLost, Cond.selects RX5 yX5_latestIsLost yX5_latestIsLost, Cond.code yX5_latestIsLost cX5_latestIsLost 1 (some .boolean), Cond.methodLink RX1 243 yX1_recoverableVersionOf, Cond.instanceMethod yX1_recoverableVersionOf, Cond.selects RX1 yX1_recoverableVersionOf yX1_recoverableVersionOf, Cond.code yX1_recoverableVersionOf cX1_recoverableVersionOf 5 (some .int), Cond.methodLink RX1 174 yX7_fileOf, Cond.methodLink RX1 249 yX7_writerOf, Cond.instanceMethod yX7_writerOf, Cond.selects RX7 yX7_writerOf yX7_writerOf, Cond.code yX7_writerOf cX7_writerOf 2 (some .int), Cond.methodLink RX1 250 yX1_canReadVersion, Cond.methodLink RL 145 yX10_whyNot, Cond.instanceMethod yX10_whyNot, Cond.selects RX10 yX10_whyNot yX10_whyNot, Cond.code yX10_whyNot cX10_whyNot 2 (some .int), Cond.methodLink RX10 336 yX10_whyRecover, Cond.instanceMethod yX10_whyRecover, Cond.selects RX10 yX10_whyRecover yX10_whyRecover, Cond.code yX10_whyRecover cX10_whyRecover 2 (some .int), Cond.fieldLink RX10 287 "OnceDiscModel" "couldMany" "I", Cond.methodLink RX10 293 yX10_findsLost]
def wsL_law0_r50 : List Cond := [Cond.instanceMethod yX10_findsLost, Cond.selects RX10 yX10_findsLost yX10_findsLost, Cond.code yX10_findsLost cX10_findsLost 2 none, Cond.methodLink RX10 290 yX10_isOutdone, Cond.instanceMethod yX10_isOutdone, Cond.selects RX10 yX10_isOutdone yX10_isOutdone, Cond.code yX10_isOutdone cX10_isOutdone 4 (some .boolean), Cond.methodLink RL 146 yX9_couldRecover, Cond.instanceMethod yX9_couldRecover, Cond.selects RX9 yX9_couldRecover yX9_couldRecover, Cond.code yX9_couldRecover cX9_couldRecover 1 (some .int), Cond.methodLink RX9 261 yX1_recoverableVersions, Cond.methodLink RL 149 yX10_couldRecover, Cond.instanceMethod yX10_couldRecover, Cond.selects RX10 yX10_couldRecover yX10_couldRecover, Cond.code yX10_couldRecover cX10_couldRecover 1 (some .int), Cond.methodLink RL 150 yL_risk, Cond.static yL_risk, Cond.codeWith yL_risk cL_risk 4 (some .int) [(0, 9, 12, 22)], Cond.methodLink RL 46 yX9_risk, Cond.instanceMethod yX9_risk, Cond.selects RX9 yX9_risk yX9_risk, Cond.code yX9_risk cX9_risk 2 (some .int), Cond.methodLink RX9 264 yX1_filesLostBy]
def wsL_law0_r51 : List Cond := [Cond.instanceMethod yX1_filesLostBy, Cond.selects RX1 yX1_filesLostBy yX1_filesLostBy, Cond.code yX1_filesLostBy cX1_filesLostBy 6 (some .int), Cond.fieldLink RX1 147 "OnceDisc$Blocks" "unreadable" "[Z", Cond.methodLink RX1 143 yX0_isUnreadable, Cond.methodLink RX1 159 yX8_isReadable, Cond.methodLink RL 152 yX10_risk, Cond.instanceMethod yX10_risk, Cond.selects RX10 yX10_risk yX10_risk, Cond.code yX10_risk cX10_risk 2 (some .int), Cond.methodLink RX10 339 yX10_riskOf, Cond.instanceMethod yX10_riskOf, Cond.selects RX10 yX10_riskOf yX10_riskOf, Cond.code yX10_riskOf cX10_riskOf 4 (some .int), Cond.methodLink RL 153 yX9_weakest, Cond.instanceMethod yX9_weakest, Cond.selects RX9 yX9_weakest yX9_weakest, Cond.code yX9_weakest cX9_weakest 6 (some .int), Cond.methodLink RL 156 yX10_weakest, Cond.instanceMethod yX10_weakest, Cond.selects RX10 yX10_weakest yX10_weakest, Cond.code yX10_weakest cX10_weakest 5 (some .int), Cond.methodLink RL 157 yL_filesBefore, Cond.static yL_filesBefore]
def wsL_law0_r52 : List Cond := [Cond.codeWith yL_filesBefore cL_filesBefore 4 (some .int) [(0, 9, 12, 22)], Cond.methodLink RL 49 yX9_filesBefore, Cond.instanceMethod yX9_filesBefore, Cond.selects RX9 yX9_filesBefore yX9_filesBefore, Cond.code yX9_filesBefore cX9_filesBefore 2 (some .int), Cond.methodLink RX9 268 yX8_filesThereBefore, Cond.instanceMethod yX8_filesThereBefore, Cond.selects RX8 yX8_filesThereBefore yX8_filesThereBefore, Cond.code yX8_filesThereBefore cX8_filesThereBefore 5 (some .int), Cond.methodLink RL 159 yX10_filesBefore, Cond.instanceMethod yX10_filesBefore, Cond.selects RX10 yX10_filesBefore yX10_filesBefore, Cond.code yX10_filesBefore cX10_filesBefore 2 (some .int), Cond.methodLink RL 160 yL_space, Cond.static yL_space, Cond.codeWith yL_space cL_space 4 (some .int) [(0, 9, 12, 13)], Cond.methodLink RL 52 yX9_space, Cond.instanceMethod yX9_space, Cond.selects RX9 yX9_space yX9_space, Cond.code yX9_space cX9_space 2 (some .int), Cond.methodLink RX9 272 yX1_blocksUsed, Cond.instanceMethod yX1_blocksUsed, Cond.selects RX1 yX1_blocksUsed yX1_blocksUsed, Cond.code yX1_blocksUsed cX1_blocksUsed 7 (some .int)]
def wsL_law0_r53 : List Cond := [Cond.fieldLink RX1 166 "OnceDisc$Blocks" "count" "I", Cond.methodLink RX1 167 yX1_useOf, Cond.instanceMethod yX1_useOf, Cond.selects RX1 yX1_useOf yX1_useOf, Cond.code yX1_useOf cX1_useOf 4 (some .int), Cond.methodLink RX1 171 yX0_dataVersionOf, Cond.methodLink RL 162 yX10_space, Cond.instanceMethod yX10_space, Cond.selects RX10 yX10_space yX10_space, Cond.code yX10_space cX10_space 2 (some .int), Cond.methodLink RX10 348 yX10_spaceBy, Cond.instanceMethod yX10_spaceBy, Cond.selects RX10 yX10_spaceBy yX10_spaceBy, Cond.code yX10_spaceBy cX10_spaceBy 5 (some .int), Cond.methodLink RX10 342 yX10_findsCounting, Cond.instanceMethod yX10_findsCounting, Cond.selects RX10 yX10_findsCounting yX10_findsCounting, Cond.code yX10_findsCounting cX10_findsCounting 2 none, Cond.methodLink RX10 345 yX10_useOf, Cond.instanceMethod yX10_useOf, Cond.selects RX10 yX10_useOf yX10_useOf, Cond.code yX10_useOf cX10_useOf 2 (some .int), Cond.methodLink RL 163 yL_spaceOf, Cond.static yL_spaceOf]
def wsL_law0_r54 : List Cond := [Cond.codeWith yL_spaceOf cL_spaceOf 5 (some .int) [(0, 10, 13, 22), (0, 10, 17, 13)], Cond.methodLink RL 55 yX9_spaceOf, Cond.instanceMethod yX9_spaceOf, Cond.selects RX9 yX9_spaceOf yX9_spaceOf, Cond.code yX9_spaceOf cX9_spaceOf 3 (some .int), Cond.methodLink RL 165 yX10_spaceOf, Cond.instanceMethod yX10_spaceOf, Cond.selects RX10 yX10_spaceOf yX10_spaceOf, Cond.code yX10_spaceOf cX10_spaceOf 3 (some .int), Cond.methodLink RL 166 yX9_share, Cond.instanceMethod yX9_share, Cond.selects RX9 yX9_share yX9_share, Cond.code yX9_share cX9_share 2 (some .double), Cond.methodLink RL 170 yX10_share, Cond.instanceMethod yX10_share, Cond.selects RX10 yX10_share yX10_share, Cond.code yX10_share cX10_share 2 (some .double), Cond.methodLink RL 171 yL_write, Cond.static yL_write, Cond.codeWith yL_write cL_write 6 (some .int) [(0, 12, 15, 22), (0, 12, 19, 13), (0, 12, 23, 61)], Cond.classLink RL 61 "java/lang/IllegalStateException", Cond.methodLink RL 58 yX9_write, Cond.instanceMethod yX9_write, Cond.selects RX9 yX9_write yX9_write]
def wsL_law0_r55 : List Cond := [Cond.code yX9_write cX9_write 4 (some .int), Cond.methodLink RX9 275 yX9_checkAllowed, Cond.static yX9_checkAllowed, Cond.code yX9_checkAllowed cX9_checkAllowed 1 none, Cond.classLink RX9 315 "java/lang/IllegalStateException", Cond.initialized "java/lang/IllegalStateException", Cond.methodLink RX9 278 yX2_keep, Cond.instanceMethod yX2_keep, Cond.selects RX2 yX2_keep yX2_keep, Cond.code yX2_keep cX2_keep 3 none, Cond.static yX9_storeIn, Cond.code yX9_storeIn cX9_storeIn 3 none, Cond.methodLink RX9 352 yX1_takeFrom, Cond.instanceMethod yX1_takeFrom, Cond.selects RX1 yX1_takeFrom yX1_takeFrom, Cond.code yX1_takeFrom cX1_takeFrom 2 none, Cond.methodLink RX1 111 yX0_takeFrom, Cond.instanceMethod yX0_takeFrom, Cond.selects RX0 yX0_takeFrom yX0_takeFrom, Cond.code yX0_takeFrom cX0_takeFrom 2 none, Cond.static yX9_copy, Cond.code yX9_copy cX9_copy 3 none, Cond.static yX9_copy_, Cond.code yX9_copy_ cX9_copy_ 3 none]
def wsL_law0_r56 : List Cond := [Cond.methodLink RX1 115 yX7_takeFrom, Cond.instanceMethod yX7_takeFrom, Cond.selects RX7 yX7_takeFrom yX7_takeFrom, Cond.code yX7_takeFrom cX7_takeFrom 2 none, Cond.methodLink RX1 118 yX5_takeFrom, Cond.instanceMethod yX5_takeFrom, Cond.selects RX5 yX5_takeFrom yX5_takeFrom, Cond.code yX5_takeFrom cX5_takeFrom 2 none, Cond.methodLink RX9 282 yX1_writeVersion, Cond.methodLink RL 173 yX10_write, Cond.instanceMethod yX10_write, Cond.selects RX10 yX10_write yX10_write, Cond.code yX10_write cX10_write 4 (some .int), Cond.methodLink RX10 351 yX10_keeps, Cond.instanceMethod yX10_keeps, Cond.selects RX10 yX10_keeps yX10_keeps, Cond.code yX10_keeps cX10_keeps 2 none, Cond.methodLink RL 174 yL_erase, Cond.static yL_erase, Cond.codeWith yL_erase cL_erase 4 (some .int) [(0, 9, 12, 22), (0, 9, 15, 61)], Cond.methodLink RL 63 yX9_erase, Cond.instanceMethod yX9_erase, Cond.selects RX9 yX9_erase yX9_erase, Cond.code yX9_erase cX9_erase 2 (some .int)]
def wsL_law0_r57 : List Cond := [Cond.methodLink RX9 286 yX1_reasonAgainstErase, Cond.methodLink RX9 289 yX1_eraseFile, Cond.methodLink RL 176 yX10_erase, Cond.instanceMethod yX10_erase, Cond.selects RX10 yX10_erase yX10_erase, Cond.code yX10_erase cX10_erase 2 (some .int), Cond.methodLink RL 177 yL_close, Cond.static yL_close, Cond.codeWith yL_close cL_close 3 (some .int) [(0, 8, 11, 61)], Cond.methodLink RL 66 yX9_close, Cond.instanceMethod yX9_close, Cond.selects RX9 yX9_close yX9_close, Cond.code yX9_close cX9_close 1 (some .int), Cond.methodLink RX9 292 yX1_closeSession, Cond.methodLink RL 180 yX10_close, Cond.instanceMethod yX10_close, Cond.selects RX10 yX10_close yX10_close, Cond.code yX10_close cX10_close 1 (some .int), Cond.methodLink RL 181 yL_crash, Cond.static yL_crash, Cond.codeWith yL_crash cL_crash 3 (some .int) [(0, 8, 11, 61)], Cond.methodLink RL 70 yX9_crash, Cond.instanceMethod yX9_crash, Cond.selects RX9 yX9_crash yX9_crash]
def wsL_law0_r58 : List Cond := [Cond.code yX9_crash cX9_crash 1 (some .int), Cond.methodLink RX9 295 yX1_loseSession, Cond.instanceMethod yX1_loseSession, Cond.selects RX1 yX1_loseSession yX1_loseSession, Cond.code yX1_loseSession cX1_loseSession 1 (some .int), Cond.methodLink RX1 234 yX5_markLost, Cond.instanceMethod yX5_markLost, Cond.selects RX5 yX5_markLost yX5_markLost, Cond.code yX5_markLost cX5_markLost 1 none, Cond.methodLink RX1 237 yX0_mainBlocksOf, Cond.methodLink RL 183 yX10_crash, Cond.instanceMethod yX10_crash, Cond.selects RX10 yX10_crash yX10_crash, Cond.code yX10_crash cX10_crash 1 (some .int), Cond.methodLink RL 184 yL_recover, Cond.static yL_recover, Cond.codeWith yL_recover cL_recover 3 (some .int) [(0, 8, 11, 61)], Cond.methodLink RL 73 yX9_recover, Cond.instanceMethod yX9_recover, Cond.selects RX9 yX9_recover yX9_recover, Cond.code yX9_recover cX9_recover 1 (some .int), Cond.methodLink RX9 298 yX1_recoverSession, Cond.instanceMethod yX1_recoverSession, Cond.selects RX1 yX1_recoverSession yX1_recoverSession]
def wsL_law0_r59 : List Cond := [Cond.code yX1_recoverSession cX1_recoverSession 4 (some .int), Cond.methodLink RX1 240 yX5_markRecovered, Cond.instanceMethod yX5_markRecovered, Cond.selects RX5 yX5_markRecovered yX5_markRecovered, Cond.code yX5_markRecovered cX5_markRecovered 1 none, Cond.methodLink RL 186 yX10_recover, Cond.instanceMethod yX10_recover, Cond.selects RX10 yX10_recover yX10_recover, Cond.code yX10_recover cX10_recover 2 (some .int), Cond.methodLink RL 187 yL_scratch, Cond.static yL_scratch, Cond.codeWith yL_scratch cL_scratch 4 (some .int) [(0, 16, 19, 22)], Cond.methodLink RL 76 yX9_scratch, Cond.instanceMethod yX9_scratch, Cond.selects RX9 yX9_scratch yX9_scratch, Cond.code yX9_scratch cX9_scratch 2 (some .boolean), Cond.methodLink RX9 301 yX0_damage, Cond.instanceMethod yX0_damage, Cond.selects RX0 yX0_damage yX0_damage, Cond.code yX0_damage cX0_damage 4 (some .boolean), Cond.methodLink RL 189 yX10_scratch, Cond.instanceMethod yX10_scratch, Cond.selects RX10 yX10_scratch yX10_scratch, Cond.code yX10_scratch cX10_scratch 4 (some .boolean)]
def wsL_law0_r60 : List Cond := [Cond.methodLink RL 190 yX9_setScan, Cond.instanceMethod yX9_setScan, Cond.selects RX9 yX9_setScan yX9_setScan, Cond.code yX9_setScan cX9_setScan 3 (some .boolean), Cond.methodLink RL 194 yX10_setScan, Cond.instanceMethod yX10_setScan, Cond.selects RX10 yX10_setScan yX10_setScan, Cond.code yX10_setScan cX10_setScan 3 (some .boolean), Cond.methodLink RL 195 yX9_undo, Cond.instanceMethod yX9_undo, Cond.selects RX9 yX9_undo yX9_undo, Cond.code yX9_undo cX9_undo 1 (some .int), Cond.methodLink RX9 304 yX2_bringBack, Cond.instanceMethod yX2_bringBack, Cond.selects RX2 yX2_bringBack yX2_bringBack, Cond.code yX2_bringBack cX2_bringBack 2 (some .boolean), Cond.static yX9_loadFrom, Cond.code yX9_loadFrom cX9_loadFrom 3 none, Cond.methodLink RL 198 yX10_undo, Cond.instanceMethod yX10_undo, Cond.selects RX10 yX10_undo yX10_undo, Cond.code yX10_undo cX10_undo 1 (some .int), Cond.methodLink RL 199 yL_saveSnapshot, Cond.static yL_saveSnapshot]
def wsL_law0_r61 : List Cond := [Cond.codeWith yL_saveSnapshot cL_saveSnapshot 4 (some .int) [(0, 16, 19, 22)], Cond.methodLink RL 80 yX9_saveSnapshot, Cond.instanceMethod yX9_saveSnapshot, Cond.selects RX9 yX9_saveSnapshot yX9_saveSnapshot, Cond.code yX9_saveSnapshot cX9_saveSnapshot 3 (some .boolean), Cond.methodLink RX9 308 yX6_isStored, Cond.instanceMethod yX6_isStored, Cond.selects RX6 yX6_isStored yX6_isStored, Cond.code yX6_isStored cX6_isStored 2 (some .boolean), Cond.methodLink RX9 311 yX6_store, Cond.instanceMethod yX6_store, Cond.selects RX6 yX6_store yX6_store, Cond.code yX6_store cX6_store 3 none, Cond.methodLink RL 201 yX10_saveSnapshot, Cond.instanceMethod yX10_saveSnapshot, Cond.selects RX10 yX10_saveSnapshot yX10_saveSnapshot, Cond.code yX10_saveSnapshot cX10_saveSnapshot 3 (some .boolean), Cond.methodLink RL 202 yL_restoreSnapshot, Cond.static yL_restoreSnapshot, Cond.codeWith yL_restoreSnapshot cL_restoreSnapshot 4 (some .int) [(0, 9, 12, 22), (0, 9, 15, 61)], Cond.methodLink RL 83 yX9_restoreSnapshot, Cond.instanceMethod yX9_restoreSnapshot, Cond.selects RX9 yX9_restoreSnapshot yX9_restoreSnapshot, Cond.code yX9_restoreSnapshot cX9_restoreSnapshot 2 (some .int)]
def wsL_law0_r62 : List Cond := [Cond.methodLink RX9 322 yX6_load, Cond.instanceMethod yX6_load, Cond.selects RX6 yX6_load yX6_load, Cond.code yX6_load cX6_load 3 none, Cond.methodLink RL 204 yX10_restoreSnapshot, Cond.instanceMethod yX10_restoreSnapshot, Cond.selects RX10 yX10_restoreSnapshot yX10_restoreSnapshot, Cond.code yX10_restoreSnapshot cX10_restoreSnapshot 2 (some .int)]
def wsL_law0 : List Cond := (wsL_law0_r1 ++ (wsL_law0_r2 ++ (wsL_law0_r3 ++ (wsL_law0_r4 ++ (wsL_law0_r5 ++ (wsL_law0_r6 ++ (wsL_law0_r7 ++ (wsL_law0_r8 ++ (wsL_law0_r9 ++ (wsL_law0_r10 ++ (wsL_law0_r11 ++ (wsL_law0_r12 ++ (wsL_law0_r13 ++ (wsL_law0_r14 ++ (wsL_law0_r15 ++ (wsL_law0_r16 ++ (wsL_law0_r17 ++ (wsL_law0_r18 ++ (wsL_law0_r19 ++ (wsL_law0_r20 ++ (wsL_law0_r21 ++ (wsL_law0_r22 ++ (wsL_law0_r23 ++ (wsL_law0_r24 ++ (wsL_law0_r25 ++ (wsL_law0_r26 ++ (wsL_law0_r27 ++ (wsL_law0_r28 ++ (wsL_law0_r29 ++ (wsL_law0_r30 ++ (wsL_law0_r31 ++ (wsL_law0_r32 ++ (wsL_law0_r33 ++ (wsL_law0_r34 ++ (wsL_law0_r35 ++ (wsL_law0_r36 ++ (wsL_law0_r37 ++ (wsL_law0_r38 ++ (wsL_law0_r39 ++ (wsL_law0_r40 ++ (wsL_law0_r41 ++ (wsL_law0_r42 ++ (wsL_law0_r43 ++ (wsL_law0_r44 ++ (wsL_law0_r45 ++ (wsL_law0_r46 ++ (wsL_law0_r47 ++ (wsL_law0_r48 ++ (wsL_law0_r49 ++ (wsL_law0_r50 ++ (wsL_law0_r51 ++ (wsL_law0_r52 ++ (wsL_law0_r53 ++ (wsL_law0_r54 ++ (wsL_law0_r55 ++ (wsL_law0_r56 ++ (wsL_law0_r57 ++ (wsL_law0_r58 ++ (wsL_law0_r59 ++ (wsL_law0_r60 ++ (wsL_law0_r61 ++ wsL_law0_r62))))))))))))))))))))))))))))))))))))))))))))))))))))))))))))) ++ wsX90 ++ wsX100 ++ wsX30 ++ wsX40 ++ wsX20 ++ wsX60 ++ wsX80 ++ wsX10 ++ wsX110 ++ wsX00 ++ wsX70 ++ wsX50 ++ ([] : List Cond)
def wsL_law : List Cond := wsL_law0 ++ (vx_atS RX9 334 "java/lang/IllegalArgumentException" ["java/lang/RuntimeException", "java/lang/Exception"]).filter goodWord ++ (vx_atS RX9 329 "java/lang/IndexOutOfBoundsException" ["java/lang/RuntimeException", "java/lang/Exception"]).filter goodWord ++ (vx_atS RX9 319 "java/lang/IllegalStateException" ["java/lang/RuntimeException", "java/lang/Exception"]).filter goodWord
set_option maxRecDepth 20000 in
theorem wsL_in_r1 : ∀ w ∈ wsL_law0_r1, w ∈ lw_tbl := fun w h => (goodIn_r wsL_law0_r1 [117, 118, 94, 1443, 1444, 105, 169, 119, 120, 121, 122, 123, 124, 125, 126, 95, 441, 140, 141, 96, 442, 224, 225, 98] (by decide +kernel) (by decide +kernel) w h).1
set_option maxRecDepth 20000 in
theorem wsL_in_r2 : ∀ w ∈ wsL_law0_r2, w ∈ lw_tbl := fun w h => (goodIn_r wsL_law0_r2 [443, 243, 244, 99, 444, 257, 258, 100, 445, 279, 280, 101, 446, 447, 128, 129, 130, 139, 131, 132, 143, 144, 145, 171] (by decide +kernel) (by decide +kernel) w h).1
set_option maxRecDepth 20000 in
theorem wsL_in_r3 : ∀ w ∈ wsL_law0_r3, w ∈ lw_tbl := fun w h => (goodIn_r wsL_law0_r3 [173, 175, 177, 179, 181, 183, 185, 186, 187, 188, 189, 170, 190, 146, 147, 97, 191, 192, 149, 150, 151, 152, 154, 155] (by decide +kernel) (by decide +kernel) w h).1
set_option maxRecDepth 20000 in
theorem wsL_in_r4 : ∀ w ∈ wsL_law0_r4, w ∈ lw_tbl := fun w h => (goodIn_r wsL_law0_r4 [156, 157, 227, 228, 229, 232, 234, 230, 235, 246, 247, 248, 250, 249, 251, 260, 261, 262, 263, 264, 265, 266, 267, 282] (by decide +kernel) (by decide +kernel) w h).1
set_option maxRecDepth 20000 in
theorem wsL_in_r5 : ∀ w ∈ wsL_law0_r5, w ∈ lw_tbl := fun w h => (goodIn_r wsL_law0_r5 [283, 284, 285, 286, 102, 395, 332, 333, 103, 398, 359, 360, 104, 400, 403, 406, 407, 393, 410, 288, 289, 290, 291, 294] (by decide +kernel) (by decide +kernel) w h).1
set_option maxRecDepth 20000 in
theorem wsL_in_r6 : ∀ w ∈ wsL_law0_r6, w ∈ lw_tbl := fun w h => (goodIn_r wsL_law0_r6 [297, 300, 301, 302, 304, 305, 306, 307, 308, 335, 336, 337, 338, 341, 342, 343, 344, 345, 362, 363, 364, 365, 369, 370] (by decide +kernel) (by decide +kernel) w h).1
set_option maxRecDepth 20000 in
theorem wsL_in_r7 : ∀ w ∈ wsL_law0_r7, w ∈ lw_tbl := fun w h => (goodIn_r wsL_law0_r7 [371, 372, 373, 374, 375, 427, 428, 429, 430, 339, 366, 431, 432, 433, 434, 436, 437, 439, 440, 1445, 1446, 1447, 1448, 1450] (by decide +kernel) (by decide +kernel) w h).1
set_option maxRecDepth 20000 in
theorem wsL_in_r8 : ∀ w ∈ wsL_law0_r8, w ∈ lw_tbl := fun w h => (goodIn_r wsL_law0_r8 [1451, 803, 1452, 1461, 1463, 1464, 1466, 1470, 1472, 1474, 1475, 1476, 463, 464, 465, 466, 133, 467, 468, 469, 470, 471, 472, 473] (by decide +kernel) (by decide +kernel) w h).1
set_option maxRecDepth 20000 in
theorem wsL_in_r9 : ∀ w ∈ wsL_law0_r9, w ∈ lw_tbl := fun w h => (goodIn_r wsL_law0_r9 [474, 475, 477, 0, 478, 480, 481, 1538, 1539, 1540, 1541, 1449, 1453, 1542, 1544, 26, 1545, 725, 726, 93, 727, 728, 729, 730] (by decide +kernel) (by decide +kernel) w h).1
set_option maxRecDepth 20000 in
theorem wsL_in_r10 : ∀ w ∈ wsL_law0_r10, w ∈ lw_tbl := fun w h => (goodIn_r wsL_law0_r10 [731, 732, 184, 172, 733, 734, 735, 736, 109, 804, 805, 806, 807, 153, 809, 810, 811, 812, 813, 814, 815, 816, 494, 495] (by decide +kernel) (by decide +kernel) w h).1
set_option maxRecDepth 20000 in
theorem wsL_in_r11 : ∀ w ∈ wsL_law0_r11, w ∈ lw_tbl := fun w h => (goodIn_r wsL_law0_r11 [496, 497, 499, 500, 502, 503, 817, 819, 6, 820, 823, 824, 825, 826, 828, 7, 829, 830, 831, 832, 833, 834, 836, 837] (by decide +kernel) (by decide +kernel) w h).1
set_option maxRecDepth 20000 in
theorem wsL_in_r12 : ∀ w ∈ wsL_law0_r12, w ∈ lw_tbl := fun w h => (goodIn_r wsL_law0_r12 [505, 506, 507, 839, 840, 841, 842, 844, 846, 8, 847, 848, 849, 851, 9, 852, 927, 928, 114, 929, 854, 856, 10, 857] (by decide +kernel) (by decide +kernel) w h).1
set_option maxRecDepth 20000 in
theorem wsL_in_r13 : ∀ w ∈ wsL_law0_r13, w ∈ lw_tbl := fun w h => (goodIn_r wsL_law0_r13 [858, 859, 860, 861, 862, 864, 865, 866, 867, 868, 110, 869, 1954, 870, 871, 872, 873, 874, 1955, 876, 877, 878, 879, 880] (by decide +kernel) (by decide +kernel) w h).1
set_option maxRecDepth 20000 in
theorem wsL_in_r14 : ∀ w ∈ wsL_law0_r14, w ∈ lw_tbl := fun w h => (goodIn_r wsL_law0_r14 [881, 882, 883, 884, 885, 111, 886, 887, 888, 889, 890, 892, 893, 112, 894, 895, 896, 113, 897, 898, 899, 900, 901, 902] (by decide +kernel) (by decide +kernel) w h).1
set_option maxRecDepth 20000 in
theorem wsL_in_r15 : ∀ w ∈ wsL_law0_r15, w ∈ lw_tbl := fun w h => (goodIn_r wsL_law0_r15 [903, 904, 905, 906, 907, 908, 910, 912, 914, 915, 917, 11, 918, 919, 921, 12, 922, 923, 924, 925, 926, 930, 932, 13] (by decide +kernel) (by decide +kernel) w h).1
set_option maxRecDepth 20000 in
theorem wsL_in_r16 : ∀ w ∈ wsL_law0_r16, w ∈ lw_tbl := fun w h => (goodIn_r wsL_law0_r16 [933, 934, 936, 14, 937, 939, 941, 15, 942, 943, 591, 592, 620, 621, 946, 948, 16, 949, 952, 954, 17, 955, 515, 516] (by decide +kernel) (by decide +kernel) w h).1
set_option maxRecDepth 20000 in
theorem wsL_in_r17 : ∀ w ∈ wsL_law0_r17, w ∈ lw_tbl := fun w h => (goodIn_r wsL_law0_r17 [959, 961, 18, 962, 963, 965, 19, 966, 968, 970, 20, 971, 973, 974, 975, 976, 176, 178, 180, 182, 977, 712, 713, 978] (by decide +kernel) (by decide +kernel) w h).1
set_option maxRecDepth 20000 in
theorem wsL_in_r18 : ∀ w ∈ wsL_law0_r18, w ∈ lw_tbl := fun w h => (goodIn_r wsL_law0_r18 [979, 980, 981, 982, 983, 984, 985, 987, 988, 989, 990, 991, 992, 993, 994, 995, 996, 997, 998, 999, 1000, 1001, 1002, 1003] (by decide +kernel) (by decide +kernel) w h).1
set_option maxRecDepth 20000 in
theorem wsL_in_r19 : ∀ w ∈ wsL_law0_r19, w ∈ lw_tbl := fun w h => (goodIn_r wsL_law0_r19 [1004, 1005, 1006, 555, 556, 557, 558, 559, 535, 536, 537, 1007, 1008, 1009, 1010, 1011, 1012, 1013, 1014, 1015, 632, 633, 634, 594] (by decide +kernel) (by decide +kernel) w h).1
set_option maxRecDepth 20000 in
theorem wsL_in_r20 : ∀ w ∈ wsL_law0_r20, w ∈ lw_tbl := fun w h => (goodIn_r wsL_law0_r20 [595, 1018, 1019, 1020, 1021, 1022, 1023, 1024, 1025, 1026, 1027, 1028, 1029, 1030, 1031, 1033, 526, 527, 528, 1034, 1035, 1036, 1037, 650] (by decide +kernel) (by decide +kernel) w h).1
set_option maxRecDepth 20000 in
theorem wsL_in_r21 : ∀ w ∈ wsL_law0_r21, w ∈ lw_tbl := fun w h => (goodIn_r wsL_law0_r21 [601, 602, 603, 404, 401, 367, 604, 606, 2, 607, 396, 408, 608, 609, 610, 611, 612, 613, 614, 615, 616, 617, 618, 587] (by decide +kernel) (by decide +kernel) w h).1
set_option maxRecDepth 20000 in
theorem wsL_in_r22 : ∀ w ∈ wsL_law0_r22, w ∈ lw_tbl := fun w h => (goodIn_r wsL_law0_r22 [588, 589, 622, 624, 3, 625, 626, 627, 628, 629, 631, 635, 636, 637, 638, 640, 575, 576, 577, 578, 579, 580, 581, 582] (by decide +kernel) (by decide +kernel) w h).1
set_option maxRecDepth 20000 in
theorem wsL_in_r23 : ∀ w ∈ wsL_law0_r23, w ∈ lw_tbl := fun w h => (goodIn_r wsL_law0_r23 [583, 584, 585, 586, 671, 672, 673, 674, 1038, 1039, 1040, 1041, 1042, 560, 1043, 1044, 1046, 21, 1047, 1048, 1049, 1050, 1051, 1052] (by decide +kernel) (by decide +kernel) w h).1
set_option maxRecDepth 20000 in
theorem wsL_in_r24 : ∀ w ∈ wsL_law0_r24, w ∈ lw_tbl := fun w h => (goodIn_r wsL_law0_r24 [1053, 1054, 1055, 1056, 1057, 1058, 1059, 1060, 1061, 1062, 1063, 299, 1064, 1066, 22, 1067, 1068, 1069, 1070, 1071, 1073, 1075, 23, 1076] (by decide +kernel) (by decide +kernel) w h).1
set_option maxRecDepth 20000 in
theorem wsL_in_r25 : ∀ w ∈ wsL_law0_r25, w ∈ lw_tbl := fun w h => (goodIn_r wsL_law0_r25 [1077, 1078, 1079, 1080, 1082, 1083, 1084, 1085, 1087, 1089, 24, 1090, 1091, 1092, 1093, 1094, 1095, 1096, 1097, 1098, 1099, 1100, 1101, 1102] (by decide +kernel) (by decide +kernel) w h).1
set_option maxRecDepth 20000 in
theorem wsL_in_r26 : ∀ w ∈ wsL_law0_r26, w ∈ lw_tbl := fun w h => (goodIn_r wsL_law0_r26 [1103, 1104, 1105, 1106, 1107, 1108, 1109, 1110, 1112, 1113, 1114, 1115, 1116, 1117, 1118, 1119, 1546, 1547, 1548, 1549, 1454, 1456, 1460, 1457] (by decide +kernel) (by decide +kernel) w h).1
set_option maxRecDepth 20000 in
theorem wsL_in_r27 : ∀ w ∈ wsL_law0_r27, w ∈ lw_tbl := fun w h => (goodIn_r wsL_law0_r27 [1473, 1550, 1551, 1552, 1553, 1555, 27, 1556, 1557, 1558, 1559, 1560, 1562, 28, 1563, 1455, 1458, 1564, 1566, 29, 1567, 1568, 1570, 30] (by decide +kernel) (by decide +kernel) w h).1
set_option maxRecDepth 20000 in
theorem wsL_in_r28 : ∀ w ∈ wsL_law0_r28, w ∈ lw_tbl := fun w h => (goodIn_r wsL_law0_r28 [1571, 1459, 1572, 1574, 31, 1575, 1462, 1577, 1579, 32, 1580, 1581, 1582, 1583, 1585, 33, 1586, 1587, 1589, 34, 1590, 1591, 1593, 35] (by decide +kernel) (by decide +kernel) w h).1
set_option maxRecDepth 20000 in
theorem wsL_in_r29 : ∀ w ∈ wsL_law0_r29, w ∈ lw_tbl := fun w h => (goodIn_r wsL_law0_r29 [1594, 1595, 1597, 36, 1598, 1599, 1601, 37, 1602, 1603, 1605, 38, 1606, 1608, 1610, 39, 1611, 1613, 1615, 40, 1616, 1617, 1618, 1619] (by decide +kernel) (by decide +kernel) w h).1
set_option maxRecDepth 20000 in
theorem wsL_in_r30 : ∀ w ∈ wsL_law0_r30, w ∈ lw_tbl := fun w h => (goodIn_r wsL_law0_r30 [1621, 1623, 41, 1624, 1465, 1625, 1627, 42, 1628, 1629, 1631, 43, 1632, 1633, 1635, 44, 1636, 1637, 1639, 45, 1640, 1641, 1643, 46] (by decide +kernel) (by decide +kernel) w h).1
set_option maxRecDepth 20000 in
theorem wsL_in_r31 : ∀ w ∈ wsL_law0_r31, w ∈ lw_tbl := fun w h => (goodIn_r wsL_law0_r31 [1644, 1645, 1647, 47, 1648, 1649, 1651, 48, 1652, 1653, 1654, 1655, 1656, 1658, 49, 1659, 1660, 1662, 50, 1663, 1664, 1666, 51, 1667] (by decide +kernel) (by decide +kernel) w h).1
set_option maxRecDepth 20000 in
theorem wsL_in_r32 : ∀ w ∈ wsL_law0_r32, w ∈ lw_tbl := fun w h => (goodIn_r wsL_law0_r32 [1668, 1670, 52, 1671, 1672, 1674, 53, 1675, 1676, 1678, 54, 1679, 1680, 1682, 55, 1683, 1684, 1686, 56, 1687, 1688, 1690, 57, 1691] (by decide +kernel) (by decide +kernel) w h).1
set_option maxRecDepth 20000 in
theorem wsL_in_r33 : ∀ w ∈ wsL_law0_r33, w ∈ lw_tbl := fun w h => (goodIn_r wsL_law0_r33 [1693, 1695, 58, 1696, 1697, 1699, 59, 1700, 1469, 1701, 1703, 60, 1704, 1705, 1707, 61, 1708, 1467, 1709, 1711, 62, 1712, 1713, 1715] (by decide +kernel) (by decide +kernel) w h).1
set_option maxRecDepth 20000 in
theorem wsL_in_r34 : ∀ w ∈ wsL_law0_r34, w ∈ lw_tbl := fun w h => (goodIn_r wsL_law0_r34 [63, 1716, 1717, 1719, 64, 1720, 1721, 1723, 65, 1724, 1468, 1725, 1727, 66, 1728, 1730, 1732, 67, 1733, 1734, 1736, 68, 1737, 1738] (by decide +kernel) (by decide +kernel) w h).1
set_option maxRecDepth 20000 in
theorem wsL_in_r35 : ∀ w ∈ wsL_law0_r35, w ∈ lw_tbl := fun w h => (goodIn_r wsL_law0_r35 [1740, 69, 1741, 1742, 1744, 70, 1745, 1534, 1535, 1536, 1537, 482, 483, 484, 485, 174, 1746, 1747, 1748, 1749, 1121, 1122, 1123, 1124] (by decide +kernel) (by decide +kernel) w h).1
set_option maxRecDepth 20000 in
theorem wsL_in_r36 : ∀ w ∈ wsL_law0_r36, w ∈ lw_tbl := fun w h => (goodIn_r wsL_law0_r36 [1125, 1126, 1127, 397, 292, 295, 405, 402, 368, 298, 411, 409, 233, 399, 340, 1128, 1129, 1130, 1131, 1132, 1133, 1134, 1135, 600] (by decide +kernel) (by decide +kernel) w h).1
set_option maxRecDepth 20000 in
theorem wsL_in_r37 : ∀ w ∈ wsL_law0_r37, w ∈ lw_tbl := fun w h => (goodIn_r wsL_law0_r37 [1136, 1137, 1138, 1139, 1140, 1142, 1143, 1144, 1145, 1146, 652, 653, 654, 1147, 1148, 1754, 1755, 1756, 1757, 1758, 1760, 71, 1761, 1762] (by decide +kernel) (by decide +kernel) w h).1
set_option maxRecDepth 20000 in
theorem wsL_in_r38 : ∀ w ∈ wsL_law0_r38, w ∈ lw_tbl := fun w h => (goodIn_r wsL_law0_r38 [1764, 72, 1765, 1766, 1768, 73, 1769, 1770, 1772, 74, 1773, 1774, 1776, 75, 1777, 1778, 1780, 76, 1781, 1782, 1783, 1784, 486, 487] (by decide +kernel) (by decide +kernel) w h).1
set_option maxRecDepth 20000 in
theorem wsL_in_r39 : ∀ w ∈ wsL_law0_r39, w ∈ lw_tbl := fun w h => (goodIn_r wsL_law0_r39 [488, 489, 509, 490, 491, 492, 493, 508, 510, 511, 512, 513, 1750, 1751, 1752, 1753, 1149, 1150, 1151, 1152, 1153, 1154, 1155, 1156] (by decide +kernel) (by decide +kernel) w h).1
set_option maxRecDepth 20000 in
theorem wsL_in_r40 : ∀ w ∈ wsL_law0_r40, w ∈ lw_tbl := fun w h => (goodIn_r wsL_law0_r40 [1157, 1158, 1159, 1160, 115, 1176, 1177, 1178, 1179, 1180, 646, 647, 648, 1181, 531, 532, 533, 1182, 668, 669, 670, 1785, 1786, 1787] (by decide +kernel) (by decide +kernel) w h).1
set_option maxRecDepth 20000 in
theorem wsL_in_r41 : ∀ w ∈ wsL_law0_r41, w ∈ lw_tbl := fun w h => (goodIn_r wsL_law0_r41 [1788, 1789, 1791, 77, 1792, 1793, 1795, 78, 1796, 1183, 1184, 1185, 1186, 1187, 1188, 1189, 539, 540, 541, 542, 1797, 1798, 1799, 1800] (by decide +kernel) (by decide +kernel) w h).1
set_option maxRecDepth 20000 in
theorem wsL_in_r42 : ∀ w ∈ wsL_law0_r42, w ∈ lw_tbl := fun w h => (goodIn_r wsL_law0_r42 [1801, 1803, 79, 1804, 1190, 1191, 1192, 1193, 1194, 1195, 1196, 1197, 1198, 1199, 1200, 1201, 1202, 1203, 1204, 1205, 1206, 1208, 25, 1209] (by decide +kernel) (by decide +kernel) w h).1
set_option maxRecDepth 20000 in
theorem wsL_in_r43 : ∀ w ∈ wsL_law0_r43, w ∈ lw_tbl := fun w h => (goodIn_r wsL_law0_r43 [1210, 1211, 1212, 1213, 1214, 1215, 1216, 1217, 1218, 1219, 1220, 1221, 1222, 1223, 1805, 1806, 1807, 1808, 1809, 1811, 80, 1812, 1813, 1815] (by decide +kernel) (by decide +kernel) w h).1
set_option maxRecDepth 20000 in
theorem wsL_in_r44 : ∀ w ∈ wsL_law0_r44, w ∈ lw_tbl := fun w h => (goodIn_r wsL_law0_r44 [81, 1816, 1817, 1819, 82, 1820, 1224, 1225, 1226, 1227, 1228, 1229, 1230, 1231, 1232, 1233, 1234, 1235, 1236, 1237, 1238, 1239, 1240, 1241] (by decide +kernel) (by decide +kernel) w h).1
set_option maxRecDepth 20000 in
theorem wsL_in_r45 : ∀ w ∈ wsL_law0_r45, w ∈ lw_tbl := fun w h => (goodIn_r wsL_law0_r45 [1821, 1822, 1823, 1824, 1242, 1243, 1244, 1245, 1246, 1247, 1248, 1249, 1250, 1251, 1252, 1253, 1254, 1255, 1256, 1257, 1258, 1259, 566, 567] (by decide +kernel) (by decide +kernel) w h).1
set_option maxRecDepth 20000 in
theorem wsL_in_r46 : ∀ w ∈ wsL_law0_r46, w ∈ lw_tbl := fun w h => (goodIn_r wsL_law0_r46 [568, 1825, 1826, 1827, 1828, 1829, 1831, 83, 1832, 1833, 1835, 84, 1836, 1261, 1262, 1263, 1264, 1265, 1266, 1267, 1837, 1838, 1839, 1840] (by decide +kernel) (by decide +kernel) w h).1
set_option maxRecDepth 20000 in
theorem wsL_in_r47 : ∀ w ∈ wsL_law0_r47, w ∈ lw_tbl := fun w h => (goodIn_r wsL_law0_r47 [517, 518, 519, 520, 521, 522, 523, 524, 296, 525, 530, 534, 1841, 1842, 1843, 1844, 1268, 1269, 1270, 1271, 1272, 1273, 1274, 1275] (by decide +kernel) (by decide +kernel) w h).1
set_option maxRecDepth 20000 in
theorem wsL_in_r48 : ∀ w ∈ wsL_law0_r48, w ∈ lw_tbl := fun w h => (goodIn_r wsL_law0_r48 [1845, 1846, 1847, 1848, 1276, 1277, 1278, 1279, 1280, 1281, 1282, 1283, 1284, 1285, 1286, 1287, 1288, 1289, 1290, 1291, 1292, 548, 549, 550] (by decide +kernel) (by decide +kernel) w h).1
set_option maxRecDepth 20000 in
theorem wsL_in_r49 : ∀ w ∈ wsL_law0_r49, w ∈ lw_tbl := fun w h => (goodIn_r wsL_law0_r49 [551, 552, 553, 554, 561, 563, 1, 564, 565, 570, 571, 572, 573, 574, 1849, 1850, 1851, 1852, 1853, 1855, 85, 1856, 1471, 1857] (by decide +kernel) (by decide +kernel) w h).1
set_option maxRecDepth 20000 in
theorem wsL_in_r50 : ∀ w ∈ wsL_law0_r50, w ∈ lw_tbl := fun w h => (goodIn_r wsL_law0_r50 [1859, 86, 1860, 1861, 1863, 87, 1864, 543, 544, 545, 546, 547, 1865, 1866, 1867, 1868, 1293, 1294, 1295, 1296, 1297, 1298, 1299, 641] (by decide +kernel) (by decide +kernel) w h).1
set_option maxRecDepth 20000 in
theorem wsL_in_r51 : ∀ w ∈ wsL_law0_r51, w ∈ lw_tbl := fun w h => (goodIn_r wsL_law0_r51 [642, 643, 644, 303, 645, 651, 1869, 1870, 1871, 1872, 1873, 1875, 88, 1876, 596, 597, 598, 599, 1877, 1878, 1879, 1880, 1300, 1301] (by decide +kernel) (by decide +kernel) w h).1
set_option maxRecDepth 20000 in
theorem wsL_in_r52 : ∀ w ∈ wsL_law0_r52, w ∈ lw_tbl := fun w h => (goodIn_r wsL_law0_r52 [1302, 1303, 1304, 1305, 1306, 1307, 1308, 1309, 1310, 1881, 1882, 1883, 1884, 1311, 1312, 1313, 1314, 1315, 1316, 1317, 659, 660, 661, 662] (by decide +kernel) (by decide +kernel) w h).1
set_option maxRecDepth 20000 in
theorem wsL_in_r53 : ∀ w ∈ wsL_law0_r53, w ∈ lw_tbl := fun w h => (goodIn_r wsL_law0_r53 [293, 663, 665, 4, 666, 667, 1885, 1886, 1887, 1888, 1889, 1891, 89, 1892, 1893, 1895, 90, 1896, 1897, 1899, 91, 1900, 1318, 1319] (by decide +kernel) (by decide +kernel) w h).1
set_option maxRecDepth 20000 in
theorem wsL_in_r54 : ∀ w ∈ wsL_law0_r54, w ∈ lw_tbl := fun w h => (goodIn_r wsL_law0_r54 [1320, 1321, 1322, 1323, 1324, 1901, 1902, 1903, 1904, 655, 656, 657, 658, 1905, 1906, 1907, 1908, 1325, 1326, 1327, 1328, 1329, 1330, 1331] (by decide +kernel) (by decide +kernel) w h).1
set_option maxRecDepth 20000 in
theorem wsL_in_r55 : ∀ w ∈ wsL_law0_r55, w ∈ lw_tbl := fun w h => (goodIn_r wsL_law0_r55 [1332, 1333, 1334, 1335, 1336, 116, 680, 681, 682, 683, 685, 686, 687, 688, 689, 690, 691, 692, 693, 694, 696, 697, 699, 700] (by decide +kernel) (by decide +kernel) w h).1
set_option maxRecDepth 20000 in
theorem wsL_in_r56 : ∀ w ∈ wsL_law0_r56, w ∈ lw_tbl := fun w h => (goodIn_r wsL_law0_r56 [701, 702, 703, 704, 706, 707, 708, 709, 1352, 1909, 1910, 1911, 1912, 1913, 1915, 92, 1916, 1353, 1354, 1355, 1356, 1357, 1358, 1359] (by decide +kernel) (by decide +kernel) w h).1
set_option maxRecDepth 20000 in
theorem wsL_in_r57 : ∀ w ∈ wsL_law0_r57, w ∈ lw_tbl := fun w h => (goodIn_r wsL_law0_r57 [1360, 1361, 1917, 1918, 1919, 1920, 1362, 1363, 1364, 1365, 1366, 1367, 1368, 1369, 1921, 1922, 1923, 1924, 1370, 1371, 1372, 1373, 1374, 1375] (by decide +kernel) (by decide +kernel) w h).1
set_option maxRecDepth 20000 in
theorem wsL_in_r58 : ∀ w ∈ wsL_law0_r58, w ∈ lw_tbl := fun w h => (goodIn_r wsL_law0_r58 [1376, 1377, 1378, 1379, 1380, 1381, 1382, 1383, 1384, 1385, 1925, 1926, 1927, 1928, 1386, 1387, 1388, 1389, 1390, 1391, 1392, 1393, 1394, 1395] (by decide +kernel) (by decide +kernel) w h).1
set_option maxRecDepth 20000 in
theorem wsL_in_r59 : ∀ w ∈ wsL_law0_r59, w ∈ lw_tbl := fun w h => (goodIn_r wsL_law0_r59 [1396, 1397, 1398, 1399, 1400, 1929, 1930, 1931, 1932, 1401, 1402, 1403, 1404, 1405, 1406, 1407, 1408, 1409, 1410, 1411, 1933, 1934, 1935, 1936] (by decide +kernel) (by decide +kernel) w h).1
set_option maxRecDepth 20000 in
theorem wsL_in_r60 : ∀ w ∈ wsL_law0_r60, w ∈ lw_tbl := fun w h => (goodIn_r wsL_law0_r60 [676, 677, 678, 679, 1937, 1938, 1939, 1940, 714, 715, 716, 717, 718, 719, 720, 721, 723, 724, 1941, 1942, 1943, 1944, 1412, 1413] (by decide +kernel) (by decide +kernel) w h).1
set_option maxRecDepth 20000 in
theorem wsL_in_r61 : ∀ w ∈ wsL_law0_r61, w ∈ lw_tbl := fun w h => (goodIn_r wsL_law0_r61 [1414, 1415, 1416, 1417, 1418, 1419, 1420, 1421, 1422, 1424, 1425, 1426, 1427, 1945, 1946, 1947, 1948, 1430, 1431, 1432, 1433, 1434, 1435, 1436] (by decide +kernel) (by decide +kernel) w h).1
set_option maxRecDepth 20000 in
theorem wsL_in_r62 : ∀ w ∈ wsL_law0_r62, w ∈ lw_tbl := fun w h => (goodIn_r wsL_law0_r62 [1438, 1439, 1440, 1441, 1949, 1950, 1951, 1952] (by decide +kernel) (by decide +kernel) w h).1
theorem in_wsX90 : ∀ w ∈ wsX90, w ∈ lw_tbl := by decide +kernel
theorem in_wsX100 : ∀ w ∈ wsX100, w ∈ lw_tbl := by decide +kernel
theorem in_wsX30 : ∀ w ∈ wsX30, w ∈ lw_tbl := by decide +kernel
theorem in_wsX40 : ∀ w ∈ wsX40, w ∈ lw_tbl := by decide +kernel
theorem in_wsX20 : ∀ w ∈ wsX20, w ∈ lw_tbl := by decide +kernel
theorem in_wsX60 : ∀ w ∈ wsX60, w ∈ lw_tbl := by decide +kernel
theorem in_wsX80 : ∀ w ∈ wsX80, w ∈ lw_tbl := by decide +kernel
theorem in_wsX10 : ∀ w ∈ wsX10, w ∈ lw_tbl := by decide +kernel
theorem in_wsX110 : ∀ w ∈ wsX110, w ∈ lw_tbl := by decide +kernel
theorem in_wsX00 : ∀ w ∈ wsX00, w ∈ lw_tbl := by decide +kernel
theorem in_wsX70 : ∀ w ∈ wsX70, w ∈ lw_tbl := by decide +kernel
theorem in_wsX50 : ∀ w ∈ wsX50, w ∈ lw_tbl := by decide +kernel
theorem wsL_law_in0 : ∀ w ∈ wsL_law0, w ∈ lw_tbl := fun w h => (List.mem_append.mp h).elim (fun h => (List.mem_append.mp h).elim (fun h => (List.mem_append.mp h).elim (fun h => (List.mem_append.mp h).elim (fun h => (List.mem_append.mp h).elim (fun h => (List.mem_append.mp h).elim (fun h => (List.mem_append.mp h).elim (fun h => (List.mem_append.mp h).elim (fun h => (List.mem_append.mp h).elim (fun h => (List.mem_append.mp h).elim (fun h => (List.mem_append.mp h).elim (fun h => (List.mem_append.mp h).elim (fun h => (List.mem_append.mp h).elim (fun h => (List.mem_append.mp h).elim (fun h => wsL_in_r1 w h) (fun h => (List.mem_append.mp h).elim (fun h => wsL_in_r2 w h) (fun h => (List.mem_append.mp h).elim (fun h => wsL_in_r3 w h) (fun h => (List.mem_append.mp h).elim (fun h => wsL_in_r4 w h) (fun h => (List.mem_append.mp h).elim (fun h => wsL_in_r5 w h) (fun h => (List.mem_append.mp h).elim (fun h => wsL_in_r6 w h) (fun h => (List.mem_append.mp h).elim (fun h => wsL_in_r7 w h) (fun h => (List.mem_append.mp h).elim (fun h => wsL_in_r8 w h) (fun h => (List.mem_append.mp h).elim (fun h => wsL_in_r9 w h) (fun h => (List.mem_append.mp h).elim (fun h => wsL_in_r10 w h) (fun h => (List.mem_append.mp h).elim (fun h => wsL_in_r11 w h) (fun h => (List.mem_append.mp h).elim (fun h => wsL_in_r12 w h) (fun h => (List.mem_append.mp h).elim (fun h => wsL_in_r13 w h) (fun h => (List.mem_append.mp h).elim (fun h => wsL_in_r14 w h) (fun h => (List.mem_append.mp h).elim (fun h => wsL_in_r15 w h) (fun h => (List.mem_append.mp h).elim (fun h => wsL_in_r16 w h) (fun h => (List.mem_append.mp h).elim (fun h => wsL_in_r17 w h) (fun h => (List.mem_append.mp h).elim (fun h => wsL_in_r18 w h) (fun h => (List.mem_append.mp h).elim (fun h => wsL_in_r19 w h) (fun h => (List.mem_append.mp h).elim (fun h => wsL_in_r20 w h) (fun h => (List.mem_append.mp h).elim (fun h => wsL_in_r21 w h) (fun h => (List.mem_append.mp h).elim (fun h => wsL_in_r22 w h) (fun h => (List.mem_append.mp h).elim (fun h => wsL_in_r23 w h) (fun h => (List.mem_append.mp h).elim (fun h => wsL_in_r24 w h) (fun h => (List.mem_append.mp h).elim (fun h => wsL_in_r25 w h) (fun h => (List.mem_append.mp h).elim (fun h => wsL_in_r26 w h) (fun h => (List.mem_append.mp h).elim (fun h => wsL_in_r27 w h) (fun h => (List.mem_append.mp h).elim (fun h => wsL_in_r28 w h) (fun h => (List.mem_append.mp h).elim (fun h => wsL_in_r29 w h) (fun h => (List.mem_append.mp h).elim (fun h => wsL_in_r30 w h) (fun h => (List.mem_append.mp h).elim (fun h => wsL_in_r31 w h) (fun h => (List.mem_append.mp h).elim (fun h => wsL_in_r32 w h) (fun h => (List.mem_append.mp h).elim (fun h => wsL_in_r33 w h) (fun h => (List.mem_append.mp h).elim (fun h => wsL_in_r34 w h) (fun h => (List.mem_append.mp h).elim (fun h => wsL_in_r35 w h) (fun h => (List.mem_append.mp h).elim (fun h => wsL_in_r36 w h) (fun h => (List.mem_append.mp h).elim (fun h => wsL_in_r37 w h) (fun h => (List.mem_append.mp h).elim (fun h => wsL_in_r38 w h) (fun h => (List.mem_append.mp h).elim (fun h => wsL_in_r39 w h) (fun h => (List.mem_append.mp h).elim (fun h => wsL_in_r40 w h) (fun h => (List.mem_append.mp h).elim (fun h => wsL_in_r41 w h) (fun h => (List.mem_append.mp h).elim (fun h => wsL_in_r42 w h) (fun h => (List.mem_append.mp h).elim (fun h => wsL_in_r43 w h) (fun h => (List.mem_append.mp h).elim (fun h => wsL_in_r44 w h) (fun h => (List.mem_append.mp h).elim (fun h => wsL_in_r45 w h) (fun h => (List.mem_append.mp h).elim (fun h => wsL_in_r46 w h) (fun h => (List.mem_append.mp h).elim (fun h => wsL_in_r47 w h) (fun h => (List.mem_append.mp h).elim (fun h => wsL_in_r48 w h) (fun h => (List.mem_append.mp h).elim (fun h => wsL_in_r49 w h) (fun h => (List.mem_append.mp h).elim (fun h => wsL_in_r50 w h) (fun h => (List.mem_append.mp h).elim (fun h => wsL_in_r51 w h) (fun h => (List.mem_append.mp h).elim (fun h => wsL_in_r52 w h) (fun h => (List.mem_append.mp h).elim (fun h => wsL_in_r53 w h) (fun h => (List.mem_append.mp h).elim (fun h => wsL_in_r54 w h) (fun h => (List.mem_append.mp h).elim (fun h => wsL_in_r55 w h) (fun h => (List.mem_append.mp h).elim (fun h => wsL_in_r56 w h) (fun h => (List.mem_append.mp h).elim (fun h => wsL_in_r57 w h) (fun h => (List.mem_append.mp h).elim (fun h => wsL_in_r58 w h) (fun h => (List.mem_append.mp h).elim (fun h => wsL_in_r59 w h) (fun h => (List.mem_append.mp h).elim (fun h => wsL_in_r60 w h) (fun h => (List.mem_append.mp h).elim (fun h => wsL_in_r61 w h) (fun h => wsL_in_r62 w h)))))))))))))))))))))))))))))))))))))))))))))))))))))))))))))) (fun h => in_wsX90 w h)) (fun h => in_wsX100 w h)) (fun h => in_wsX30 w h)) (fun h => in_wsX40 w h)) (fun h => in_wsX20 w h)) (fun h => in_wsX60 w h)) (fun h => in_wsX80 w h)) (fun h => in_wsX10 w h)) (fun h => in_wsX110 w h)) (fun h => in_wsX00 w h)) (fun h => in_wsX70 w h)) (fun h => in_wsX50 w h)) (fun h => absurd h List.not_mem_nil)
theorem wsL_law_x0 : ∀ w ∈ (vx_atS RX9 334 "java/lang/IllegalArgumentException" ["java/lang/RuntimeException", "java/lang/Exception"]).filter goodWord, w ∈ lw_tbl := by decide +kernel
theorem wsL_law_x1 : ∀ w ∈ (vx_atS RX9 329 "java/lang/IndexOutOfBoundsException" ["java/lang/RuntimeException", "java/lang/Exception"]).filter goodWord, w ∈ lw_tbl := by decide +kernel
theorem wsL_law_x2 : ∀ w ∈ (vx_atS RX9 319 "java/lang/IllegalStateException" ["java/lang/RuntimeException", "java/lang/Exception"]).filter goodWord, w ∈ lw_tbl := by decide +kernel
theorem wsL_law_in : ∀ w ∈ wsL_law, w ∈ lw_tbl := fun w h => (List.mem_append.mp h).elim (fun h => (List.mem_append.mp h).elim (fun h => (List.mem_append.mp h).elim (fun h => wsL_law_in0 w h) (fun h => wsL_law_x0 w h)) (fun h => wsL_law_x1 w h)) (fun h => wsL_law_x2 w h)
theorem inlX0 : ∀ w ∈ wsX00, w ∈ wsL_law := fun _ h => List.mem_append_left _ (List.mem_append_left _ (List.mem_append_left _ (List.mem_append_left _ (List.mem_append_left _ (List.mem_append_left _ (List.mem_append_right _ h))))))
theorem inX0 : ∀ w ∈ wsX00, w ∈ lw_tbl := fun w h => wsL_law_in w (inlX0 w h)
theorem inlX1 : ∀ w ∈ wsX10, w ∈ wsL_law := fun _ h => List.mem_append_left _ (List.mem_append_left _ (List.mem_append_left _ (List.mem_append_left _ (List.mem_append_left _ (List.mem_append_left _ (List.mem_append_left _ (List.mem_append_left _ (List.mem_append_right _ h))))))))
theorem inX1 : ∀ w ∈ wsX10, w ∈ lw_tbl := fun w h => wsL_law_in w (inlX1 w h)
theorem inlX2 : ∀ w ∈ wsX20, w ∈ wsL_law := fun _ h => List.mem_append_left _ (List.mem_append_left _ (List.mem_append_left _ (List.mem_append_left _ (List.mem_append_left _ (List.mem_append_left _ (List.mem_append_left _ (List.mem_append_left _ (List.mem_append_left _ (List.mem_append_left _ (List.mem_append_left _ (List.mem_append_right _ h)))))))))))
theorem inX2 : ∀ w ∈ wsX20, w ∈ lw_tbl := fun w h => wsL_law_in w (inlX2 w h)
theorem inlX3 : ∀ w ∈ wsX30, w ∈ wsL_law := fun _ h => List.mem_append_left _ (List.mem_append_left _ (List.mem_append_left _ (List.mem_append_left _ (List.mem_append_left _ (List.mem_append_left _ (List.mem_append_left _ (List.mem_append_left _ (List.mem_append_left _ (List.mem_append_left _ (List.mem_append_left _ (List.mem_append_left _ (List.mem_append_left _ (List.mem_append_right _ h)))))))))))))
theorem inX3 : ∀ w ∈ wsX30, w ∈ lw_tbl := fun w h => wsL_law_in w (inlX3 w h)
theorem inlX5 : ∀ w ∈ wsX50, w ∈ wsL_law := fun _ h => List.mem_append_left _ (List.mem_append_left _ (List.mem_append_left _ (List.mem_append_left _ (List.mem_append_right _ h))))
theorem inX5 : ∀ w ∈ wsX50, w ∈ lw_tbl := fun w h => wsL_law_in w (inlX5 w h)
theorem inlX6 : ∀ w ∈ wsX60, w ∈ wsL_law := fun _ h => List.mem_append_left _ (List.mem_append_left _ (List.mem_append_left _ (List.mem_append_left _ (List.mem_append_left _ (List.mem_append_left _ (List.mem_append_left _ (List.mem_append_left _ (List.mem_append_left _ (List.mem_append_left _ (List.mem_append_right _ h))))))))))
theorem inX6 : ∀ w ∈ wsX60, w ∈ lw_tbl := fun w h => wsL_law_in w (inlX6 w h)
theorem inlX4 : ∀ w ∈ wsX40, w ∈ wsL_law := fun _ h => List.mem_append_left _ (List.mem_append_left _ (List.mem_append_left _ (List.mem_append_left _ (List.mem_append_left _ (List.mem_append_left _ (List.mem_append_left _ (List.mem_append_left _ (List.mem_append_left _ (List.mem_append_left _ (List.mem_append_left _ (List.mem_append_left _ (List.mem_append_right _ h))))))))))))
theorem inX4 : ∀ w ∈ wsX40, w ∈ lw_tbl := fun w h => wsL_law_in w (inlX4 w h)
theorem inlX11 : ∀ w ∈ wsX110, w ∈ wsL_law := fun _ h => List.mem_append_left _ (List.mem_append_left _ (List.mem_append_left _ (List.mem_append_left _ (List.mem_append_left _ (List.mem_append_left _ (List.mem_append_left _ (List.mem_append_right _ h)))))))
theorem inX11 : ∀ w ∈ wsX110, w ∈ lw_tbl := fun w h => wsL_law_in w (inlX11 w h)
theorem inlX7 : ∀ w ∈ wsX70, w ∈ wsL_law := fun _ h => List.mem_append_left _ (List.mem_append_left _ (List.mem_append_left _ (List.mem_append_left _ (List.mem_append_left _ (List.mem_append_right _ h)))))
theorem inX7 : ∀ w ∈ wsX70, w ∈ lw_tbl := fun w h => wsL_law_in w (inlX7 w h)
theorem inlX8 : ∀ w ∈ wsX80, w ∈ wsL_law := fun _ h => List.mem_append_left _ (List.mem_append_left _ (List.mem_append_left _ (List.mem_append_left _ (List.mem_append_left _ (List.mem_append_left _ (List.mem_append_left _ (List.mem_append_left _ (List.mem_append_left _ (List.mem_append_right _ h)))))))))
theorem inX8 : ∀ w ∈ wsX80, w ∈ lw_tbl := fun w h => wsL_law_in w (inlX8 w h)
theorem inlX9 : ∀ w ∈ wsX90, w ∈ wsL_law := fun _ h => List.mem_append_left _ (List.mem_append_left _ (List.mem_append_left _ (List.mem_append_left _ (List.mem_append_left _ (List.mem_append_left _ (List.mem_append_left _ (List.mem_append_left _ (List.mem_append_left _ (List.mem_append_left _ (List.mem_append_left _ (List.mem_append_left _ (List.mem_append_left _ (List.mem_append_left _ (List.mem_append_left _ (List.mem_append_right _ h)))))))))))))))
theorem inX9 : ∀ w ∈ wsX90, w ∈ lw_tbl := fun w h => wsL_law_in w (inlX9 w h)
theorem inlX10 : ∀ w ∈ wsX100, w ∈ wsL_law := fun _ h => List.mem_append_left _ (List.mem_append_left _ (List.mem_append_left _ (List.mem_append_left _ (List.mem_append_left _ (List.mem_append_left _ (List.mem_append_left _ (List.mem_append_left _ (List.mem_append_left _ (List.mem_append_left _ (List.mem_append_left _ (List.mem_append_left _ (List.mem_append_left _ (List.mem_append_left _ (List.mem_append_right _ h))))))))))))))
theorem inX10 : ∀ w ∈ wsX100, w ∈ lw_tbl := fun w h => wsL_law_in w (inlX10 w h)
theorem inJ9 : ∀ w ∈ wsJ90, w ∈ lw_tbl := by decide +kernel
theorem inJ0 : ∀ w ∈ wsJ00, w ∈ lw_tbl := by decide +kernel
theorem inJ1 : ∀ w ∈ wsJ10, w ∈ lw_tbl := by decide +kernel
theorem inJ2 : ∀ w ∈ wsJ20, w ∈ lw_tbl := by decide +kernel
theorem inJ3 : ∀ w ∈ wsJ30, w ∈ lw_tbl := by decide +kernel
abbrev vwCl : List vw_C := [(RX0, TX0, 11), (RX1, TX1, 7), (RX2, TX2, 3), (RX3, TX3, 2), (RX4, TX4, 15), (RX5, TX5, 8), (RX6, TX6, 2), (RX7, TX7, 6), (RX8, TX8, 5), (RX9, TX9, 7), (RX10, TX10, 28), (RX11, TX11, 5)]
