/-! ===== BEGIN printed: names, fields, word lists, decode rows ===== -/
def RX0 : String := "CodedStore$Catalog"
def TX0 : u_T := fun k => match k with
  | 0 => ("CodedStore$Catalog", "disk", "LCodedStore$Disk;", true)
  | 1 => ("CodedStore$Catalog", "whole", "[Z", true)
  | 2 => ("CodedStore$Catalog", "live", "[Z", true)
  | _ => ("CodedStore$Catalog", "surveyedAt", "I", false)
def tyX0 : Nat → FieldType := fun k => match k with
  | 0 => .object "CodedStore$Disk"
  | 1 => .array .boolean
  | 2 => .array .boolean
  | _ => .int
abbrev wsX00 : List Cond := u_ws RX0 TX0 4
theorem nmX0 : ∀ a, a < 4 → ∀ b, b < 4 → a ≠ b → (TX0 a).2.1 ≠ (TX0 b).2.1 := by decide +kernel
theorem tyX0_ok : ∀ k, k < 4 → parseFieldDescriptor (TX0 k).2.2.1 = some (tyX0 k) := by decide +kernel
abbrev cX0_init : ByteArray := prog_2_method_1_code
def yX0_init : MethodName := ⟨RX0, "<init>", "(LCodedStore$Disk;)V"⟩
abbrev cX0_survey : ByteArray := prog_2_method_2_code
def yX0_survey : MethodName := ⟨RX0, "survey", "()V"⟩
abbrev cX0_hasAllParts : ByteArray := prog_2_method_3_code
def yX0_hasAllParts : MethodName := ⟨RX0, "hasAllParts", "(I)Z"⟩
abbrev cX0_isOutdone : ByteArray := prog_2_method_4_code
def yX0_isOutdone : MethodName := ⟨RX0, "isOutdone", "(I)Z"⟩
abbrev cX0_isLive : ByteArray := prog_2_method_5_code
def yX0_isLive : MethodName := ⟨RX0, "isLive", "(I)Z"⟩
abbrev cX0_isLeftOver : ByteArray := prog_2_method_6_code
def yX0_isLeftOver : MethodName := ⟨RX0, "isLeftOver", "(I)Z"⟩
abbrev cX0_isLiveGrave : ByteArray := prog_2_method_7_code
def yX0_isLiveGrave : MethodName := ⟨RX0, "isLiveGrave", "(I)Z"⟩
abbrev cX0_isText : ByteArray := prog_2_method_8_code
def yX0_isText : MethodName := ⟨RX0, "isText", "(I)Z"⟩
abbrev cX0_firstBlock : ByteArray := prog_2_method_9_code
def yX0_firstBlock : MethodName := ⟨RX0, "firstBlock", "(I)I"⟩
abbrev cX0_firstBlockOfRank : ByteArray := prog_2_method_10_code
def yX0_firstBlockOfRank : MethodName := ⟨RX0, "firstBlockOfRank", "(I)I"⟩
abbrev cX0_countTextsBelow : ByteArray := prog_2_method_11_code
def yX0_countTextsBelow : MethodName := ⟨RX0, "countTextsBelow", "(I)I"⟩
abbrev cX0_countTexts : ByteArray := prog_2_method_12_code
def yX0_countTexts : MethodName := ⟨RX0, "countTexts", "()I"⟩
abbrev cX0_countLive : ByteArray := prog_2_method_13_code
def yX0_countLive : MethodName := ⟨RX0, "countLive", "()I"⟩
abbrev cX0_countLiveGraves : ByteArray := prog_2_method_14_code
def yX0_countLiveGraves : MethodName := ⟨RX0, "countLiveGraves", "()I"⟩
def RX1 : String := "CodedStore$Coder"
def TX1 : u_T := fun k => match k with
  | _ => ("", "", "", false)
def tyX1 : Nat → FieldType := fun k => match k with
  | _ => .int
abbrev wsX10 : List Cond := u_ws RX1 TX1 0
theorem nmX1 : ∀ a, a < 0 → ∀ b, b < 0 → a ≠ b → (TX1 a).2.1 ≠ (TX1 b).2.1 := by decide +kernel
theorem tyX1_ok : ∀ k, k < 0 → parseFieldDescriptor (TX1 k).2.2.1 = some (tyX1 k) := by decide +kernel
abbrev cX1_encode : ByteArray := prog_3_method_2_code
def yX1_encode : MethodName := ⟨RX1, "encode", "(LCodedStore$Octets;LCodedStore$Octets;)V"⟩
abbrev cX1_bestDistance : ByteArray := prog_3_method_3_code
def yX1_bestDistance : MethodName := ⟨RX1, "bestDistance", "(LCodedStore$Octets;I)I"⟩
abbrev cX1_rowLength : ByteArray := prog_3_method_4_code
def yX1_rowLength : MethodName := ⟨RX1, "rowLength", "(LCodedStore$Octets;II)I"⟩
abbrev cX1_decode : ByteArray := prog_3_method_5_code
def yX1_decode : MethodName := ⟨RX1, "decode", "(LCodedStore$Octets;LCodedStore$Octets;)I"⟩
abbrev cX1_decodeSingle : ByteArray := prog_3_method_6_code
def yX1_decodeSingle : MethodName := ⟨RX1, "decodeSingle", "(LCodedStore$Octets;ILCodedStore$Octets;)I"⟩
abbrev cX1_decodeRow : ByteArray := prog_3_method_7_code
def yX1_decodeRow : MethodName := ⟨RX1, "decodeRow", "(LCodedStore$Octets;ILCodedStore$Octets;)I"⟩
def RX2 : String := "CodedStore$Disk"
def TX2 : u_T := fun k => match k with
  | 0 => ("CodedStore$Disk", "words", "[I", true)
  | 1 => ("CodedStore$Disk", "on", "Z", false)
  | 2 => ("CodedStore$Disk", "left", "I", false)
  | _ => ("CodedStore$Disk", "done", "I", false)
def tyX2 : Nat → FieldType := fun k => match k with
  | 0 => .array .int
  | 1 => .boolean
  | 2 => .int
  | _ => .int
abbrev wsX20 : List Cond := u_ws RX2 TX2 4
theorem nmX2 : ∀ a, a < 4 → ∀ b, b < 4 → a ≠ b → (TX2 a).2.1 ≠ (TX2 b).2.1 := by decide +kernel
theorem tyX2_ok : ∀ k, k < 4 → parseFieldDescriptor (TX2 k).2.2.1 = some (tyX2 k) := by decide +kernel
abbrev cX2_init : ByteArray := prog_4_method_1_code
def yX2_init : MethodName := ⟨RX2, "<init>", "()V"⟩
abbrev cX2_isOn : ByteArray := prog_4_method_2_code
def yX2_isOn : MethodName := ⟨RX2, "isOn", "()Z"⟩
abbrev cX2_switchOn : ByteArray := prog_4_method_3_code
def yX2_switchOn : MethodName := ⟨RX2, "switchOn", "()V"⟩
abbrev cX2_allowWrites : ByteArray := prog_4_method_4_code
def yX2_allowWrites : MethodName := ⟨RX2, "allowWrites", "(I)V"⟩
abbrev cX2_writesLeft : ByteArray := prog_4_method_5_code
def yX2_writesLeft : MethodName := ⟨RX2, "writesLeft", "()I"⟩
abbrev cX2_writesDone : ByteArray := prog_4_method_6_code
def yX2_writesDone : MethodName := ⟨RX2, "writesDone", "()I"⟩
abbrev cX2_write : ByteArray := prog_4_method_7_code
def yX2_write : MethodName := ⟨RX2, "write", "(I[I)Z"⟩
abbrev cX2_wordAt : ByteArray := prog_4_method_8_code
def yX2_wordAt : MethodName := ⟨RX2, "wordAt", "(II)I"⟩
abbrev cX2_numberOf : ByteArray := prog_4_method_9_code
def yX2_numberOf : MethodName := ⟨RX2, "numberOf", "(I)I"⟩
abbrev cX2_partOf : ByteArray := prog_4_method_10_code
def yX2_partOf : MethodName := ⟨RX2, "partOf", "(I)I"⟩
abbrev cX2_partsOf : ByteArray := prog_4_method_11_code
def yX2_partsOf : MethodName := ⟨RX2, "partsOf", "(I)I"⟩
abbrev cX2_formOf : ByteArray := prog_4_method_12_code
def yX2_formOf : MethodName := ⟨RX2, "formOf", "(I)I"⟩
abbrev cX2_keyOf : ByteArray := prog_4_method_13_code
def yX2_keyOf : MethodName := ⟨RX2, "keyOf", "(I)I"⟩
abbrev cX2_octetsOf : ByteArray := prog_4_method_14_code
def yX2_octetsOf : MethodName := ⟨RX2, "octetsOf", "(I)I"⟩
abbrev cX2_greatestNumber : ByteArray := prog_4_method_15_code
def yX2_greatestNumber : MethodName := ⟨RX2, "greatestNumber", "()I"⟩
abbrev cX2_blockOf : ByteArray := prog_4_method_16_code
def yX2_blockOf : MethodName := ⟨RX2, "blockOf", "(II)I"⟩
def RX3 : String := "CodedStore$Octets"
def TX3 : u_T := fun k => match k with
  | 0 => ("CodedStore$Octets", "octets", "[I", true)
  | _ => ("CodedStore$Octets", "size", "I", false)
def tyX3 : Nat → FieldType := fun k => match k with
  | 0 => .array .int
  | _ => .int
abbrev wsX30 : List Cond := u_ws RX3 TX3 2
theorem nmX3 : ∀ a, a < 2 → ∀ b, b < 2 → a ≠ b → (TX3 a).2.1 ≠ (TX3 b).2.1 := by decide +kernel
theorem tyX3_ok : ∀ k, k < 2 → parseFieldDescriptor (TX3 k).2.2.1 = some (tyX3 k) := by decide +kernel
abbrev cX3_init : ByteArray := prog_5_method_1_code
def yX3_init : MethodName := ⟨RX3, "<init>", "()V"⟩
abbrev cX3_size : ByteArray := prog_5_method_2_code
def yX3_size : MethodName := ⟨RX3, "size", "()I"⟩
abbrev cX3_empty : ByteArray := prog_5_method_3_code
def yX3_empty : MethodName := ⟨RX3, "empty", "()V"⟩
abbrev cX3_append : ByteArray := prog_5_method_4_code
def yX3_append : MethodName := ⟨RX3, "append", "(I)V"⟩
abbrev cX3_at : ByteArray := prog_5_method_5_code
def yX3_at : MethodName := ⟨RX3, "at", "(I)I"⟩
abbrev cX3_setBit : ByteArray := prog_5_method_6_code
def yX3_setBit : MethodName := ⟨RX3, "setBit", "(II)V"⟩
abbrev cX3_fourFrom : ByteArray := prog_5_method_7_code
def yX3_fourFrom : MethodName := ⟨RX3, "fourFrom", "(I)I"⟩
abbrev cX3_becomeLike : ByteArray := prog_5_method_8_code
def yX3_becomeLike : MethodName := ⟨RX3, "becomeLike", "(LCodedStore$Octets;)V"⟩
abbrev cX3_repeat : ByteArray := prog_5_method_9_code
def yX3_repeat : MethodName := ⟨RX3, "repeat", "(II)V"⟩
def RX4 : String := "CodedStore"
def TX4 : u_T := fun k => match k with
  | 0 => ("CodedStore", "disk", "LCodedStore$Disk;", true)
  | 1 => ("CodedStore", "catalog", "LCodedStore$Catalog;", true)
  | 2 => ("CodedStore", "tape", "LCodedStore$Octets;", true)
  | 3 => ("CodedStore", "loaded", "LCodedStore$Octets;", true)
  | 4 => ("CodedStore", "content", "LCodedStore$Octets;", true)
  | 5 => ("CodedStore", "decoded", "LCodedStore$Octets;", true)
  | 6 => ("CodedStore", "row", "[I", true)
  | 7 => ("CodedStore", "zeros", "[I", true)
  | _ => ("CodedStore", "failedPlace", "I", false)
def tyX4 : Nat → FieldType := fun k => match k with
  | 0 => .object "CodedStore$Disk"
  | 1 => .object "CodedStore$Catalog"
  | 2 => .object "CodedStore$Octets"
  | 3 => .object "CodedStore$Octets"
  | 4 => .object "CodedStore$Octets"
  | 5 => .object "CodedStore$Octets"
  | 6 => .array .int
  | 7 => .array .int
  | _ => .int
abbrev wsX40 : List Cond := u_ws RX4 TX4 9
theorem nmX4 : ∀ a, a < 9 → ∀ b, b < 9 → a ≠ b → (TX4 a).2.1 ≠ (TX4 b).2.1 := by decide +kernel
theorem tyX4_ok : ∀ k, k < 9 → parseFieldDescriptor (TX4 k).2.2.1 = some (tyX4 k) := by decide +kernel
abbrev cX4_init : ByteArray := prog_1_method_1_code
def yX4_init : MethodName := ⟨RX4, "<init>", "()V"⟩
abbrev cX4_feed : ByteArray := prog_1_method_2_code
def yX4_feed : MethodName := ⟨RX4, "feed", "(IJ)I"⟩
abbrev cX4_commit : ByteArray := prog_1_method_3_code
def yX4_commit : MethodName := ⟨RX4, "commit", "(I)I"⟩
abbrev cX4_delete : ByteArray := prog_1_method_4_code
def yX4_delete : MethodName := ⟨RX4, "delete", "(I)I"⟩
abbrev cX4_load : ByteArray := prog_1_method_5_code
def yX4_load : MethodName := ⟨RX4, "load", "(I)I"⟩
abbrev cX4_out : ByteArray := prog_1_method_6_code
def yX4_out : MethodName := ⟨RX4, "out", "(I)I"⟩
abbrev cX4_clean : ByteArray := prog_1_method_7_code
def yX4_clean : MethodName := ⟨RX4, "clean", "()I"⟩
abbrev cX4_power : ByteArray := prog_1_method_8_code
def yX4_power : MethodName := ⟨RX4, "power", "(I)I"⟩
abbrev cX4_recover : ByteArray := prog_1_method_9_code
def yX4_recover : MethodName := ⟨RX4, "recover", "()I"⟩
abbrev cX4_word : ByteArray := prog_1_method_10_code
def yX4_word : MethodName := ⟨RX4, "word", "(II)I"⟩
abbrev cX4_told : ByteArray := prog_1_method_11_code
def yX4_told : MethodName := ⟨RX4, "told", "(I)I"⟩
abbrev cX4_number : ByteArray := prog_1_method_12_code
def yX4_number : MethodName := ⟨RX4, "number", "(I)I"⟩
abbrev cX4_key : ByteArray := prog_1_method_13_code
def yX4_key : MethodName := ⟨RX4, "key", "(I)I"⟩
abbrev cX4_pack : ByteArray := prog_1_method_14_code
def yX4_pack : MethodName := ⟨RX4, "pack", "()I"⟩
abbrev cX4_unpack : ByteArray := prog_1_method_15_code
def yX4_unpack : MethodName := ⟨RX4, "unpack", "()I"⟩
abbrev cX4_place : ByteArray := prog_1_method_16_code
def yX4_place : MethodName := ⟨RX4, "place", "()I"⟩
abbrev cX4_surveyed : ByteArray := prog_1_method_17_code
def yX4_surveyed : MethodName := ⟨RX4, "surveyed", "()LCodedStore$Catalog;"⟩
abbrev cX4_putRecord : ByteArray := prog_1_method_18_code
def yX4_putRecord : MethodName := ⟨RX4, "putRecord", "(II)I"⟩
abbrev cX4_partsFor : ByteArray := prog_1_method_19_code
def yX4_partsFor : MethodName := ⟨RX4, "partsFor", "(I)I"⟩
abbrev cX4_fillRow : ByteArray := prog_1_method_20_code
def yX4_fillRow : MethodName := ⟨RX4, "fillRow", "(IIIII)V"⟩
abbrev cX4_gatherContent : ByteArray := prog_1_method_21_code
def yX4_gatherContent : MethodName := ⟨RX4, "gatherContent", "(I)V"⟩
def RX5 : String := "CodedStoreModel"
def TX5 : u_T := fun k => match k with
  | 0 => ("CodedStoreModel", "disk", "[I", true)
  | 1 => ("CodedStoreModel", "tape", "[I", true)
  | 2 => ("CodedStoreModel", "size", "I", false)
  | 3 => ("CodedStoreModel", "on", "Z", false)
  | 4 => ("CodedStoreModel", "until", "I", false)
  | 5 => ("CodedStoreModel", "writes", "I", false)
  | 6 => ("CodedStoreModel", "place", "I", false)
  | 7 => ("CodedStoreModel", "loaded", "[I", true)
  | 8 => ("CodedStoreModel", "loadedSize", "I", false)
  | 9 => ("CodedStoreModel", "made", "[I", true)
  | 10 => ("CodedStoreModel", "madeSize", "I", false)
  | 11 => ("CodedStoreModel", "hand", "[I", true)
  | 12 => ("CodedStoreModel", "handSize", "I", false)
  | 13 => ("CodedStoreModel", "thrown", "I", false)
  | _ => ("CodedStoreModel", "wasLive", "[Z", true)
def tyX5 : Nat → FieldType := fun k => match k with
  | 0 => .array .int
  | 1 => .array .int
  | 2 => .int
  | 3 => .boolean
  | 4 => .int
  | 5 => .int
  | 6 => .int
  | 7 => .array .int
  | 8 => .int
  | 9 => .array .int
  | 10 => .int
  | 11 => .array .int
  | 12 => .int
  | 13 => .int
  | _ => .array .boolean
abbrev wsX50 : List Cond := u_ws RX5 TX5 15
theorem nmX5 : ∀ a, a < 15 → ∀ b, b < 15 → a ≠ b → (TX5 a).2.1 ≠ (TX5 b).2.1 := by decide +kernel
theorem tyX5_ok : ∀ k, k < 15 → parseFieldDescriptor (TX5 k).2.2.1 = some (tyX5 k) := by decide +kernel
abbrev cX5_init : ByteArray := prog_7_method_1_code
def yX5_init : MethodName := ⟨RX5, "<init>", "()V"⟩
abbrev cX5_thrown : ByteArray := prog_7_method_2_code
def yX5_thrown : MethodName := ⟨RX5, "thrown", "()I"⟩
abbrev cX5_feed : ByteArray := prog_7_method_3_code
def yX5_feed : MethodName := ⟨RX5, "feed", "(IJ)I"⟩
abbrev cX5_alike : ByteArray := prog_7_method_4_code
def yX5_alike : MethodName := ⟨RX5, "alike", "(II)I"⟩
abbrev cX5_put : ByteArray := prog_7_method_5_code
def yX5_put : MethodName := ⟨RX5, "put", "(I)V"⟩
abbrev cX5_code : ByteArray := prog_7_method_6_code
def yX5_code : MethodName := ⟨RX5, "code", "()V"⟩
abbrev cX5_wrong : ByteArray := prog_7_method_7_code
def yX5_wrong : MethodName := ⟨RX5, "wrong", "(I)Z"⟩
abbrev cX5_decode : ByteArray := prog_7_method_8_code
def yX5_decode : MethodName := ⟨RX5, "decode", "()Z"⟩
abbrev cX5_load0 : ByteArray := prog_7_method_9_code
def yX5_load0 : MethodName := ⟨RX5, "load0", "()V"⟩
abbrev cX5_takeTape : ByteArray := prog_7_method_10_code
def yX5_takeTape : MethodName := ⟨RX5, "takeTape", "()V"⟩
abbrev cX5_pack : ByteArray := prog_7_method_11_code
def yX5_pack : MethodName := ⟨RX5, "pack", "()I"⟩
abbrev cX5_unpack : ByteArray := prog_7_method_12_code
def yX5_unpack : MethodName := ⟨RX5, "unpack", "()I"⟩
abbrev cX5_place : ByteArray := prog_7_method_13_code
def yX5_place : MethodName := ⟨RX5, "place", "()I"⟩
abbrev cX5_out : ByteArray := prog_7_method_14_code
def yX5_out : MethodName := ⟨RX5, "out", "(I)I"⟩
abbrev cX5_numberOf : ByteArray := prog_7_method_15_code
def yX5_numberOf : MethodName := ⟨RX5, "numberOf", "(I)I"⟩
abbrev cX5_partOf : ByteArray := prog_7_method_16_code
def yX5_partOf : MethodName := ⟨RX5, "partOf", "(I)I"⟩
abbrev cX5_partsOf : ByteArray := prog_7_method_17_code
def yX5_partsOf : MethodName := ⟨RX5, "partsOf", "(I)I"⟩
abbrev cX5_formOf : ByteArray := prog_7_method_18_code
def yX5_formOf : MethodName := ⟨RX5, "formOf", "(I)I"⟩
abbrev cX5_keyOf : ByteArray := prog_7_method_19_code
def yX5_keyOf : MethodName := ⟨RX5, "keyOf", "(I)I"⟩
abbrev cX5_isWhole : ByteArray := prog_7_method_20_code
def yX5_isWhole : MethodName := ⟨RX5, "isWhole", "(I)Z"⟩
abbrev cX5_isLive : ByteArray := prog_7_method_21_code
def yX5_isLive : MethodName := ⟨RX5, "isLive", "(I)Z"⟩
abbrev cX5_find : ByteArray := prog_7_method_22_code
def yX5_find : MethodName := ⟨RX5, "find", "(I)I"⟩
abbrev cX5_isText : ByteArray := prog_7_method_23_code
def yX5_isText : MethodName := ⟨RX5, "isText", "(I)Z"⟩
abbrev cX5_greatest : ByteArray := prog_7_method_24_code
def yX5_greatest : MethodName := ⟨RX5, "greatest", "()I"⟩
abbrev cX5_mayWrite : ByteArray := prog_7_method_25_code
def yX5_mayWrite : MethodName := ⟨RX5, "mayWrite", "()Z"⟩
abbrev cX5_findLive : ByteArray := prog_7_method_26_code
def yX5_findLive : MethodName := ⟨RX5, "findLive", "()I"⟩
abbrev cX5_word4 : ByteArray := prog_7_method_27_code
def yX5_word4 : MethodName := ⟨RX5, "word4", "(I)I"⟩
abbrev cX5_putRecord : ByteArray := prog_7_method_28_code
def yX5_putRecord : MethodName := ⟨RX5, "putRecord", "(II)I"⟩
abbrev cX5_commit : ByteArray := prog_7_method_29_code
def yX5_commit : MethodName := ⟨RX5, "commit", "(I)I"⟩
abbrev cX5_delete : ByteArray := prog_7_method_30_code
def yX5_delete : MethodName := ⟨RX5, "delete", "(I)I"⟩
abbrev cX5_load : ByteArray := prog_7_method_31_code
def yX5_load : MethodName := ⟨RX5, "load", "(I)I"⟩
abbrev cX5_zero : ByteArray := prog_7_method_32_code
def yX5_zero : MethodName := ⟨RX5, "zero", "(I)Z"⟩
abbrev cX5_clean : ByteArray := prog_7_method_33_code
def yX5_clean : MethodName := ⟨RX5, "clean", "()I"⟩
abbrev cX5_power : ByteArray := prog_7_method_34_code
def yX5_power : MethodName := ⟨RX5, "power", "(I)I"⟩
abbrev cX5_texts : ByteArray := prog_7_method_35_code
def yX5_texts : MethodName := ⟨RX5, "texts", "()I"⟩
abbrev cX5_recover : ByteArray := prog_7_method_36_code
def yX5_recover : MethodName := ⟨RX5, "recover", "()I"⟩
abbrev cX5_word : ByteArray := prog_7_method_37_code
def yX5_word : MethodName := ⟨RX5, "word", "(II)I"⟩
abbrev cX5_told : ByteArray := prog_7_method_38_code
def yX5_told : MethodName := ⟨RX5, "told", "(I)I"⟩
abbrev cX5_number : ByteArray := prog_7_method_39_code
def yX5_number : MethodName := ⟨RX5, "number", "(I)I"⟩
abbrev cX5_key : ByteArray := prog_7_method_40_code
def yX5_key : MethodName := ⟨RX5, "key", "(I)I"⟩
def RJ9 : String := "java/lang/Math"
def TJ9 : u_T := fun k => match k with
  | _ => ("", "", "", false)
def tyJ9 : Nat → FieldType := fun k => match k with
  | _ => .int
abbrev wsJ90 : List Cond := u_ws RJ9 TJ9 0
theorem nmJ9 : ∀ a, a < 0 → ∀ b, b < 0 → a ≠ b → (TJ9 a).2.1 ≠ (TJ9 b).2.1 := by decide +kernel
theorem tyJ9_ok : ∀ k, k < 0 → parseFieldDescriptor (TJ9 k).2.2.1 = some (tyJ9 k) := by decide +kernel
abbrev cJ9_max_7cf53 : ByteArray := prog_12_method_65_code
def yJ9_max_7cf53 : MethodName := ⟨RJ9, "max", "(II)I"⟩
abbrev cJ9_min_7cf53 : ByteArray := prog_12_method_69_code
def yJ9_min_7cf53 : MethodName := ⟨RJ9, "min", "(II)I"⟩
def RL : String := "CodedStoreLaw"
abbrev cL_feed : ByteArray := method_3_code
def yL_feed : MethodName := ⟨RL, "feed", "(LCodedStore;IJ[J)I"⟩
abbrev cL_power : ByteArray := method_4_code
def yL_power : MethodName := ⟨RL, "power", "(LCodedStore;I[J)I"⟩
abbrev cL_word : ByteArray := method_5_code
def yL_word : MethodName := ⟨RL, "word", "(LCodedStore;II[J)I"⟩
abbrev cL_told : ByteArray := method_6_code
def yL_told : MethodName := ⟨RL, "told", "(LCodedStore;I[J)I"⟩
abbrev cL_law : ByteArray := code
def yL_law : MethodName := ⟨RL, "law", "([I)Z"⟩
def wsX0_init : List Cond := .code yX0_init cX0_init 2 none :: ([.methodLink RX0 3 objectInit, .instanceMethod objectInit, .code objectInit ⟨#[0xb1]⟩ 1 none, .arrayClass .boolean, .fieldLink RX0 9 "CodedStore$Catalog" "whole" "[Z", .fieldLink RX0 15 "CodedStore$Catalog" "live" "[Z", .fieldLink RX0 18 "CodedStore$Catalog" "surveyedAt" "I", .fieldLink RX0 22 "CodedStore$Catalog" "disk" "LCodedStore$Disk;"] ++ wsX00)
def wsX2_writesDone : List Cond := .code yX2_writesDone cX2_writesDone 1 (some .int) :: ([.fieldLink RX2 23 "CodedStore$Disk" "done" "I"] ++ wsX20)
def wsX2_wordAt : List Cond := .code yX2_wordAt cX2_wordAt 3 (some .int) :: ([.fieldLink RX2 9 "CodedStore$Disk" "words" "[I"] ++ wsX20)
def wsX2_numberOf : List Cond := .code yX2_numberOf cX2_numberOf 2 (some .int) :: ([.methodLink RX2 26 yX2_wordAt, .instanceMethod yX2_wordAt, .selects RX2 yX2_wordAt yX2_wordAt, .initialized RX2, .code yX2_wordAt cX2_wordAt 3 (some .int), .fieldLink RX2 9 "CodedStore$Disk" "words" "[I"] ++ wsX20)
def wsX2_partsOf : List Cond := .code yX2_partsOf cX2_partsOf 2 (some .int) :: ([.methodLink RX2 26 yX2_wordAt, .instanceMethod yX2_wordAt, .selects RX2 yX2_wordAt yX2_wordAt, .initialized RX2, .code yX2_wordAt cX2_wordAt 3 (some .int), .fieldLink RX2 9 "CodedStore$Disk" "words" "[I"] ++ wsX20)
def wsX0_hasAllParts : List Cond := .code yX0_hasAllParts cX0_hasAllParts 4 (some .boolean) :: ([.fieldLink RX0 22 "CodedStore$Catalog" "disk" "LCodedStore$Disk;", .methodLink RX0 32 yX2_numberOf, .instanceMethod yX2_numberOf, .selects RX2 yX2_numberOf yX2_numberOf, .initialized RX2, .code yX2_numberOf cX2_numberOf 2 (some .int), .methodLink RX2 26 yX2_wordAt, .instanceMethod yX2_wordAt, .selects RX2 yX2_wordAt yX2_wordAt, .code yX2_wordAt cX2_wordAt 3 (some .int), .fieldLink RX2 9 "CodedStore$Disk" "words" "[I", .methodLink RX0 43 yX2_partsOf, .instanceMethod yX2_partsOf, .selects RX2 yX2_partsOf yX2_partsOf, .code yX2_partsOf cX2_partsOf 2 (some .int)] ++ wsX00 ++ wsX20)
def wsX2_keyOf : List Cond := .code yX2_keyOf cX2_keyOf 2 (some .int) :: ([.methodLink RX2 26 yX2_wordAt, .instanceMethod yX2_wordAt, .selects RX2 yX2_wordAt yX2_wordAt, .initialized RX2, .code yX2_wordAt cX2_wordAt 3 (some .int), .fieldLink RX2 9 "CodedStore$Disk" "words" "[I"] ++ wsX20)
def wsX0_isOutdone : List Cond := .code yX0_isOutdone cX0_isOutdone 3 (some .boolean) :: ([.fieldLink RX0 9 "CodedStore$Catalog" "whole" "[Z", .fieldLink RX0 22 "CodedStore$Catalog" "disk" "LCodedStore$Disk;", .methodLink RX0 46 yX2_keyOf, .instanceMethod yX2_keyOf, .selects RX2 yX2_keyOf yX2_keyOf, .initialized RX2, .code yX2_keyOf cX2_keyOf 2 (some .int), .methodLink RX2 26 yX2_wordAt, .instanceMethod yX2_wordAt, .selects RX2 yX2_wordAt yX2_wordAt, .code yX2_wordAt cX2_wordAt 3 (some .int), .fieldLink RX2 9 "CodedStore$Disk" "words" "[I", .methodLink RX0 32 yX2_numberOf, .instanceMethod yX2_numberOf, .selects RX2 yX2_numberOf yX2_numberOf, .code yX2_numberOf cX2_numberOf 2 (some .int)] ++ wsX00 ++ wsX20)
def wsX0_survey_r1 : List Cond := [Cond.fieldLink RX0 18 "CodedStore$Catalog" "surveyedAt" "I", Cond.fieldLink RX0 22 "CodedStore$Catalog" "disk" "LCodedStore$Disk;", Cond.fieldLink RX0 9 "CodedStore$Catalog" "whole" "[Z", Cond.fieldLink RX0 15 "CodedStore$Catalog" "live" "[Z", Cond.methodLink RX0 26 yX2_writesDone, Cond.instanceMethod yX2_writesDone, Cond.selects RX2 yX2_writesDone yX2_writesDone, Cond.initialized RX2, Cond.code yX2_writesDone cX2_writesDone 1 (some .int), Cond.fieldLink RX2 23 "CodedStore$Disk" "done" "I", Cond.methodLink RX0 32 yX2_numberOf, Cond.instanceMethod yX2_numberOf, Cond.selects RX2 yX2_numberOf yX2_numberOf, Cond.code yX2_numberOf cX2_numberOf 2 (some .int), Cond.methodLink RX2 26 yX2_wordAt, Cond.instanceMethod yX2_wordAt, Cond.selects RX2 yX2_wordAt yX2_wordAt, Cond.code yX2_wordAt cX2_wordAt 3 (some .int), Cond.fieldLink RX2 9 "CodedStore$Disk" "words" "[I", Cond.methodLink RX0 36 yX0_hasAllParts, Cond.instanceMethod yX0_hasAllParts, Cond.selects RX0 yX0_hasAllParts yX0_hasAllParts, Cond.initialized RX0, Cond.code yX0_hasAllParts cX0_hasAllParts 4 (some .boolean)]
def wsX0_survey_r2 : List Cond := [Cond.methodLink RX0 43 yX2_partsOf, Cond.instanceMethod yX2_partsOf, Cond.selects RX2 yX2_partsOf yX2_partsOf, Cond.code yX2_partsOf cX2_partsOf 2 (some .int), Cond.methodLink RX0 40 yX0_isOutdone, Cond.instanceMethod yX0_isOutdone, Cond.selects RX0 yX0_isOutdone yX0_isOutdone, Cond.code yX0_isOutdone cX0_isOutdone 3 (some .boolean), Cond.methodLink RX0 46 yX2_keyOf, Cond.instanceMethod yX2_keyOf, Cond.selects RX2 yX2_keyOf yX2_keyOf, Cond.code yX2_keyOf cX2_keyOf 2 (some .int)]
def wsX0_survey : List Cond := .code yX0_survey cX0_survey 2 none :: ((wsX0_survey_r1 ++ wsX0_survey_r2) ++ wsX00 ++ wsX20)
def wsX0_isLive : List Cond := .code yX0_isLive cX0_isLive 2 (some .boolean) :: ([.fieldLink RX0 15 "CodedStore$Catalog" "live" "[Z"] ++ wsX00)
def wsX0_isLeftOver : List Cond := .code yX0_isLeftOver cX0_isLeftOver 2 (some .boolean) :: ([.fieldLink RX0 22 "CodedStore$Catalog" "disk" "LCodedStore$Disk;", .methodLink RX0 49 yX0_isLive, .instanceMethod yX0_isLive, .selects RX0 yX0_isLive yX0_isLive, .initialized RX0, .code yX0_isLive cX0_isLive 2 (some .boolean), .fieldLink RX0 15 "CodedStore$Catalog" "live" "[Z", .methodLink RX0 32 yX2_numberOf, .instanceMethod yX2_numberOf, .selects RX2 yX2_numberOf yX2_numberOf, .initialized RX2, .code yX2_numberOf cX2_numberOf 2 (some .int), .methodLink RX2 26 yX2_wordAt, .instanceMethod yX2_wordAt, .selects RX2 yX2_wordAt yX2_wordAt, .code yX2_wordAt cX2_wordAt 3 (some .int), .fieldLink RX2 9 "CodedStore$Disk" "words" "[I"] ++ wsX00 ++ wsX20)
def wsX2_formOf : List Cond := .code yX2_formOf cX2_formOf 2 (some .int) :: ([.methodLink RX2 26 yX2_wordAt, .instanceMethod yX2_wordAt, .selects RX2 yX2_wordAt yX2_wordAt, .initialized RX2, .code yX2_wordAt cX2_wordAt 3 (some .int), .fieldLink RX2 9 "CodedStore$Disk" "words" "[I"] ++ wsX20)
def wsX0_isLiveGrave : List Cond := .code yX0_isLiveGrave cX0_isLiveGrave 2 (some .boolean) :: ([.fieldLink RX0 22 "CodedStore$Catalog" "disk" "LCodedStore$Disk;", .methodLink RX0 49 yX0_isLive, .instanceMethod yX0_isLive, .selects RX0 yX0_isLive yX0_isLive, .initialized RX0, .code yX0_isLive cX0_isLive 2 (some .boolean), .fieldLink RX0 15 "CodedStore$Catalog" "live" "[Z", .methodLink RX0 52 yX2_formOf, .instanceMethod yX2_formOf, .selects RX2 yX2_formOf yX2_formOf, .initialized RX2, .code yX2_formOf cX2_formOf 2 (some .int), .methodLink RX2 26 yX2_wordAt, .instanceMethod yX2_wordAt, .selects RX2 yX2_wordAt yX2_wordAt, .code yX2_wordAt cX2_wordAt 3 (some .int), .fieldLink RX2 9 "CodedStore$Disk" "words" "[I"] ++ wsX00 ++ wsX20)
def wsX2_partOf : List Cond := .code yX2_partOf cX2_partOf 2 (some .int) :: ([.methodLink RX2 26 yX2_wordAt, .instanceMethod yX2_wordAt, .selects RX2 yX2_wordAt yX2_wordAt, .initialized RX2, .code yX2_wordAt cX2_wordAt 3 (some .int), .fieldLink RX2 9 "CodedStore$Disk" "words" "[I"] ++ wsX20)
def wsX0_isText : List Cond := .code yX0_isText cX0_isText 2 (some .boolean) :: ([.fieldLink RX0 22 "CodedStore$Catalog" "disk" "LCodedStore$Disk;", .methodLink RX0 49 yX0_isLive, .instanceMethod yX0_isLive, .selects RX0 yX0_isLive yX0_isLive, .initialized RX0, .code yX0_isLive cX0_isLive 2 (some .boolean), .fieldLink RX0 15 "CodedStore$Catalog" "live" "[Z", .methodLink RX0 55 yX2_partOf, .instanceMethod yX2_partOf, .selects RX2 yX2_partOf yX2_partOf, .initialized RX2, .code yX2_partOf cX2_partOf 2 (some .int), .methodLink RX2 26 yX2_wordAt, .instanceMethod yX2_wordAt, .selects RX2 yX2_wordAt yX2_wordAt, .code yX2_wordAt cX2_wordAt 3 (some .int), .fieldLink RX2 9 "CodedStore$Disk" "words" "[I", .methodLink RX0 52 yX2_formOf, .instanceMethod yX2_formOf, .selects RX2 yX2_formOf yX2_formOf, .code yX2_formOf cX2_formOf 2 (some .int)] ++ wsX00 ++ wsX20)
def wsX0_firstBlock : List Cond := .code yX0_firstBlock cX0_firstBlock 3 (some .int) :: ([.fieldLink RX0 22 "CodedStore$Catalog" "disk" "LCodedStore$Disk;", .methodLink RX0 49 yX0_isLive, .instanceMethod yX0_isLive, .selects RX0 yX0_isLive yX0_isLive, .initialized RX0, .code yX0_isLive cX0_isLive 2 (some .boolean), .fieldLink RX0 15 "CodedStore$Catalog" "live" "[Z", .methodLink RX0 55 yX2_partOf, .instanceMethod yX2_partOf, .selects RX2 yX2_partOf yX2_partOf, .initialized RX2, .code yX2_partOf cX2_partOf 2 (some .int), .methodLink RX2 26 yX2_wordAt, .instanceMethod yX2_wordAt, .selects RX2 yX2_wordAt yX2_wordAt, .code yX2_wordAt cX2_wordAt 3 (some .int), .fieldLink RX2 9 "CodedStore$Disk" "words" "[I", .methodLink RX0 46 yX2_keyOf, .instanceMethod yX2_keyOf, .selects RX2 yX2_keyOf yX2_keyOf, .code yX2_keyOf cX2_keyOf 2 (some .int)] ++ wsX00 ++ wsX20)
def wsX0_countTextsBelow_r1 : List Cond := [Cond.fieldLink RX0 22 "CodedStore$Catalog" "disk" "LCodedStore$Disk;", Cond.methodLink RX0 58 yX0_isText, Cond.instanceMethod yX0_isText, Cond.selects RX0 yX0_isText yX0_isText, Cond.initialized RX0, Cond.code yX0_isText cX0_isText 2 (some .boolean), Cond.methodLink RX0 49 yX0_isLive, Cond.instanceMethod yX0_isLive, Cond.selects RX0 yX0_isLive yX0_isLive, Cond.code yX0_isLive cX0_isLive 2 (some .boolean), Cond.fieldLink RX0 15 "CodedStore$Catalog" "live" "[Z", Cond.methodLink RX0 55 yX2_partOf, Cond.instanceMethod yX2_partOf, Cond.selects RX2 yX2_partOf yX2_partOf, Cond.initialized RX2, Cond.code yX2_partOf cX2_partOf 2 (some .int), Cond.methodLink RX2 26 yX2_wordAt, Cond.instanceMethod yX2_wordAt, Cond.selects RX2 yX2_wordAt yX2_wordAt, Cond.code yX2_wordAt cX2_wordAt 3 (some .int), Cond.fieldLink RX2 9 "CodedStore$Disk" "words" "[I", Cond.methodLink RX0 52 yX2_formOf, Cond.instanceMethod yX2_formOf, Cond.selects RX2 yX2_formOf yX2_formOf]
def wsX0_countTextsBelow_r2 : List Cond := [Cond.code yX2_formOf cX2_formOf 2 (some .int), Cond.methodLink RX0 46 yX2_keyOf, Cond.instanceMethod yX2_keyOf, Cond.selects RX2 yX2_keyOf yX2_keyOf, Cond.code yX2_keyOf cX2_keyOf 2 (some .int)]
def wsX0_countTextsBelow : List Cond := .code yX0_countTextsBelow cX0_countTextsBelow 4 (some .int) :: ((wsX0_countTextsBelow_r1 ++ wsX0_countTextsBelow_r2) ++ wsX00 ++ wsX20)
def wsX0_firstBlockOfRank_r1 : List Cond := [Cond.fieldLink RX0 22 "CodedStore$Catalog" "disk" "LCodedStore$Disk;", Cond.methodLink RX0 58 yX0_isText, Cond.instanceMethod yX0_isText, Cond.selects RX0 yX0_isText yX0_isText, Cond.initialized RX0, Cond.code yX0_isText cX0_isText 2 (some .boolean), Cond.methodLink RX0 49 yX0_isLive, Cond.instanceMethod yX0_isLive, Cond.selects RX0 yX0_isLive yX0_isLive, Cond.code yX0_isLive cX0_isLive 2 (some .boolean), Cond.fieldLink RX0 15 "CodedStore$Catalog" "live" "[Z", Cond.methodLink RX0 55 yX2_partOf, Cond.instanceMethod yX2_partOf, Cond.selects RX2 yX2_partOf yX2_partOf, Cond.initialized RX2, Cond.code yX2_partOf cX2_partOf 2 (some .int), Cond.methodLink RX2 26 yX2_wordAt, Cond.instanceMethod yX2_wordAt, Cond.selects RX2 yX2_wordAt yX2_wordAt, Cond.code yX2_wordAt cX2_wordAt 3 (some .int), Cond.fieldLink RX2 9 "CodedStore$Disk" "words" "[I", Cond.methodLink RX0 52 yX2_formOf, Cond.instanceMethod yX2_formOf, Cond.selects RX2 yX2_formOf yX2_formOf]
def wsX0_firstBlockOfRank_r2 : List Cond := [Cond.code yX2_formOf cX2_formOf 2 (some .int), Cond.methodLink RX0 46 yX2_keyOf, Cond.instanceMethod yX2_keyOf, Cond.selects RX2 yX2_keyOf yX2_keyOf, Cond.code yX2_keyOf cX2_keyOf 2 (some .int), Cond.methodLink RX0 61 yX0_countTextsBelow, Cond.instanceMethod yX0_countTextsBelow, Cond.selects RX0 yX0_countTextsBelow yX0_countTextsBelow, Cond.code yX0_countTextsBelow cX0_countTextsBelow 4 (some .int)]
def wsX0_firstBlockOfRank : List Cond := .code yX0_firstBlockOfRank cX0_firstBlockOfRank 3 (some .int) :: ((wsX0_firstBlockOfRank_r1 ++ wsX0_firstBlockOfRank_r2) ++ wsX00 ++ wsX20)
def wsX0_countTexts_r1 : List Cond := [Cond.methodLink RX0 58 yX0_isText, Cond.instanceMethod yX0_isText, Cond.selects RX0 yX0_isText yX0_isText, Cond.initialized RX0, Cond.code yX0_isText cX0_isText 2 (some .boolean), Cond.fieldLink RX0 22 "CodedStore$Catalog" "disk" "LCodedStore$Disk;", Cond.methodLink RX0 49 yX0_isLive, Cond.instanceMethod yX0_isLive, Cond.selects RX0 yX0_isLive yX0_isLive, Cond.code yX0_isLive cX0_isLive 2 (some .boolean), Cond.fieldLink RX0 15 "CodedStore$Catalog" "live" "[Z", Cond.methodLink RX0 55 yX2_partOf, Cond.instanceMethod yX2_partOf, Cond.selects RX2 yX2_partOf yX2_partOf, Cond.initialized RX2, Cond.code yX2_partOf cX2_partOf 2 (some .int), Cond.methodLink RX2 26 yX2_wordAt, Cond.instanceMethod yX2_wordAt, Cond.selects RX2 yX2_wordAt yX2_wordAt, Cond.code yX2_wordAt cX2_wordAt 3 (some .int), Cond.fieldLink RX2 9 "CodedStore$Disk" "words" "[I", Cond.methodLink RX0 52 yX2_formOf, Cond.instanceMethod yX2_formOf, Cond.selects RX2 yX2_formOf yX2_formOf]
def wsX0_countTexts_r2 : List Cond := [Cond.code yX2_formOf cX2_formOf 2 (some .int)]
def wsX0_countTexts : List Cond := .code yX0_countTexts cX0_countTexts 3 (some .int) :: ((wsX0_countTexts_r1 ++ wsX0_countTexts_r2) ++ wsX00 ++ wsX20)
def wsX0_countLive : List Cond := .code yX0_countLive cX0_countLive 3 (some .int) :: ([.methodLink RX0 49 yX0_isLive, .instanceMethod yX0_isLive, .selects RX0 yX0_isLive yX0_isLive, .initialized RX0, .code yX0_isLive cX0_isLive 2 (some .boolean), .fieldLink RX0 15 "CodedStore$Catalog" "live" "[Z"] ++ wsX00)
def wsX0_countLiveGraves : List Cond := .code yX0_countLiveGraves cX0_countLiveGraves 3 (some .int) :: ([.methodLink RX0 64 yX0_isLiveGrave, .instanceMethod yX0_isLiveGrave, .selects RX0 yX0_isLiveGrave yX0_isLiveGrave, .initialized RX0, .code yX0_isLiveGrave cX0_isLiveGrave 2 (some .boolean), .fieldLink RX0 22 "CodedStore$Catalog" "disk" "LCodedStore$Disk;", .methodLink RX0 49 yX0_isLive, .instanceMethod yX0_isLive, .selects RX0 yX0_isLive yX0_isLive, .code yX0_isLive cX0_isLive 2 (some .boolean), .fieldLink RX0 15 "CodedStore$Catalog" "live" "[Z", .methodLink RX0 52 yX2_formOf, .instanceMethod yX2_formOf, .selects RX2 yX2_formOf yX2_formOf, .initialized RX2, .code yX2_formOf cX2_formOf 2 (some .int), .methodLink RX2 26 yX2_wordAt, .instanceMethod yX2_wordAt, .selects RX2 yX2_wordAt yX2_wordAt, .code yX2_wordAt cX2_wordAt 3 (some .int), .fieldLink RX2 9 "CodedStore$Disk" "words" "[I"] ++ wsX00 ++ wsX20)
def wsX3_empty : List Cond := .code yX3_empty cX3_empty 1 none :: ([.fieldLink RX3 15 "CodedStore$Octets" "size" "I"] ++ wsX30)
def wsX3_size : List Cond := .code yX3_size cX3_size 1 (some .int) :: ([.fieldLink RX3 15 "CodedStore$Octets" "size" "I"] ++ wsX30)
def wsX3_append : List Cond := .code yX3_append cX3_append 2 none :: ([.fieldLink RX3 15 "CodedStore$Octets" "size" "I", .fieldLink RX3 9 "CodedStore$Octets" "octets" "[I"] ++ wsX30)
def wsX3_at : List Cond := .code yX3_at cX3_at 2 (some .int) :: ([.fieldLink RX3 15 "CodedStore$Octets" "size" "I", .fieldLink RX3 9 "CodedStore$Octets" "octets" "[I"] ++ wsX30)
def wsX1_rowLength : List Cond := .code yX1_rowLength cX1_rowLength 5 (some .int) :: ([.methodLink RX1 40 Lib.Math.min.name, .static Lib.Math.min.name, .initialized "java/lang/Math", .code Lib.Math.min.name Lib.Math.min.code 2 (some .int), .methodLink RX1 14 yX3_size, .instanceMethod yX3_size, .selects RX3 yX3_size yX3_size, .initialized RX3, .code yX3_size cX3_size 1 (some .int), .fieldLink RX3 15 "CodedStore$Octets" "size" "I", .methodLink RX1 32 yX3_at, .instanceMethod yX3_at, .selects RX3 yX3_at yX3_at, .code yX3_at cX3_at 2 (some .int), .fieldLink RX3 9 "CodedStore$Octets" "octets" "[I"] ++ wsX30)
def wsX1_bestDistance : List Cond := .code yX1_bestDistance cX1_bestDistance 7 (some .int) :: ([.methodLink RX1 40 Lib.Math.min.name, .static Lib.Math.min.name, .initialized "java/lang/Math", .code Lib.Math.min.name Lib.Math.min.code 2 (some .int), .methodLink RX1 14 yX3_size, .instanceMethod yX3_size, .selects RX3 yX3_size yX3_size, .initialized RX3, .code yX3_size cX3_size 1 (some .int), .fieldLink RX3 15 "CodedStore$Octets" "size" "I", .methodLink RX1 36 yX1_rowLength, .static yX1_rowLength, .initialized RX1, .code yX1_rowLength cX1_rowLength 5 (some .int), .methodLink RX1 32 yX3_at, .instanceMethod yX3_at, .selects RX3 yX3_at yX3_at, .code yX3_at cX3_at 2 (some .int), .fieldLink RX3 9 "CodedStore$Octets" "octets" "[I"] ++ wsX30)
def wsX3_setBit : List Cond := .code yX3_setBit cX3_setBit 3 none :: ([.fieldLink RX3 15 "CodedStore$Octets" "size" "I", .fieldLink RX3 9 "CodedStore$Octets" "octets" "[I"] ++ wsX30)
def wsX1_encode_r1 : List Cond := [Cond.methodLink RX1 9 yX3_empty, Cond.instanceMethod yX3_empty, Cond.selects RX3 yX3_empty yX3_empty, Cond.initialized RX3, Cond.code yX3_empty cX3_empty 1 none, Cond.fieldLink RX3 15 "CodedStore$Octets" "size" "I", Cond.methodLink RX1 14 yX3_size, Cond.instanceMethod yX3_size, Cond.selects RX3 yX3_size yX3_size, Cond.code yX3_size cX3_size 1 (some .int), Cond.methodLink RX1 18 yX3_append, Cond.instanceMethod yX3_append, Cond.selects RX3 yX3_append yX3_append, Cond.code yX3_append cX3_append 2 none, Cond.fieldLink RX3 9 "CodedStore$Octets" "octets" "[I", Cond.methodLink RX1 22 yX1_bestDistance, Cond.static yX1_bestDistance, Cond.initialized RX1, Cond.code yX1_bestDistance cX1_bestDistance 7 (some .int), Cond.methodLink RX1 40 Lib.Math.min.name, Cond.static Lib.Math.min.name, Cond.initialized "java/lang/Math", Cond.code Lib.Math.min.name Lib.Math.min.code 2 (some .int), Cond.methodLink RX1 36 yX1_rowLength]
def wsX1_encode_r2 : List Cond := [Cond.static yX1_rowLength, Cond.code yX1_rowLength cX1_rowLength 5 (some .int), Cond.methodLink RX1 32 yX3_at, Cond.instanceMethod yX3_at, Cond.selects RX3 yX3_at yX3_at, Cond.code yX3_at cX3_at 2 (some .int), Cond.methodLink RX1 28 yX3_setBit, Cond.instanceMethod yX3_setBit, Cond.selects RX3 yX3_setBit yX3_setBit, Cond.code yX3_setBit cX3_setBit 3 none]
def wsX1_encode : List Cond := .code yX1_encode cX1_encode 9 none :: ((wsX1_encode_r1 ++ wsX1_encode_r2) ++ wsX30)
def wsX1_decodeSingle : List Cond := .code yX1_decodeSingle cX1_decodeSingle 3 (some .int) :: ([.methodLink RX1 14 yX3_size, .instanceMethod yX3_size, .selects RX3 yX3_size yX3_size, .initialized RX3, .code yX3_size cX3_size 1 (some .int), .fieldLink RX3 15 "CodedStore$Octets" "size" "I", .methodLink RX1 32 yX3_at, .instanceMethod yX3_at, .selects RX3 yX3_at yX3_at, .code yX3_at cX3_at 2 (some .int), .fieldLink RX3 9 "CodedStore$Octets" "octets" "[I", .methodLink RX1 18 yX3_append, .instanceMethod yX3_append, .selects RX3 yX3_append yX3_append, .code yX3_append cX3_append 2 none] ++ wsX30)
def wsX3_repeat : List Cond := .code yX3_repeat cX3_repeat 4 none :: ([.fieldLink RX3 15 "CodedStore$Octets" "size" "I", .methodLink RX3 19 yX3_at, .instanceMethod yX3_at, .selects RX3 yX3_at yX3_at, .initialized RX3, .code yX3_at cX3_at 2 (some .int), .fieldLink RX3 9 "CodedStore$Octets" "octets" "[I", .methodLink RX3 26 yX3_append, .instanceMethod yX3_append, .selects RX3 yX3_append yX3_append, .code yX3_append cX3_append 2 none] ++ wsX30)
def wsX1_decodeRow : List Cond := .code yX1_decodeRow cX1_decodeRow 5 (some .int) :: ([.methodLink RX1 14 yX3_size, .instanceMethod yX3_size, .selects RX3 yX3_size yX3_size, .initialized RX3, .code yX3_size cX3_size 1 (some .int), .fieldLink RX3 15 "CodedStore$Octets" "size" "I", .methodLink RX1 32 yX3_at, .instanceMethod yX3_at, .selects RX3 yX3_at yX3_at, .code yX3_at cX3_at 2 (some .int), .fieldLink RX3 9 "CodedStore$Octets" "octets" "[I", .methodLink RX1 53 yX3_repeat, .instanceMethod yX3_repeat, .selects RX3 yX3_repeat yX3_repeat, .code yX3_repeat cX3_repeat 4 none, .methodLink RX3 19 yX3_at, .methodLink RX3 26 yX3_append, .instanceMethod yX3_append, .selects RX3 yX3_append yX3_append, .code yX3_append cX3_append 2 none] ++ wsX30)
def wsX1_decode_r1 : List Cond := [Cond.methodLink RX1 9 yX3_empty, Cond.instanceMethod yX3_empty, Cond.selects RX3 yX3_empty yX3_empty, Cond.initialized RX3, Cond.code yX3_empty cX3_empty 1 none, Cond.fieldLink RX3 15 "CodedStore$Octets" "size" "I", Cond.methodLink RX1 14 yX3_size, Cond.instanceMethod yX3_size, Cond.selects RX3 yX3_size yX3_size, Cond.code yX3_size cX3_size 1 (some .int), Cond.methodLink RX1 32 yX3_at, Cond.instanceMethod yX3_at, Cond.selects RX3 yX3_at yX3_at, Cond.code yX3_at cX3_at 2 (some .int), Cond.fieldLink RX3 9 "CodedStore$Octets" "octets" "[I", Cond.methodLink RX1 46 yX1_decodeSingle, Cond.static yX1_decodeSingle, Cond.initialized RX1, Cond.code yX1_decodeSingle cX1_decodeSingle 3 (some .int), Cond.methodLink RX1 18 yX3_append, Cond.instanceMethod yX3_append, Cond.selects RX3 yX3_append yX3_append, Cond.code yX3_append cX3_append 2 none, Cond.methodLink RX1 50 yX1_decodeRow]
def wsX1_decode_r2 : List Cond := [Cond.static yX1_decodeRow, Cond.code yX1_decodeRow cX1_decodeRow 5 (some .int), Cond.methodLink RX1 53 yX3_repeat, Cond.instanceMethod yX3_repeat, Cond.selects RX3 yX3_repeat yX3_repeat, Cond.code yX3_repeat cX3_repeat 4 none, Cond.methodLink RX3 19 yX3_at, Cond.methodLink RX3 26 yX3_append]
def wsX1_decode : List Cond := .code yX1_decode cX1_decode 8 (some .int) :: ((wsX1_decode_r1 ++ wsX1_decode_r2) ++ wsX30)
def wsX2_init : List Cond := .code yX2_init cX2_init 1 none :: ([.methodLink RX2 3 objectInit, .instanceMethod objectInit, .code objectInit ⟨#[0xb1]⟩ 1 none, .arrayClass .int, .fieldLink RX2 9 "CodedStore$Disk" "words" "[I", .fieldLink RX2 15 "CodedStore$Disk" "on" "Z", .fieldLink RX2 19 "CodedStore$Disk" "left" "I"] ++ wsX20)
def wsX2_isOn : List Cond := .code yX2_isOn cX2_isOn 1 (some .boolean) :: ([.fieldLink RX2 15 "CodedStore$Disk" "on" "Z"] ++ wsX20)
def wsX2_switchOn : List Cond := .code yX2_switchOn cX2_switchOn 1 none :: ([.fieldLink RX2 15 "CodedStore$Disk" "on" "Z", .fieldLink RX2 19 "CodedStore$Disk" "left" "I"] ++ wsX20)
def wsX2_allowWrites : List Cond := .code yX2_allowWrites cX2_allowWrites 2 none :: ([.fieldLink RX2 19 "CodedStore$Disk" "left" "I"] ++ wsX20)
def wsX2_writesLeft : List Cond := .code yX2_writesLeft cX2_writesLeft 1 (some .int) :: ([.fieldLink RX2 19 "CodedStore$Disk" "left" "I"] ++ wsX20)
def wsX2_write : List Cond := .code yX2_write cX2_write 4 (some .boolean) :: ([.fieldLink RX2 15 "CodedStore$Disk" "on" "Z", .fieldLink RX2 19 "CodedStore$Disk" "left" "I", .fieldLink RX2 9 "CodedStore$Disk" "words" "[I", .fieldLink RX2 23 "CodedStore$Disk" "done" "I"] ++ wsX20)
def wsX2_octetsOf : List Cond := .code yX2_octetsOf cX2_octetsOf 2 (some .int) :: ([.methodLink RX2 26 yX2_wordAt, .instanceMethod yX2_wordAt, .selects RX2 yX2_wordAt yX2_wordAt, .initialized RX2, .code yX2_wordAt cX2_wordAt 3 (some .int), .fieldLink RX2 9 "CodedStore$Disk" "words" "[I"] ++ wsX20)
def wsX2_greatestNumber : List Cond := .code yX2_greatestNumber cX2_greatestNumber 3 (some .int) :: ([.methodLink RX2 34 Lib.Math.max.name, .static Lib.Math.max.name, .initialized "java/lang/Math", .code Lib.Math.max.name Lib.Math.max.code 2 (some .int), .methodLink RX2 30 yX2_numberOf, .instanceMethod yX2_numberOf, .selects RX2 yX2_numberOf yX2_numberOf, .initialized RX2, .code yX2_numberOf cX2_numberOf 2 (some .int), .methodLink RX2 26 yX2_wordAt, .instanceMethod yX2_wordAt, .selects RX2 yX2_wordAt yX2_wordAt, .code yX2_wordAt cX2_wordAt 3 (some .int), .fieldLink RX2 9 "CodedStore$Disk" "words" "[I"] ++ wsX20)
def wsX2_blockOf : List Cond := .code yX2_blockOf cX2_blockOf 4 (some .int) :: ([.methodLink RX2 30 yX2_numberOf, .instanceMethod yX2_numberOf, .selects RX2 yX2_numberOf yX2_numberOf, .initialized RX2, .code yX2_numberOf cX2_numberOf 2 (some .int), .methodLink RX2 26 yX2_wordAt, .instanceMethod yX2_wordAt, .selects RX2 yX2_wordAt yX2_wordAt, .code yX2_wordAt cX2_wordAt 3 (some .int), .fieldLink RX2 9 "CodedStore$Disk" "words" "[I", .methodLink RX2 39 yX2_partOf, .instanceMethod yX2_partOf, .selects RX2 yX2_partOf yX2_partOf, .code yX2_partOf cX2_partOf 2 (some .int)] ++ wsX20)
def wsX3_init : List Cond := .code yX3_init cX3_init 1 none :: ([.methodLink RX3 3 objectInit, .instanceMethod objectInit, .code objectInit ⟨#[0xb1]⟩ 1 none, .arrayClass .int, .fieldLink RX3 9 "CodedStore$Octets" "octets" "[I"] ++ wsX30)
def wsX3_fourFrom : List Cond := .code yX3_fourFrom cX3_fourFrom 2 (some .int) :: ([.methodLink RX3 19 yX3_at, .instanceMethod yX3_at, .selects RX3 yX3_at yX3_at, .initialized RX3, .code yX3_at cX3_at 2 (some .int), .fieldLink RX3 15 "CodedStore$Octets" "size" "I", .fieldLink RX3 9 "CodedStore$Octets" "octets" "[I"] ++ wsX30)
def wsX3_becomeLike : List Cond := .code yX3_becomeLike cX3_becomeLike 3 none :: ([.fieldLink RX3 15 "CodedStore$Octets" "size" "I", .methodLink RX3 23 yX3_empty, .instanceMethod yX3_empty, .selects RX3 yX3_empty yX3_empty, .initialized RX3, .code yX3_empty cX3_empty 1 none, .methodLink RX3 19 yX3_at, .instanceMethod yX3_at, .selects RX3 yX3_at yX3_at, .code yX3_at cX3_at 2 (some .int), .fieldLink RX3 9 "CodedStore$Octets" "octets" "[I", .methodLink RX3 26 yX3_append, .instanceMethod yX3_append, .selects RX3 yX3_append yX3_append, .code yX3_append cX3_append 2 none] ++ wsX30)
def wsX4_init_r1 : List Cond := [Cond.methodLink RX4 1 objectInit, Cond.instanceMethod objectInit, Cond.code objectInit ⟨#[0xb1]⟩ 1 none, Cond.classLink RX4 7 RX2, Cond.instantiable RX2 4, Cond.initialized RX2, Cond.fieldLink RX4 10 "CodedStore" "disk" "LCodedStore$Disk;", Cond.classLink RX4 16 RX0, Cond.instantiable RX0 4, Cond.initialized RX0, Cond.fieldLink RX4 21 "CodedStore" "catalog" "LCodedStore$Catalog;", Cond.classLink RX4 25 RX3, Cond.instantiable RX3 2, Cond.initialized RX3, Cond.fieldLink RX4 28 "CodedStore" "tape" "LCodedStore$Octets;", Cond.fieldLink RX4 32 "CodedStore" "loaded" "LCodedStore$Octets;", Cond.fieldLink RX4 35 "CodedStore" "content" "LCodedStore$Octets;", Cond.fieldLink RX4 38 "CodedStore" "decoded" "LCodedStore$Octets;", Cond.arrayClass .int, Cond.fieldLink RX4 41 "CodedStore" "row" "[I", Cond.fieldLink RX4 45 "CodedStore" "zeros" "[I", Cond.fieldLink RX4 48 "CodedStore" "failedPlace" "I", Cond.instanceMethod yX2_init, Cond.code yX2_init cX2_init 1 none]
def wsX4_init_r2 : List Cond := [Cond.methodLink RX2 3 objectInit, Cond.fieldLink RX2 9 "CodedStore$Disk" "words" "[I", Cond.fieldLink RX2 15 "CodedStore$Disk" "on" "Z", Cond.fieldLink RX2 19 "CodedStore$Disk" "left" "I", Cond.methodLink RX4 18 yX0_init, Cond.instanceMethod yX0_init, Cond.code yX0_init cX0_init 2 none, Cond.methodLink RX0 3 objectInit, Cond.arrayClass .boolean, Cond.fieldLink RX0 9 "CodedStore$Catalog" "whole" "[Z", Cond.fieldLink RX0 15 "CodedStore$Catalog" "live" "[Z", Cond.fieldLink RX0 18 "CodedStore$Catalog" "surveyedAt" "I", Cond.fieldLink RX0 22 "CodedStore$Catalog" "disk" "LCodedStore$Disk;", Cond.instanceMethod yX3_init, Cond.code yX3_init cX3_init 1 none, Cond.methodLink RX3 3 objectInit, Cond.fieldLink RX3 9 "CodedStore$Octets" "octets" "[I"]
def wsX4_init : List Cond := .code yX4_init cX4_init 1 none :: ((wsX4_init_r1 ++ wsX4_init_r2) ++ wsX20 ++ wsX40 ++ wsX00 ++ wsX30)
def wsX4_feed : List Cond := .code yX4_feed cX4_feed 5 (some .int) :: ([.classLink RX4 56 "java/lang/IllegalArgumentException", .initialized "java/lang/IllegalArgumentException", .fieldLink RX4 28 "CodedStore" "tape" "LCodedStore$Octets;", .methodLink RX4 52 yX3_size, .instanceMethod yX3_size, .selects RX3 yX3_size yX3_size, .initialized RX3, .code yX3_size cX3_size 1 (some .int), .fieldLink RX3 15 "CodedStore$Octets" "size" "I", .methodLink RX4 59 yX3_append, .instanceMethod yX3_append, .selects RX3 yX3_append yX3_append, .code yX3_append cX3_append 2 none, .fieldLink RX3 9 "CodedStore$Octets" "octets" "[I"] ++ wsX40 ++ wsX30 ++ (vx_at0 RX4 58 "java/lang/IllegalArgumentException" ["java/lang/RuntimeException", "java/lang/Exception"]).filter goodWord)
def wsX4_partsFor : List Cond := .code yX4_partsFor cX4_partsFor 1 (some .int) :: ([])
def wsX4_surveyed_r1 : List Cond := [Cond.fieldLink RX4 21 "CodedStore" "catalog" "LCodedStore$Catalog;", Cond.methodLink RX4 161 yX0_survey, Cond.instanceMethod yX0_survey, Cond.selects RX0 yX0_survey yX0_survey, Cond.initialized RX0, Cond.code yX0_survey cX0_survey 2 none, Cond.fieldLink RX0 18 "CodedStore$Catalog" "surveyedAt" "I", Cond.fieldLink RX0 22 "CodedStore$Catalog" "disk" "LCodedStore$Disk;", Cond.fieldLink RX0 9 "CodedStore$Catalog" "whole" "[Z", Cond.fieldLink RX0 15 "CodedStore$Catalog" "live" "[Z", Cond.methodLink RX0 26 yX2_writesDone, Cond.instanceMethod yX2_writesDone, Cond.selects RX2 yX2_writesDone yX2_writesDone, Cond.initialized RX2, Cond.code yX2_writesDone cX2_writesDone 1 (some .int), Cond.fieldLink RX2 23 "CodedStore$Disk" "done" "I", Cond.methodLink RX0 32 yX2_numberOf, Cond.instanceMethod yX2_numberOf, Cond.selects RX2 yX2_numberOf yX2_numberOf, Cond.code yX2_numberOf cX2_numberOf 2 (some .int), Cond.methodLink RX2 26 yX2_wordAt, Cond.instanceMethod yX2_wordAt, Cond.selects RX2 yX2_wordAt yX2_wordAt, Cond.code yX2_wordAt cX2_wordAt 3 (some .int)]
def wsX4_surveyed_r2 : List Cond := [Cond.fieldLink RX2 9 "CodedStore$Disk" "words" "[I", Cond.methodLink RX0 36 yX0_hasAllParts, Cond.instanceMethod yX0_hasAllParts, Cond.selects RX0 yX0_hasAllParts yX0_hasAllParts, Cond.code yX0_hasAllParts cX0_hasAllParts 4 (some .boolean), Cond.methodLink RX0 43 yX2_partsOf, Cond.instanceMethod yX2_partsOf, Cond.selects RX2 yX2_partsOf yX2_partsOf, Cond.code yX2_partsOf cX2_partsOf 2 (some .int), Cond.methodLink RX0 40 yX0_isOutdone, Cond.instanceMethod yX0_isOutdone, Cond.selects RX0 yX0_isOutdone yX0_isOutdone, Cond.code yX0_isOutdone cX0_isOutdone 3 (some .boolean), Cond.methodLink RX0 46 yX2_keyOf, Cond.instanceMethod yX2_keyOf, Cond.selects RX2 yX2_keyOf yX2_keyOf, Cond.code yX2_keyOf cX2_keyOf 2 (some .int)]
def wsX4_surveyed : List Cond := .code yX4_surveyed cX4_surveyed 1 (some (.object "CodedStore$Catalog")) :: ((wsX4_surveyed_r1 ++ wsX4_surveyed_r2) ++ wsX40 ++ wsX00 ++ wsX20)
def wsX4_fillRow : List Cond := .code yX4_fillRow cX4_fillRow 7 none :: ([.fieldLink RX4 41 "CodedStore" "row" "[I", .constant RX4 174 (65536), .fieldLink RX4 35 "CodedStore" "content" "LCodedStore$Octets;", .methodLink RX4 52 yX3_size, .instanceMethod yX3_size, .selects RX3 yX3_size yX3_size, .initialized RX3, .code yX3_size cX3_size 1 (some .int), .fieldLink RX3 15 "CodedStore$Octets" "size" "I", .methodLink RX4 175 yX3_fourFrom, .instanceMethod yX3_fourFrom, .selects RX3 yX3_fourFrom yX3_fourFrom, .code yX3_fourFrom cX3_fourFrom 2 (some .int), .methodLink RX3 19 yX3_at, .instanceMethod yX3_at, .selects RX3 yX3_at yX3_at, .code yX3_at cX3_at 2 (some .int), .fieldLink RX3 9 "CodedStore$Octets" "octets" "[I"] ++ wsX40 ++ wsX30)
def wsX4_putRecord_r1 : List Cond := [Cond.fieldLink RX4 35 "CodedStore" "content" "LCodedStore$Octets;", Cond.fieldLink RX4 10 "CodedStore" "disk" "LCodedStore$Disk;", Cond.fieldLink RX4 21 "CodedStore" "catalog" "LCodedStore$Catalog;", Cond.fieldLink RX4 41 "CodedStore" "row" "[I", Cond.methodLink RX4 52 yX3_size, Cond.instanceMethod yX3_size, Cond.selects RX3 yX3_size yX3_size, Cond.initialized RX3, Cond.code yX3_size cX3_size 1 (some .int), Cond.fieldLink RX3 15 "CodedStore$Octets" "size" "I", Cond.methodLink RX4 164 yX4_partsFor, Cond.static yX4_partsFor, Cond.initialized RX4, Cond.code yX4_partsFor cX4_partsFor 1 (some .int), Cond.methodLink RX4 84 yX4_surveyed, Cond.instanceMethod yX4_surveyed, Cond.selects RX4 yX4_surveyed yX4_surveyed, Cond.code yX4_surveyed cX4_surveyed 1 (some (.object "CodedStore$Catalog")), Cond.methodLink RX4 161 yX0_survey, Cond.instanceMethod yX0_survey, Cond.selects RX0 yX0_survey yX0_survey, Cond.initialized RX0, Cond.code yX0_survey cX0_survey 2 none, Cond.fieldLink RX0 18 "CodedStore$Catalog" "surveyedAt" "I"]
def wsX4_putRecord_r2 : List Cond := [Cond.fieldLink RX0 22 "CodedStore$Catalog" "disk" "LCodedStore$Disk;", Cond.fieldLink RX0 9 "CodedStore$Catalog" "whole" "[Z", Cond.fieldLink RX0 15 "CodedStore$Catalog" "live" "[Z", Cond.methodLink RX0 26 yX2_writesDone, Cond.instanceMethod yX2_writesDone, Cond.selects RX2 yX2_writesDone yX2_writesDone, Cond.initialized RX2, Cond.code yX2_writesDone cX2_writesDone 1 (some .int), Cond.fieldLink RX2 23 "CodedStore$Disk" "done" "I", Cond.methodLink RX0 32 yX2_numberOf, Cond.instanceMethod yX2_numberOf, Cond.selects RX2 yX2_numberOf yX2_numberOf, Cond.code yX2_numberOf cX2_numberOf 2 (some .int), Cond.methodLink RX2 26 yX2_wordAt, Cond.instanceMethod yX2_wordAt, Cond.selects RX2 yX2_wordAt yX2_wordAt, Cond.code yX2_wordAt cX2_wordAt 3 (some .int), Cond.fieldLink RX2 9 "CodedStore$Disk" "words" "[I", Cond.methodLink RX0 36 yX0_hasAllParts, Cond.instanceMethod yX0_hasAllParts, Cond.selects RX0 yX0_hasAllParts yX0_hasAllParts, Cond.code yX0_hasAllParts cX0_hasAllParts 4 (some .boolean), Cond.methodLink RX0 43 yX2_partsOf, Cond.instanceMethod yX2_partsOf]
def wsX4_putRecord_r3 : List Cond := [Cond.selects RX2 yX2_partsOf yX2_partsOf, Cond.code yX2_partsOf cX2_partsOf 2 (some .int), Cond.methodLink RX0 40 yX0_isOutdone, Cond.instanceMethod yX0_isOutdone, Cond.selects RX0 yX0_isOutdone yX0_isOutdone, Cond.code yX0_isOutdone cX0_isOutdone 3 (some .boolean), Cond.methodLink RX0 46 yX2_keyOf, Cond.instanceMethod yX2_keyOf, Cond.selects RX2 yX2_keyOf yX2_keyOf, Cond.code yX2_keyOf cX2_keyOf 2 (some .int), Cond.methodLink RX4 140 yX0_countLive, Cond.instanceMethod yX0_countLive, Cond.selects RX0 yX0_countLive yX0_countLive, Cond.code yX0_countLive cX0_countLive 3 (some .int), Cond.methodLink RX0 49 yX0_isLive, Cond.instanceMethod yX0_isLive, Cond.selects RX0 yX0_isLive yX0_isLive, Cond.code yX0_isLive cX0_isLive 2 (some .boolean), Cond.methodLink RX4 146 yX2_greatestNumber, Cond.instanceMethod yX2_greatestNumber, Cond.selects RX2 yX2_greatestNumber yX2_greatestNumber, Cond.code yX2_greatestNumber cX2_greatestNumber 3 (some .int), Cond.methodLink RX2 34 Lib.Math.max.name, Cond.static Lib.Math.max.name]
def wsX4_putRecord_r4 : List Cond := [Cond.initialized "java/lang/Math", Cond.code Lib.Math.max.name Lib.Math.max.code 2 (some .int), Cond.methodLink RX2 30 yX2_numberOf, Cond.methodLink RX4 167 yX0_isLive, Cond.methodLink RX4 170 yX4_fillRow, Cond.instanceMethod yX4_fillRow, Cond.selects RX4 yX4_fillRow yX4_fillRow, Cond.code yX4_fillRow cX4_fillRow 7 none, Cond.constant RX4 174 (65536), Cond.methodLink RX4 175 yX3_fourFrom, Cond.instanceMethod yX3_fourFrom, Cond.selects RX3 yX3_fourFrom yX3_fourFrom, Cond.code yX3_fourFrom cX3_fourFrom 2 (some .int), Cond.methodLink RX3 19 yX3_at, Cond.instanceMethod yX3_at, Cond.selects RX3 yX3_at yX3_at, Cond.code yX3_at cX3_at 2 (some .int), Cond.fieldLink RX3 9 "CodedStore$Octets" "octets" "[I", Cond.methodLink RX4 112 yX2_write, Cond.instanceMethod yX2_write, Cond.selects RX2 yX2_write yX2_write, Cond.code yX2_write cX2_write 4 (some .boolean), Cond.fieldLink RX2 15 "CodedStore$Disk" "on" "Z", Cond.fieldLink RX2 19 "CodedStore$Disk" "left" "I"]
def wsX4_putRecord : List Cond := .code yX4_putRecord cX4_putRecord 7 (some .int) :: ((wsX4_putRecord_r1 ++ (wsX4_putRecord_r2 ++ (wsX4_putRecord_r3 ++ wsX4_putRecord_r4))) ++ wsX40 ++ wsX30 ++ wsX00 ++ wsX20)
def wsX4_commit_r1 : List Cond := [Cond.fieldLink RX4 10 "CodedStore" "disk" "LCodedStore$Disk;", Cond.fieldLink RX4 28 "CodedStore" "tape" "LCodedStore$Octets;", Cond.fieldLink RX4 35 "CodedStore" "content" "LCodedStore$Octets;", Cond.methodLink RX4 63 yX2_isOn, Cond.instanceMethod yX2_isOn, Cond.selects RX2 yX2_isOn yX2_isOn, Cond.initialized RX2, Cond.code yX2_isOn cX2_isOn 1 (some .boolean), Cond.fieldLink RX2 15 "CodedStore$Disk" "on" "Z", Cond.methodLink RX4 67 yX1_encode, Cond.static yX1_encode, Cond.initialized RX1, Cond.code yX1_encode cX1_encode 9 none, Cond.methodLink RX1 9 yX3_empty, Cond.instanceMethod yX3_empty, Cond.selects RX3 yX3_empty yX3_empty, Cond.initialized RX3, Cond.code yX3_empty cX3_empty 1 none, Cond.fieldLink RX3 15 "CodedStore$Octets" "size" "I", Cond.methodLink RX1 14 yX3_size, Cond.instanceMethod yX3_size, Cond.selects RX3 yX3_size yX3_size, Cond.code yX3_size cX3_size 1 (some .int), Cond.methodLink RX1 18 yX3_append]
def wsX4_commit_r2 : List Cond := [Cond.instanceMethod yX3_append, Cond.selects RX3 yX3_append yX3_append, Cond.code yX3_append cX3_append 2 none, Cond.fieldLink RX3 9 "CodedStore$Octets" "octets" "[I", Cond.methodLink RX1 22 yX1_bestDistance, Cond.static yX1_bestDistance, Cond.code yX1_bestDistance cX1_bestDistance 7 (some .int), Cond.methodLink RX1 40 Lib.Math.min.name, Cond.static Lib.Math.min.name, Cond.initialized "java/lang/Math", Cond.code Lib.Math.min.name Lib.Math.min.code 2 (some .int), Cond.methodLink RX1 36 yX1_rowLength, Cond.static yX1_rowLength, Cond.code yX1_rowLength cX1_rowLength 5 (some .int), Cond.methodLink RX1 32 yX3_at, Cond.instanceMethod yX3_at, Cond.selects RX3 yX3_at yX3_at, Cond.code yX3_at cX3_at 2 (some .int), Cond.methodLink RX1 28 yX3_setBit, Cond.instanceMethod yX3_setBit, Cond.selects RX3 yX3_setBit yX3_setBit, Cond.code yX3_setBit cX3_setBit 3 none, Cond.methodLink RX4 52 yX3_size, Cond.methodLink RX4 73 yX3_becomeLike]
def wsX4_commit_r3 : List Cond := [Cond.instanceMethod yX3_becomeLike, Cond.selects RX3 yX3_becomeLike yX3_becomeLike, Cond.code yX3_becomeLike cX3_becomeLike 3 none, Cond.methodLink RX3 23 yX3_empty, Cond.methodLink RX3 19 yX3_at, Cond.methodLink RX3 26 yX3_append, Cond.methodLink RX4 77 yX3_empty, Cond.methodLink RX4 80 yX4_putRecord, Cond.instanceMethod yX4_putRecord, Cond.selects RX4 yX4_putRecord yX4_putRecord, Cond.initialized RX4, Cond.code yX4_putRecord cX4_putRecord 7 (some .int), Cond.fieldLink RX4 21 "CodedStore" "catalog" "LCodedStore$Catalog;", Cond.fieldLink RX4 41 "CodedStore" "row" "[I", Cond.methodLink RX4 164 yX4_partsFor, Cond.static yX4_partsFor, Cond.code yX4_partsFor cX4_partsFor 1 (some .int), Cond.methodLink RX4 84 yX4_surveyed, Cond.instanceMethod yX4_surveyed, Cond.selects RX4 yX4_surveyed yX4_surveyed, Cond.code yX4_surveyed cX4_surveyed 1 (some (.object "CodedStore$Catalog")), Cond.methodLink RX4 161 yX0_survey, Cond.instanceMethod yX0_survey, Cond.selects RX0 yX0_survey yX0_survey]
def wsX4_commit_r4 : List Cond := [Cond.initialized RX0, Cond.code yX0_survey cX0_survey 2 none, Cond.fieldLink RX0 18 "CodedStore$Catalog" "surveyedAt" "I", Cond.fieldLink RX0 22 "CodedStore$Catalog" "disk" "LCodedStore$Disk;", Cond.fieldLink RX0 9 "CodedStore$Catalog" "whole" "[Z", Cond.fieldLink RX0 15 "CodedStore$Catalog" "live" "[Z", Cond.methodLink RX0 26 yX2_writesDone, Cond.instanceMethod yX2_writesDone, Cond.selects RX2 yX2_writesDone yX2_writesDone, Cond.code yX2_writesDone cX2_writesDone 1 (some .int), Cond.fieldLink RX2 23 "CodedStore$Disk" "done" "I", Cond.methodLink RX0 32 yX2_numberOf, Cond.instanceMethod yX2_numberOf, Cond.selects RX2 yX2_numberOf yX2_numberOf, Cond.code yX2_numberOf cX2_numberOf 2 (some .int), Cond.methodLink RX2 26 yX2_wordAt, Cond.instanceMethod yX2_wordAt, Cond.selects RX2 yX2_wordAt yX2_wordAt, Cond.code yX2_wordAt cX2_wordAt 3 (some .int), Cond.fieldLink RX2 9 "CodedStore$Disk" "words" "[I", Cond.methodLink RX0 36 yX0_hasAllParts, Cond.instanceMethod yX0_hasAllParts, Cond.selects RX0 yX0_hasAllParts yX0_hasAllParts, Cond.code yX0_hasAllParts cX0_hasAllParts 4 (some .boolean)]
def wsX4_commit_r5 : List Cond := [Cond.methodLink RX0 43 yX2_partsOf, Cond.instanceMethod yX2_partsOf, Cond.selects RX2 yX2_partsOf yX2_partsOf, Cond.code yX2_partsOf cX2_partsOf 2 (some .int), Cond.methodLink RX0 40 yX0_isOutdone, Cond.instanceMethod yX0_isOutdone, Cond.selects RX0 yX0_isOutdone yX0_isOutdone, Cond.code yX0_isOutdone cX0_isOutdone 3 (some .boolean), Cond.methodLink RX0 46 yX2_keyOf, Cond.instanceMethod yX2_keyOf, Cond.selects RX2 yX2_keyOf yX2_keyOf, Cond.code yX2_keyOf cX2_keyOf 2 (some .int), Cond.methodLink RX4 140 yX0_countLive, Cond.instanceMethod yX0_countLive, Cond.selects RX0 yX0_countLive yX0_countLive, Cond.code yX0_countLive cX0_countLive 3 (some .int), Cond.methodLink RX0 49 yX0_isLive, Cond.instanceMethod yX0_isLive, Cond.selects RX0 yX0_isLive yX0_isLive, Cond.code yX0_isLive cX0_isLive 2 (some .boolean), Cond.methodLink RX4 146 yX2_greatestNumber, Cond.instanceMethod yX2_greatestNumber, Cond.selects RX2 yX2_greatestNumber yX2_greatestNumber, Cond.code yX2_greatestNumber cX2_greatestNumber 3 (some .int)]
def wsX4_commit_r6 : List Cond := [Cond.methodLink RX2 34 Lib.Math.max.name, Cond.static Lib.Math.max.name, Cond.code Lib.Math.max.name Lib.Math.max.code 2 (some .int), Cond.methodLink RX2 30 yX2_numberOf, Cond.methodLink RX4 167 yX0_isLive, Cond.methodLink RX4 170 yX4_fillRow, Cond.instanceMethod yX4_fillRow, Cond.selects RX4 yX4_fillRow yX4_fillRow, Cond.code yX4_fillRow cX4_fillRow 7 none, Cond.constant RX4 174 (65536), Cond.methodLink RX4 175 yX3_fourFrom, Cond.instanceMethod yX3_fourFrom, Cond.selects RX3 yX3_fourFrom yX3_fourFrom, Cond.code yX3_fourFrom cX3_fourFrom 2 (some .int), Cond.methodLink RX4 112 yX2_write, Cond.instanceMethod yX2_write, Cond.selects RX2 yX2_write yX2_write, Cond.code yX2_write cX2_write 4 (some .boolean), Cond.fieldLink RX2 19 "CodedStore$Disk" "left" "I"]
def wsX4_commit : List Cond := .code yX4_commit cX4_commit 3 (some .int) :: ((wsX4_commit_r1 ++ (wsX4_commit_r2 ++ (wsX4_commit_r3 ++ (wsX4_commit_r4 ++ (wsX4_commit_r5 ++ wsX4_commit_r6))))) ++ wsX40 ++ wsX20 ++ wsX30 ++ wsX00)
def wsX4_delete_r1 : List Cond := [Cond.fieldLink RX4 10 "CodedStore" "disk" "LCodedStore$Disk;", Cond.fieldLink RX4 21 "CodedStore" "catalog" "LCodedStore$Catalog;", Cond.fieldLink RX4 35 "CodedStore" "content" "LCodedStore$Octets;", Cond.methodLink RX4 63 yX2_isOn, Cond.instanceMethod yX2_isOn, Cond.selects RX2 yX2_isOn yX2_isOn, Cond.initialized RX2, Cond.code yX2_isOn cX2_isOn 1 (some .boolean), Cond.fieldLink RX2 15 "CodedStore$Disk" "on" "Z", Cond.methodLink RX4 84 yX4_surveyed, Cond.instanceMethod yX4_surveyed, Cond.selects RX4 yX4_surveyed yX4_surveyed, Cond.initialized RX4, Cond.code yX4_surveyed cX4_surveyed 1 (some (.object "CodedStore$Catalog")), Cond.methodLink RX4 161 yX0_survey, Cond.instanceMethod yX0_survey, Cond.selects RX0 yX0_survey yX0_survey, Cond.initialized RX0, Cond.code yX0_survey cX0_survey 2 none, Cond.fieldLink RX0 18 "CodedStore$Catalog" "surveyedAt" "I", Cond.fieldLink RX0 22 "CodedStore$Catalog" "disk" "LCodedStore$Disk;", Cond.fieldLink RX0 9 "CodedStore$Catalog" "whole" "[Z", Cond.fieldLink RX0 15 "CodedStore$Catalog" "live" "[Z", Cond.methodLink RX0 26 yX2_writesDone]
def wsX4_delete_r2 : List Cond := [Cond.instanceMethod yX2_writesDone, Cond.selects RX2 yX2_writesDone yX2_writesDone, Cond.code yX2_writesDone cX2_writesDone 1 (some .int), Cond.fieldLink RX2 23 "CodedStore$Disk" "done" "I", Cond.methodLink RX0 32 yX2_numberOf, Cond.instanceMethod yX2_numberOf, Cond.selects RX2 yX2_numberOf yX2_numberOf, Cond.code yX2_numberOf cX2_numberOf 2 (some .int), Cond.methodLink RX2 26 yX2_wordAt, Cond.instanceMethod yX2_wordAt, Cond.selects RX2 yX2_wordAt yX2_wordAt, Cond.code yX2_wordAt cX2_wordAt 3 (some .int), Cond.fieldLink RX2 9 "CodedStore$Disk" "words" "[I", Cond.methodLink RX0 36 yX0_hasAllParts, Cond.instanceMethod yX0_hasAllParts, Cond.selects RX0 yX0_hasAllParts yX0_hasAllParts, Cond.code yX0_hasAllParts cX0_hasAllParts 4 (some .boolean), Cond.methodLink RX0 43 yX2_partsOf, Cond.instanceMethod yX2_partsOf, Cond.selects RX2 yX2_partsOf yX2_partsOf, Cond.code yX2_partsOf cX2_partsOf 2 (some .int), Cond.methodLink RX0 40 yX0_isOutdone, Cond.instanceMethod yX0_isOutdone, Cond.selects RX0 yX0_isOutdone yX0_isOutdone]
def wsX4_delete_r3 : List Cond := [Cond.code yX0_isOutdone cX0_isOutdone 3 (some .boolean), Cond.methodLink RX0 46 yX2_keyOf, Cond.instanceMethod yX2_keyOf, Cond.selects RX2 yX2_keyOf yX2_keyOf, Cond.code yX2_keyOf cX2_keyOf 2 (some .int), Cond.methodLink RX4 88 yX0_firstBlock, Cond.instanceMethod yX0_firstBlock, Cond.selects RX0 yX0_firstBlock yX0_firstBlock, Cond.code yX0_firstBlock cX0_firstBlock 3 (some .int), Cond.methodLink RX0 49 yX0_isLive, Cond.instanceMethod yX0_isLive, Cond.selects RX0 yX0_isLive yX0_isLive, Cond.code yX0_isLive cX0_isLive 2 (some .boolean), Cond.methodLink RX0 55 yX2_partOf, Cond.instanceMethod yX2_partOf, Cond.selects RX2 yX2_partOf yX2_partOf, Cond.code yX2_partOf cX2_partOf 2 (some .int), Cond.methodLink RX4 92 yX0_isText, Cond.instanceMethod yX0_isText, Cond.selects RX0 yX0_isText yX0_isText, Cond.code yX0_isText cX0_isText 2 (some .boolean), Cond.methodLink RX0 52 yX2_formOf, Cond.instanceMethod yX2_formOf, Cond.selects RX2 yX2_formOf yX2_formOf]
def wsX4_delete_r4 : List Cond := [Cond.code yX2_formOf cX2_formOf 2 (some .int), Cond.methodLink RX4 77 yX3_empty, Cond.instanceMethod yX3_empty, Cond.selects RX3 yX3_empty yX3_empty, Cond.initialized RX3, Cond.code yX3_empty cX3_empty 1 none, Cond.fieldLink RX3 15 "CodedStore$Octets" "size" "I", Cond.methodLink RX4 80 yX4_putRecord, Cond.instanceMethod yX4_putRecord, Cond.selects RX4 yX4_putRecord yX4_putRecord, Cond.code yX4_putRecord cX4_putRecord 7 (some .int), Cond.fieldLink RX4 41 "CodedStore" "row" "[I", Cond.methodLink RX4 52 yX3_size, Cond.instanceMethod yX3_size, Cond.selects RX3 yX3_size yX3_size, Cond.code yX3_size cX3_size 1 (some .int), Cond.methodLink RX4 164 yX4_partsFor, Cond.static yX4_partsFor, Cond.code yX4_partsFor cX4_partsFor 1 (some .int), Cond.methodLink RX4 140 yX0_countLive, Cond.instanceMethod yX0_countLive, Cond.selects RX0 yX0_countLive yX0_countLive, Cond.code yX0_countLive cX0_countLive 3 (some .int), Cond.methodLink RX4 146 yX2_greatestNumber]
def wsX4_delete_r5 : List Cond := [Cond.instanceMethod yX2_greatestNumber, Cond.selects RX2 yX2_greatestNumber yX2_greatestNumber, Cond.code yX2_greatestNumber cX2_greatestNumber 3 (some .int), Cond.methodLink RX2 34 Lib.Math.max.name, Cond.static Lib.Math.max.name, Cond.initialized "java/lang/Math", Cond.code Lib.Math.max.name Lib.Math.max.code 2 (some .int), Cond.methodLink RX2 30 yX2_numberOf, Cond.methodLink RX4 167 yX0_isLive, Cond.methodLink RX4 170 yX4_fillRow, Cond.instanceMethod yX4_fillRow, Cond.selects RX4 yX4_fillRow yX4_fillRow, Cond.code yX4_fillRow cX4_fillRow 7 none, Cond.constant RX4 174 (65536), Cond.methodLink RX4 175 yX3_fourFrom, Cond.instanceMethod yX3_fourFrom, Cond.selects RX3 yX3_fourFrom yX3_fourFrom, Cond.code yX3_fourFrom cX3_fourFrom 2 (some .int), Cond.methodLink RX3 19 yX3_at, Cond.instanceMethod yX3_at, Cond.selects RX3 yX3_at yX3_at, Cond.code yX3_at cX3_at 2 (some .int), Cond.fieldLink RX3 9 "CodedStore$Octets" "octets" "[I", Cond.methodLink RX4 112 yX2_write]
def wsX4_delete_r6 : List Cond := [Cond.instanceMethod yX2_write, Cond.selects RX2 yX2_write yX2_write, Cond.code yX2_write cX2_write 4 (some .boolean), Cond.fieldLink RX2 19 "CodedStore$Disk" "left" "I"]
def wsX4_delete : List Cond := .code yX4_delete cX4_delete 3 (some .int) :: ((wsX4_delete_r1 ++ (wsX4_delete_r2 ++ (wsX4_delete_r3 ++ (wsX4_delete_r4 ++ (wsX4_delete_r5 ++ wsX4_delete_r6))))) ++ wsX40 ++ wsX20 ++ wsX00 ++ wsX30)
def wsX4_gatherContent_r1 : List Cond := [Cond.fieldLink RX4 35 "CodedStore" "content" "LCodedStore$Octets;", Cond.fieldLink RX4 10 "CodedStore" "disk" "LCodedStore$Disk;", Cond.methodLink RX4 77 yX3_empty, Cond.instanceMethod yX3_empty, Cond.selects RX3 yX3_empty yX3_empty, Cond.initialized RX3, Cond.code yX3_empty cX3_empty 1 none, Cond.fieldLink RX3 15 "CodedStore$Octets" "size" "I", Cond.methodLink RX4 178 yX2_partsOf, Cond.instanceMethod yX2_partsOf, Cond.selects RX2 yX2_partsOf yX2_partsOf, Cond.initialized RX2, Cond.code yX2_partsOf cX2_partsOf 2 (some .int), Cond.methodLink RX2 26 yX2_wordAt, Cond.instanceMethod yX2_wordAt, Cond.selects RX2 yX2_wordAt yX2_wordAt, Cond.code yX2_wordAt cX2_wordAt 3 (some .int), Cond.fieldLink RX2 9 "CodedStore$Disk" "words" "[I", Cond.methodLink RX4 152 yX2_numberOf, Cond.instanceMethod yX2_numberOf, Cond.selects RX2 yX2_numberOf yX2_numberOf, Cond.code yX2_numberOf cX2_numberOf 2 (some .int), Cond.methodLink RX4 181 yX2_blockOf, Cond.instanceMethod yX2_blockOf]
def wsX4_gatherContent_r2 : List Cond := [Cond.selects RX2 yX2_blockOf yX2_blockOf, Cond.code yX2_blockOf cX2_blockOf 4 (some .int), Cond.methodLink RX2 30 yX2_numberOf, Cond.methodLink RX2 39 yX2_partOf, Cond.instanceMethod yX2_partOf, Cond.selects RX2 yX2_partOf yX2_partOf, Cond.code yX2_partOf cX2_partOf 2 (some .int), Cond.methodLink RX4 52 yX3_size, Cond.instanceMethod yX3_size, Cond.selects RX3 yX3_size yX3_size, Cond.code yX3_size cX3_size 1 (some .int), Cond.methodLink RX4 184 yX2_octetsOf, Cond.instanceMethod yX2_octetsOf, Cond.selects RX2 yX2_octetsOf yX2_octetsOf, Cond.code yX2_octetsOf cX2_octetsOf 2 (some .int), Cond.methodLink RX4 137 yX2_wordAt, Cond.methodLink RX4 59 yX3_append, Cond.instanceMethod yX3_append, Cond.selects RX3 yX3_append yX3_append, Cond.code yX3_append cX3_append 2 none, Cond.fieldLink RX3 9 "CodedStore$Octets" "octets" "[I"]
def wsX4_gatherContent : List Cond := .code yX4_gatherContent cX4_gatherContent 6 none :: ((wsX4_gatherContent_r1 ++ wsX4_gatherContent_r2) ++ wsX40 ++ wsX30 ++ wsX20)
def wsX4_load_r1 : List Cond := [Cond.fieldLink RX4 10 "CodedStore" "disk" "LCodedStore$Disk;", Cond.fieldLink RX4 21 "CodedStore" "catalog" "LCodedStore$Catalog;", Cond.fieldLink RX4 35 "CodedStore" "content" "LCodedStore$Octets;", Cond.fieldLink RX4 38 "CodedStore" "decoded" "LCodedStore$Octets;", Cond.fieldLink RX4 32 "CodedStore" "loaded" "LCodedStore$Octets;", Cond.methodLink RX4 63 yX2_isOn, Cond.instanceMethod yX2_isOn, Cond.selects RX2 yX2_isOn yX2_isOn, Cond.initialized RX2, Cond.code yX2_isOn cX2_isOn 1 (some .boolean), Cond.fieldLink RX2 15 "CodedStore$Disk" "on" "Z", Cond.methodLink RX4 84 yX4_surveyed, Cond.instanceMethod yX4_surveyed, Cond.selects RX4 yX4_surveyed yX4_surveyed, Cond.initialized RX4, Cond.code yX4_surveyed cX4_surveyed 1 (some (.object "CodedStore$Catalog")), Cond.methodLink RX4 161 yX0_survey, Cond.instanceMethod yX0_survey, Cond.selects RX0 yX0_survey yX0_survey, Cond.initialized RX0, Cond.code yX0_survey cX0_survey 2 none, Cond.fieldLink RX0 18 "CodedStore$Catalog" "surveyedAt" "I", Cond.fieldLink RX0 22 "CodedStore$Catalog" "disk" "LCodedStore$Disk;", Cond.fieldLink RX0 9 "CodedStore$Catalog" "whole" "[Z"]
def wsX4_load_r2 : List Cond := [Cond.fieldLink RX0 15 "CodedStore$Catalog" "live" "[Z", Cond.methodLink RX0 26 yX2_writesDone, Cond.instanceMethod yX2_writesDone, Cond.selects RX2 yX2_writesDone yX2_writesDone, Cond.code yX2_writesDone cX2_writesDone 1 (some .int), Cond.fieldLink RX2 23 "CodedStore$Disk" "done" "I", Cond.methodLink RX0 32 yX2_numberOf, Cond.instanceMethod yX2_numberOf, Cond.selects RX2 yX2_numberOf yX2_numberOf, Cond.code yX2_numberOf cX2_numberOf 2 (some .int), Cond.methodLink RX2 26 yX2_wordAt, Cond.instanceMethod yX2_wordAt, Cond.selects RX2 yX2_wordAt yX2_wordAt, Cond.code yX2_wordAt cX2_wordAt 3 (some .int), Cond.fieldLink RX2 9 "CodedStore$Disk" "words" "[I", Cond.methodLink RX0 36 yX0_hasAllParts, Cond.instanceMethod yX0_hasAllParts, Cond.selects RX0 yX0_hasAllParts yX0_hasAllParts, Cond.code yX0_hasAllParts cX0_hasAllParts 4 (some .boolean), Cond.methodLink RX0 43 yX2_partsOf, Cond.instanceMethod yX2_partsOf, Cond.selects RX2 yX2_partsOf yX2_partsOf, Cond.code yX2_partsOf cX2_partsOf 2 (some .int), Cond.methodLink RX0 40 yX0_isOutdone]
def wsX4_load_r3 : List Cond := [Cond.instanceMethod yX0_isOutdone, Cond.selects RX0 yX0_isOutdone yX0_isOutdone, Cond.code yX0_isOutdone cX0_isOutdone 3 (some .boolean), Cond.methodLink RX0 46 yX2_keyOf, Cond.instanceMethod yX2_keyOf, Cond.selects RX2 yX2_keyOf yX2_keyOf, Cond.code yX2_keyOf cX2_keyOf 2 (some .int), Cond.methodLink RX4 88 yX0_firstBlock, Cond.instanceMethod yX0_firstBlock, Cond.selects RX0 yX0_firstBlock yX0_firstBlock, Cond.code yX0_firstBlock cX0_firstBlock 3 (some .int), Cond.methodLink RX0 49 yX0_isLive, Cond.instanceMethod yX0_isLive, Cond.selects RX0 yX0_isLive yX0_isLive, Cond.code yX0_isLive cX0_isLive 2 (some .boolean), Cond.methodLink RX0 55 yX2_partOf, Cond.instanceMethod yX2_partOf, Cond.selects RX2 yX2_partOf yX2_partOf, Cond.code yX2_partOf cX2_partOf 2 (some .int), Cond.methodLink RX4 92 yX0_isText, Cond.instanceMethod yX0_isText, Cond.selects RX0 yX0_isText yX0_isText, Cond.code yX0_isText cX0_isText 2 (some .boolean), Cond.methodLink RX0 52 yX2_formOf]
def wsX4_load_r4 : List Cond := [Cond.instanceMethod yX2_formOf, Cond.selects RX2 yX2_formOf yX2_formOf, Cond.code yX2_formOf cX2_formOf 2 (some .int), Cond.methodLink RX4 96 yX4_gatherContent, Cond.instanceMethod yX4_gatherContent, Cond.selects RX4 yX4_gatherContent yX4_gatherContent, Cond.code yX4_gatherContent cX4_gatherContent 6 none, Cond.methodLink RX4 77 yX3_empty, Cond.instanceMethod yX3_empty, Cond.selects RX3 yX3_empty yX3_empty, Cond.initialized RX3, Cond.code yX3_empty cX3_empty 1 none, Cond.fieldLink RX3 15 "CodedStore$Octets" "size" "I", Cond.methodLink RX4 178 yX2_partsOf, Cond.methodLink RX4 152 yX2_numberOf, Cond.methodLink RX4 181 yX2_blockOf, Cond.instanceMethod yX2_blockOf, Cond.selects RX2 yX2_blockOf yX2_blockOf, Cond.code yX2_blockOf cX2_blockOf 4 (some .int), Cond.methodLink RX2 30 yX2_numberOf, Cond.methodLink RX2 39 yX2_partOf, Cond.methodLink RX4 52 yX3_size, Cond.instanceMethod yX3_size, Cond.selects RX3 yX3_size yX3_size]
def wsX4_load_r5 : List Cond := [Cond.code yX3_size cX3_size 1 (some .int), Cond.methodLink RX4 184 yX2_octetsOf, Cond.instanceMethod yX2_octetsOf, Cond.selects RX2 yX2_octetsOf yX2_octetsOf, Cond.code yX2_octetsOf cX2_octetsOf 2 (some .int), Cond.methodLink RX4 137 yX2_wordAt, Cond.methodLink RX4 59 yX3_append, Cond.instanceMethod yX3_append, Cond.selects RX3 yX3_append yX3_append, Cond.code yX3_append cX3_append 2 none, Cond.fieldLink RX3 9 "CodedStore$Octets" "octets" "[I", Cond.methodLink RX4 99 yX2_formOf, Cond.methodLink RX4 102 yX1_decode, Cond.static yX1_decode, Cond.initialized RX1, Cond.code yX1_decode cX1_decode 8 (some .int), Cond.methodLink RX1 9 yX3_empty, Cond.methodLink RX1 14 yX3_size, Cond.methodLink RX1 32 yX3_at, Cond.instanceMethod yX3_at, Cond.selects RX3 yX3_at yX3_at, Cond.code yX3_at cX3_at 2 (some .int), Cond.methodLink RX1 46 yX1_decodeSingle, Cond.static yX1_decodeSingle]
def wsX4_load_r6 : List Cond := [Cond.code yX1_decodeSingle cX1_decodeSingle 3 (some .int), Cond.methodLink RX1 18 yX3_append, Cond.methodLink RX1 50 yX1_decodeRow, Cond.static yX1_decodeRow, Cond.code yX1_decodeRow cX1_decodeRow 5 (some .int), Cond.methodLink RX1 53 yX3_repeat, Cond.instanceMethod yX3_repeat, Cond.selects RX3 yX3_repeat yX3_repeat, Cond.code yX3_repeat cX3_repeat 4 none, Cond.methodLink RX3 19 yX3_at, Cond.methodLink RX3 26 yX3_append, Cond.methodLink RX4 73 yX3_becomeLike, Cond.instanceMethod yX3_becomeLike, Cond.selects RX3 yX3_becomeLike yX3_becomeLike, Cond.code yX3_becomeLike cX3_becomeLike 3 none, Cond.methodLink RX3 23 yX3_empty]
def wsX4_load : List Cond := .code yX4_load cX4_load 3 (some .int) :: ((wsX4_load_r1 ++ (wsX4_load_r2 ++ (wsX4_load_r3 ++ (wsX4_load_r4 ++ (wsX4_load_r5 ++ wsX4_load_r6))))) ++ wsX40 ++ wsX20 ++ wsX00 ++ wsX30)
def wsX4_out : List Cond := .code yX4_out cX4_out 2 (some .int) :: ([.fieldLink RX4 32 "CodedStore" "loaded" "LCodedStore$Octets;", .methodLink RX4 52 yX3_size, .instanceMethod yX3_size, .selects RX3 yX3_size yX3_size, .initialized RX3, .code yX3_size cX3_size 1 (some .int), .fieldLink RX3 15 "CodedStore$Octets" "size" "I", .methodLink RX4 106 yX3_at, .instanceMethod yX3_at, .selects RX3 yX3_at yX3_at, .code yX3_at cX3_at 2 (some .int), .fieldLink RX3 9 "CodedStore$Octets" "octets" "[I"] ++ wsX40 ++ wsX30)
def wsX4_clean_r1 : List Cond := [Cond.fieldLink RX4 10 "CodedStore" "disk" "LCodedStore$Disk;", Cond.fieldLink RX4 21 "CodedStore" "catalog" "LCodedStore$Catalog;", Cond.fieldLink RX4 45 "CodedStore" "zeros" "[I", Cond.methodLink RX4 63 yX2_isOn, Cond.instanceMethod yX2_isOn, Cond.selects RX2 yX2_isOn yX2_isOn, Cond.initialized RX2, Cond.code yX2_isOn cX2_isOn 1 (some .boolean), Cond.fieldLink RX2 15 "CodedStore$Disk" "on" "Z", Cond.methodLink RX4 84 yX4_surveyed, Cond.instanceMethod yX4_surveyed, Cond.selects RX4 yX4_surveyed yX4_surveyed, Cond.initialized RX4, Cond.code yX4_surveyed cX4_surveyed 1 (some (.object "CodedStore$Catalog")), Cond.methodLink RX4 161 yX0_survey, Cond.instanceMethod yX0_survey, Cond.selects RX0 yX0_survey yX0_survey, Cond.initialized RX0, Cond.code yX0_survey cX0_survey 2 none, Cond.fieldLink RX0 18 "CodedStore$Catalog" "surveyedAt" "I", Cond.fieldLink RX0 22 "CodedStore$Catalog" "disk" "LCodedStore$Disk;", Cond.fieldLink RX0 9 "CodedStore$Catalog" "whole" "[Z", Cond.fieldLink RX0 15 "CodedStore$Catalog" "live" "[Z", Cond.methodLink RX0 26 yX2_writesDone]
def wsX4_clean_r2 : List Cond := [Cond.instanceMethod yX2_writesDone, Cond.selects RX2 yX2_writesDone yX2_writesDone, Cond.code yX2_writesDone cX2_writesDone 1 (some .int), Cond.fieldLink RX2 23 "CodedStore$Disk" "done" "I", Cond.methodLink RX0 32 yX2_numberOf, Cond.instanceMethod yX2_numberOf, Cond.selects RX2 yX2_numberOf yX2_numberOf, Cond.code yX2_numberOf cX2_numberOf 2 (some .int), Cond.methodLink RX2 26 yX2_wordAt, Cond.instanceMethod yX2_wordAt, Cond.selects RX2 yX2_wordAt yX2_wordAt, Cond.code yX2_wordAt cX2_wordAt 3 (some .int), Cond.fieldLink RX2 9 "CodedStore$Disk" "words" "[I", Cond.methodLink RX0 36 yX0_hasAllParts, Cond.instanceMethod yX0_hasAllParts, Cond.selects RX0 yX0_hasAllParts yX0_hasAllParts, Cond.code yX0_hasAllParts cX0_hasAllParts 4 (some .boolean), Cond.methodLink RX0 43 yX2_partsOf, Cond.instanceMethod yX2_partsOf, Cond.selects RX2 yX2_partsOf yX2_partsOf, Cond.code yX2_partsOf cX2_partsOf 2 (some .int), Cond.methodLink RX0 40 yX0_isOutdone, Cond.instanceMethod yX0_isOutdone, Cond.selects RX0 yX0_isOutdone yX0_isOutdone]
def wsX4_clean_r3 : List Cond := [Cond.code yX0_isOutdone cX0_isOutdone 3 (some .boolean), Cond.methodLink RX0 46 yX2_keyOf, Cond.instanceMethod yX2_keyOf, Cond.selects RX2 yX2_keyOf yX2_keyOf, Cond.code yX2_keyOf cX2_keyOf 2 (some .int), Cond.methodLink RX4 109 yX0_isLeftOver, Cond.instanceMethod yX0_isLeftOver, Cond.selects RX0 yX0_isLeftOver yX0_isLeftOver, Cond.code yX0_isLeftOver cX0_isLeftOver 2 (some .boolean), Cond.methodLink RX0 49 yX0_isLive, Cond.instanceMethod yX0_isLive, Cond.selects RX0 yX0_isLive yX0_isLive, Cond.code yX0_isLive cX0_isLive 2 (some .boolean), Cond.methodLink RX4 112 yX2_write, Cond.instanceMethod yX2_write, Cond.selects RX2 yX2_write yX2_write, Cond.code yX2_write cX2_write 4 (some .boolean), Cond.fieldLink RX2 19 "CodedStore$Disk" "left" "I", Cond.methodLink RX4 116 yX0_isLiveGrave, Cond.instanceMethod yX0_isLiveGrave, Cond.selects RX0 yX0_isLiveGrave yX0_isLiveGrave, Cond.code yX0_isLiveGrave cX0_isLiveGrave 2 (some .boolean), Cond.methodLink RX0 52 yX2_formOf, Cond.instanceMethod yX2_formOf]
def wsX4_clean_r4 : List Cond := [Cond.selects RX2 yX2_formOf yX2_formOf, Cond.code yX2_formOf cX2_formOf 2 (some .int)]
def wsX4_clean : List Cond := .code yX4_clean cX4_clean 3 (some .int) :: ((wsX4_clean_r1 ++ (wsX4_clean_r2 ++ (wsX4_clean_r3 ++ wsX4_clean_r4))) ++ wsX40 ++ wsX20 ++ wsX00)
def wsX4_power : List Cond := .code yX4_power cX4_power 3 (some .int) :: ([.classLink RX4 56 "java/lang/IllegalArgumentException", .initialized "java/lang/IllegalArgumentException", .classLink RX4 119 "java/lang/IllegalStateException", .initialized "java/lang/IllegalStateException", .fieldLink RX4 10 "CodedStore" "disk" "LCodedStore$Disk;", .methodLink RX4 63 yX2_isOn, .instanceMethod yX2_isOn, .selects RX2 yX2_isOn yX2_isOn, .initialized RX2, .code yX2_isOn cX2_isOn 1 (some .boolean), .fieldLink RX2 15 "CodedStore$Disk" "on" "Z", .methodLink RX4 122 yX2_writesLeft, .instanceMethod yX2_writesLeft, .selects RX2 yX2_writesLeft yX2_writesLeft, .code yX2_writesLeft cX2_writesLeft 1 (some .int), .fieldLink RX2 19 "CodedStore$Disk" "left" "I", .methodLink RX4 125 yX2_allowWrites, .instanceMethod yX2_allowWrites, .selects RX2 yX2_allowWrites yX2_allowWrites, .code yX2_allowWrites cX2_allowWrites 2 none] ++ wsX40 ++ wsX20 ++ (vx_at0 RX4 58 "java/lang/IllegalArgumentException" ["java/lang/RuntimeException", "java/lang/Exception"]).filter goodWord ++ (vx_at0 RX4 121 "java/lang/IllegalStateException" ["java/lang/RuntimeException", "java/lang/Exception"]).filter goodWord)
def wsX4_recover_r1 : List Cond := [Cond.fieldLink RX4 10 "CodedStore" "disk" "LCodedStore$Disk;", Cond.fieldLink RX4 28 "CodedStore" "tape" "LCodedStore$Octets;", Cond.fieldLink RX4 32 "CodedStore" "loaded" "LCodedStore$Octets;", Cond.fieldLink RX4 48 "CodedStore" "failedPlace" "I", Cond.methodLink RX4 128 yX2_switchOn, Cond.instanceMethod yX2_switchOn, Cond.selects RX2 yX2_switchOn yX2_switchOn, Cond.initialized RX2, Cond.code yX2_switchOn cX2_switchOn 1 none, Cond.fieldLink RX2 15 "CodedStore$Disk" "on" "Z", Cond.fieldLink RX2 19 "CodedStore$Disk" "left" "I", Cond.methodLink RX4 77 yX3_empty, Cond.instanceMethod yX3_empty, Cond.selects RX3 yX3_empty yX3_empty, Cond.initialized RX3, Cond.code yX3_empty cX3_empty 1 none, Cond.fieldLink RX3 15 "CodedStore$Octets" "size" "I", Cond.methodLink RX4 84 yX4_surveyed, Cond.instanceMethod yX4_surveyed, Cond.selects RX4 yX4_surveyed yX4_surveyed, Cond.initialized RX4, Cond.code yX4_surveyed cX4_surveyed 1 (some (.object "CodedStore$Catalog")), Cond.fieldLink RX4 21 "CodedStore" "catalog" "LCodedStore$Catalog;", Cond.methodLink RX4 161 yX0_survey]
def wsX4_recover_r2 : List Cond := [Cond.instanceMethod yX0_survey, Cond.selects RX0 yX0_survey yX0_survey, Cond.initialized RX0, Cond.code yX0_survey cX0_survey 2 none, Cond.fieldLink RX0 18 "CodedStore$Catalog" "surveyedAt" "I", Cond.fieldLink RX0 22 "CodedStore$Catalog" "disk" "LCodedStore$Disk;", Cond.fieldLink RX0 9 "CodedStore$Catalog" "whole" "[Z", Cond.fieldLink RX0 15 "CodedStore$Catalog" "live" "[Z", Cond.methodLink RX0 26 yX2_writesDone, Cond.instanceMethod yX2_writesDone, Cond.selects RX2 yX2_writesDone yX2_writesDone, Cond.code yX2_writesDone cX2_writesDone 1 (some .int), Cond.fieldLink RX2 23 "CodedStore$Disk" "done" "I", Cond.methodLink RX0 32 yX2_numberOf, Cond.instanceMethod yX2_numberOf, Cond.selects RX2 yX2_numberOf yX2_numberOf, Cond.code yX2_numberOf cX2_numberOf 2 (some .int), Cond.methodLink RX2 26 yX2_wordAt, Cond.instanceMethod yX2_wordAt, Cond.selects RX2 yX2_wordAt yX2_wordAt, Cond.code yX2_wordAt cX2_wordAt 3 (some .int), Cond.fieldLink RX2 9 "CodedStore$Disk" "words" "[I", Cond.methodLink RX0 36 yX0_hasAllParts, Cond.instanceMethod yX0_hasAllParts]
def wsX4_recover_r3 : List Cond := [Cond.selects RX0 yX0_hasAllParts yX0_hasAllParts, Cond.code yX0_hasAllParts cX0_hasAllParts 4 (some .boolean), Cond.methodLink RX0 43 yX2_partsOf, Cond.instanceMethod yX2_partsOf, Cond.selects RX2 yX2_partsOf yX2_partsOf, Cond.code yX2_partsOf cX2_partsOf 2 (some .int), Cond.methodLink RX0 40 yX0_isOutdone, Cond.instanceMethod yX0_isOutdone, Cond.selects RX0 yX0_isOutdone yX0_isOutdone, Cond.code yX0_isOutdone cX0_isOutdone 3 (some .boolean), Cond.methodLink RX0 46 yX2_keyOf, Cond.instanceMethod yX2_keyOf, Cond.selects RX2 yX2_keyOf yX2_keyOf, Cond.code yX2_keyOf cX2_keyOf 2 (some .int), Cond.methodLink RX4 131 yX0_countTexts, Cond.instanceMethod yX0_countTexts, Cond.selects RX0 yX0_countTexts yX0_countTexts, Cond.code yX0_countTexts cX0_countTexts 3 (some .int), Cond.methodLink RX0 58 yX0_isText, Cond.instanceMethod yX0_isText, Cond.selects RX0 yX0_isText yX0_isText, Cond.code yX0_isText cX0_isText 2 (some .boolean), Cond.methodLink RX0 49 yX0_isLive, Cond.instanceMethod yX0_isLive]
def wsX4_recover_r4 : List Cond := [Cond.selects RX0 yX0_isLive yX0_isLive, Cond.code yX0_isLive cX0_isLive 2 (some .boolean), Cond.methodLink RX0 55 yX2_partOf, Cond.instanceMethod yX2_partOf, Cond.selects RX2 yX2_partOf yX2_partOf, Cond.code yX2_partOf cX2_partOf 2 (some .int), Cond.methodLink RX0 52 yX2_formOf, Cond.instanceMethod yX2_formOf, Cond.selects RX2 yX2_formOf yX2_formOf, Cond.code yX2_formOf cX2_formOf 2 (some .int)]
def wsX4_recover : List Cond := .code yX4_recover cX4_recover 1 (some .int) :: ((wsX4_recover_r1 ++ (wsX4_recover_r2 ++ (wsX4_recover_r3 ++ wsX4_recover_r4))) ++ wsX40 ++ wsX20 ++ wsX30 ++ wsX00)
def wsX4_word : List Cond := .code yX4_word cX4_word 3 (some .int) :: ([.classLink RX4 134 "java/lang/IndexOutOfBoundsException", .initialized "java/lang/IndexOutOfBoundsException", .fieldLink RX4 10 "CodedStore" "disk" "LCodedStore$Disk;", .methodLink RX4 137 yX2_wordAt, .instanceMethod yX2_wordAt, .selects RX2 yX2_wordAt yX2_wordAt, .initialized RX2, .code yX2_wordAt cX2_wordAt 3 (some .int), .fieldLink RX2 9 "CodedStore$Disk" "words" "[I"] ++ wsX40 ++ wsX20 ++ (vx_at0 RX4 136 "java/lang/IndexOutOfBoundsException" ["java/lang/RuntimeException", "java/lang/Exception"]).filter goodWord)
def wsX4_told_r1 : List Cond := [Cond.classLink RX4 134 "java/lang/IndexOutOfBoundsException", Cond.initialized "java/lang/IndexOutOfBoundsException", Cond.fieldLink RX4 10 "CodedStore" "disk" "LCodedStore$Disk;", Cond.fieldLink RX4 28 "CodedStore" "tape" "LCodedStore$Octets;", Cond.methodLink RX4 84 yX4_surveyed, Cond.instanceMethod yX4_surveyed, Cond.selects RX4 yX4_surveyed yX4_surveyed, Cond.initialized RX4, Cond.code yX4_surveyed cX4_surveyed 1 (some (.object "CodedStore$Catalog")), Cond.fieldLink RX4 21 "CodedStore" "catalog" "LCodedStore$Catalog;", Cond.methodLink RX4 161 yX0_survey, Cond.instanceMethod yX0_survey, Cond.selects RX0 yX0_survey yX0_survey, Cond.initialized RX0, Cond.code yX0_survey cX0_survey 2 none, Cond.fieldLink RX0 18 "CodedStore$Catalog" "surveyedAt" "I", Cond.fieldLink RX0 22 "CodedStore$Catalog" "disk" "LCodedStore$Disk;", Cond.fieldLink RX0 9 "CodedStore$Catalog" "whole" "[Z", Cond.fieldLink RX0 15 "CodedStore$Catalog" "live" "[Z", Cond.methodLink RX0 26 yX2_writesDone, Cond.instanceMethod yX2_writesDone, Cond.selects RX2 yX2_writesDone yX2_writesDone, Cond.initialized RX2, Cond.code yX2_writesDone cX2_writesDone 1 (some .int)]
def wsX4_told_r2 : List Cond := [Cond.fieldLink RX2 23 "CodedStore$Disk" "done" "I", Cond.methodLink RX0 32 yX2_numberOf, Cond.instanceMethod yX2_numberOf, Cond.selects RX2 yX2_numberOf yX2_numberOf, Cond.code yX2_numberOf cX2_numberOf 2 (some .int), Cond.methodLink RX2 26 yX2_wordAt, Cond.instanceMethod yX2_wordAt, Cond.selects RX2 yX2_wordAt yX2_wordAt, Cond.code yX2_wordAt cX2_wordAt 3 (some .int), Cond.fieldLink RX2 9 "CodedStore$Disk" "words" "[I", Cond.methodLink RX0 36 yX0_hasAllParts, Cond.instanceMethod yX0_hasAllParts, Cond.selects RX0 yX0_hasAllParts yX0_hasAllParts, Cond.code yX0_hasAllParts cX0_hasAllParts 4 (some .boolean), Cond.methodLink RX0 43 yX2_partsOf, Cond.instanceMethod yX2_partsOf, Cond.selects RX2 yX2_partsOf yX2_partsOf, Cond.code yX2_partsOf cX2_partsOf 2 (some .int), Cond.methodLink RX0 40 yX0_isOutdone, Cond.instanceMethod yX0_isOutdone, Cond.selects RX0 yX0_isOutdone yX0_isOutdone, Cond.code yX0_isOutdone cX0_isOutdone 3 (some .boolean), Cond.methodLink RX0 46 yX2_keyOf, Cond.instanceMethod yX2_keyOf]
def wsX4_told_r3 : List Cond := [Cond.selects RX2 yX2_keyOf yX2_keyOf, Cond.code yX2_keyOf cX2_keyOf 2 (some .int), Cond.methodLink RX4 131 yX0_countTexts, Cond.instanceMethod yX0_countTexts, Cond.selects RX0 yX0_countTexts yX0_countTexts, Cond.code yX0_countTexts cX0_countTexts 3 (some .int), Cond.methodLink RX0 58 yX0_isText, Cond.instanceMethod yX0_isText, Cond.selects RX0 yX0_isText yX0_isText, Cond.code yX0_isText cX0_isText 2 (some .boolean), Cond.methodLink RX0 49 yX0_isLive, Cond.instanceMethod yX0_isLive, Cond.selects RX0 yX0_isLive yX0_isLive, Cond.code yX0_isLive cX0_isLive 2 (some .boolean), Cond.methodLink RX0 55 yX2_partOf, Cond.instanceMethod yX2_partOf, Cond.selects RX2 yX2_partOf yX2_partOf, Cond.code yX2_partOf cX2_partOf 2 (some .int), Cond.methodLink RX0 52 yX2_formOf, Cond.instanceMethod yX2_formOf, Cond.selects RX2 yX2_formOf yX2_formOf, Cond.code yX2_formOf cX2_formOf 2 (some .int), Cond.methodLink RX4 140 yX0_countLive, Cond.instanceMethod yX0_countLive]
def wsX4_told_r4 : List Cond := [Cond.selects RX0 yX0_countLive yX0_countLive, Cond.code yX0_countLive cX0_countLive 3 (some .int), Cond.methodLink RX4 143 yX0_countLiveGraves, Cond.instanceMethod yX0_countLiveGraves, Cond.selects RX0 yX0_countLiveGraves yX0_countLiveGraves, Cond.code yX0_countLiveGraves cX0_countLiveGraves 3 (some .int), Cond.methodLink RX0 64 yX0_isLiveGrave, Cond.instanceMethod yX0_isLiveGrave, Cond.selects RX0 yX0_isLiveGrave yX0_isLiveGrave, Cond.code yX0_isLiveGrave cX0_isLiveGrave 2 (some .boolean), Cond.methodLink RX4 146 yX2_greatestNumber, Cond.instanceMethod yX2_greatestNumber, Cond.selects RX2 yX2_greatestNumber yX2_greatestNumber, Cond.code yX2_greatestNumber cX2_greatestNumber 3 (some .int), Cond.methodLink RX2 34 Lib.Math.max.name, Cond.static Lib.Math.max.name, Cond.initialized "java/lang/Math", Cond.code Lib.Math.max.name Lib.Math.max.code 2 (some .int), Cond.methodLink RX2 30 yX2_numberOf, Cond.methodLink RX4 149 yX2_writesDone, Cond.methodLink RX4 63 yX2_isOn, Cond.instanceMethod yX2_isOn, Cond.selects RX2 yX2_isOn yX2_isOn, Cond.code yX2_isOn cX2_isOn 1 (some .boolean)]
def wsX4_told_r5 : List Cond := [Cond.fieldLink RX2 15 "CodedStore$Disk" "on" "Z", Cond.methodLink RX4 52 yX3_size, Cond.instanceMethod yX3_size, Cond.selects RX3 yX3_size yX3_size, Cond.initialized RX3, Cond.code yX3_size cX3_size 1 (some .int), Cond.fieldLink RX3 15 "CodedStore$Octets" "size" "I"]
def wsX4_told : List Cond := .code yX4_told cX4_told 2 (some .int) :: ((wsX4_told_r1 ++ (wsX4_told_r2 ++ (wsX4_told_r3 ++ (wsX4_told_r4 ++ wsX4_told_r5)))) ++ wsX40 ++ wsX00 ++ wsX20 ++ wsX30 ++ (vx_at0 RX4 136 "java/lang/IndexOutOfBoundsException" ["java/lang/RuntimeException", "java/lang/Exception"]).filter goodWord)
def wsX4_number_r1 : List Cond := [Cond.fieldLink RX4 21 "CodedStore" "catalog" "LCodedStore$Catalog;", Cond.fieldLink RX4 10 "CodedStore" "disk" "LCodedStore$Disk;", Cond.methodLink RX4 84 yX4_surveyed, Cond.instanceMethod yX4_surveyed, Cond.selects RX4 yX4_surveyed yX4_surveyed, Cond.initialized RX4, Cond.code yX4_surveyed cX4_surveyed 1 (some (.object "CodedStore$Catalog")), Cond.methodLink RX4 161 yX0_survey, Cond.instanceMethod yX0_survey, Cond.selects RX0 yX0_survey yX0_survey, Cond.initialized RX0, Cond.code yX0_survey cX0_survey 2 none, Cond.fieldLink RX0 18 "CodedStore$Catalog" "surveyedAt" "I", Cond.fieldLink RX0 22 "CodedStore$Catalog" "disk" "LCodedStore$Disk;", Cond.fieldLink RX0 9 "CodedStore$Catalog" "whole" "[Z", Cond.fieldLink RX0 15 "CodedStore$Catalog" "live" "[Z", Cond.methodLink RX0 26 yX2_writesDone, Cond.instanceMethod yX2_writesDone, Cond.selects RX2 yX2_writesDone yX2_writesDone, Cond.initialized RX2, Cond.code yX2_writesDone cX2_writesDone 1 (some .int), Cond.fieldLink RX2 23 "CodedStore$Disk" "done" "I", Cond.methodLink RX0 32 yX2_numberOf, Cond.instanceMethod yX2_numberOf]
def wsX4_number_r2 : List Cond := [Cond.selects RX2 yX2_numberOf yX2_numberOf, Cond.code yX2_numberOf cX2_numberOf 2 (some .int), Cond.methodLink RX2 26 yX2_wordAt, Cond.instanceMethod yX2_wordAt, Cond.selects RX2 yX2_wordAt yX2_wordAt, Cond.code yX2_wordAt cX2_wordAt 3 (some .int), Cond.fieldLink RX2 9 "CodedStore$Disk" "words" "[I", Cond.methodLink RX0 36 yX0_hasAllParts, Cond.instanceMethod yX0_hasAllParts, Cond.selects RX0 yX0_hasAllParts yX0_hasAllParts, Cond.code yX0_hasAllParts cX0_hasAllParts 4 (some .boolean), Cond.methodLink RX0 43 yX2_partsOf, Cond.instanceMethod yX2_partsOf, Cond.selects RX2 yX2_partsOf yX2_partsOf, Cond.code yX2_partsOf cX2_partsOf 2 (some .int), Cond.methodLink RX0 40 yX0_isOutdone, Cond.instanceMethod yX0_isOutdone, Cond.selects RX0 yX0_isOutdone yX0_isOutdone, Cond.code yX0_isOutdone cX0_isOutdone 3 (some .boolean), Cond.methodLink RX0 46 yX2_keyOf, Cond.instanceMethod yX2_keyOf, Cond.selects RX2 yX2_keyOf yX2_keyOf, Cond.code yX2_keyOf cX2_keyOf 2 (some .int), Cond.methodLink RX4 88 yX0_firstBlock]
def wsX4_number_r3 : List Cond := [Cond.instanceMethod yX0_firstBlock, Cond.selects RX0 yX0_firstBlock yX0_firstBlock, Cond.code yX0_firstBlock cX0_firstBlock 3 (some .int), Cond.methodLink RX0 49 yX0_isLive, Cond.instanceMethod yX0_isLive, Cond.selects RX0 yX0_isLive yX0_isLive, Cond.code yX0_isLive cX0_isLive 2 (some .boolean), Cond.methodLink RX0 55 yX2_partOf, Cond.instanceMethod yX2_partOf, Cond.selects RX2 yX2_partOf yX2_partOf, Cond.code yX2_partOf cX2_partOf 2 (some .int), Cond.methodLink RX4 92 yX0_isText, Cond.instanceMethod yX0_isText, Cond.selects RX0 yX0_isText yX0_isText, Cond.code yX0_isText cX0_isText 2 (some .boolean), Cond.methodLink RX0 52 yX2_formOf, Cond.instanceMethod yX2_formOf, Cond.selects RX2 yX2_formOf yX2_formOf, Cond.code yX2_formOf cX2_formOf 2 (some .int), Cond.methodLink RX4 152 yX2_numberOf]
def wsX4_number : List Cond := .code yX4_number cX4_number 3 (some .int) :: ((wsX4_number_r1 ++ (wsX4_number_r2 ++ wsX4_number_r3)) ++ wsX40 ++ wsX00 ++ wsX20)
def wsX4_key_r1 : List Cond := [Cond.fieldLink RX4 10 "CodedStore" "disk" "LCodedStore$Disk;", Cond.methodLink RX4 84 yX4_surveyed, Cond.instanceMethod yX4_surveyed, Cond.selects RX4 yX4_surveyed yX4_surveyed, Cond.initialized RX4, Cond.code yX4_surveyed cX4_surveyed 1 (some (.object "CodedStore$Catalog")), Cond.fieldLink RX4 21 "CodedStore" "catalog" "LCodedStore$Catalog;", Cond.methodLink RX4 161 yX0_survey, Cond.instanceMethod yX0_survey, Cond.selects RX0 yX0_survey yX0_survey, Cond.initialized RX0, Cond.code yX0_survey cX0_survey 2 none, Cond.fieldLink RX0 18 "CodedStore$Catalog" "surveyedAt" "I", Cond.fieldLink RX0 22 "CodedStore$Catalog" "disk" "LCodedStore$Disk;", Cond.fieldLink RX0 9 "CodedStore$Catalog" "whole" "[Z", Cond.fieldLink RX0 15 "CodedStore$Catalog" "live" "[Z", Cond.methodLink RX0 26 yX2_writesDone, Cond.instanceMethod yX2_writesDone, Cond.selects RX2 yX2_writesDone yX2_writesDone, Cond.initialized RX2, Cond.code yX2_writesDone cX2_writesDone 1 (some .int), Cond.fieldLink RX2 23 "CodedStore$Disk" "done" "I", Cond.methodLink RX0 32 yX2_numberOf, Cond.instanceMethod yX2_numberOf]
def wsX4_key_r2 : List Cond := [Cond.selects RX2 yX2_numberOf yX2_numberOf, Cond.code yX2_numberOf cX2_numberOf 2 (some .int), Cond.methodLink RX2 26 yX2_wordAt, Cond.instanceMethod yX2_wordAt, Cond.selects RX2 yX2_wordAt yX2_wordAt, Cond.code yX2_wordAt cX2_wordAt 3 (some .int), Cond.fieldLink RX2 9 "CodedStore$Disk" "words" "[I", Cond.methodLink RX0 36 yX0_hasAllParts, Cond.instanceMethod yX0_hasAllParts, Cond.selects RX0 yX0_hasAllParts yX0_hasAllParts, Cond.code yX0_hasAllParts cX0_hasAllParts 4 (some .boolean), Cond.methodLink RX0 43 yX2_partsOf, Cond.instanceMethod yX2_partsOf, Cond.selects RX2 yX2_partsOf yX2_partsOf, Cond.code yX2_partsOf cX2_partsOf 2 (some .int), Cond.methodLink RX0 40 yX0_isOutdone, Cond.instanceMethod yX0_isOutdone, Cond.selects RX0 yX0_isOutdone yX0_isOutdone, Cond.code yX0_isOutdone cX0_isOutdone 3 (some .boolean), Cond.methodLink RX0 46 yX2_keyOf, Cond.instanceMethod yX2_keyOf, Cond.selects RX2 yX2_keyOf yX2_keyOf, Cond.code yX2_keyOf cX2_keyOf 2 (some .int), Cond.methodLink RX4 155 yX0_firstBlockOfRank]
def wsX4_key_r3 : List Cond := [Cond.instanceMethod yX0_firstBlockOfRank, Cond.selects RX0 yX0_firstBlockOfRank yX0_firstBlockOfRank, Cond.code yX0_firstBlockOfRank cX0_firstBlockOfRank 3 (some .int), Cond.methodLink RX0 58 yX0_isText, Cond.instanceMethod yX0_isText, Cond.selects RX0 yX0_isText yX0_isText, Cond.code yX0_isText cX0_isText 2 (some .boolean), Cond.methodLink RX0 49 yX0_isLive, Cond.instanceMethod yX0_isLive, Cond.selects RX0 yX0_isLive yX0_isLive, Cond.code yX0_isLive cX0_isLive 2 (some .boolean), Cond.methodLink RX0 55 yX2_partOf, Cond.instanceMethod yX2_partOf, Cond.selects RX2 yX2_partOf yX2_partOf, Cond.code yX2_partOf cX2_partOf 2 (some .int), Cond.methodLink RX0 52 yX2_formOf, Cond.instanceMethod yX2_formOf, Cond.selects RX2 yX2_formOf yX2_formOf, Cond.code yX2_formOf cX2_formOf 2 (some .int), Cond.methodLink RX0 61 yX0_countTextsBelow, Cond.instanceMethod yX0_countTextsBelow, Cond.selects RX0 yX0_countTextsBelow yX0_countTextsBelow, Cond.code yX0_countTextsBelow cX0_countTextsBelow 4 (some .int), Cond.methodLink RX4 158 yX2_keyOf]
def wsX4_key : List Cond := .code yX4_key cX4_key 3 (some .int) :: ((wsX4_key_r1 ++ (wsX4_key_r2 ++ wsX4_key_r3)) ++ wsX40 ++ wsX00 ++ wsX20)
def wsX4_pack_r1 : List Cond := [Cond.fieldLink RX4 28 "CodedStore" "tape" "LCodedStore$Octets;", Cond.fieldLink RX4 32 "CodedStore" "loaded" "LCodedStore$Octets;", Cond.methodLink RX4 67 yX1_encode, Cond.static yX1_encode, Cond.initialized RX1, Cond.code yX1_encode cX1_encode 9 none, Cond.methodLink RX1 9 yX3_empty, Cond.instanceMethod yX3_empty, Cond.selects RX3 yX3_empty yX3_empty, Cond.initialized RX3, Cond.code yX3_empty cX3_empty 1 none, Cond.fieldLink RX3 15 "CodedStore$Octets" "size" "I", Cond.methodLink RX1 14 yX3_size, Cond.instanceMethod yX3_size, Cond.selects RX3 yX3_size yX3_size, Cond.code yX3_size cX3_size 1 (some .int), Cond.methodLink RX1 18 yX3_append, Cond.instanceMethod yX3_append, Cond.selects RX3 yX3_append yX3_append, Cond.code yX3_append cX3_append 2 none, Cond.fieldLink RX3 9 "CodedStore$Octets" "octets" "[I", Cond.methodLink RX1 22 yX1_bestDistance, Cond.static yX1_bestDistance, Cond.code yX1_bestDistance cX1_bestDistance 7 (some .int)]
def wsX4_pack_r2 : List Cond := [Cond.methodLink RX1 40 Lib.Math.min.name, Cond.static Lib.Math.min.name, Cond.initialized "java/lang/Math", Cond.code Lib.Math.min.name Lib.Math.min.code 2 (some .int), Cond.methodLink RX1 36 yX1_rowLength, Cond.static yX1_rowLength, Cond.code yX1_rowLength cX1_rowLength 5 (some .int), Cond.methodLink RX1 32 yX3_at, Cond.instanceMethod yX3_at, Cond.selects RX3 yX3_at yX3_at, Cond.code yX3_at cX3_at 2 (some .int), Cond.methodLink RX1 28 yX3_setBit, Cond.instanceMethod yX3_setBit, Cond.selects RX3 yX3_setBit yX3_setBit, Cond.code yX3_setBit cX3_setBit 3 none, Cond.methodLink RX4 77 yX3_empty, Cond.methodLink RX4 52 yX3_size]
def wsX4_pack : List Cond := .code yX4_pack cX4_pack 1 (some .int) :: ((wsX4_pack_r1 ++ wsX4_pack_r2) ++ wsX40 ++ wsX30)
def wsX4_unpack_r1 : List Cond := [Cond.fieldLink RX4 28 "CodedStore" "tape" "LCodedStore$Octets;", Cond.fieldLink RX4 38 "CodedStore" "decoded" "LCodedStore$Octets;", Cond.fieldLink RX4 48 "CodedStore" "failedPlace" "I", Cond.fieldLink RX4 32 "CodedStore" "loaded" "LCodedStore$Octets;", Cond.methodLink RX4 102 yX1_decode, Cond.static yX1_decode, Cond.initialized RX1, Cond.code yX1_decode cX1_decode 8 (some .int), Cond.methodLink RX1 9 yX3_empty, Cond.instanceMethod yX3_empty, Cond.selects RX3 yX3_empty yX3_empty, Cond.initialized RX3, Cond.code yX3_empty cX3_empty 1 none, Cond.fieldLink RX3 15 "CodedStore$Octets" "size" "I", Cond.methodLink RX1 14 yX3_size, Cond.instanceMethod yX3_size, Cond.selects RX3 yX3_size yX3_size, Cond.code yX3_size cX3_size 1 (some .int), Cond.methodLink RX1 32 yX3_at, Cond.instanceMethod yX3_at, Cond.selects RX3 yX3_at yX3_at, Cond.code yX3_at cX3_at 2 (some .int), Cond.fieldLink RX3 9 "CodedStore$Octets" "octets" "[I", Cond.methodLink RX1 46 yX1_decodeSingle]
def wsX4_unpack_r2 : List Cond := [Cond.static yX1_decodeSingle, Cond.code yX1_decodeSingle cX1_decodeSingle 3 (some .int), Cond.methodLink RX1 18 yX3_append, Cond.instanceMethod yX3_append, Cond.selects RX3 yX3_append yX3_append, Cond.code yX3_append cX3_append 2 none, Cond.methodLink RX1 50 yX1_decodeRow, Cond.static yX1_decodeRow, Cond.code yX1_decodeRow cX1_decodeRow 5 (some .int), Cond.methodLink RX1 53 yX3_repeat, Cond.instanceMethod yX3_repeat, Cond.selects RX3 yX3_repeat yX3_repeat, Cond.code yX3_repeat cX3_repeat 4 none, Cond.methodLink RX3 19 yX3_at, Cond.methodLink RX3 26 yX3_append, Cond.methodLink RX4 77 yX3_empty, Cond.methodLink RX4 73 yX3_becomeLike, Cond.instanceMethod yX3_becomeLike, Cond.selects RX3 yX3_becomeLike yX3_becomeLike, Cond.code yX3_becomeLike cX3_becomeLike 3 none, Cond.methodLink RX3 23 yX3_empty, Cond.methodLink RX4 52 yX3_size]
def wsX4_unpack : List Cond := .code yX4_unpack cX4_unpack 2 (some .int) :: ((wsX4_unpack_r1 ++ wsX4_unpack_r2) ++ wsX40 ++ wsX30)
def wsX4_place : List Cond := .code yX4_place cX4_place 1 (some .int) :: ([.fieldLink RX4 48 "CodedStore" "failedPlace" "I"] ++ wsX40)
def wsX5_init : List Cond := .code yX5_init cX5_init 1 none :: ([.methodLink RX5 1 objectInit, .instanceMethod objectInit, .code objectInit ⟨#[0xb1]⟩ 1 none, .arrayClass .int, .fieldLink RX5 7 "CodedStoreModel" "disk" "[I", .fieldLink RX5 13 "CodedStoreModel" "tape" "[I", .fieldLink RX5 16 "CodedStoreModel" "on" "Z", .fieldLink RX5 20 "CodedStoreModel" "until" "I", .fieldLink RX5 24 "CodedStoreModel" "place" "I", .fieldLink RX5 27 "CodedStoreModel" "loaded" "[I", .fieldLink RX5 30 "CodedStoreModel" "made" "[I", .fieldLink RX5 33 "CodedStoreModel" "hand" "[I", .arrayClass .boolean, .fieldLink RX5 36 "CodedStoreModel" "wasLive" "[Z", .fieldLink RX5 40 "CodedStoreModel" "size" "I"] ++ wsX50)
def wsX5_thrown : List Cond := .code yX5_thrown cX5_thrown 1 (some .int) :: ([.fieldLink RX5 43 "CodedStoreModel" "thrown" "I"] ++ wsX50)
def wsX5_feed : List Cond := .code yX5_feed cX5_feed 5 (some .int) :: ([.fieldLink RX5 40 "CodedStoreModel" "size" "I", .fieldLink RX5 43 "CodedStoreModel" "thrown" "I", .fieldLink RX5 13 "CodedStoreModel" "tape" "[I", .constantLong RX5 46 (255)] ++ wsX50)
def wsX5_alike : List Cond := .code yX5_alike cX5_alike 4 (some .int) :: ([.fieldLink RX5 48 "CodedStoreModel" "handSize" "I", .fieldLink RX5 33 "CodedStoreModel" "hand" "[I"] ++ wsX50)
def wsX5_put : List Cond := .code yX5_put cX5_put 2 none :: ([.fieldLink RX5 30 "CodedStoreModel" "made" "[I", .fieldLink RX5 51 "CodedStoreModel" "madeSize" "I"] ++ wsX50)
def wsX5_code : List Cond := .code yX5_code cX5_code 8 none :: ([.fieldLink RX5 51 "CodedStoreModel" "madeSize" "I", .fieldLink RX5 48 "CodedStoreModel" "handSize" "I", .fieldLink RX5 30 "CodedStoreModel" "made" "[I", .fieldLink RX5 33 "CodedStoreModel" "hand" "[I", .methodLink RX5 54 yX5_put, .instanceMethod yX5_put, .selects RX5 yX5_put yX5_put, .initialized RX5, .code yX5_put cX5_put 2 none, .methodLink RX5 58 yX5_alike, .instanceMethod yX5_alike, .selects RX5 yX5_alike yX5_alike, .code yX5_alike cX5_alike 4 (some .int)] ++ wsX50)
def wsX5_wrong : List Cond := .code yX5_wrong cX5_wrong 2 (some .boolean) :: ([.fieldLink RX5 24 "CodedStoreModel" "place" "I"] ++ wsX50)
def wsX5_decode : List Cond := .code yX5_decode cX5_decode 8 (some .boolean) :: ([.fieldLink RX5 51 "CodedStoreModel" "madeSize" "I", .fieldLink RX5 48 "CodedStoreModel" "handSize" "I", .fieldLink RX5 33 "CodedStoreModel" "hand" "[I", .fieldLink RX5 30 "CodedStoreModel" "made" "[I", .methodLink RX5 62 yX5_wrong, .instanceMethod yX5_wrong, .selects RX5 yX5_wrong yX5_wrong, .initialized RX5, .code yX5_wrong cX5_wrong 2 (some .boolean), .fieldLink RX5 24 "CodedStoreModel" "place" "I", .methodLink RX5 54 yX5_put, .instanceMethod yX5_put, .selects RX5 yX5_put yX5_put, .code yX5_put cX5_put 2 none] ++ wsX50)
def wsX5_load0 : List Cond := .code yX5_load0 cX5_load0 2 none :: ([.fieldLink RX5 51 "CodedStoreModel" "madeSize" "I", .fieldLink RX5 66 "CodedStoreModel" "loadedSize" "I", .fieldLink RX5 27 "CodedStoreModel" "loaded" "[I", .fieldLink RX5 30 "CodedStoreModel" "made" "[I"] ++ wsX50)
def wsX5_takeTape : List Cond := .code yX5_takeTape cX5_takeTape 2 none :: ([.fieldLink RX5 40 "CodedStoreModel" "size" "I", .fieldLink RX5 48 "CodedStoreModel" "handSize" "I", .fieldLink RX5 33 "CodedStoreModel" "hand" "[I", .fieldLink RX5 13 "CodedStoreModel" "tape" "[I"] ++ wsX50)
def wsX5_pack_r1 : List Cond := [Cond.fieldLink RX5 43 "CodedStoreModel" "thrown" "I", Cond.fieldLink RX5 66 "CodedStoreModel" "loadedSize" "I", Cond.methodLink RX5 69 yX5_takeTape, Cond.instanceMethod yX5_takeTape, Cond.selects RX5 yX5_takeTape yX5_takeTape, Cond.initialized RX5, Cond.code yX5_takeTape cX5_takeTape 2 none, Cond.fieldLink RX5 40 "CodedStoreModel" "size" "I", Cond.fieldLink RX5 48 "CodedStoreModel" "handSize" "I", Cond.fieldLink RX5 33 "CodedStoreModel" "hand" "[I", Cond.fieldLink RX5 13 "CodedStoreModel" "tape" "[I", Cond.methodLink RX5 72 yX5_code, Cond.instanceMethod yX5_code, Cond.selects RX5 yX5_code yX5_code, Cond.code yX5_code cX5_code 8 none, Cond.fieldLink RX5 51 "CodedStoreModel" "madeSize" "I", Cond.fieldLink RX5 30 "CodedStoreModel" "made" "[I", Cond.methodLink RX5 54 yX5_put, Cond.instanceMethod yX5_put, Cond.selects RX5 yX5_put yX5_put, Cond.code yX5_put cX5_put 2 none, Cond.methodLink RX5 58 yX5_alike, Cond.instanceMethod yX5_alike, Cond.selects RX5 yX5_alike yX5_alike]
def wsX5_pack_r2 : List Cond := [Cond.code yX5_alike cX5_alike 4 (some .int), Cond.methodLink RX5 75 yX5_load0, Cond.instanceMethod yX5_load0, Cond.selects RX5 yX5_load0 yX5_load0, Cond.code yX5_load0 cX5_load0 2 none, Cond.fieldLink RX5 27 "CodedStoreModel" "loaded" "[I"]
def wsX5_pack : List Cond := .code yX5_pack cX5_pack 1 (some .int) :: ((wsX5_pack_r1 ++ wsX5_pack_r2) ++ wsX50)
def wsX5_unpack_r1 : List Cond := [Cond.fieldLink RX5 43 "CodedStoreModel" "thrown" "I", Cond.fieldLink RX5 66 "CodedStoreModel" "loadedSize" "I", Cond.methodLink RX5 69 yX5_takeTape, Cond.instanceMethod yX5_takeTape, Cond.selects RX5 yX5_takeTape yX5_takeTape, Cond.initialized RX5, Cond.code yX5_takeTape cX5_takeTape 2 none, Cond.fieldLink RX5 40 "CodedStoreModel" "size" "I", Cond.fieldLink RX5 48 "CodedStoreModel" "handSize" "I", Cond.fieldLink RX5 33 "CodedStoreModel" "hand" "[I", Cond.fieldLink RX5 13 "CodedStoreModel" "tape" "[I", Cond.methodLink RX5 78 yX5_decode, Cond.instanceMethod yX5_decode, Cond.selects RX5 yX5_decode yX5_decode, Cond.code yX5_decode cX5_decode 8 (some .boolean), Cond.fieldLink RX5 51 "CodedStoreModel" "madeSize" "I", Cond.fieldLink RX5 30 "CodedStoreModel" "made" "[I", Cond.methodLink RX5 62 yX5_wrong, Cond.instanceMethod yX5_wrong, Cond.selects RX5 yX5_wrong yX5_wrong, Cond.code yX5_wrong cX5_wrong 2 (some .boolean), Cond.fieldLink RX5 24 "CodedStoreModel" "place" "I", Cond.methodLink RX5 54 yX5_put, Cond.instanceMethod yX5_put]
def wsX5_unpack_r2 : List Cond := [Cond.selects RX5 yX5_put yX5_put, Cond.code yX5_put cX5_put 2 none, Cond.methodLink RX5 75 yX5_load0, Cond.instanceMethod yX5_load0, Cond.selects RX5 yX5_load0 yX5_load0, Cond.code yX5_load0 cX5_load0 2 none, Cond.fieldLink RX5 27 "CodedStoreModel" "loaded" "[I"]
def wsX5_unpack : List Cond := .code yX5_unpack cX5_unpack 1 (some .int) :: ((wsX5_unpack_r1 ++ wsX5_unpack_r2) ++ wsX50)
def wsX5_place : List Cond := .code yX5_place cX5_place 1 (some .int) :: ([.fieldLink RX5 43 "CodedStoreModel" "thrown" "I", .fieldLink RX5 24 "CodedStoreModel" "place" "I"] ++ wsX50)
def wsX5_out : List Cond := .code yX5_out cX5_out 2 (some .int) :: ([.fieldLink RX5 43 "CodedStoreModel" "thrown" "I", .fieldLink RX5 66 "CodedStoreModel" "loadedSize" "I", .fieldLink RX5 27 "CodedStoreModel" "loaded" "[I"] ++ wsX50)
def wsX5_numberOf : List Cond := .code yX5_numberOf cX5_numberOf 2 (some .int) :: ([.fieldLink RX5 7 "CodedStoreModel" "disk" "[I"] ++ wsX50)
def wsX5_partOf : List Cond := .code yX5_partOf cX5_partOf 2 (some .int) :: ([.fieldLink RX5 7 "CodedStoreModel" "disk" "[I"] ++ wsX50)
def wsX5_partsOf : List Cond := .code yX5_partsOf cX5_partsOf 2 (some .int) :: ([.fieldLink RX5 7 "CodedStoreModel" "disk" "[I"] ++ wsX50)
def wsX5_formOf : List Cond := .code yX5_formOf cX5_formOf 2 (some .int) :: ([.fieldLink RX5 7 "CodedStoreModel" "disk" "[I"] ++ wsX50)
def wsX5_keyOf : List Cond := .code yX5_keyOf cX5_keyOf 2 (some .int) :: ([.fieldLink RX5 7 "CodedStoreModel" "disk" "[I"] ++ wsX50)
def wsX5_isWhole : List Cond := .code yX5_isWhole cX5_isWhole 4 (some .boolean) :: ([.methodLink RX5 82 yX5_numberOf, .instanceMethod yX5_numberOf, .selects RX5 yX5_numberOf yX5_numberOf, .initialized RX5, .code yX5_numberOf cX5_numberOf 2 (some .int), .fieldLink RX5 7 "CodedStoreModel" "disk" "[I", .methodLink RX5 86 yX5_partsOf, .instanceMethod yX5_partsOf, .selects RX5 yX5_partsOf yX5_partsOf, .code yX5_partsOf cX5_partsOf 2 (some .int)] ++ wsX50)
def wsX5_isLive : List Cond := .code yX5_isLive cX5_isLive 3 (some .boolean) :: ([.methodLink RX5 89 yX5_isWhole, .instanceMethod yX5_isWhole, .selects RX5 yX5_isWhole yX5_isWhole, .initialized RX5, .code yX5_isWhole cX5_isWhole 4 (some .boolean), .methodLink RX5 82 yX5_numberOf, .instanceMethod yX5_numberOf, .selects RX5 yX5_numberOf yX5_numberOf, .code yX5_numberOf cX5_numberOf 2 (some .int), .fieldLink RX5 7 "CodedStoreModel" "disk" "[I", .methodLink RX5 86 yX5_partsOf, .instanceMethod yX5_partsOf, .selects RX5 yX5_partsOf yX5_partsOf, .code yX5_partsOf cX5_partsOf 2 (some .int), .methodLink RX5 92 yX5_keyOf, .instanceMethod yX5_keyOf, .selects RX5 yX5_keyOf yX5_keyOf, .code yX5_keyOf cX5_keyOf 2 (some .int)] ++ wsX50)
def wsX5_find_r1 : List Cond := [Cond.methodLink RX5 82 yX5_numberOf, Cond.instanceMethod yX5_numberOf, Cond.selects RX5 yX5_numberOf yX5_numberOf, Cond.initialized RX5, Cond.code yX5_numberOf cX5_numberOf 2 (some .int), Cond.fieldLink RX5 7 "CodedStoreModel" "disk" "[I", Cond.methodLink RX5 92 yX5_keyOf, Cond.instanceMethod yX5_keyOf, Cond.selects RX5 yX5_keyOf yX5_keyOf, Cond.code yX5_keyOf cX5_keyOf 2 (some .int), Cond.methodLink RX5 95 yX5_partOf, Cond.instanceMethod yX5_partOf, Cond.selects RX5 yX5_partOf yX5_partOf, Cond.code yX5_partOf cX5_partOf 2 (some .int), Cond.methodLink RX5 98 yX5_isLive, Cond.instanceMethod yX5_isLive, Cond.selects RX5 yX5_isLive yX5_isLive, Cond.code yX5_isLive cX5_isLive 3 (some .boolean), Cond.methodLink RX5 89 yX5_isWhole, Cond.instanceMethod yX5_isWhole, Cond.selects RX5 yX5_isWhole yX5_isWhole, Cond.code yX5_isWhole cX5_isWhole 4 (some .boolean), Cond.methodLink RX5 86 yX5_partsOf, Cond.instanceMethod yX5_partsOf]
def wsX5_find_r2 : List Cond := [Cond.selects RX5 yX5_partsOf yX5_partsOf, Cond.code yX5_partsOf cX5_partsOf 2 (some .int)]
def wsX5_find : List Cond := .code yX5_find cX5_find 3 (some .int) :: ((wsX5_find_r1 ++ wsX5_find_r2) ++ wsX50)
def wsX5_isText_r1 : List Cond := [Cond.methodLink RX5 82 yX5_numberOf, Cond.instanceMethod yX5_numberOf, Cond.selects RX5 yX5_numberOf yX5_numberOf, Cond.initialized RX5, Cond.code yX5_numberOf cX5_numberOf 2 (some .int), Cond.fieldLink RX5 7 "CodedStoreModel" "disk" "[I", Cond.methodLink RX5 95 yX5_partOf, Cond.instanceMethod yX5_partOf, Cond.selects RX5 yX5_partOf yX5_partOf, Cond.code yX5_partOf cX5_partOf 2 (some .int), Cond.methodLink RX5 101 yX5_formOf, Cond.instanceMethod yX5_formOf, Cond.selects RX5 yX5_formOf yX5_formOf, Cond.code yX5_formOf cX5_formOf 2 (some .int), Cond.methodLink RX5 98 yX5_isLive, Cond.instanceMethod yX5_isLive, Cond.selects RX5 yX5_isLive yX5_isLive, Cond.code yX5_isLive cX5_isLive 3 (some .boolean), Cond.methodLink RX5 89 yX5_isWhole, Cond.instanceMethod yX5_isWhole, Cond.selects RX5 yX5_isWhole yX5_isWhole, Cond.code yX5_isWhole cX5_isWhole 4 (some .boolean), Cond.methodLink RX5 86 yX5_partsOf, Cond.instanceMethod yX5_partsOf]
def wsX5_isText_r2 : List Cond := [Cond.selects RX5 yX5_partsOf yX5_partsOf, Cond.code yX5_partsOf cX5_partsOf 2 (some .int), Cond.methodLink RX5 92 yX5_keyOf, Cond.instanceMethod yX5_keyOf, Cond.selects RX5 yX5_keyOf yX5_keyOf, Cond.code yX5_keyOf cX5_keyOf 2 (some .int)]
def wsX5_isText : List Cond := .code yX5_isText cX5_isText 2 (some .boolean) :: ((wsX5_isText_r1 ++ wsX5_isText_r2) ++ wsX50)
def wsX5_greatest : List Cond := .code yX5_greatest cX5_greatest 3 (some .int) :: ([.methodLink RX5 82 yX5_numberOf, .instanceMethod yX5_numberOf, .selects RX5 yX5_numberOf yX5_numberOf, .initialized RX5, .code yX5_numberOf cX5_numberOf 2 (some .int), .fieldLink RX5 7 "CodedStoreModel" "disk" "[I"] ++ wsX50)
def wsX5_mayWrite : List Cond := .code yX5_mayWrite cX5_mayWrite 1 (some .boolean) :: ([.fieldLink RX5 20 "CodedStoreModel" "until" "I", .fieldLink RX5 16 "CodedStoreModel" "on" "Z", .fieldLink RX5 104 "CodedStoreModel" "writes" "I"] ++ wsX50)
def wsX5_findLive : List Cond := .code yX5_findLive cX5_findLive 3 (some .int) :: ([.fieldLink RX5 36 "CodedStoreModel" "wasLive" "[Z", .methodLink RX5 98 yX5_isLive, .instanceMethod yX5_isLive, .selects RX5 yX5_isLive yX5_isLive, .initialized RX5, .code yX5_isLive cX5_isLive 3 (some .boolean), .methodLink RX5 89 yX5_isWhole, .instanceMethod yX5_isWhole, .selects RX5 yX5_isWhole yX5_isWhole, .code yX5_isWhole cX5_isWhole 4 (some .boolean), .methodLink RX5 82 yX5_numberOf, .instanceMethod yX5_numberOf, .selects RX5 yX5_numberOf yX5_numberOf, .code yX5_numberOf cX5_numberOf 2 (some .int), .fieldLink RX5 7 "CodedStoreModel" "disk" "[I", .methodLink RX5 86 yX5_partsOf, .instanceMethod yX5_partsOf, .selects RX5 yX5_partsOf yX5_partsOf, .code yX5_partsOf cX5_partsOf 2 (some .int), .methodLink RX5 92 yX5_keyOf, .instanceMethod yX5_keyOf, .selects RX5 yX5_keyOf yX5_keyOf, .code yX5_keyOf cX5_keyOf 2 (some .int)] ++ wsX50)
def wsX5_word4 : List Cond := .code yX5_word4 cX5_word4 4 (some .int) :: ([.fieldLink RX5 51 "CodedStoreModel" "madeSize" "I", .fieldLink RX5 30 "CodedStoreModel" "made" "[I"] ++ wsX50)
def wsX5_putRecord_r1 : List Cond := [Cond.fieldLink RX5 51 "CodedStoreModel" "madeSize" "I", Cond.fieldLink RX5 36 "CodedStoreModel" "wasLive" "[Z", Cond.fieldLink RX5 7 "CodedStoreModel" "disk" "[I", Cond.constant RX5 117 (65536), Cond.methodLink RX5 107 yX5_greatest, Cond.instanceMethod yX5_greatest, Cond.selects RX5 yX5_greatest yX5_greatest, Cond.initialized RX5, Cond.code yX5_greatest cX5_greatest 3 (some .int), Cond.methodLink RX5 82 yX5_numberOf, Cond.instanceMethod yX5_numberOf, Cond.selects RX5 yX5_numberOf yX5_numberOf, Cond.code yX5_numberOf cX5_numberOf 2 (some .int), Cond.methodLink RX5 111 yX5_findLive, Cond.instanceMethod yX5_findLive, Cond.selects RX5 yX5_findLive yX5_findLive, Cond.code yX5_findLive cX5_findLive 3 (some .int), Cond.methodLink RX5 98 yX5_isLive, Cond.instanceMethod yX5_isLive, Cond.selects RX5 yX5_isLive yX5_isLive, Cond.code yX5_isLive cX5_isLive 3 (some .boolean), Cond.methodLink RX5 89 yX5_isWhole, Cond.instanceMethod yX5_isWhole, Cond.selects RX5 yX5_isWhole yX5_isWhole]
def wsX5_putRecord_r2 : List Cond := [Cond.code yX5_isWhole cX5_isWhole 4 (some .boolean), Cond.methodLink RX5 86 yX5_partsOf, Cond.instanceMethod yX5_partsOf, Cond.selects RX5 yX5_partsOf yX5_partsOf, Cond.code yX5_partsOf cX5_partsOf 2 (some .int), Cond.methodLink RX5 92 yX5_keyOf, Cond.instanceMethod yX5_keyOf, Cond.selects RX5 yX5_keyOf yX5_keyOf, Cond.code yX5_keyOf cX5_keyOf 2 (some .int), Cond.methodLink RX5 114 yX5_mayWrite, Cond.instanceMethod yX5_mayWrite, Cond.selects RX5 yX5_mayWrite yX5_mayWrite, Cond.code yX5_mayWrite cX5_mayWrite 1 (some .boolean), Cond.fieldLink RX5 20 "CodedStoreModel" "until" "I", Cond.fieldLink RX5 16 "CodedStoreModel" "on" "Z", Cond.fieldLink RX5 104 "CodedStoreModel" "writes" "I", Cond.methodLink RX5 118 yX5_word4, Cond.instanceMethod yX5_word4, Cond.selects RX5 yX5_word4 yX5_word4, Cond.code yX5_word4 cX5_word4 4 (some .int), Cond.fieldLink RX5 30 "CodedStoreModel" "made" "[I"]
def wsX5_putRecord : List Cond := .code yX5_putRecord cX5_putRecord 10 (some .int) :: ((wsX5_putRecord_r1 ++ wsX5_putRecord_r2) ++ wsX50)
def wsX5_commit_r1 : List Cond := [Cond.fieldLink RX5 43 "CodedStoreModel" "thrown" "I", Cond.fieldLink RX5 16 "CodedStoreModel" "on" "Z", Cond.fieldLink RX5 51 "CodedStoreModel" "madeSize" "I", Cond.fieldLink RX5 48 "CodedStoreModel" "handSize" "I", Cond.fieldLink RX5 30 "CodedStoreModel" "made" "[I", Cond.fieldLink RX5 33 "CodedStoreModel" "hand" "[I", Cond.methodLink RX5 69 yX5_takeTape, Cond.instanceMethod yX5_takeTape, Cond.selects RX5 yX5_takeTape yX5_takeTape, Cond.initialized RX5, Cond.code yX5_takeTape cX5_takeTape 2 none, Cond.fieldLink RX5 40 "CodedStoreModel" "size" "I", Cond.fieldLink RX5 13 "CodedStoreModel" "tape" "[I", Cond.methodLink RX5 72 yX5_code, Cond.instanceMethod yX5_code, Cond.selects RX5 yX5_code yX5_code, Cond.code yX5_code cX5_code 8 none, Cond.methodLink RX5 54 yX5_put, Cond.instanceMethod yX5_put, Cond.selects RX5 yX5_put yX5_put, Cond.code yX5_put cX5_put 2 none, Cond.methodLink RX5 58 yX5_alike, Cond.instanceMethod yX5_alike, Cond.selects RX5 yX5_alike yX5_alike]
def wsX5_commit_r2 : List Cond := [Cond.code yX5_alike cX5_alike 4 (some .int), Cond.methodLink RX5 121 yX5_putRecord, Cond.instanceMethod yX5_putRecord, Cond.selects RX5 yX5_putRecord yX5_putRecord, Cond.code yX5_putRecord cX5_putRecord 10 (some .int), Cond.fieldLink RX5 36 "CodedStoreModel" "wasLive" "[Z", Cond.fieldLink RX5 7 "CodedStoreModel" "disk" "[I", Cond.constant RX5 117 (65536), Cond.methodLink RX5 107 yX5_greatest, Cond.instanceMethod yX5_greatest, Cond.selects RX5 yX5_greatest yX5_greatest, Cond.code yX5_greatest cX5_greatest 3 (some .int), Cond.methodLink RX5 82 yX5_numberOf, Cond.instanceMethod yX5_numberOf, Cond.selects RX5 yX5_numberOf yX5_numberOf, Cond.code yX5_numberOf cX5_numberOf 2 (some .int), Cond.methodLink RX5 111 yX5_findLive, Cond.instanceMethod yX5_findLive, Cond.selects RX5 yX5_findLive yX5_findLive, Cond.code yX5_findLive cX5_findLive 3 (some .int), Cond.methodLink RX5 98 yX5_isLive, Cond.instanceMethod yX5_isLive, Cond.selects RX5 yX5_isLive yX5_isLive, Cond.code yX5_isLive cX5_isLive 3 (some .boolean)]
def wsX5_commit_r3 : List Cond := [Cond.methodLink RX5 89 yX5_isWhole, Cond.instanceMethod yX5_isWhole, Cond.selects RX5 yX5_isWhole yX5_isWhole, Cond.code yX5_isWhole cX5_isWhole 4 (some .boolean), Cond.methodLink RX5 86 yX5_partsOf, Cond.instanceMethod yX5_partsOf, Cond.selects RX5 yX5_partsOf yX5_partsOf, Cond.code yX5_partsOf cX5_partsOf 2 (some .int), Cond.methodLink RX5 92 yX5_keyOf, Cond.instanceMethod yX5_keyOf, Cond.selects RX5 yX5_keyOf yX5_keyOf, Cond.code yX5_keyOf cX5_keyOf 2 (some .int), Cond.methodLink RX5 114 yX5_mayWrite, Cond.instanceMethod yX5_mayWrite, Cond.selects RX5 yX5_mayWrite yX5_mayWrite, Cond.code yX5_mayWrite cX5_mayWrite 1 (some .boolean), Cond.fieldLink RX5 20 "CodedStoreModel" "until" "I", Cond.fieldLink RX5 104 "CodedStoreModel" "writes" "I", Cond.methodLink RX5 118 yX5_word4, Cond.instanceMethod yX5_word4, Cond.selects RX5 yX5_word4 yX5_word4, Cond.code yX5_word4 cX5_word4 4 (some .int)]
def wsX5_commit : List Cond := .code yX5_commit cX5_commit 4 (some .int) :: ((wsX5_commit_r1 ++ (wsX5_commit_r2 ++ wsX5_commit_r3)) ++ wsX50)
def wsX5_delete_r1 : List Cond := [Cond.fieldLink RX5 43 "CodedStoreModel" "thrown" "I", Cond.fieldLink RX5 16 "CodedStoreModel" "on" "Z", Cond.fieldLink RX5 51 "CodedStoreModel" "madeSize" "I", Cond.methodLink RX5 124 yX5_find, Cond.instanceMethod yX5_find, Cond.selects RX5 yX5_find yX5_find, Cond.initialized RX5, Cond.code yX5_find cX5_find 3 (some .int), Cond.methodLink RX5 82 yX5_numberOf, Cond.instanceMethod yX5_numberOf, Cond.selects RX5 yX5_numberOf yX5_numberOf, Cond.code yX5_numberOf cX5_numberOf 2 (some .int), Cond.fieldLink RX5 7 "CodedStoreModel" "disk" "[I", Cond.methodLink RX5 92 yX5_keyOf, Cond.instanceMethod yX5_keyOf, Cond.selects RX5 yX5_keyOf yX5_keyOf, Cond.code yX5_keyOf cX5_keyOf 2 (some .int), Cond.methodLink RX5 95 yX5_partOf, Cond.instanceMethod yX5_partOf, Cond.selects RX5 yX5_partOf yX5_partOf, Cond.code yX5_partOf cX5_partOf 2 (some .int), Cond.methodLink RX5 98 yX5_isLive, Cond.instanceMethod yX5_isLive, Cond.selects RX5 yX5_isLive yX5_isLive]
def wsX5_delete_r2 : List Cond := [Cond.code yX5_isLive cX5_isLive 3 (some .boolean), Cond.methodLink RX5 89 yX5_isWhole, Cond.instanceMethod yX5_isWhole, Cond.selects RX5 yX5_isWhole yX5_isWhole, Cond.code yX5_isWhole cX5_isWhole 4 (some .boolean), Cond.methodLink RX5 86 yX5_partsOf, Cond.instanceMethod yX5_partsOf, Cond.selects RX5 yX5_partsOf yX5_partsOf, Cond.code yX5_partsOf cX5_partsOf 2 (some .int), Cond.methodLink RX5 101 yX5_formOf, Cond.instanceMethod yX5_formOf, Cond.selects RX5 yX5_formOf yX5_formOf, Cond.code yX5_formOf cX5_formOf 2 (some .int), Cond.methodLink RX5 121 yX5_putRecord, Cond.instanceMethod yX5_putRecord, Cond.selects RX5 yX5_putRecord yX5_putRecord, Cond.code yX5_putRecord cX5_putRecord 10 (some .int), Cond.fieldLink RX5 36 "CodedStoreModel" "wasLive" "[Z", Cond.constant RX5 117 (65536), Cond.methodLink RX5 107 yX5_greatest, Cond.instanceMethod yX5_greatest, Cond.selects RX5 yX5_greatest yX5_greatest, Cond.code yX5_greatest cX5_greatest 3 (some .int), Cond.methodLink RX5 111 yX5_findLive]
def wsX5_delete_r3 : List Cond := [Cond.instanceMethod yX5_findLive, Cond.selects RX5 yX5_findLive yX5_findLive, Cond.code yX5_findLive cX5_findLive 3 (some .int), Cond.methodLink RX5 114 yX5_mayWrite, Cond.instanceMethod yX5_mayWrite, Cond.selects RX5 yX5_mayWrite yX5_mayWrite, Cond.code yX5_mayWrite cX5_mayWrite 1 (some .boolean), Cond.fieldLink RX5 20 "CodedStoreModel" "until" "I", Cond.fieldLink RX5 104 "CodedStoreModel" "writes" "I", Cond.methodLink RX5 118 yX5_word4, Cond.instanceMethod yX5_word4, Cond.selects RX5 yX5_word4 yX5_word4, Cond.code yX5_word4 cX5_word4 4 (some .int), Cond.fieldLink RX5 30 "CodedStoreModel" "made" "[I"]
def wsX5_delete : List Cond := .code yX5_delete cX5_delete 3 (some .int) :: ((wsX5_delete_r1 ++ (wsX5_delete_r2 ++ wsX5_delete_r3)) ++ wsX50)
def wsX5_load_r1 : List Cond := [Cond.fieldLink RX5 43 "CodedStoreModel" "thrown" "I", Cond.fieldLink RX5 16 "CodedStoreModel" "on" "Z", Cond.fieldLink RX5 7 "CodedStoreModel" "disk" "[I", Cond.fieldLink RX5 48 "CodedStoreModel" "handSize" "I", Cond.fieldLink RX5 33 "CodedStoreModel" "hand" "[I", Cond.fieldLink RX5 51 "CodedStoreModel" "madeSize" "I", Cond.fieldLink RX5 30 "CodedStoreModel" "made" "[I", Cond.fieldLink RX5 66 "CodedStoreModel" "loadedSize" "I", Cond.methodLink RX5 124 yX5_find, Cond.instanceMethod yX5_find, Cond.selects RX5 yX5_find yX5_find, Cond.initialized RX5, Cond.code yX5_find cX5_find 3 (some .int), Cond.methodLink RX5 82 yX5_numberOf, Cond.instanceMethod yX5_numberOf, Cond.selects RX5 yX5_numberOf yX5_numberOf, Cond.code yX5_numberOf cX5_numberOf 2 (some .int), Cond.methodLink RX5 92 yX5_keyOf, Cond.instanceMethod yX5_keyOf, Cond.selects RX5 yX5_keyOf yX5_keyOf, Cond.code yX5_keyOf cX5_keyOf 2 (some .int), Cond.methodLink RX5 95 yX5_partOf, Cond.instanceMethod yX5_partOf, Cond.selects RX5 yX5_partOf yX5_partOf]
def wsX5_load_r2 : List Cond := [Cond.code yX5_partOf cX5_partOf 2 (some .int), Cond.methodLink RX5 98 yX5_isLive, Cond.instanceMethod yX5_isLive, Cond.selects RX5 yX5_isLive yX5_isLive, Cond.code yX5_isLive cX5_isLive 3 (some .boolean), Cond.methodLink RX5 89 yX5_isWhole, Cond.instanceMethod yX5_isWhole, Cond.selects RX5 yX5_isWhole yX5_isWhole, Cond.code yX5_isWhole cX5_isWhole 4 (some .boolean), Cond.methodLink RX5 86 yX5_partsOf, Cond.instanceMethod yX5_partsOf, Cond.selects RX5 yX5_partsOf yX5_partsOf, Cond.code yX5_partsOf cX5_partsOf 2 (some .int), Cond.methodLink RX5 101 yX5_formOf, Cond.instanceMethod yX5_formOf, Cond.selects RX5 yX5_formOf yX5_formOf, Cond.code yX5_formOf cX5_formOf 2 (some .int), Cond.methodLink RX5 78 yX5_decode, Cond.instanceMethod yX5_decode, Cond.selects RX5 yX5_decode yX5_decode, Cond.code yX5_decode cX5_decode 8 (some .boolean), Cond.methodLink RX5 62 yX5_wrong, Cond.instanceMethod yX5_wrong, Cond.selects RX5 yX5_wrong yX5_wrong]
def wsX5_load_r3 : List Cond := [Cond.code yX5_wrong cX5_wrong 2 (some .boolean), Cond.fieldLink RX5 24 "CodedStoreModel" "place" "I", Cond.methodLink RX5 54 yX5_put, Cond.instanceMethod yX5_put, Cond.selects RX5 yX5_put yX5_put, Cond.code yX5_put cX5_put 2 none, Cond.methodLink RX5 75 yX5_load0, Cond.instanceMethod yX5_load0, Cond.selects RX5 yX5_load0 yX5_load0, Cond.code yX5_load0 cX5_load0 2 none, Cond.fieldLink RX5 27 "CodedStoreModel" "loaded" "[I"]
def wsX5_load : List Cond := .code yX5_load cX5_load 6 (some .int) :: ((wsX5_load_r1 ++ (wsX5_load_r2 ++ wsX5_load_r3)) ++ wsX50)
def wsX5_zero : List Cond := .code yX5_zero cX5_zero 3 (some .boolean) :: ([.fieldLink RX5 7 "CodedStoreModel" "disk" "[I", .methodLink RX5 114 yX5_mayWrite, .instanceMethod yX5_mayWrite, .selects RX5 yX5_mayWrite yX5_mayWrite, .initialized RX5, .code yX5_mayWrite cX5_mayWrite 1 (some .boolean), .fieldLink RX5 20 "CodedStoreModel" "until" "I", .fieldLink RX5 16 "CodedStoreModel" "on" "Z", .fieldLink RX5 104 "CodedStoreModel" "writes" "I"] ++ wsX50)
def wsX5_clean_r1 : List Cond := [Cond.fieldLink RX5 43 "CodedStoreModel" "thrown" "I", Cond.fieldLink RX5 16 "CodedStoreModel" "on" "Z", Cond.fieldLink RX5 36 "CodedStoreModel" "wasLive" "[Z", Cond.methodLink RX5 111 yX5_findLive, Cond.instanceMethod yX5_findLive, Cond.selects RX5 yX5_findLive yX5_findLive, Cond.initialized RX5, Cond.code yX5_findLive cX5_findLive 3 (some .int), Cond.methodLink RX5 98 yX5_isLive, Cond.instanceMethod yX5_isLive, Cond.selects RX5 yX5_isLive yX5_isLive, Cond.code yX5_isLive cX5_isLive 3 (some .boolean), Cond.methodLink RX5 89 yX5_isWhole, Cond.instanceMethod yX5_isWhole, Cond.selects RX5 yX5_isWhole yX5_isWhole, Cond.code yX5_isWhole cX5_isWhole 4 (some .boolean), Cond.methodLink RX5 82 yX5_numberOf, Cond.instanceMethod yX5_numberOf, Cond.selects RX5 yX5_numberOf yX5_numberOf, Cond.code yX5_numberOf cX5_numberOf 2 (some .int), Cond.fieldLink RX5 7 "CodedStoreModel" "disk" "[I", Cond.methodLink RX5 86 yX5_partsOf, Cond.instanceMethod yX5_partsOf, Cond.selects RX5 yX5_partsOf yX5_partsOf]
def wsX5_clean_r2 : List Cond := [Cond.code yX5_partsOf cX5_partsOf 2 (some .int), Cond.methodLink RX5 92 yX5_keyOf, Cond.instanceMethod yX5_keyOf, Cond.selects RX5 yX5_keyOf yX5_keyOf, Cond.code yX5_keyOf cX5_keyOf 2 (some .int), Cond.methodLink RX5 127 yX5_zero, Cond.instanceMethod yX5_zero, Cond.selects RX5 yX5_zero yX5_zero, Cond.code yX5_zero cX5_zero 3 (some .boolean), Cond.methodLink RX5 114 yX5_mayWrite, Cond.instanceMethod yX5_mayWrite, Cond.selects RX5 yX5_mayWrite yX5_mayWrite, Cond.code yX5_mayWrite cX5_mayWrite 1 (some .boolean), Cond.fieldLink RX5 20 "CodedStoreModel" "until" "I", Cond.fieldLink RX5 104 "CodedStoreModel" "writes" "I", Cond.methodLink RX5 101 yX5_formOf, Cond.instanceMethod yX5_formOf, Cond.selects RX5 yX5_formOf yX5_formOf, Cond.code yX5_formOf cX5_formOf 2 (some .int)]
def wsX5_clean : List Cond := .code yX5_clean cX5_clean 4 (some .int) :: ((wsX5_clean_r1 ++ wsX5_clean_r2) ++ wsX50)
def wsX5_power : List Cond := .code yX5_power cX5_power 3 (some .int) :: ([.fieldLink RX5 16 "CodedStoreModel" "on" "Z", .fieldLink RX5 43 "CodedStoreModel" "thrown" "I", .fieldLink RX5 20 "CodedStoreModel" "until" "I"] ++ wsX50)
def wsX5_texts_r1 : List Cond := [Cond.methodLink RX5 130 yX5_isText, Cond.instanceMethod yX5_isText, Cond.selects RX5 yX5_isText yX5_isText, Cond.initialized RX5, Cond.code yX5_isText cX5_isText 2 (some .boolean), Cond.methodLink RX5 82 yX5_numberOf, Cond.instanceMethod yX5_numberOf, Cond.selects RX5 yX5_numberOf yX5_numberOf, Cond.code yX5_numberOf cX5_numberOf 2 (some .int), Cond.fieldLink RX5 7 "CodedStoreModel" "disk" "[I", Cond.methodLink RX5 95 yX5_partOf, Cond.instanceMethod yX5_partOf, Cond.selects RX5 yX5_partOf yX5_partOf, Cond.code yX5_partOf cX5_partOf 2 (some .int), Cond.methodLink RX5 101 yX5_formOf, Cond.instanceMethod yX5_formOf, Cond.selects RX5 yX5_formOf yX5_formOf, Cond.code yX5_formOf cX5_formOf 2 (some .int), Cond.methodLink RX5 98 yX5_isLive, Cond.instanceMethod yX5_isLive, Cond.selects RX5 yX5_isLive yX5_isLive, Cond.code yX5_isLive cX5_isLive 3 (some .boolean), Cond.methodLink RX5 89 yX5_isWhole, Cond.instanceMethod yX5_isWhole]
def wsX5_texts_r2 : List Cond := [Cond.selects RX5 yX5_isWhole yX5_isWhole, Cond.code yX5_isWhole cX5_isWhole 4 (some .boolean), Cond.methodLink RX5 86 yX5_partsOf, Cond.instanceMethod yX5_partsOf, Cond.selects RX5 yX5_partsOf yX5_partsOf, Cond.code yX5_partsOf cX5_partsOf 2 (some .int), Cond.methodLink RX5 92 yX5_keyOf, Cond.instanceMethod yX5_keyOf, Cond.selects RX5 yX5_keyOf yX5_keyOf, Cond.code yX5_keyOf cX5_keyOf 2 (some .int)]
def wsX5_texts : List Cond := .code yX5_texts cX5_texts 3 (some .int) :: ((wsX5_texts_r1 ++ wsX5_texts_r2) ++ wsX50)
def wsX5_recover_r1 : List Cond := [Cond.fieldLink RX5 43 "CodedStoreModel" "thrown" "I", Cond.fieldLink RX5 16 "CodedStoreModel" "on" "Z", Cond.fieldLink RX5 20 "CodedStoreModel" "until" "I", Cond.fieldLink RX5 40 "CodedStoreModel" "size" "I", Cond.fieldLink RX5 66 "CodedStoreModel" "loadedSize" "I", Cond.fieldLink RX5 24 "CodedStoreModel" "place" "I", Cond.methodLink RX5 133 yX5_texts, Cond.instanceMethod yX5_texts, Cond.selects RX5 yX5_texts yX5_texts, Cond.initialized RX5, Cond.code yX5_texts cX5_texts 3 (some .int), Cond.methodLink RX5 130 yX5_isText, Cond.instanceMethod yX5_isText, Cond.selects RX5 yX5_isText yX5_isText, Cond.code yX5_isText cX5_isText 2 (some .boolean), Cond.methodLink RX5 82 yX5_numberOf, Cond.instanceMethod yX5_numberOf, Cond.selects RX5 yX5_numberOf yX5_numberOf, Cond.code yX5_numberOf cX5_numberOf 2 (some .int), Cond.fieldLink RX5 7 "CodedStoreModel" "disk" "[I", Cond.methodLink RX5 95 yX5_partOf, Cond.instanceMethod yX5_partOf, Cond.selects RX5 yX5_partOf yX5_partOf, Cond.code yX5_partOf cX5_partOf 2 (some .int)]
def wsX5_recover_r2 : List Cond := [Cond.methodLink RX5 101 yX5_formOf, Cond.instanceMethod yX5_formOf, Cond.selects RX5 yX5_formOf yX5_formOf, Cond.code yX5_formOf cX5_formOf 2 (some .int), Cond.methodLink RX5 98 yX5_isLive, Cond.instanceMethod yX5_isLive, Cond.selects RX5 yX5_isLive yX5_isLive, Cond.code yX5_isLive cX5_isLive 3 (some .boolean), Cond.methodLink RX5 89 yX5_isWhole, Cond.instanceMethod yX5_isWhole, Cond.selects RX5 yX5_isWhole yX5_isWhole, Cond.code yX5_isWhole cX5_isWhole 4 (some .boolean), Cond.methodLink RX5 86 yX5_partsOf, Cond.instanceMethod yX5_partsOf, Cond.selects RX5 yX5_partsOf yX5_partsOf, Cond.code yX5_partsOf cX5_partsOf 2 (some .int), Cond.methodLink RX5 92 yX5_keyOf, Cond.instanceMethod yX5_keyOf, Cond.selects RX5 yX5_keyOf yX5_keyOf, Cond.code yX5_keyOf cX5_keyOf 2 (some .int)]
def wsX5_recover : List Cond := .code yX5_recover cX5_recover 1 (some .int) :: ((wsX5_recover_r1 ++ wsX5_recover_r2) ++ wsX50)
def wsX5_word : List Cond := .code yX5_word cX5_word 3 (some .int) :: ([.fieldLink RX5 43 "CodedStoreModel" "thrown" "I", .fieldLink RX5 7 "CodedStoreModel" "disk" "[I"] ++ wsX50)
def wsX5_told_r1 : List Cond := [Cond.fieldLink RX5 43 "CodedStoreModel" "thrown" "I", Cond.fieldLink RX5 36 "CodedStoreModel" "wasLive" "[Z", Cond.fieldLink RX5 104 "CodedStoreModel" "writes" "I", Cond.fieldLink RX5 16 "CodedStoreModel" "on" "Z", Cond.fieldLink RX5 40 "CodedStoreModel" "size" "I", Cond.methodLink RX5 111 yX5_findLive, Cond.instanceMethod yX5_findLive, Cond.selects RX5 yX5_findLive yX5_findLive, Cond.initialized RX5, Cond.code yX5_findLive cX5_findLive 3 (some .int), Cond.methodLink RX5 98 yX5_isLive, Cond.instanceMethod yX5_isLive, Cond.selects RX5 yX5_isLive yX5_isLive, Cond.code yX5_isLive cX5_isLive 3 (some .boolean), Cond.methodLink RX5 89 yX5_isWhole, Cond.instanceMethod yX5_isWhole, Cond.selects RX5 yX5_isWhole yX5_isWhole, Cond.code yX5_isWhole cX5_isWhole 4 (some .boolean), Cond.methodLink RX5 82 yX5_numberOf, Cond.instanceMethod yX5_numberOf, Cond.selects RX5 yX5_numberOf yX5_numberOf, Cond.code yX5_numberOf cX5_numberOf 2 (some .int), Cond.fieldLink RX5 7 "CodedStoreModel" "disk" "[I", Cond.methodLink RX5 86 yX5_partsOf]
def wsX5_told_r2 : List Cond := [Cond.instanceMethod yX5_partsOf, Cond.selects RX5 yX5_partsOf yX5_partsOf, Cond.code yX5_partsOf cX5_partsOf 2 (some .int), Cond.methodLink RX5 92 yX5_keyOf, Cond.instanceMethod yX5_keyOf, Cond.selects RX5 yX5_keyOf yX5_keyOf, Cond.code yX5_keyOf cX5_keyOf 2 (some .int), Cond.methodLink RX5 101 yX5_formOf, Cond.instanceMethod yX5_formOf, Cond.selects RX5 yX5_formOf yX5_formOf, Cond.code yX5_formOf cX5_formOf 2 (some .int), Cond.methodLink RX5 133 yX5_texts, Cond.instanceMethod yX5_texts, Cond.selects RX5 yX5_texts yX5_texts, Cond.code yX5_texts cX5_texts 3 (some .int), Cond.methodLink RX5 130 yX5_isText, Cond.instanceMethod yX5_isText, Cond.selects RX5 yX5_isText yX5_isText, Cond.code yX5_isText cX5_isText 2 (some .boolean), Cond.methodLink RX5 95 yX5_partOf, Cond.instanceMethod yX5_partOf, Cond.selects RX5 yX5_partOf yX5_partOf, Cond.code yX5_partOf cX5_partOf 2 (some .int), Cond.methodLink RX5 107 yX5_greatest]
def wsX5_told_r3 : List Cond := [Cond.instanceMethod yX5_greatest, Cond.selects RX5 yX5_greatest yX5_greatest, Cond.code yX5_greatest cX5_greatest 3 (some .int)]
def wsX5_told : List Cond := .code yX5_told cX5_told 5 (some .int) :: ((wsX5_told_r1 ++ (wsX5_told_r2 ++ wsX5_told_r3)) ++ wsX50)
def wsX5_number_r1 : List Cond := [Cond.fieldLink RX5 43 "CodedStoreModel" "thrown" "I", Cond.methodLink RX5 124 yX5_find, Cond.instanceMethod yX5_find, Cond.selects RX5 yX5_find yX5_find, Cond.initialized RX5, Cond.code yX5_find cX5_find 3 (some .int), Cond.methodLink RX5 82 yX5_numberOf, Cond.instanceMethod yX5_numberOf, Cond.selects RX5 yX5_numberOf yX5_numberOf, Cond.code yX5_numberOf cX5_numberOf 2 (some .int), Cond.fieldLink RX5 7 "CodedStoreModel" "disk" "[I", Cond.methodLink RX5 92 yX5_keyOf, Cond.instanceMethod yX5_keyOf, Cond.selects RX5 yX5_keyOf yX5_keyOf, Cond.code yX5_keyOf cX5_keyOf 2 (some .int), Cond.methodLink RX5 95 yX5_partOf, Cond.instanceMethod yX5_partOf, Cond.selects RX5 yX5_partOf yX5_partOf, Cond.code yX5_partOf cX5_partOf 2 (some .int), Cond.methodLink RX5 98 yX5_isLive, Cond.instanceMethod yX5_isLive, Cond.selects RX5 yX5_isLive yX5_isLive, Cond.code yX5_isLive cX5_isLive 3 (some .boolean), Cond.methodLink RX5 89 yX5_isWhole]
def wsX5_number_r2 : List Cond := [Cond.instanceMethod yX5_isWhole, Cond.selects RX5 yX5_isWhole yX5_isWhole, Cond.code yX5_isWhole cX5_isWhole 4 (some .boolean), Cond.methodLink RX5 86 yX5_partsOf, Cond.instanceMethod yX5_partsOf, Cond.selects RX5 yX5_partsOf yX5_partsOf, Cond.code yX5_partsOf cX5_partsOf 2 (some .int), Cond.methodLink RX5 101 yX5_formOf, Cond.instanceMethod yX5_formOf, Cond.selects RX5 yX5_formOf yX5_formOf, Cond.code yX5_formOf cX5_formOf 2 (some .int)]
def wsX5_number : List Cond := .code yX5_number cX5_number 3 (some .int) :: ((wsX5_number_r1 ++ wsX5_number_r2) ++ wsX50)
def wsX5_key_r1 : List Cond := [Cond.fieldLink RX5 43 "CodedStoreModel" "thrown" "I", Cond.methodLink RX5 130 yX5_isText, Cond.instanceMethod yX5_isText, Cond.selects RX5 yX5_isText yX5_isText, Cond.initialized RX5, Cond.code yX5_isText cX5_isText 2 (some .boolean), Cond.methodLink RX5 82 yX5_numberOf, Cond.instanceMethod yX5_numberOf, Cond.selects RX5 yX5_numberOf yX5_numberOf, Cond.code yX5_numberOf cX5_numberOf 2 (some .int), Cond.fieldLink RX5 7 "CodedStoreModel" "disk" "[I", Cond.methodLink RX5 95 yX5_partOf, Cond.instanceMethod yX5_partOf, Cond.selects RX5 yX5_partOf yX5_partOf, Cond.code yX5_partOf cX5_partOf 2 (some .int), Cond.methodLink RX5 101 yX5_formOf, Cond.instanceMethod yX5_formOf, Cond.selects RX5 yX5_formOf yX5_formOf, Cond.code yX5_formOf cX5_formOf 2 (some .int), Cond.methodLink RX5 98 yX5_isLive, Cond.instanceMethod yX5_isLive, Cond.selects RX5 yX5_isLive yX5_isLive, Cond.code yX5_isLive cX5_isLive 3 (some .boolean), Cond.methodLink RX5 89 yX5_isWhole]
def wsX5_key_r2 : List Cond := [Cond.instanceMethod yX5_isWhole, Cond.selects RX5 yX5_isWhole yX5_isWhole, Cond.code yX5_isWhole cX5_isWhole 4 (some .boolean), Cond.methodLink RX5 86 yX5_partsOf, Cond.instanceMethod yX5_partsOf, Cond.selects RX5 yX5_partsOf yX5_partsOf, Cond.code yX5_partsOf cX5_partsOf 2 (some .int), Cond.methodLink RX5 92 yX5_keyOf, Cond.instanceMethod yX5_keyOf, Cond.selects RX5 yX5_keyOf yX5_keyOf, Cond.code yX5_keyOf cX5_keyOf 2 (some .int)]
def wsX5_key : List Cond := .code yX5_key cX5_key 5 (some .int) :: ((wsX5_key_r1 ++ wsX5_key_r2) ++ wsX50)
def wsJ9_max_7cf53 : List Cond := .code yJ9_max_7cf53 cJ9_max_7cf53 2 (some .int) :: ([])
def wsJ9_min_7cf53 : List Cond := .code yJ9_min_7cf53 cJ9_min_7cf53 2 (some .int) :: ([])
def wsL_feed : List Cond := .codeWith yL_feed cL_feed 6 (some .int) [(0, 11, 14, 13)] :: ([.classLink RL 13 "java/lang/IllegalArgumentException", .methodLink RL 7 yX4_feed, .instanceMethod yX4_feed, .selects RX4 yX4_feed yX4_feed, .initialized RX4, .code yX4_feed cX4_feed 5 (some .int), .classLink RX4 56 "java/lang/IllegalArgumentException", .initialized "java/lang/IllegalArgumentException", .fieldLink RX4 28 "CodedStore" "tape" "LCodedStore$Octets;", .methodLink RX4 52 yX3_size, .instanceMethod yX3_size, .selects RX3 yX3_size yX3_size, .initialized RX3, .code yX3_size cX3_size 1 (some .int), .fieldLink RX3 15 "CodedStore$Octets" "size" "I", .methodLink RX4 59 yX3_append, .instanceMethod yX3_append, .selects RX3 yX3_append yX3_append, .code yX3_append cX3_append 2 none, .fieldLink RX3 9 "CodedStore$Octets" "octets" "[I"] ++ wsX40 ++ wsX30 ++ (vx_at0 RX4 58 "java/lang/IllegalArgumentException" ["java/lang/RuntimeException", "java/lang/Exception"]).filter goodWord)
def wsL_power_r1 : List Cond := [Cond.classLink RL 13 "java/lang/IllegalArgumentException", Cond.classLink RL 19 "java/lang/IllegalStateException", Cond.methodLink RL 15 yX4_power, Cond.instanceMethod yX4_power, Cond.selects RX4 yX4_power yX4_power, Cond.initialized RX4, Cond.code yX4_power cX4_power 3 (some .int), Cond.classLink RX4 56 "java/lang/IllegalArgumentException", Cond.initialized "java/lang/IllegalArgumentException", Cond.classLink RX4 119 "java/lang/IllegalStateException", Cond.initialized "java/lang/IllegalStateException", Cond.fieldLink RX4 10 "CodedStore" "disk" "LCodedStore$Disk;", Cond.methodLink RX4 63 yX2_isOn, Cond.instanceMethod yX2_isOn, Cond.selects RX2 yX2_isOn yX2_isOn, Cond.initialized RX2, Cond.code yX2_isOn cX2_isOn 1 (some .boolean), Cond.fieldLink RX2 15 "CodedStore$Disk" "on" "Z", Cond.methodLink RX4 122 yX2_writesLeft, Cond.instanceMethod yX2_writesLeft, Cond.selects RX2 yX2_writesLeft yX2_writesLeft, Cond.code yX2_writesLeft cX2_writesLeft 1 (some .int), Cond.fieldLink RX2 19 "CodedStore$Disk" "left" "I", Cond.methodLink RX4 125 yX2_allowWrites]
def wsL_power_r2 : List Cond := [Cond.instanceMethod yX2_allowWrites, Cond.selects RX2 yX2_allowWrites yX2_allowWrites, Cond.code yX2_allowWrites cX2_allowWrites 2 none]
def wsL_power : List Cond := .codeWith yL_power cL_power 4 (some .int) [(0, 9, 12, 13), (0, 9, 15, 19)] :: ((wsL_power_r1 ++ wsL_power_r2) ++ wsX40 ++ wsX20 ++ (vx_at0 RX4 58 "java/lang/IllegalArgumentException" ["java/lang/RuntimeException", "java/lang/Exception"]).filter goodWord ++ (vx_at0 RX4 121 "java/lang/IllegalStateException" ["java/lang/RuntimeException", "java/lang/Exception"]).filter goodWord)
def wsL_word : List Cond := .codeWith yL_word cL_word 5 (some .int) [(0, 10, 13, 25)] :: ([.classLink RL 25 "java/lang/IndexOutOfBoundsException", .methodLink RL 21 yX4_word, .instanceMethod yX4_word, .selects RX4 yX4_word yX4_word, .initialized RX4, .code yX4_word cX4_word 3 (some .int), .classLink RX4 134 "java/lang/IndexOutOfBoundsException", .initialized "java/lang/IndexOutOfBoundsException", .fieldLink RX4 10 "CodedStore" "disk" "LCodedStore$Disk;", .methodLink RX4 137 yX2_wordAt, .instanceMethod yX2_wordAt, .selects RX2 yX2_wordAt yX2_wordAt, .initialized RX2, .code yX2_wordAt cX2_wordAt 3 (some .int), .fieldLink RX2 9 "CodedStore$Disk" "words" "[I"] ++ wsX40 ++ wsX20 ++ (vx_at0 RX4 136 "java/lang/IndexOutOfBoundsException" ["java/lang/RuntimeException", "java/lang/Exception"]).filter goodWord)
def wsL_told_r1 : List Cond := [Cond.classLink RL 25 "java/lang/IndexOutOfBoundsException", Cond.methodLink RL 27 yX4_told, Cond.instanceMethod yX4_told, Cond.selects RX4 yX4_told yX4_told, Cond.initialized RX4, Cond.code yX4_told cX4_told 2 (some .int), Cond.classLink RX4 134 "java/lang/IndexOutOfBoundsException", Cond.initialized "java/lang/IndexOutOfBoundsException", Cond.fieldLink RX4 10 "CodedStore" "disk" "LCodedStore$Disk;", Cond.fieldLink RX4 28 "CodedStore" "tape" "LCodedStore$Octets;", Cond.methodLink RX4 84 yX4_surveyed, Cond.instanceMethod yX4_surveyed, Cond.selects RX4 yX4_surveyed yX4_surveyed, Cond.code yX4_surveyed cX4_surveyed 1 (some (.object "CodedStore$Catalog")), Cond.fieldLink RX4 21 "CodedStore" "catalog" "LCodedStore$Catalog;", Cond.methodLink RX4 161 yX0_survey, Cond.instanceMethod yX0_survey, Cond.selects RX0 yX0_survey yX0_survey, Cond.initialized RX0, Cond.code yX0_survey cX0_survey 2 none, Cond.fieldLink RX0 18 "CodedStore$Catalog" "surveyedAt" "I", Cond.fieldLink RX0 22 "CodedStore$Catalog" "disk" "LCodedStore$Disk;", Cond.fieldLink RX0 9 "CodedStore$Catalog" "whole" "[Z", Cond.fieldLink RX0 15 "CodedStore$Catalog" "live" "[Z"]
def wsL_told_r2 : List Cond := [Cond.methodLink RX0 26 yX2_writesDone, Cond.instanceMethod yX2_writesDone, Cond.selects RX2 yX2_writesDone yX2_writesDone, Cond.initialized RX2, Cond.code yX2_writesDone cX2_writesDone 1 (some .int), Cond.fieldLink RX2 23 "CodedStore$Disk" "done" "I", Cond.methodLink RX0 32 yX2_numberOf, Cond.instanceMethod yX2_numberOf, Cond.selects RX2 yX2_numberOf yX2_numberOf, Cond.code yX2_numberOf cX2_numberOf 2 (some .int), Cond.methodLink RX2 26 yX2_wordAt, Cond.instanceMethod yX2_wordAt, Cond.selects RX2 yX2_wordAt yX2_wordAt, Cond.code yX2_wordAt cX2_wordAt 3 (some .int), Cond.fieldLink RX2 9 "CodedStore$Disk" "words" "[I", Cond.methodLink RX0 36 yX0_hasAllParts, Cond.instanceMethod yX0_hasAllParts, Cond.selects RX0 yX0_hasAllParts yX0_hasAllParts, Cond.code yX0_hasAllParts cX0_hasAllParts 4 (some .boolean), Cond.methodLink RX0 43 yX2_partsOf, Cond.instanceMethod yX2_partsOf, Cond.selects RX2 yX2_partsOf yX2_partsOf, Cond.code yX2_partsOf cX2_partsOf 2 (some .int), Cond.methodLink RX0 40 yX0_isOutdone]
def wsL_told_r3 : List Cond := [Cond.instanceMethod yX0_isOutdone, Cond.selects RX0 yX0_isOutdone yX0_isOutdone, Cond.code yX0_isOutdone cX0_isOutdone 3 (some .boolean), Cond.methodLink RX0 46 yX2_keyOf, Cond.instanceMethod yX2_keyOf, Cond.selects RX2 yX2_keyOf yX2_keyOf, Cond.code yX2_keyOf cX2_keyOf 2 (some .int), Cond.methodLink RX4 131 yX0_countTexts, Cond.instanceMethod yX0_countTexts, Cond.selects RX0 yX0_countTexts yX0_countTexts, Cond.code yX0_countTexts cX0_countTexts 3 (some .int), Cond.methodLink RX0 58 yX0_isText, Cond.instanceMethod yX0_isText, Cond.selects RX0 yX0_isText yX0_isText, Cond.code yX0_isText cX0_isText 2 (some .boolean), Cond.methodLink RX0 49 yX0_isLive, Cond.instanceMethod yX0_isLive, Cond.selects RX0 yX0_isLive yX0_isLive, Cond.code yX0_isLive cX0_isLive 2 (some .boolean), Cond.methodLink RX0 55 yX2_partOf, Cond.instanceMethod yX2_partOf, Cond.selects RX2 yX2_partOf yX2_partOf, Cond.code yX2_partOf cX2_partOf 2 (some .int), Cond.methodLink RX0 52 yX2_formOf]
def wsL_told_r4 : List Cond := [Cond.instanceMethod yX2_formOf, Cond.selects RX2 yX2_formOf yX2_formOf, Cond.code yX2_formOf cX2_formOf 2 (some .int), Cond.methodLink RX4 140 yX0_countLive, Cond.instanceMethod yX0_countLive, Cond.selects RX0 yX0_countLive yX0_countLive, Cond.code yX0_countLive cX0_countLive 3 (some .int), Cond.methodLink RX4 143 yX0_countLiveGraves, Cond.instanceMethod yX0_countLiveGraves, Cond.selects RX0 yX0_countLiveGraves yX0_countLiveGraves, Cond.code yX0_countLiveGraves cX0_countLiveGraves 3 (some .int), Cond.methodLink RX0 64 yX0_isLiveGrave, Cond.instanceMethod yX0_isLiveGrave, Cond.selects RX0 yX0_isLiveGrave yX0_isLiveGrave, Cond.code yX0_isLiveGrave cX0_isLiveGrave 2 (some .boolean), Cond.methodLink RX4 146 yX2_greatestNumber, Cond.instanceMethod yX2_greatestNumber, Cond.selects RX2 yX2_greatestNumber yX2_greatestNumber, Cond.code yX2_greatestNumber cX2_greatestNumber 3 (some .int), Cond.methodLink RX2 34 Lib.Math.max.name, Cond.static Lib.Math.max.name, Cond.initialized "java/lang/Math", Cond.code Lib.Math.max.name Lib.Math.max.code 2 (some .int), Cond.methodLink RX2 30 yX2_numberOf]
def wsL_told_r5 : List Cond := [Cond.methodLink RX4 149 yX2_writesDone, Cond.methodLink RX4 63 yX2_isOn, Cond.instanceMethod yX2_isOn, Cond.selects RX2 yX2_isOn yX2_isOn, Cond.code yX2_isOn cX2_isOn 1 (some .boolean), Cond.fieldLink RX2 15 "CodedStore$Disk" "on" "Z", Cond.methodLink RX4 52 yX3_size, Cond.instanceMethod yX3_size, Cond.selects RX3 yX3_size yX3_size, Cond.initialized RX3, Cond.code yX3_size cX3_size 1 (some .int), Cond.fieldLink RX3 15 "CodedStore$Octets" "size" "I"]
def wsL_told : List Cond := .codeWith yL_told cL_told 4 (some .int) [(0, 9, 12, 25)] :: ((wsL_told_r1 ++ (wsL_told_r2 ++ (wsL_told_r3 ++ (wsL_told_r4 ++ wsL_told_r5)))) ++ wsX40 ++ wsX00 ++ wsX20 ++ wsX30 ++ (vx_at0 RX4 136 "java/lang/IndexOutOfBoundsException" ["java/lang/RuntimeException", "java/lang/Exception"]).filter goodWord)
def wsL_law0_r1 : List Cond := [Cond.classLink RL 8 RX4, Cond.instantiable RX4 9, Cond.initialized RX4, Cond.classLink RL 31 RX5, Cond.instantiable RX5 15, Cond.initialized RX5, Cond.arrayClass .long, Cond.constantLong RL 34 (4294967295), Cond.methodLink RL 30 yX4_init, Cond.instanceMethod yX4_init, Cond.code yX4_init cX4_init 1 none, Cond.methodLink RX4 1 objectInit, Cond.instanceMethod objectInit, Cond.code objectInit ⟨#[0xb1]⟩ 1 none, Cond.classLink RX4 7 RX2, Cond.instantiable RX2 4, Cond.initialized RX2, Cond.fieldLink RX4 10 "CodedStore" "disk" "LCodedStore$Disk;", Cond.classLink RX4 16 RX0, Cond.instantiable RX0 4, Cond.initialized RX0, Cond.fieldLink RX4 21 "CodedStore" "catalog" "LCodedStore$Catalog;", Cond.classLink RX4 25 RX3, Cond.instantiable RX3 2]
def wsL_law0_r2 : List Cond := [Cond.initialized RX3, Cond.fieldLink RX4 28 "CodedStore" "tape" "LCodedStore$Octets;", Cond.fieldLink RX4 32 "CodedStore" "loaded" "LCodedStore$Octets;", Cond.fieldLink RX4 35 "CodedStore" "content" "LCodedStore$Octets;", Cond.fieldLink RX4 38 "CodedStore" "decoded" "LCodedStore$Octets;", Cond.arrayClass .int, Cond.fieldLink RX4 41 "CodedStore" "row" "[I", Cond.fieldLink RX4 45 "CodedStore" "zeros" "[I", Cond.fieldLink RX4 48 "CodedStore" "failedPlace" "I", Cond.instanceMethod yX2_init, Cond.code yX2_init cX2_init 1 none, Cond.methodLink RX2 3 objectInit, Cond.fieldLink RX2 9 "CodedStore$Disk" "words" "[I", Cond.fieldLink RX2 15 "CodedStore$Disk" "on" "Z", Cond.fieldLink RX2 19 "CodedStore$Disk" "left" "I", Cond.methodLink RX4 18 yX0_init, Cond.instanceMethod yX0_init, Cond.code yX0_init cX0_init 2 none, Cond.methodLink RX0 3 objectInit, Cond.arrayClass .boolean, Cond.fieldLink RX0 9 "CodedStore$Catalog" "whole" "[Z", Cond.fieldLink RX0 15 "CodedStore$Catalog" "live" "[Z", Cond.fieldLink RX0 18 "CodedStore$Catalog" "surveyedAt" "I", Cond.fieldLink RX0 22 "CodedStore$Catalog" "disk" "LCodedStore$Disk;"]
def wsL_law0_r3 : List Cond := [Cond.instanceMethod yX3_init, Cond.code yX3_init cX3_init 1 none, Cond.methodLink RX3 3 objectInit, Cond.fieldLink RX3 9 "CodedStore$Octets" "octets" "[I", Cond.methodLink RL 33 yX5_init, Cond.instanceMethod yX5_init, Cond.code yX5_init cX5_init 1 none, Cond.methodLink RX5 1 objectInit, Cond.fieldLink RX5 7 "CodedStoreModel" "disk" "[I", Cond.fieldLink RX5 13 "CodedStoreModel" "tape" "[I", Cond.fieldLink RX5 16 "CodedStoreModel" "on" "Z", Cond.fieldLink RX5 20 "CodedStoreModel" "until" "I", Cond.fieldLink RX5 24 "CodedStoreModel" "place" "I", Cond.fieldLink RX5 27 "CodedStoreModel" "loaded" "[I", Cond.fieldLink RX5 30 "CodedStoreModel" "made" "[I", Cond.fieldLink RX5 33 "CodedStoreModel" "hand" "[I", Cond.fieldLink RX5 36 "CodedStoreModel" "wasLive" "[Z", Cond.fieldLink RX5 40 "CodedStoreModel" "size" "I", Cond.methodLink RL 36 yL_feed, Cond.static yL_feed, Cond.initialized RL, Cond.codeWith yL_feed cL_feed 6 (some .int) [(0, 11, 14, 13)], Cond.classLink RL 13 "java/lang/IllegalArgumentException", Cond.methodLink RL 7 yX4_feed]
def wsL_law0_r4 : List Cond := [Cond.instanceMethod yX4_feed, Cond.selects RX4 yX4_feed yX4_feed, Cond.code yX4_feed cX4_feed 5 (some .int), Cond.classLink RX4 56 "java/lang/IllegalArgumentException", Cond.initialized "java/lang/IllegalArgumentException", Cond.methodLink RX4 52 yX3_size, Cond.instanceMethod yX3_size, Cond.selects RX3 yX3_size yX3_size, Cond.code yX3_size cX3_size 1 (some .int), Cond.fieldLink RX3 15 "CodedStore$Octets" "size" "I", Cond.methodLink RX4 59 yX3_append, Cond.instanceMethod yX3_append, Cond.selects RX3 yX3_append yX3_append, Cond.code yX3_append cX3_append 2 none, Cond.methodLink RL 41 yX5_feed, Cond.instanceMethod yX5_feed, Cond.selects RX5 yX5_feed yX5_feed, Cond.code yX5_feed cX5_feed 5 (some .int), Cond.fieldLink RX5 43 "CodedStoreModel" "thrown" "I", Cond.constantLong RX5 46 (255), Cond.methodLink RL 42 yX5_thrown, Cond.instanceMethod yX5_thrown, Cond.selects RX5 yX5_thrown yX5_thrown, Cond.code yX5_thrown cX5_thrown 1 (some .int)]
def wsL_law0_r5 : List Cond := [Cond.methodLink RL 46 yX4_commit, Cond.instanceMethod yX4_commit, Cond.selects RX4 yX4_commit yX4_commit, Cond.code yX4_commit cX4_commit 3 (some .int), Cond.methodLink RX4 63 yX2_isOn, Cond.instanceMethod yX2_isOn, Cond.selects RX2 yX2_isOn yX2_isOn, Cond.code yX2_isOn cX2_isOn 1 (some .boolean), Cond.methodLink RX4 67 yX1_encode, Cond.static yX1_encode, Cond.initialized RX1, Cond.code yX1_encode cX1_encode 9 none, Cond.methodLink RX1 9 yX3_empty, Cond.instanceMethod yX3_empty, Cond.selects RX3 yX3_empty yX3_empty, Cond.code yX3_empty cX3_empty 1 none, Cond.methodLink RX1 14 yX3_size, Cond.methodLink RX1 18 yX3_append, Cond.methodLink RX1 22 yX1_bestDistance, Cond.static yX1_bestDistance, Cond.code yX1_bestDistance cX1_bestDistance 7 (some .int), Cond.methodLink RX1 40 Lib.Math.min.name, Cond.static Lib.Math.min.name, Cond.initialized "java/lang/Math"]
def wsL_law0_r6 : List Cond := [Cond.code Lib.Math.min.name Lib.Math.min.code 2 (some .int), Cond.methodLink RX1 36 yX1_rowLength, Cond.static yX1_rowLength, Cond.code yX1_rowLength cX1_rowLength 5 (some .int), Cond.methodLink RX1 32 yX3_at, Cond.instanceMethod yX3_at, Cond.selects RX3 yX3_at yX3_at, Cond.code yX3_at cX3_at 2 (some .int), Cond.methodLink RX1 28 yX3_setBit, Cond.instanceMethod yX3_setBit, Cond.selects RX3 yX3_setBit yX3_setBit, Cond.code yX3_setBit cX3_setBit 3 none, Cond.methodLink RX4 73 yX3_becomeLike, Cond.instanceMethod yX3_becomeLike, Cond.selects RX3 yX3_becomeLike yX3_becomeLike, Cond.code yX3_becomeLike cX3_becomeLike 3 none, Cond.methodLink RX3 23 yX3_empty, Cond.methodLink RX3 19 yX3_at, Cond.methodLink RX3 26 yX3_append, Cond.methodLink RX4 77 yX3_empty, Cond.methodLink RX4 80 yX4_putRecord, Cond.instanceMethod yX4_putRecord, Cond.selects RX4 yX4_putRecord yX4_putRecord, Cond.code yX4_putRecord cX4_putRecord 7 (some .int)]
def wsL_law0_r7 : List Cond := [Cond.methodLink RX4 164 yX4_partsFor, Cond.static yX4_partsFor, Cond.code yX4_partsFor cX4_partsFor 1 (some .int), Cond.methodLink RX4 84 yX4_surveyed, Cond.instanceMethod yX4_surveyed, Cond.selects RX4 yX4_surveyed yX4_surveyed, Cond.code yX4_surveyed cX4_surveyed 1 (some (.object "CodedStore$Catalog")), Cond.methodLink RX4 161 yX0_survey, Cond.instanceMethod yX0_survey, Cond.selects RX0 yX0_survey yX0_survey, Cond.code yX0_survey cX0_survey 2 none, Cond.methodLink RX0 26 yX2_writesDone, Cond.instanceMethod yX2_writesDone, Cond.selects RX2 yX2_writesDone yX2_writesDone, Cond.code yX2_writesDone cX2_writesDone 1 (some .int), Cond.fieldLink RX2 23 "CodedStore$Disk" "done" "I", Cond.methodLink RX0 32 yX2_numberOf, Cond.instanceMethod yX2_numberOf, Cond.selects RX2 yX2_numberOf yX2_numberOf, Cond.code yX2_numberOf cX2_numberOf 2 (some .int), Cond.methodLink RX2 26 yX2_wordAt, Cond.instanceMethod yX2_wordAt, Cond.selects RX2 yX2_wordAt yX2_wordAt, Cond.code yX2_wordAt cX2_wordAt 3 (some .int)]
def wsL_law0_r8 : List Cond := [Cond.methodLink RX0 36 yX0_hasAllParts, Cond.instanceMethod yX0_hasAllParts, Cond.selects RX0 yX0_hasAllParts yX0_hasAllParts, Cond.code yX0_hasAllParts cX0_hasAllParts 4 (some .boolean), Cond.methodLink RX0 43 yX2_partsOf, Cond.instanceMethod yX2_partsOf, Cond.selects RX2 yX2_partsOf yX2_partsOf, Cond.code yX2_partsOf cX2_partsOf 2 (some .int), Cond.methodLink RX0 40 yX0_isOutdone, Cond.instanceMethod yX0_isOutdone, Cond.selects RX0 yX0_isOutdone yX0_isOutdone, Cond.code yX0_isOutdone cX0_isOutdone 3 (some .boolean), Cond.methodLink RX0 46 yX2_keyOf, Cond.instanceMethod yX2_keyOf, Cond.selects RX2 yX2_keyOf yX2_keyOf, Cond.code yX2_keyOf cX2_keyOf 2 (some .int), Cond.methodLink RX4 140 yX0_countLive, Cond.instanceMethod yX0_countLive, Cond.selects RX0 yX0_countLive yX0_countLive, Cond.code yX0_countLive cX0_countLive 3 (some .int), Cond.methodLink RX0 49 yX0_isLive, Cond.instanceMethod yX0_isLive, Cond.selects RX0 yX0_isLive yX0_isLive, Cond.code yX0_isLive cX0_isLive 2 (some .boolean)]
def wsL_law0_r9 : List Cond := [Cond.methodLink RX4 146 yX2_greatestNumber, Cond.instanceMethod yX2_greatestNumber, Cond.selects RX2 yX2_greatestNumber yX2_greatestNumber, Cond.code yX2_greatestNumber cX2_greatestNumber 3 (some .int), Cond.methodLink RX2 34 Lib.Math.max.name, Cond.static Lib.Math.max.name, Cond.code Lib.Math.max.name Lib.Math.max.code 2 (some .int), Cond.methodLink RX2 30 yX2_numberOf, Cond.methodLink RX4 167 yX0_isLive, Cond.methodLink RX4 170 yX4_fillRow, Cond.instanceMethod yX4_fillRow, Cond.selects RX4 yX4_fillRow yX4_fillRow, Cond.code yX4_fillRow cX4_fillRow 7 none, Cond.constant RX4 174 (65536), Cond.methodLink RX4 175 yX3_fourFrom, Cond.instanceMethod yX3_fourFrom, Cond.selects RX3 yX3_fourFrom yX3_fourFrom, Cond.code yX3_fourFrom cX3_fourFrom 2 (some .int), Cond.methodLink RX4 112 yX2_write, Cond.instanceMethod yX2_write, Cond.selects RX2 yX2_write yX2_write, Cond.code yX2_write cX2_write 4 (some .boolean), Cond.methodLink RL 49 yX5_commit, Cond.instanceMethod yX5_commit]
def wsL_law0_r10 : List Cond := [Cond.selects RX5 yX5_commit yX5_commit, Cond.code yX5_commit cX5_commit 4 (some .int), Cond.fieldLink RX5 51 "CodedStoreModel" "madeSize" "I", Cond.fieldLink RX5 48 "CodedStoreModel" "handSize" "I", Cond.methodLink RX5 69 yX5_takeTape, Cond.instanceMethod yX5_takeTape, Cond.selects RX5 yX5_takeTape yX5_takeTape, Cond.code yX5_takeTape cX5_takeTape 2 none, Cond.methodLink RX5 72 yX5_code, Cond.instanceMethod yX5_code, Cond.selects RX5 yX5_code yX5_code, Cond.code yX5_code cX5_code 8 none, Cond.methodLink RX5 54 yX5_put, Cond.instanceMethod yX5_put, Cond.selects RX5 yX5_put yX5_put, Cond.code yX5_put cX5_put 2 none, Cond.methodLink RX5 58 yX5_alike, Cond.instanceMethod yX5_alike, Cond.selects RX5 yX5_alike yX5_alike, Cond.code yX5_alike cX5_alike 4 (some .int), Cond.methodLink RX5 121 yX5_putRecord, Cond.instanceMethod yX5_putRecord, Cond.selects RX5 yX5_putRecord yX5_putRecord, Cond.code yX5_putRecord cX5_putRecord 10 (some .int)]
def wsL_law0_r11 : List Cond := [Cond.constant RX5 117 (65536), Cond.methodLink RX5 107 yX5_greatest, Cond.instanceMethod yX5_greatest, Cond.selects RX5 yX5_greatest yX5_greatest, Cond.code yX5_greatest cX5_greatest 3 (some .int), Cond.methodLink RX5 82 yX5_numberOf, Cond.instanceMethod yX5_numberOf, Cond.selects RX5 yX5_numberOf yX5_numberOf, Cond.code yX5_numberOf cX5_numberOf 2 (some .int), Cond.methodLink RX5 111 yX5_findLive, Cond.instanceMethod yX5_findLive, Cond.selects RX5 yX5_findLive yX5_findLive, Cond.code yX5_findLive cX5_findLive 3 (some .int), Cond.methodLink RX5 98 yX5_isLive, Cond.instanceMethod yX5_isLive, Cond.selects RX5 yX5_isLive yX5_isLive, Cond.code yX5_isLive cX5_isLive 3 (some .boolean), Cond.methodLink RX5 89 yX5_isWhole, Cond.instanceMethod yX5_isWhole, Cond.selects RX5 yX5_isWhole yX5_isWhole, Cond.code yX5_isWhole cX5_isWhole 4 (some .boolean), Cond.methodLink RX5 86 yX5_partsOf, Cond.instanceMethod yX5_partsOf, Cond.selects RX5 yX5_partsOf yX5_partsOf]
def wsL_law0_r12 : List Cond := [Cond.code yX5_partsOf cX5_partsOf 2 (some .int), Cond.methodLink RX5 92 yX5_keyOf, Cond.instanceMethod yX5_keyOf, Cond.selects RX5 yX5_keyOf yX5_keyOf, Cond.code yX5_keyOf cX5_keyOf 2 (some .int), Cond.methodLink RX5 114 yX5_mayWrite, Cond.instanceMethod yX5_mayWrite, Cond.selects RX5 yX5_mayWrite yX5_mayWrite, Cond.code yX5_mayWrite cX5_mayWrite 1 (some .boolean), Cond.fieldLink RX5 104 "CodedStoreModel" "writes" "I", Cond.methodLink RX5 118 yX5_word4, Cond.instanceMethod yX5_word4, Cond.selects RX5 yX5_word4 yX5_word4, Cond.code yX5_word4 cX5_word4 4 (some .int), Cond.methodLink RL 50 yX4_delete, Cond.instanceMethod yX4_delete, Cond.selects RX4 yX4_delete yX4_delete, Cond.code yX4_delete cX4_delete 3 (some .int), Cond.methodLink RX4 88 yX0_firstBlock, Cond.instanceMethod yX0_firstBlock, Cond.selects RX0 yX0_firstBlock yX0_firstBlock, Cond.code yX0_firstBlock cX0_firstBlock 3 (some .int), Cond.methodLink RX0 55 yX2_partOf, Cond.instanceMethod yX2_partOf]
def wsL_law0_r13 : List Cond := [Cond.selects RX2 yX2_partOf yX2_partOf, Cond.code yX2_partOf cX2_partOf 2 (some .int), Cond.methodLink RX4 92 yX0_isText, Cond.instanceMethod yX0_isText, Cond.selects RX0 yX0_isText yX0_isText, Cond.code yX0_isText cX0_isText 2 (some .boolean), Cond.methodLink RX0 52 yX2_formOf, Cond.instanceMethod yX2_formOf, Cond.selects RX2 yX2_formOf yX2_formOf, Cond.code yX2_formOf cX2_formOf 2 (some .int), Cond.methodLink RL 53 yX5_delete, Cond.instanceMethod yX5_delete, Cond.selects RX5 yX5_delete yX5_delete, Cond.code yX5_delete cX5_delete 3 (some .int), Cond.methodLink RX5 124 yX5_find, Cond.instanceMethod yX5_find, Cond.selects RX5 yX5_find yX5_find, Cond.code yX5_find cX5_find 3 (some .int), Cond.methodLink RX5 95 yX5_partOf, Cond.instanceMethod yX5_partOf, Cond.selects RX5 yX5_partOf yX5_partOf, Cond.code yX5_partOf cX5_partOf 2 (some .int), Cond.methodLink RX5 101 yX5_formOf, Cond.instanceMethod yX5_formOf]
def wsL_law0_r14 : List Cond := [Cond.selects RX5 yX5_formOf yX5_formOf, Cond.code yX5_formOf cX5_formOf 2 (some .int), Cond.methodLink RL 54 yX4_load, Cond.instanceMethod yX4_load, Cond.selects RX4 yX4_load yX4_load, Cond.code yX4_load cX4_load 3 (some .int), Cond.methodLink RX4 96 yX4_gatherContent, Cond.instanceMethod yX4_gatherContent, Cond.selects RX4 yX4_gatherContent yX4_gatherContent, Cond.code yX4_gatherContent cX4_gatherContent 6 none, Cond.methodLink RX4 178 yX2_partsOf, Cond.methodLink RX4 152 yX2_numberOf, Cond.methodLink RX4 181 yX2_blockOf, Cond.instanceMethod yX2_blockOf, Cond.selects RX2 yX2_blockOf yX2_blockOf, Cond.code yX2_blockOf cX2_blockOf 4 (some .int), Cond.methodLink RX2 39 yX2_partOf, Cond.methodLink RX4 184 yX2_octetsOf, Cond.instanceMethod yX2_octetsOf, Cond.selects RX2 yX2_octetsOf yX2_octetsOf, Cond.code yX2_octetsOf cX2_octetsOf 2 (some .int), Cond.methodLink RX4 137 yX2_wordAt, Cond.methodLink RX4 99 yX2_formOf, Cond.methodLink RX4 102 yX1_decode]
def wsL_law0_r15 : List Cond := [Cond.static yX1_decode, Cond.code yX1_decode cX1_decode 8 (some .int), Cond.methodLink RX1 46 yX1_decodeSingle, Cond.static yX1_decodeSingle, Cond.code yX1_decodeSingle cX1_decodeSingle 3 (some .int), Cond.methodLink RX1 50 yX1_decodeRow, Cond.static yX1_decodeRow, Cond.code yX1_decodeRow cX1_decodeRow 5 (some .int), Cond.methodLink RX1 53 yX3_repeat, Cond.instanceMethod yX3_repeat, Cond.selects RX3 yX3_repeat yX3_repeat, Cond.code yX3_repeat cX3_repeat 4 none, Cond.methodLink RL 57 yX5_load, Cond.instanceMethod yX5_load, Cond.selects RX5 yX5_load yX5_load, Cond.code yX5_load cX5_load 6 (some .int), Cond.fieldLink RX5 66 "CodedStoreModel" "loadedSize" "I", Cond.methodLink RX5 78 yX5_decode, Cond.instanceMethod yX5_decode, Cond.selects RX5 yX5_decode yX5_decode, Cond.code yX5_decode cX5_decode 8 (some .boolean), Cond.methodLink RX5 62 yX5_wrong, Cond.instanceMethod yX5_wrong, Cond.selects RX5 yX5_wrong yX5_wrong]
def wsL_law0_r16 : List Cond := [Cond.code yX5_wrong cX5_wrong 2 (some .boolean), Cond.methodLink RX5 75 yX5_load0, Cond.instanceMethod yX5_load0, Cond.selects RX5 yX5_load0 yX5_load0, Cond.code yX5_load0 cX5_load0 2 none, Cond.methodLink RL 58 yX4_out, Cond.instanceMethod yX4_out, Cond.selects RX4 yX4_out yX4_out, Cond.code yX4_out cX4_out 2 (some .int), Cond.methodLink RX4 106 yX3_at, Cond.methodLink RL 61 yX5_out, Cond.instanceMethod yX5_out, Cond.selects RX5 yX5_out yX5_out, Cond.code yX5_out cX5_out 2 (some .int), Cond.methodLink RL 62 yX4_clean, Cond.instanceMethod yX4_clean, Cond.selects RX4 yX4_clean yX4_clean, Cond.code yX4_clean cX4_clean 3 (some .int), Cond.methodLink RX4 109 yX0_isLeftOver, Cond.instanceMethod yX0_isLeftOver, Cond.selects RX0 yX0_isLeftOver yX0_isLeftOver, Cond.code yX0_isLeftOver cX0_isLeftOver 2 (some .boolean), Cond.methodLink RX4 116 yX0_isLiveGrave, Cond.instanceMethod yX0_isLiveGrave]
def wsL_law0_r17 : List Cond := [Cond.selects RX0 yX0_isLiveGrave yX0_isLiveGrave, Cond.code yX0_isLiveGrave cX0_isLiveGrave 2 (some .boolean), Cond.methodLink RL 65 yX5_clean, Cond.instanceMethod yX5_clean, Cond.selects RX5 yX5_clean yX5_clean, Cond.code yX5_clean cX5_clean 4 (some .int), Cond.methodLink RX5 127 yX5_zero, Cond.instanceMethod yX5_zero, Cond.selects RX5 yX5_zero yX5_zero, Cond.code yX5_zero cX5_zero 3 (some .boolean), Cond.methodLink RL 66 yL_power, Cond.static yL_power, Cond.codeWith yL_power cL_power 4 (some .int) [(0, 9, 12, 13), (0, 9, 15, 19)], Cond.classLink RL 19 "java/lang/IllegalStateException", Cond.methodLink RL 15 yX4_power, Cond.instanceMethod yX4_power, Cond.selects RX4 yX4_power yX4_power, Cond.code yX4_power cX4_power 3 (some .int), Cond.classLink RX4 119 "java/lang/IllegalStateException", Cond.initialized "java/lang/IllegalStateException", Cond.methodLink RX4 122 yX2_writesLeft, Cond.instanceMethod yX2_writesLeft, Cond.selects RX2 yX2_writesLeft yX2_writesLeft, Cond.code yX2_writesLeft cX2_writesLeft 1 (some .int)]
def wsL_law0_r18 : List Cond := [Cond.methodLink RX4 125 yX2_allowWrites, Cond.instanceMethod yX2_allowWrites, Cond.selects RX2 yX2_allowWrites yX2_allowWrites, Cond.code yX2_allowWrites cX2_allowWrites 2 none, Cond.methodLink RL 69 yX5_power, Cond.instanceMethod yX5_power, Cond.selects RX5 yX5_power yX5_power, Cond.code yX5_power cX5_power 3 (some .int), Cond.methodLink RL 70 yX4_recover, Cond.instanceMethod yX4_recover, Cond.selects RX4 yX4_recover yX4_recover, Cond.code yX4_recover cX4_recover 1 (some .int), Cond.methodLink RX4 128 yX2_switchOn, Cond.instanceMethod yX2_switchOn, Cond.selects RX2 yX2_switchOn yX2_switchOn, Cond.code yX2_switchOn cX2_switchOn 1 none, Cond.methodLink RX4 131 yX0_countTexts, Cond.instanceMethod yX0_countTexts, Cond.selects RX0 yX0_countTexts yX0_countTexts, Cond.code yX0_countTexts cX0_countTexts 3 (some .int), Cond.methodLink RX0 58 yX0_isText, Cond.methodLink RL 73 yX5_recover, Cond.instanceMethod yX5_recover, Cond.selects RX5 yX5_recover yX5_recover]
def wsL_law0_r19 : List Cond := [Cond.code yX5_recover cX5_recover 1 (some .int), Cond.methodLink RX5 133 yX5_texts, Cond.instanceMethod yX5_texts, Cond.selects RX5 yX5_texts yX5_texts, Cond.code yX5_texts cX5_texts 3 (some .int), Cond.methodLink RX5 130 yX5_isText, Cond.instanceMethod yX5_isText, Cond.selects RX5 yX5_isText yX5_isText, Cond.code yX5_isText cX5_isText 2 (some .boolean), Cond.methodLink RL 74 yL_word, Cond.static yL_word, Cond.codeWith yL_word cL_word 5 (some .int) [(0, 10, 13, 25)], Cond.classLink RL 25 "java/lang/IndexOutOfBoundsException", Cond.methodLink RL 21 yX4_word, Cond.instanceMethod yX4_word, Cond.selects RX4 yX4_word yX4_word, Cond.code yX4_word cX4_word 3 (some .int), Cond.classLink RX4 134 "java/lang/IndexOutOfBoundsException", Cond.initialized "java/lang/IndexOutOfBoundsException", Cond.methodLink RL 77 yX5_word, Cond.instanceMethod yX5_word, Cond.selects RX5 yX5_word yX5_word, Cond.code yX5_word cX5_word 3 (some .int), Cond.methodLink RL 78 yL_told]
def wsL_law0_r20 : List Cond := [Cond.static yL_told, Cond.codeWith yL_told cL_told 4 (some .int) [(0, 9, 12, 25)], Cond.methodLink RL 27 yX4_told, Cond.instanceMethod yX4_told, Cond.selects RX4 yX4_told yX4_told, Cond.code yX4_told cX4_told 2 (some .int), Cond.methodLink RX4 143 yX0_countLiveGraves, Cond.instanceMethod yX0_countLiveGraves, Cond.selects RX0 yX0_countLiveGraves yX0_countLiveGraves, Cond.code yX0_countLiveGraves cX0_countLiveGraves 3 (some .int), Cond.methodLink RX0 64 yX0_isLiveGrave, Cond.methodLink RX4 149 yX2_writesDone, Cond.methodLink RL 80 yX5_told, Cond.instanceMethod yX5_told, Cond.selects RX5 yX5_told yX5_told, Cond.code yX5_told cX5_told 5 (some .int), Cond.methodLink RL 81 yX4_number, Cond.instanceMethod yX4_number, Cond.selects RX4 yX4_number yX4_number, Cond.code yX4_number cX4_number 3 (some .int), Cond.methodLink RL 84 yX5_number, Cond.instanceMethod yX5_number, Cond.selects RX5 yX5_number yX5_number, Cond.code yX5_number cX5_number 3 (some .int)]
def wsL_law0_r21 : List Cond := [Cond.methodLink RL 85 yX4_key, Cond.instanceMethod yX4_key, Cond.selects RX4 yX4_key yX4_key, Cond.code yX4_key cX4_key 3 (some .int), Cond.methodLink RX4 155 yX0_firstBlockOfRank, Cond.instanceMethod yX0_firstBlockOfRank, Cond.selects RX0 yX0_firstBlockOfRank yX0_firstBlockOfRank, Cond.code yX0_firstBlockOfRank cX0_firstBlockOfRank 3 (some .int), Cond.methodLink RX0 61 yX0_countTextsBelow, Cond.instanceMethod yX0_countTextsBelow, Cond.selects RX0 yX0_countTextsBelow yX0_countTextsBelow, Cond.code yX0_countTextsBelow cX0_countTextsBelow 4 (some .int), Cond.methodLink RX4 158 yX2_keyOf, Cond.methodLink RL 88 yX5_key, Cond.instanceMethod yX5_key, Cond.selects RX5 yX5_key yX5_key, Cond.code yX5_key cX5_key 5 (some .int), Cond.methodLink RL 89 yX4_pack, Cond.instanceMethod yX4_pack, Cond.selects RX4 yX4_pack yX4_pack, Cond.code yX4_pack cX4_pack 1 (some .int), Cond.methodLink RL 92 yX5_pack, Cond.instanceMethod yX5_pack, Cond.selects RX5 yX5_pack yX5_pack]
def wsL_law0_r22 : List Cond := [Cond.code yX5_pack cX5_pack 1 (some .int), Cond.methodLink RL 93 yX4_unpack, Cond.instanceMethod yX4_unpack, Cond.selects RX4 yX4_unpack yX4_unpack, Cond.code yX4_unpack cX4_unpack 2 (some .int), Cond.methodLink RL 96 yX5_unpack, Cond.instanceMethod yX5_unpack, Cond.selects RX5 yX5_unpack yX5_unpack, Cond.code yX5_unpack cX5_unpack 1 (some .int), Cond.methodLink RL 97 yX4_place, Cond.instanceMethod yX4_place, Cond.selects RX4 yX4_place yX4_place, Cond.code yX4_place cX4_place 1 (some .int), Cond.methodLink RL 100 yX5_place, Cond.instanceMethod yX5_place, Cond.selects RX5 yX5_place yX5_place, Cond.code yX5_place cX5_place 1 (some .int)]
def wsL_law0 : List Cond := (wsL_law0_r1 ++ (wsL_law0_r2 ++ (wsL_law0_r3 ++ (wsL_law0_r4 ++ (wsL_law0_r5 ++ (wsL_law0_r6 ++ (wsL_law0_r7 ++ (wsL_law0_r8 ++ (wsL_law0_r9 ++ (wsL_law0_r10 ++ (wsL_law0_r11 ++ (wsL_law0_r12 ++ (wsL_law0_r13 ++ (wsL_law0_r14 ++ (wsL_law0_r15 ++ (wsL_law0_r16 ++ (wsL_law0_r17 ++ (wsL_law0_r18 ++ (wsL_law0_r19 ++ (wsL_law0_r20 ++ (wsL_law0_r21 ++ wsL_law0_r22))))))))))))))))))))) ++ wsX40 ++ wsX50 ++ wsX20 ++ wsX00 ++ wsX30 ++ ([] : List Cond)
def wsL_law : List Cond := wsL_law0 ++ (vx_at0 RX4 58 "java/lang/IllegalArgumentException" ["java/lang/RuntimeException", "java/lang/Exception"]).filter goodWord ++ (vx_at0 RX4 121 "java/lang/IllegalStateException" ["java/lang/RuntimeException", "java/lang/Exception"]).filter goodWord ++ (vx_at0 RX4 136 "java/lang/IndexOutOfBoundsException" ["java/lang/RuntimeException", "java/lang/Exception"]).filter goodWord
theorem dX0_init_0 : decode cX0_init 0 = .ok (.aload_n 0, 1) := by decide +kernel
theorem dX0_init_1 : decode cX0_init 1 = .ok (.invokespecial 3, 3) := by decide +kernel
theorem dX0_init_4 : decode cX0_init 4 = .ok (.aload_n 0, 1) := by decide +kernel
theorem dX0_init_5 : decode cX0_init 5 = .ok (.bipush 64, 2) := by decide +kernel
theorem dX0_init_7 : decode cX0_init 7 = .ok (.newarray .boolean, 2) := by decide +kernel
theorem dX0_init_9 : decode cX0_init 9 = .ok (.putfield 9, 3) := by decide +kernel
theorem dX0_init_12 : decode cX0_init 12 = .ok (.aload_n 0, 1) := by decide +kernel
theorem dX0_init_13 : decode cX0_init 13 = .ok (.bipush 64, 2) := by decide +kernel
theorem dX0_init_15 : decode cX0_init 15 = .ok (.newarray .boolean, 2) := by decide +kernel
theorem dX0_init_17 : decode cX0_init 17 = .ok (.putfield 15, 3) := by decide +kernel
theorem dX0_init_20 : decode cX0_init 20 = .ok (.aload_n 0, 1) := by decide +kernel
theorem dX0_init_21 : decode cX0_init 21 = .ok (.iconst (-1), 1) := by decide +kernel
theorem dX0_init_22 : decode cX0_init 22 = .ok (.putfield 18, 3) := by decide +kernel
theorem dX0_init_25 : decode cX0_init 25 = .ok (.aload_n 0, 1) := by decide +kernel
theorem dX0_init_26 : decode cX0_init 26 = .ok (.aload_n 1, 1) := by decide +kernel
theorem dX0_init_27 : decode cX0_init 27 = .ok (.putfield 22, 3) := by decide +kernel
theorem dX0_init_30 : decode cX0_init 30 = .ok (.return_, 1) := by decide +kernel
set_option maxRecDepth 20000 in
theorem ggX0_survey_X2_writesDone : GoodIn wsX0_survey wsX2_writesDone := goodIn_r _ [9, 10, 41, 42, 43, 44] (by decide +kernel) (by decide +kernel)
set_option maxRecDepth 20000 in
theorem gX0_survey_X2_writesDone : GoodIn wsX0_survey (wsV RX0 26 RX2 yX2_writesDone wsX2_writesDone) := goodIn_app (goodIn_of _ (by decide +kernel)) ggX0_survey_X2_writesDone
set_option maxRecDepth 20000 in
theorem ggX0_survey_X2_numberOf : GoodIn wsX0_survey wsX2_numberOf := goodIn_r _ [14, 15, 16, 17, 8, 18, 19, 41, 42, 43, 44] (by decide +kernel) (by decide +kernel)
set_option maxRecDepth 20000 in
theorem gX0_survey_X2_numberOf : GoodIn wsX0_survey (wsV RX0 32 RX2 yX2_numberOf wsX2_numberOf) := goodIn_app (goodIn_of _ (by decide +kernel)) ggX0_survey_X2_numberOf
set_option maxRecDepth 20000 in
theorem ggX0_survey_X0_hasAllParts : GoodIn wsX0_survey wsX0_hasAllParts := goodIn_r _ [24, 2, 11, 12, 13, 8, 14, 15, 16, 17, 18, 19, 25, 26, 27, 28, 37, 38, 39, 40, 41, 42, 43, 44] (by decide +kernel) (by decide +kernel)
set_option maxRecDepth 20000 in
theorem gX0_survey_X0_hasAllParts : GoodIn wsX0_survey (wsV RX0 36 RX0 yX0_hasAllParts wsX0_hasAllParts) := goodIn_app (goodIn_of _ (by decide +kernel)) ggX0_survey_X0_hasAllParts
set_option maxRecDepth 20000 in
theorem ggX0_survey_X0_isOutdone : GoodIn wsX0_survey wsX0_isOutdone := goodIn_r _ [32, 3, 2, 33, 34, 35, 8, 36, 15, 16, 17, 18, 19, 11, 12, 13, 14, 37, 38, 39, 40, 41, 42, 43, 44] (by decide +kernel) (by decide +kernel)
set_option maxRecDepth 20000 in
theorem gX0_survey_X0_isOutdone : GoodIn wsX0_survey (wsV RX0 40 RX0 yX0_isOutdone wsX0_isOutdone) := goodIn_app (goodIn_of _ (by decide +kernel)) ggX0_survey_X0_isOutdone
theorem dX0_survey_0 : decode cX0_survey 0 = .ok (.aload_n 0, 1) := by decide +kernel
theorem dX0_survey_1 : decode cX0_survey 1 = .ok (.getfield 18, 3) := by decide +kernel
theorem dX0_survey_4 : decode cX0_survey 4 = .ok (.aload_n 0, 1) := by decide +kernel
theorem dX0_survey_5 : decode cX0_survey 5 = .ok (.getfield 22, 3) := by decide +kernel
theorem dX0_survey_8 : decode cX0_survey 8 = .ok (.invokevirtual 26, 3) := by decide +kernel
theorem dX0_survey_11 : decode cX0_survey 11 = .ok (.if_icmp .ne 4, 3) := by decide +kernel
theorem dX0_survey_14 : decode cX0_survey 14 = .ok (.return_, 1) := by decide +kernel
theorem dX0_survey_15 : decode cX0_survey 15 = .ok (.iconst 0, 1) := by decide +kernel
theorem dX0_survey_16 : decode cX0_survey 16 = .ok (.istore_n 1, 1) := by decide +kernel
theorem dX0_survey_17 : decode cX0_survey 17 = .ok (.iload_n 1, 1) := by decide +kernel
theorem dX0_survey_18 : decode cX0_survey 18 = .ok (.bipush 64, 2) := by decide +kernel
theorem dX0_survey_20 : decode cX0_survey 20 = .ok (.if_icmp .ge 39, 3) := by decide +kernel
theorem dX0_survey_23 : decode cX0_survey 23 = .ok (.aload_n 0, 1) := by decide +kernel
theorem dX0_survey_24 : decode cX0_survey 24 = .ok (.getfield 9, 3) := by decide +kernel
theorem dX0_survey_27 : decode cX0_survey 27 = .ok (.iload_n 1, 1) := by decide +kernel
theorem dX0_survey_28 : decode cX0_survey 28 = .ok (.aload_n 0, 1) := by decide +kernel
theorem dX0_survey_29 : decode cX0_survey 29 = .ok (.getfield 22, 3) := by decide +kernel
theorem dX0_survey_32 : decode cX0_survey 32 = .ok (.iload_n 1, 1) := by decide +kernel
theorem dX0_survey_33 : decode cX0_survey 33 = .ok (.invokevirtual 32, 3) := by decide +kernel
theorem dX0_survey_36 : decode cX0_survey 36 = .ok (.ifCond .eq 15, 3) := by decide +kernel
theorem dX0_survey_39 : decode cX0_survey 39 = .ok (.aload_n 0, 1) := by decide +kernel
theorem dX0_survey_40 : decode cX0_survey 40 = .ok (.iload_n 1, 1) := by decide +kernel
theorem dX0_survey_41 : decode cX0_survey 41 = .ok (.invokevirtual 36, 3) := by decide +kernel
theorem dX0_survey_44 : decode cX0_survey 44 = .ok (.ifCond .eq 7, 3) := by decide +kernel
theorem dX0_survey_47 : decode cX0_survey 47 = .ok (.iconst 1, 1) := by decide +kernel
theorem dX0_survey_48 : decode cX0_survey 48 = .ok (.goto 4, 3) := by decide +kernel
theorem dX0_survey_51 : decode cX0_survey 51 = .ok (.iconst 0, 1) := by decide +kernel
theorem dX0_survey_52 : decode cX0_survey 52 = .ok (.bastore, 1) := by decide +kernel
theorem dX0_survey_53 : decode cX0_survey 53 = .ok (.iinc 1 1, 3) := by decide +kernel
theorem dX0_survey_56 : decode cX0_survey 56 = .ok (.goto (-39), 3) := by decide +kernel
theorem dX0_survey_59 : decode cX0_survey 59 = .ok (.iconst 0, 1) := by decide +kernel
theorem dX0_survey_60 : decode cX0_survey 60 = .ok (.istore_n 1, 1) := by decide +kernel
theorem dX0_survey_61 : decode cX0_survey 61 = .ok (.iload_n 1, 1) := by decide +kernel
theorem dX0_survey_62 : decode cX0_survey 62 = .ok (.bipush 64, 2) := by decide +kernel
theorem dX0_survey_64 : decode cX0_survey 64 = .ok (.if_icmp .ge 37, 3) := by decide +kernel
theorem dX0_survey_67 : decode cX0_survey 67 = .ok (.aload_n 0, 1) := by decide +kernel
theorem dX0_survey_68 : decode cX0_survey 68 = .ok (.getfield 15, 3) := by decide +kernel
theorem dX0_survey_71 : decode cX0_survey 71 = .ok (.iload_n 1, 1) := by decide +kernel
theorem dX0_survey_72 : decode cX0_survey 72 = .ok (.aload_n 0, 1) := by decide +kernel
theorem dX0_survey_73 : decode cX0_survey 73 = .ok (.getfield 9, 3) := by decide +kernel
theorem dX0_survey_76 : decode cX0_survey 76 = .ok (.iload_n 1, 1) := by decide +kernel
theorem dX0_survey_77 : decode cX0_survey 77 = .ok (.baload, 1) := by decide +kernel
theorem dX0_survey_78 : decode cX0_survey 78 = .ok (.ifCond .eq 15, 3) := by decide +kernel
theorem dX0_survey_81 : decode cX0_survey 81 = .ok (.aload_n 0, 1) := by decide +kernel
theorem dX0_survey_82 : decode cX0_survey 82 = .ok (.iload_n 1, 1) := by decide +kernel
theorem dX0_survey_83 : decode cX0_survey 83 = .ok (.invokevirtual 40, 3) := by decide +kernel
theorem dX0_survey_86 : decode cX0_survey 86 = .ok (.ifCond .ne 7, 3) := by decide +kernel
theorem dX0_survey_89 : decode cX0_survey 89 = .ok (.iconst 1, 1) := by decide +kernel
theorem dX0_survey_90 : decode cX0_survey 90 = .ok (.goto 4, 3) := by decide +kernel
theorem dX0_survey_93 : decode cX0_survey 93 = .ok (.iconst 0, 1) := by decide +kernel
theorem dX0_survey_94 : decode cX0_survey 94 = .ok (.bastore, 1) := by decide +kernel
theorem dX0_survey_95 : decode cX0_survey 95 = .ok (.iinc 1 1, 3) := by decide +kernel
theorem dX0_survey_98 : decode cX0_survey 98 = .ok (.goto (-37), 3) := by decide +kernel
theorem dX0_survey_101 : decode cX0_survey 101 = .ok (.aload_n 0, 1) := by decide +kernel
theorem dX0_survey_102 : decode cX0_survey 102 = .ok (.aload_n 0, 1) := by decide +kernel
theorem dX0_survey_103 : decode cX0_survey 103 = .ok (.getfield 22, 3) := by decide +kernel
theorem dX0_survey_106 : decode cX0_survey 106 = .ok (.invokevirtual 26, 3) := by decide +kernel
theorem dX0_survey_109 : decode cX0_survey 109 = .ok (.putfield 18, 3) := by decide +kernel
theorem dX0_survey_112 : decode cX0_survey 112 = .ok (.return_, 1) := by decide +kernel
set_option maxRecDepth 20000 in
theorem ggX0_hasAllParts_X2_numberOf : GoodIn wsX0_hasAllParts wsX2_numberOf := goodIn_r _ [6, 7, 8, 9, 5, 10, 11, 20, 21, 22, 23] (by decide +kernel) (by decide +kernel)
set_option maxRecDepth 20000 in
theorem gX0_hasAllParts_X2_numberOf : GoodIn wsX0_hasAllParts (wsV RX0 32 RX2 yX2_numberOf wsX2_numberOf) := goodIn_app (goodIn_of _ (by decide +kernel)) ggX0_hasAllParts_X2_numberOf
set_option maxRecDepth 20000 in
theorem ggX0_hasAllParts_X2_partsOf : GoodIn wsX0_hasAllParts wsX2_partsOf := goodIn_r _ [15, 7, 8, 9, 5, 10, 11, 20, 21, 22, 23] (by decide +kernel) (by decide +kernel)
set_option maxRecDepth 20000 in
theorem gX0_hasAllParts_X2_partsOf : GoodIn wsX0_hasAllParts (wsV RX0 43 RX2 yX2_partsOf wsX2_partsOf) := goodIn_app (goodIn_of _ (by decide +kernel)) ggX0_hasAllParts_X2_partsOf
theorem dX0_hasAllParts_0 : decode cX0_hasAllParts 0 = .ok (.iconst 0, 1) := by decide +kernel
theorem dX0_hasAllParts_1 : decode cX0_hasAllParts 1 = .ok (.istore_n 2, 1) := by decide +kernel
theorem dX0_hasAllParts_2 : decode cX0_hasAllParts 2 = .ok (.iconst 0, 1) := by decide +kernel
theorem dX0_hasAllParts_3 : decode cX0_hasAllParts 3 = .ok (.istore_n 3, 1) := by decide +kernel
theorem dX0_hasAllParts_4 : decode cX0_hasAllParts 4 = .ok (.iload_n 3, 1) := by decide +kernel
theorem dX0_hasAllParts_5 : decode cX0_hasAllParts 5 = .ok (.bipush 64, 2) := by decide +kernel
theorem dX0_hasAllParts_7 : decode cX0_hasAllParts 7 = .ok (.if_icmp .ge 31, 3) := by decide +kernel
theorem dX0_hasAllParts_10 : decode cX0_hasAllParts 10 = .ok (.aload_n 0, 1) := by decide +kernel
theorem dX0_hasAllParts_11 : decode cX0_hasAllParts 11 = .ok (.getfield 22, 3) := by decide +kernel
theorem dX0_hasAllParts_14 : decode cX0_hasAllParts 14 = .ok (.iload_n 3, 1) := by decide +kernel
theorem dX0_hasAllParts_15 : decode cX0_hasAllParts 15 = .ok (.invokevirtual 32, 3) := by decide +kernel
theorem dX0_hasAllParts_18 : decode cX0_hasAllParts 18 = .ok (.aload_n 0, 1) := by decide +kernel
theorem dX0_hasAllParts_19 : decode cX0_hasAllParts 19 = .ok (.getfield 22, 3) := by decide +kernel
theorem dX0_hasAllParts_22 : decode cX0_hasAllParts 22 = .ok (.iload_n 1, 1) := by decide +kernel
theorem dX0_hasAllParts_23 : decode cX0_hasAllParts 23 = .ok (.invokevirtual 32, 3) := by decide +kernel
theorem dX0_hasAllParts_26 : decode cX0_hasAllParts 26 = .ok (.if_icmp .ne 6, 3) := by decide +kernel
theorem dX0_hasAllParts_29 : decode cX0_hasAllParts 29 = .ok (.iinc 2 1, 3) := by decide +kernel
theorem dX0_hasAllParts_32 : decode cX0_hasAllParts 32 = .ok (.iinc 3 1, 3) := by decide +kernel
theorem dX0_hasAllParts_35 : decode cX0_hasAllParts 35 = .ok (.goto (-31), 3) := by decide +kernel
theorem dX0_hasAllParts_38 : decode cX0_hasAllParts 38 = .ok (.iload_n 2, 1) := by decide +kernel
theorem dX0_hasAllParts_39 : decode cX0_hasAllParts 39 = .ok (.aload_n 0, 1) := by decide +kernel
theorem dX0_hasAllParts_40 : decode cX0_hasAllParts 40 = .ok (.getfield 22, 3) := by decide +kernel
theorem dX0_hasAllParts_43 : decode cX0_hasAllParts 43 = .ok (.iload_n 1, 1) := by decide +kernel
theorem dX0_hasAllParts_44 : decode cX0_hasAllParts 44 = .ok (.invokevirtual 43, 3) := by decide +kernel
theorem dX0_hasAllParts_47 : decode cX0_hasAllParts 47 = .ok (.if_icmp .ne 7, 3) := by decide +kernel
theorem dX0_hasAllParts_50 : decode cX0_hasAllParts 50 = .ok (.iconst 1, 1) := by decide +kernel
theorem dX0_hasAllParts_51 : decode cX0_hasAllParts 51 = .ok (.goto 4, 3) := by decide +kernel
theorem dX0_hasAllParts_54 : decode cX0_hasAllParts 54 = .ok (.iconst 0, 1) := by decide +kernel
theorem dX0_hasAllParts_55 : decode cX0_hasAllParts 55 = .ok (.ireturn, 1) := by decide +kernel
set_option maxRecDepth 20000 in
theorem ggX0_isOutdone_X2_keyOf : GoodIn wsX0_isOutdone wsX2_keyOf := goodIn_r _ [7, 8, 9, 10, 6, 11, 12, 21, 22, 23, 24] (by decide +kernel) (by decide +kernel)
set_option maxRecDepth 20000 in
theorem gX0_isOutdone_X2_keyOf : GoodIn wsX0_isOutdone (wsV RX0 46 RX2 yX2_keyOf wsX2_keyOf) := goodIn_app (goodIn_of _ (by decide +kernel)) ggX0_isOutdone_X2_keyOf
set_option maxRecDepth 20000 in
theorem ggX0_isOutdone_X2_numberOf : GoodIn wsX0_isOutdone wsX2_numberOf := goodIn_r _ [16, 8, 9, 10, 6, 11, 12, 21, 22, 23, 24] (by decide +kernel) (by decide +kernel)
set_option maxRecDepth 20000 in
theorem gX0_isOutdone_X2_numberOf : GoodIn wsX0_isOutdone (wsV RX0 32 RX2 yX2_numberOf wsX2_numberOf) := goodIn_app (goodIn_of _ (by decide +kernel)) ggX0_isOutdone_X2_numberOf
theorem dX0_isOutdone_0 : decode cX0_isOutdone 0 = .ok (.iconst 0, 1) := by decide +kernel
theorem dX0_isOutdone_1 : decode cX0_isOutdone 1 = .ok (.istore_n 2, 1) := by decide +kernel
theorem dX0_isOutdone_2 : decode cX0_isOutdone 2 = .ok (.iload_n 2, 1) := by decide +kernel
theorem dX0_isOutdone_3 : decode cX0_isOutdone 3 = .ok (.bipush 64, 2) := by decide +kernel
theorem dX0_isOutdone_5 : decode cX0_isOutdone 5 = .ok (.if_icmp .ge 58, 3) := by decide +kernel
theorem dX0_isOutdone_8 : decode cX0_isOutdone 8 = .ok (.aload_n 0, 1) := by decide +kernel
theorem dX0_isOutdone_9 : decode cX0_isOutdone 9 = .ok (.getfield 9, 3) := by decide +kernel
theorem dX0_isOutdone_12 : decode cX0_isOutdone 12 = .ok (.iload_n 2, 1) := by decide +kernel
theorem dX0_isOutdone_13 : decode cX0_isOutdone 13 = .ok (.baload, 1) := by decide +kernel
theorem dX0_isOutdone_14 : decode cX0_isOutdone 14 = .ok (.ifCond .eq 43, 3) := by decide +kernel
theorem dX0_isOutdone_17 : decode cX0_isOutdone 17 = .ok (.aload_n 0, 1) := by decide +kernel
theorem dX0_isOutdone_18 : decode cX0_isOutdone 18 = .ok (.getfield 22, 3) := by decide +kernel
theorem dX0_isOutdone_21 : decode cX0_isOutdone 21 = .ok (.iload_n 2, 1) := by decide +kernel
theorem dX0_isOutdone_22 : decode cX0_isOutdone 22 = .ok (.invokevirtual 46, 3) := by decide +kernel
theorem dX0_isOutdone_25 : decode cX0_isOutdone 25 = .ok (.aload_n 0, 1) := by decide +kernel
theorem dX0_isOutdone_26 : decode cX0_isOutdone 26 = .ok (.getfield 22, 3) := by decide +kernel
theorem dX0_isOutdone_29 : decode cX0_isOutdone 29 = .ok (.iload_n 1, 1) := by decide +kernel
theorem dX0_isOutdone_30 : decode cX0_isOutdone 30 = .ok (.invokevirtual 46, 3) := by decide +kernel
theorem dX0_isOutdone_33 : decode cX0_isOutdone 33 = .ok (.if_icmp .ne 24, 3) := by decide +kernel
theorem dX0_isOutdone_36 : decode cX0_isOutdone 36 = .ok (.aload_n 0, 1) := by decide +kernel
theorem dX0_isOutdone_37 : decode cX0_isOutdone 37 = .ok (.getfield 22, 3) := by decide +kernel
theorem dX0_isOutdone_40 : decode cX0_isOutdone 40 = .ok (.iload_n 2, 1) := by decide +kernel
theorem dX0_isOutdone_41 : decode cX0_isOutdone 41 = .ok (.invokevirtual 32, 3) := by decide +kernel
theorem dX0_isOutdone_44 : decode cX0_isOutdone 44 = .ok (.aload_n 0, 1) := by decide +kernel
theorem dX0_isOutdone_45 : decode cX0_isOutdone 45 = .ok (.getfield 22, 3) := by decide +kernel
theorem dX0_isOutdone_48 : decode cX0_isOutdone 48 = .ok (.iload_n 1, 1) := by decide +kernel
theorem dX0_isOutdone_49 : decode cX0_isOutdone 49 = .ok (.invokevirtual 32, 3) := by decide +kernel
theorem dX0_isOutdone_52 : decode cX0_isOutdone 52 = .ok (.if_icmp .le 5, 3) := by decide +kernel
theorem dX0_isOutdone_55 : decode cX0_isOutdone 55 = .ok (.iconst 1, 1) := by decide +kernel
theorem dX0_isOutdone_56 : decode cX0_isOutdone 56 = .ok (.ireturn, 1) := by decide +kernel
theorem dX0_isOutdone_57 : decode cX0_isOutdone 57 = .ok (.iinc 2 1, 3) := by decide +kernel
theorem dX0_isOutdone_60 : decode cX0_isOutdone 60 = .ok (.goto (-58), 3) := by decide +kernel
theorem dX0_isOutdone_63 : decode cX0_isOutdone 63 = .ok (.iconst 0, 1) := by decide +kernel
theorem dX0_isOutdone_64 : decode cX0_isOutdone 64 = .ok (.ireturn, 1) := by decide +kernel
theorem dX0_isLive_0 : decode cX0_isLive 0 = .ok (.iload_n 1, 1) := by decide +kernel
theorem dX0_isLive_1 : decode cX0_isLive 1 = .ok (.ifCond .lt 22, 3) := by decide +kernel
theorem dX0_isLive_4 : decode cX0_isLive 4 = .ok (.iload_n 1, 1) := by decide +kernel
theorem dX0_isLive_5 : decode cX0_isLive 5 = .ok (.bipush 64, 2) := by decide +kernel
theorem dX0_isLive_7 : decode cX0_isLive 7 = .ok (.if_icmp .ge 16, 3) := by decide +kernel
theorem dX0_isLive_10 : decode cX0_isLive 10 = .ok (.aload_n 0, 1) := by decide +kernel
theorem dX0_isLive_11 : decode cX0_isLive 11 = .ok (.getfield 15, 3) := by decide +kernel
theorem dX0_isLive_14 : decode cX0_isLive 14 = .ok (.iload_n 1, 1) := by decide +kernel
theorem dX0_isLive_15 : decode cX0_isLive 15 = .ok (.baload, 1) := by decide +kernel
theorem dX0_isLive_16 : decode cX0_isLive 16 = .ok (.ifCond .eq 7, 3) := by decide +kernel
theorem dX0_isLive_19 : decode cX0_isLive 19 = .ok (.iconst 1, 1) := by decide +kernel
theorem dX0_isLive_20 : decode cX0_isLive 20 = .ok (.goto 4, 3) := by decide +kernel
theorem dX0_isLive_23 : decode cX0_isLive 23 = .ok (.iconst 0, 1) := by decide +kernel
theorem dX0_isLive_24 : decode cX0_isLive 24 = .ok (.ireturn, 1) := by decide +kernel
set_option maxRecDepth 20000 in
theorem ggX0_isLeftOver_X0_isLive : GoodIn wsX0_isLeftOver wsX0_isLive := goodIn_r _ [6, 7, 18, 19, 20, 21] (by decide +kernel) (by decide +kernel)
set_option maxRecDepth 20000 in
theorem gX0_isLeftOver_X0_isLive : GoodIn wsX0_isLeftOver (wsV RX0 49 RX0 yX0_isLive wsX0_isLive) := goodIn_app (goodIn_of _ (by decide +kernel)) ggX0_isLeftOver_X0_isLive
set_option maxRecDepth 20000 in
theorem ggX0_isLeftOver_X2_numberOf : GoodIn wsX0_isLeftOver wsX2_numberOf := goodIn_r _ [12, 13, 14, 15, 11, 16, 17, 22, 23, 24, 25] (by decide +kernel) (by decide +kernel)
set_option maxRecDepth 20000 in
theorem gX0_isLeftOver_X2_numberOf : GoodIn wsX0_isLeftOver (wsV RX0 32 RX2 yX2_numberOf wsX2_numberOf) := goodIn_app (goodIn_of _ (by decide +kernel)) ggX0_isLeftOver_X2_numberOf
theorem dX0_isLeftOver_0 : decode cX0_isLeftOver 0 = .ok (.aload_n 0, 1) := by decide +kernel
theorem dX0_isLeftOver_1 : decode cX0_isLeftOver 1 = .ok (.iload_n 1, 1) := by decide +kernel
theorem dX0_isLeftOver_2 : decode cX0_isLeftOver 2 = .ok (.invokevirtual 49, 3) := by decide +kernel
theorem dX0_isLeftOver_5 : decode cX0_isLeftOver 5 = .ok (.ifCond .ne 18, 3) := by decide +kernel
theorem dX0_isLeftOver_8 : decode cX0_isLeftOver 8 = .ok (.aload_n 0, 1) := by decide +kernel
theorem dX0_isLeftOver_9 : decode cX0_isLeftOver 9 = .ok (.getfield 22, 3) := by decide +kernel
theorem dX0_isLeftOver_12 : decode cX0_isLeftOver 12 = .ok (.iload_n 1, 1) := by decide +kernel
theorem dX0_isLeftOver_13 : decode cX0_isLeftOver 13 = .ok (.invokevirtual 32, 3) := by decide +kernel
theorem dX0_isLeftOver_16 : decode cX0_isLeftOver 16 = .ok (.ifCond .eq 7, 3) := by decide +kernel
theorem dX0_isLeftOver_19 : decode cX0_isLeftOver 19 = .ok (.iconst 1, 1) := by decide +kernel
theorem dX0_isLeftOver_20 : decode cX0_isLeftOver 20 = .ok (.goto 4, 3) := by decide +kernel
theorem dX0_isLeftOver_23 : decode cX0_isLeftOver 23 = .ok (.iconst 0, 1) := by decide +kernel
theorem dX0_isLeftOver_24 : decode cX0_isLeftOver 24 = .ok (.ireturn, 1) := by decide +kernel
set_option maxRecDepth 20000 in
theorem ggX0_isLiveGrave_X0_isLive : GoodIn wsX0_isLiveGrave wsX0_isLive := goodIn_r _ [6, 7, 18, 19, 20, 21] (by decide +kernel) (by decide +kernel)
set_option maxRecDepth 20000 in
theorem gX0_isLiveGrave_X0_isLive : GoodIn wsX0_isLiveGrave (wsV RX0 49 RX0 yX0_isLive wsX0_isLive) := goodIn_app (goodIn_of _ (by decide +kernel)) ggX0_isLiveGrave_X0_isLive
set_option maxRecDepth 20000 in
theorem ggX0_isLiveGrave_X2_formOf : GoodIn wsX0_isLiveGrave wsX2_formOf := goodIn_r _ [12, 13, 14, 15, 11, 16, 17, 22, 23, 24, 25] (by decide +kernel) (by decide +kernel)
set_option maxRecDepth 20000 in
theorem gX0_isLiveGrave_X2_formOf : GoodIn wsX0_isLiveGrave (wsV RX0 52 RX2 yX2_formOf wsX2_formOf) := goodIn_app (goodIn_of _ (by decide +kernel)) ggX0_isLiveGrave_X2_formOf
theorem dX0_isLiveGrave_0 : decode cX0_isLiveGrave 0 = .ok (.aload_n 0, 1) := by decide +kernel
theorem dX0_isLiveGrave_1 : decode cX0_isLiveGrave 1 = .ok (.iload_n 1, 1) := by decide +kernel
theorem dX0_isLiveGrave_2 : decode cX0_isLiveGrave 2 = .ok (.invokevirtual 49, 3) := by decide +kernel
theorem dX0_isLiveGrave_5 : decode cX0_isLiveGrave 5 = .ok (.ifCond .eq 19, 3) := by decide +kernel
theorem dX0_isLiveGrave_8 : decode cX0_isLiveGrave 8 = .ok (.aload_n 0, 1) := by decide +kernel
theorem dX0_isLiveGrave_9 : decode cX0_isLiveGrave 9 = .ok (.getfield 22, 3) := by decide +kernel
theorem dX0_isLiveGrave_12 : decode cX0_isLiveGrave 12 = .ok (.iload_n 1, 1) := by decide +kernel
theorem dX0_isLiveGrave_13 : decode cX0_isLiveGrave 13 = .ok (.invokevirtual 52, 3) := by decide +kernel
theorem dX0_isLiveGrave_16 : decode cX0_isLiveGrave 16 = .ok (.iconst 2, 1) := by decide +kernel
theorem dX0_isLiveGrave_17 : decode cX0_isLiveGrave 17 = .ok (.if_icmp .ne 7, 3) := by decide +kernel
theorem dX0_isLiveGrave_20 : decode cX0_isLiveGrave 20 = .ok (.iconst 1, 1) := by decide +kernel
theorem dX0_isLiveGrave_21 : decode cX0_isLiveGrave 21 = .ok (.goto 4, 3) := by decide +kernel
theorem dX0_isLiveGrave_24 : decode cX0_isLiveGrave 24 = .ok (.iconst 0, 1) := by decide +kernel
theorem dX0_isLiveGrave_25 : decode cX0_isLiveGrave 25 = .ok (.ireturn, 1) := by decide +kernel
set_option maxRecDepth 20000 in
theorem ggX0_isText_X0_isLive : GoodIn wsX0_isText wsX0_isLive := goodIn_r _ [6, 7, 22, 23, 24, 25] (by decide +kernel) (by decide +kernel)
set_option maxRecDepth 20000 in
theorem gX0_isText_X0_isLive : GoodIn wsX0_isText (wsV RX0 49 RX0 yX0_isLive wsX0_isLive) := goodIn_app (goodIn_of _ (by decide +kernel)) ggX0_isText_X0_isLive
set_option maxRecDepth 20000 in
theorem ggX0_isText_X2_partOf : GoodIn wsX0_isText wsX2_partOf := goodIn_r _ [12, 13, 14, 15, 11, 16, 17, 26, 27, 28, 29] (by decide +kernel) (by decide +kernel)
set_option maxRecDepth 20000 in
theorem gX0_isText_X2_partOf : GoodIn wsX0_isText (wsV RX0 55 RX2 yX2_partOf wsX2_partOf) := goodIn_app (goodIn_of _ (by decide +kernel)) ggX0_isText_X2_partOf
set_option maxRecDepth 20000 in
theorem ggX0_isText_X2_formOf : GoodIn wsX0_isText wsX2_formOf := goodIn_r _ [21, 13, 14, 15, 11, 16, 17, 26, 27, 28, 29] (by decide +kernel) (by decide +kernel)
set_option maxRecDepth 20000 in
theorem gX0_isText_X2_formOf : GoodIn wsX0_isText (wsV RX0 52 RX2 yX2_formOf wsX2_formOf) := goodIn_app (goodIn_of _ (by decide +kernel)) ggX0_isText_X2_formOf
theorem dX0_isText_0 : decode cX0_isText 0 = .ok (.aload_n 0, 1) := by decide +kernel
theorem dX0_isText_1 : decode cX0_isText 1 = .ok (.iload_n 1, 1) := by decide +kernel
theorem dX0_isText_2 : decode cX0_isText 2 = .ok (.invokevirtual 49, 3) := by decide +kernel
theorem dX0_isText_5 : decode cX0_isText 5 = .ok (.ifCond .eq 30, 3) := by decide +kernel
theorem dX0_isText_8 : decode cX0_isText 8 = .ok (.aload_n 0, 1) := by decide +kernel
theorem dX0_isText_9 : decode cX0_isText 9 = .ok (.getfield 22, 3) := by decide +kernel
theorem dX0_isText_12 : decode cX0_isText 12 = .ok (.iload_n 1, 1) := by decide +kernel
theorem dX0_isText_13 : decode cX0_isText 13 = .ok (.invokevirtual 55, 3) := by decide +kernel
theorem dX0_isText_16 : decode cX0_isText 16 = .ok (.ifCond .ne 19, 3) := by decide +kernel
theorem dX0_isText_19 : decode cX0_isText 19 = .ok (.aload_n 0, 1) := by decide +kernel
theorem dX0_isText_20 : decode cX0_isText 20 = .ok (.getfield 22, 3) := by decide +kernel
theorem dX0_isText_23 : decode cX0_isText 23 = .ok (.iload_n 1, 1) := by decide +kernel
theorem dX0_isText_24 : decode cX0_isText 24 = .ok (.invokevirtual 52, 3) := by decide +kernel
theorem dX0_isText_27 : decode cX0_isText 27 = .ok (.iconst 2, 1) := by decide +kernel
theorem dX0_isText_28 : decode cX0_isText 28 = .ok (.if_icmp .eq 7, 3) := by decide +kernel
theorem dX0_isText_31 : decode cX0_isText 31 = .ok (.iconst 1, 1) := by decide +kernel
theorem dX0_isText_32 : decode cX0_isText 32 = .ok (.goto 4, 3) := by decide +kernel
theorem dX0_isText_35 : decode cX0_isText 35 = .ok (.iconst 0, 1) := by decide +kernel
theorem dX0_isText_36 : decode cX0_isText 36 = .ok (.ireturn, 1) := by decide +kernel
set_option maxRecDepth 20000 in
theorem ggX0_firstBlock_X0_isLive : GoodIn wsX0_firstBlock wsX0_isLive := goodIn_r _ [6, 7, 22, 23, 24, 25] (by decide +kernel) (by decide +kernel)
set_option maxRecDepth 20000 in
theorem gX0_firstBlock_X0_isLive : GoodIn wsX0_firstBlock (wsV RX0 49 RX0 yX0_isLive wsX0_isLive) := goodIn_app (goodIn_of _ (by decide +kernel)) ggX0_firstBlock_X0_isLive
set_option maxRecDepth 20000 in
theorem ggX0_firstBlock_X2_partOf : GoodIn wsX0_firstBlock wsX2_partOf := goodIn_r _ [12, 13, 14, 15, 11, 16, 17, 26, 27, 28, 29] (by decide +kernel) (by decide +kernel)
set_option maxRecDepth 20000 in
theorem gX0_firstBlock_X2_partOf : GoodIn wsX0_firstBlock (wsV RX0 55 RX2 yX2_partOf wsX2_partOf) := goodIn_app (goodIn_of _ (by decide +kernel)) ggX0_firstBlock_X2_partOf
set_option maxRecDepth 20000 in
theorem ggX0_firstBlock_X2_keyOf : GoodIn wsX0_firstBlock wsX2_keyOf := goodIn_r _ [21, 13, 14, 15, 11, 16, 17, 26, 27, 28, 29] (by decide +kernel) (by decide +kernel)
set_option maxRecDepth 20000 in
theorem gX0_firstBlock_X2_keyOf : GoodIn wsX0_firstBlock (wsV RX0 46 RX2 yX2_keyOf wsX2_keyOf) := goodIn_app (goodIn_of _ (by decide +kernel)) ggX0_firstBlock_X2_keyOf
theorem dX0_firstBlock_0 : decode cX0_firstBlock 0 = .ok (.iconst 0, 1) := by decide +kernel
theorem dX0_firstBlock_1 : decode cX0_firstBlock 1 = .ok (.istore_n 2, 1) := by decide +kernel
theorem dX0_firstBlock_2 : decode cX0_firstBlock 2 = .ok (.iload_n 2, 1) := by decide +kernel
theorem dX0_firstBlock_3 : decode cX0_firstBlock 3 = .ok (.bipush 64, 2) := by decide +kernel
theorem dX0_firstBlock_5 : decode cX0_firstBlock 5 = .ok (.if_icmp .ge 42, 3) := by decide +kernel
theorem dX0_firstBlock_8 : decode cX0_firstBlock 8 = .ok (.aload_n 0, 1) := by decide +kernel
theorem dX0_firstBlock_9 : decode cX0_firstBlock 9 = .ok (.iload_n 2, 1) := by decide +kernel
theorem dX0_firstBlock_10 : decode cX0_firstBlock 10 = .ok (.invokevirtual 49, 3) := by decide +kernel
theorem dX0_firstBlock_13 : decode cX0_firstBlock 13 = .ok (.ifCond .eq 28, 3) := by decide +kernel
theorem dX0_firstBlock_16 : decode cX0_firstBlock 16 = .ok (.aload_n 0, 1) := by decide +kernel
theorem dX0_firstBlock_17 : decode cX0_firstBlock 17 = .ok (.getfield 22, 3) := by decide +kernel
theorem dX0_firstBlock_20 : decode cX0_firstBlock 20 = .ok (.iload_n 2, 1) := by decide +kernel
theorem dX0_firstBlock_21 : decode cX0_firstBlock 21 = .ok (.invokevirtual 55, 3) := by decide +kernel
theorem dX0_firstBlock_24 : decode cX0_firstBlock 24 = .ok (.ifCond .ne 17, 3) := by decide +kernel
theorem dX0_firstBlock_27 : decode cX0_firstBlock 27 = .ok (.aload_n 0, 1) := by decide +kernel
theorem dX0_firstBlock_28 : decode cX0_firstBlock 28 = .ok (.getfield 22, 3) := by decide +kernel
theorem dX0_firstBlock_31 : decode cX0_firstBlock 31 = .ok (.iload_n 2, 1) := by decide +kernel
theorem dX0_firstBlock_32 : decode cX0_firstBlock 32 = .ok (.invokevirtual 46, 3) := by decide +kernel
theorem dX0_firstBlock_35 : decode cX0_firstBlock 35 = .ok (.iload_n 1, 1) := by decide +kernel
theorem dX0_firstBlock_36 : decode cX0_firstBlock 36 = .ok (.if_icmp .ne 5, 3) := by decide +kernel
theorem dX0_firstBlock_39 : decode cX0_firstBlock 39 = .ok (.iload_n 2, 1) := by decide +kernel
theorem dX0_firstBlock_40 : decode cX0_firstBlock 40 = .ok (.ireturn, 1) := by decide +kernel
theorem dX0_firstBlock_41 : decode cX0_firstBlock 41 = .ok (.iinc 2 1, 3) := by decide +kernel
theorem dX0_firstBlock_44 : decode cX0_firstBlock 44 = .ok (.goto (-42), 3) := by decide +kernel
theorem dX0_firstBlock_47 : decode cX0_firstBlock 47 = .ok (.iconst (-1), 1) := by decide +kernel
theorem dX0_firstBlock_48 : decode cX0_firstBlock 48 = .ok (.ireturn, 1) := by decide +kernel
set_option maxRecDepth 20000 in
theorem ggX0_firstBlockOfRank_X0_isText : GoodIn wsX0_firstBlockOfRank wsX0_isText := goodIn_r _ [6, 1, 7, 8, 9, 5, 10, 11, 12, 13, 14, 15, 16, 17, 18, 19, 20, 21, 22, 23, 24, 25, 34, 35, 36, 37, 38, 39, 40, 41] (by decide +kernel) (by decide +kernel)
set_option maxRecDepth 20000 in
theorem gX0_firstBlockOfRank_X0_isText : GoodIn wsX0_firstBlockOfRank (wsV RX0 58 RX0 yX0_isText wsX0_isText) := goodIn_app (goodIn_of _ (by decide +kernel)) ggX0_firstBlockOfRank_X0_isText
set_option maxRecDepth 20000 in
theorem ggX0_firstBlockOfRank_X2_keyOf : GoodIn wsX0_firstBlockOfRank wsX2_keyOf := goodIn_r _ [29, 17, 18, 19, 15, 20, 21, 38, 39, 40, 41] (by decide +kernel) (by decide +kernel)
set_option maxRecDepth 20000 in
theorem gX0_firstBlockOfRank_X2_keyOf : GoodIn wsX0_firstBlockOfRank (wsV RX0 46 RX2 yX2_keyOf wsX2_keyOf) := goodIn_app (goodIn_of _ (by decide +kernel)) ggX0_firstBlockOfRank_X2_keyOf
set_option maxRecDepth 20000 in
theorem ggX0_firstBlockOfRank_X0_countTextsBelow : GoodIn wsX0_firstBlockOfRank wsX0_countTextsBelow := goodIn_r _ [33, 1, 2, 3, 4, 5, 6, 7, 8, 9, 10, 11, 12, 13, 14, 15, 16, 17, 18, 19, 20, 21, 22, 23, 24, 25, 26, 27, 28, 29, 34, 35, 36, 37, 38, 39, 40, 41] (by decide +kernel) (by decide +kernel)
set_option maxRecDepth 20000 in
theorem gX0_firstBlockOfRank_X0_countTextsBelow : GoodIn wsX0_firstBlockOfRank (wsV RX0 61 RX0 yX0_countTextsBelow wsX0_countTextsBelow) := goodIn_app (goodIn_of _ (by decide +kernel)) ggX0_firstBlockOfRank_X0_countTextsBelow
theorem dX0_firstBlockOfRank_0 : decode cX0_firstBlockOfRank 0 = .ok (.iconst 0, 1) := by decide +kernel
theorem dX0_firstBlockOfRank_1 : decode cX0_firstBlockOfRank 1 = .ok (.istore_n 2, 1) := by decide +kernel
theorem dX0_firstBlockOfRank_2 : decode cX0_firstBlockOfRank 2 = .ok (.iload_n 2, 1) := by decide +kernel
theorem dX0_firstBlockOfRank_3 : decode cX0_firstBlockOfRank 3 = .ok (.bipush 64, 2) := by decide +kernel
theorem dX0_firstBlockOfRank_5 : decode cX0_firstBlockOfRank 5 = .ok (.if_icmp .ge 35, 3) := by decide +kernel
theorem dX0_firstBlockOfRank_8 : decode cX0_firstBlockOfRank 8 = .ok (.aload_n 0, 1) := by decide +kernel
theorem dX0_firstBlockOfRank_9 : decode cX0_firstBlockOfRank 9 = .ok (.iload_n 2, 1) := by decide +kernel
theorem dX0_firstBlockOfRank_10 : decode cX0_firstBlockOfRank 10 = .ok (.invokevirtual 58, 3) := by decide +kernel
theorem dX0_firstBlockOfRank_13 : decode cX0_firstBlockOfRank 13 = .ok (.ifCond .eq 21, 3) := by decide +kernel
theorem dX0_firstBlockOfRank_16 : decode cX0_firstBlockOfRank 16 = .ok (.aload_n 0, 1) := by decide +kernel
theorem dX0_firstBlockOfRank_17 : decode cX0_firstBlockOfRank 17 = .ok (.aload_n 0, 1) := by decide +kernel
theorem dX0_firstBlockOfRank_18 : decode cX0_firstBlockOfRank 18 = .ok (.getfield 22, 3) := by decide +kernel
theorem dX0_firstBlockOfRank_21 : decode cX0_firstBlockOfRank 21 = .ok (.iload_n 2, 1) := by decide +kernel
theorem dX0_firstBlockOfRank_22 : decode cX0_firstBlockOfRank 22 = .ok (.invokevirtual 46, 3) := by decide +kernel
theorem dX0_firstBlockOfRank_25 : decode cX0_firstBlockOfRank 25 = .ok (.invokevirtual 61, 3) := by decide +kernel
theorem dX0_firstBlockOfRank_28 : decode cX0_firstBlockOfRank 28 = .ok (.iload_n 1, 1) := by decide +kernel
theorem dX0_firstBlockOfRank_29 : decode cX0_firstBlockOfRank 29 = .ok (.if_icmp .ne 5, 3) := by decide +kernel
theorem dX0_firstBlockOfRank_32 : decode cX0_firstBlockOfRank 32 = .ok (.iload_n 2, 1) := by decide +kernel
theorem dX0_firstBlockOfRank_33 : decode cX0_firstBlockOfRank 33 = .ok (.ireturn, 1) := by decide +kernel
theorem dX0_firstBlockOfRank_34 : decode cX0_firstBlockOfRank 34 = .ok (.iinc 2 1, 3) := by decide +kernel
theorem dX0_firstBlockOfRank_37 : decode cX0_firstBlockOfRank 37 = .ok (.goto (-35), 3) := by decide +kernel
theorem dX0_firstBlockOfRank_40 : decode cX0_firstBlockOfRank 40 = .ok (.iconst (-1), 1) := by decide +kernel
theorem dX0_firstBlockOfRank_41 : decode cX0_firstBlockOfRank 41 = .ok (.ireturn, 1) := by decide +kernel
set_option maxRecDepth 20000 in
theorem ggX0_countTextsBelow_X0_isText : GoodIn wsX0_countTextsBelow wsX0_isText := goodIn_r _ [6, 1, 7, 8, 9, 5, 10, 11, 12, 13, 14, 15, 16, 17, 18, 19, 20, 21, 22, 23, 24, 25, 30, 31, 32, 33, 34, 35, 36, 37] (by decide +kernel) (by decide +kernel)
set_option maxRecDepth 20000 in
theorem gX0_countTextsBelow_X0_isText : GoodIn wsX0_countTextsBelow (wsV RX0 58 RX0 yX0_isText wsX0_isText) := goodIn_app (goodIn_of _ (by decide +kernel)) ggX0_countTextsBelow_X0_isText
set_option maxRecDepth 20000 in
theorem ggX0_countTextsBelow_X2_keyOf : GoodIn wsX0_countTextsBelow wsX2_keyOf := goodIn_r _ [29, 17, 18, 19, 15, 20, 21, 34, 35, 36, 37] (by decide +kernel) (by decide +kernel)
set_option maxRecDepth 20000 in
theorem gX0_countTextsBelow_X2_keyOf : GoodIn wsX0_countTextsBelow (wsV RX0 46 RX2 yX2_keyOf wsX2_keyOf) := goodIn_app (goodIn_of _ (by decide +kernel)) ggX0_countTextsBelow_X2_keyOf
theorem dX0_countTextsBelow_0 : decode cX0_countTextsBelow 0 = .ok (.iconst 0, 1) := by decide +kernel
theorem dX0_countTextsBelow_1 : decode cX0_countTextsBelow 1 = .ok (.istore_n 2, 1) := by decide +kernel
theorem dX0_countTextsBelow_2 : decode cX0_countTextsBelow 2 = .ok (.iconst 0, 1) := by decide +kernel
theorem dX0_countTextsBelow_3 : decode cX0_countTextsBelow 3 = .ok (.istore_n 3, 1) := by decide +kernel
theorem dX0_countTextsBelow_4 : decode cX0_countTextsBelow 4 = .ok (.iload_n 3, 1) := by decide +kernel
theorem dX0_countTextsBelow_5 : decode cX0_countTextsBelow 5 = .ok (.bipush 64, 2) := by decide +kernel
theorem dX0_countTextsBelow_7 : decode cX0_countTextsBelow 7 = .ok (.if_icmp .ge 32, 3) := by decide +kernel
theorem dX0_countTextsBelow_10 : decode cX0_countTextsBelow 10 = .ok (.aload_n 0, 1) := by decide +kernel
theorem dX0_countTextsBelow_11 : decode cX0_countTextsBelow 11 = .ok (.iload_n 3, 1) := by decide +kernel
theorem dX0_countTextsBelow_12 : decode cX0_countTextsBelow 12 = .ok (.invokevirtual 58, 3) := by decide +kernel
theorem dX0_countTextsBelow_15 : decode cX0_countTextsBelow 15 = .ok (.ifCond .eq 18, 3) := by decide +kernel
theorem dX0_countTextsBelow_18 : decode cX0_countTextsBelow 18 = .ok (.aload_n 0, 1) := by decide +kernel
theorem dX0_countTextsBelow_19 : decode cX0_countTextsBelow 19 = .ok (.getfield 22, 3) := by decide +kernel
theorem dX0_countTextsBelow_22 : decode cX0_countTextsBelow 22 = .ok (.iload_n 3, 1) := by decide +kernel
theorem dX0_countTextsBelow_23 : decode cX0_countTextsBelow 23 = .ok (.invokevirtual 46, 3) := by decide +kernel
theorem dX0_countTextsBelow_26 : decode cX0_countTextsBelow 26 = .ok (.iload_n 1, 1) := by decide +kernel
theorem dX0_countTextsBelow_27 : decode cX0_countTextsBelow 27 = .ok (.if_icmp .ge 6, 3) := by decide +kernel
theorem dX0_countTextsBelow_30 : decode cX0_countTextsBelow 30 = .ok (.iinc 2 1, 3) := by decide +kernel
theorem dX0_countTextsBelow_33 : decode cX0_countTextsBelow 33 = .ok (.iinc 3 1, 3) := by decide +kernel
theorem dX0_countTextsBelow_36 : decode cX0_countTextsBelow 36 = .ok (.goto (-32), 3) := by decide +kernel
theorem dX0_countTextsBelow_39 : decode cX0_countTextsBelow 39 = .ok (.iload_n 2, 1) := by decide +kernel
theorem dX0_countTextsBelow_40 : decode cX0_countTextsBelow 40 = .ok (.ireturn, 1) := by decide +kernel
set_option maxRecDepth 20000 in
theorem ggX0_countTexts_X0_isText : GoodIn wsX0_countTexts wsX0_isText := goodIn_r _ [5, 6, 7, 8, 9, 4, 10, 11, 12, 13, 14, 15, 16, 17, 18, 19, 20, 21, 22, 23, 24, 25, 26, 27, 28, 29, 30, 31, 32, 33] (by decide +kernel) (by decide +kernel)
set_option maxRecDepth 20000 in
theorem gX0_countTexts_X0_isText : GoodIn wsX0_countTexts (wsV RX0 58 RX0 yX0_isText wsX0_isText) := goodIn_app (goodIn_of _ (by decide +kernel)) ggX0_countTexts_X0_isText
theorem dX0_countTexts_0 : decode cX0_countTexts 0 = .ok (.iconst 0, 1) := by decide +kernel
theorem dX0_countTexts_1 : decode cX0_countTexts 1 = .ok (.istore_n 1, 1) := by decide +kernel
theorem dX0_countTexts_2 : decode cX0_countTexts 2 = .ok (.iconst 0, 1) := by decide +kernel
theorem dX0_countTexts_3 : decode cX0_countTexts 3 = .ok (.istore_n 2, 1) := by decide +kernel
theorem dX0_countTexts_4 : decode cX0_countTexts 4 = .ok (.iload_n 2, 1) := by decide +kernel
theorem dX0_countTexts_5 : decode cX0_countTexts 5 = .ok (.bipush 64, 2) := by decide +kernel
theorem dX0_countTexts_7 : decode cX0_countTexts 7 = .ok (.if_icmp .ge 20, 3) := by decide +kernel
theorem dX0_countTexts_10 : decode cX0_countTexts 10 = .ok (.aload_n 0, 1) := by decide +kernel
theorem dX0_countTexts_11 : decode cX0_countTexts 11 = .ok (.iload_n 2, 1) := by decide +kernel
theorem dX0_countTexts_12 : decode cX0_countTexts 12 = .ok (.invokevirtual 58, 3) := by decide +kernel
theorem dX0_countTexts_15 : decode cX0_countTexts 15 = .ok (.ifCond .eq 6, 3) := by decide +kernel
theorem dX0_countTexts_18 : decode cX0_countTexts 18 = .ok (.iinc 1 1, 3) := by decide +kernel
theorem dX0_countTexts_21 : decode cX0_countTexts 21 = .ok (.iinc 2 1, 3) := by decide +kernel
theorem dX0_countTexts_24 : decode cX0_countTexts 24 = .ok (.goto (-20), 3) := by decide +kernel
theorem dX0_countTexts_27 : decode cX0_countTexts 27 = .ok (.iload_n 1, 1) := by decide +kernel
theorem dX0_countTexts_28 : decode cX0_countTexts 28 = .ok (.ireturn, 1) := by decide +kernel
set_option maxRecDepth 20000 in
theorem ggX0_countLive_X0_isLive : GoodIn wsX0_countLive wsX0_isLive := goodIn_r _ [5, 6, 7, 8, 9, 10] (by decide +kernel) (by decide +kernel)
set_option maxRecDepth 20000 in
theorem gX0_countLive_X0_isLive : GoodIn wsX0_countLive (wsV RX0 49 RX0 yX0_isLive wsX0_isLive) := goodIn_app (goodIn_of _ (by decide +kernel)) ggX0_countLive_X0_isLive
theorem dX0_countLive_0 : decode cX0_countLive 0 = .ok (.iconst 0, 1) := by decide +kernel
theorem dX0_countLive_1 : decode cX0_countLive 1 = .ok (.istore_n 1, 1) := by decide +kernel
theorem dX0_countLive_2 : decode cX0_countLive 2 = .ok (.iconst 0, 1) := by decide +kernel
theorem dX0_countLive_3 : decode cX0_countLive 3 = .ok (.istore_n 2, 1) := by decide +kernel
theorem dX0_countLive_4 : decode cX0_countLive 4 = .ok (.iload_n 2, 1) := by decide +kernel
theorem dX0_countLive_5 : decode cX0_countLive 5 = .ok (.bipush 64, 2) := by decide +kernel
theorem dX0_countLive_7 : decode cX0_countLive 7 = .ok (.if_icmp .ge 20, 3) := by decide +kernel
theorem dX0_countLive_10 : decode cX0_countLive 10 = .ok (.aload_n 0, 1) := by decide +kernel
theorem dX0_countLive_11 : decode cX0_countLive 11 = .ok (.iload_n 2, 1) := by decide +kernel
theorem dX0_countLive_12 : decode cX0_countLive 12 = .ok (.invokevirtual 49, 3) := by decide +kernel
theorem dX0_countLive_15 : decode cX0_countLive 15 = .ok (.ifCond .eq 6, 3) := by decide +kernel
theorem dX0_countLive_18 : decode cX0_countLive 18 = .ok (.iinc 1 1, 3) := by decide +kernel
theorem dX0_countLive_21 : decode cX0_countLive 21 = .ok (.iinc 2 1, 3) := by decide +kernel
theorem dX0_countLive_24 : decode cX0_countLive 24 = .ok (.goto (-20), 3) := by decide +kernel
theorem dX0_countLive_27 : decode cX0_countLive 27 = .ok (.iload_n 1, 1) := by decide +kernel
theorem dX0_countLive_28 : decode cX0_countLive 28 = .ok (.ireturn, 1) := by decide +kernel
set_option maxRecDepth 20000 in
theorem ggX0_countLiveGraves_X0_isLiveGrave : GoodIn wsX0_countLiveGraves wsX0_isLiveGrave := goodIn_r _ [5, 6, 7, 8, 9, 4, 10, 11, 12, 13, 14, 15, 16, 17, 18, 19, 20, 21, 22, 23, 24, 25, 26, 27, 28, 29] (by decide +kernel) (by decide +kernel)
set_option maxRecDepth 20000 in
theorem gX0_countLiveGraves_X0_isLiveGrave : GoodIn wsX0_countLiveGraves (wsV RX0 64 RX0 yX0_isLiveGrave wsX0_isLiveGrave) := goodIn_app (goodIn_of _ (by decide +kernel)) ggX0_countLiveGraves_X0_isLiveGrave
theorem dX0_countLiveGraves_0 : decode cX0_countLiveGraves 0 = .ok (.iconst 0, 1) := by decide +kernel
theorem dX0_countLiveGraves_1 : decode cX0_countLiveGraves 1 = .ok (.istore_n 1, 1) := by decide +kernel
theorem dX0_countLiveGraves_2 : decode cX0_countLiveGraves 2 = .ok (.iconst 0, 1) := by decide +kernel
theorem dX0_countLiveGraves_3 : decode cX0_countLiveGraves 3 = .ok (.istore_n 2, 1) := by decide +kernel
theorem dX0_countLiveGraves_4 : decode cX0_countLiveGraves 4 = .ok (.iload_n 2, 1) := by decide +kernel
theorem dX0_countLiveGraves_5 : decode cX0_countLiveGraves 5 = .ok (.bipush 64, 2) := by decide +kernel
theorem dX0_countLiveGraves_7 : decode cX0_countLiveGraves 7 = .ok (.if_icmp .ge 20, 3) := by decide +kernel
theorem dX0_countLiveGraves_10 : decode cX0_countLiveGraves 10 = .ok (.aload_n 0, 1) := by decide +kernel
theorem dX0_countLiveGraves_11 : decode cX0_countLiveGraves 11 = .ok (.iload_n 2, 1) := by decide +kernel
theorem dX0_countLiveGraves_12 : decode cX0_countLiveGraves 12 = .ok (.invokevirtual 64, 3) := by decide +kernel
theorem dX0_countLiveGraves_15 : decode cX0_countLiveGraves 15 = .ok (.ifCond .eq 6, 3) := by decide +kernel
theorem dX0_countLiveGraves_18 : decode cX0_countLiveGraves 18 = .ok (.iinc 1 1, 3) := by decide +kernel
theorem dX0_countLiveGraves_21 : decode cX0_countLiveGraves 21 = .ok (.iinc 2 1, 3) := by decide +kernel
theorem dX0_countLiveGraves_24 : decode cX0_countLiveGraves 24 = .ok (.goto (-20), 3) := by decide +kernel
theorem dX0_countLiveGraves_27 : decode cX0_countLiveGraves 27 = .ok (.iload_n 1, 1) := by decide +kernel
theorem dX0_countLiveGraves_28 : decode cX0_countLiveGraves 28 = .ok (.ireturn, 1) := by decide +kernel
set_option maxRecDepth 20000 in
theorem ggX1_encode_X3_empty : GoodIn wsX1_encode wsX3_empty := goodIn_r _ [5, 6, 35, 36] (by decide +kernel) (by decide +kernel)
set_option maxRecDepth 20000 in
theorem gX1_encode_X3_empty : GoodIn wsX1_encode (wsV RX1 9 RX3 yX3_empty wsX3_empty) := goodIn_app (goodIn_of _ (by decide +kernel)) ggX1_encode_X3_empty
set_option maxRecDepth 20000 in
theorem ggX1_encode_X3_size : GoodIn wsX1_encode wsX3_size := goodIn_r _ [10, 6, 35, 36] (by decide +kernel) (by decide +kernel)
set_option maxRecDepth 20000 in
theorem gX1_encode_X3_size : GoodIn wsX1_encode (wsV RX1 14 RX3 yX3_size wsX3_size) := goodIn_app (goodIn_of _ (by decide +kernel)) ggX1_encode_X3_size
set_option maxRecDepth 20000 in
theorem ggX1_encode_X3_append : GoodIn wsX1_encode wsX3_append := goodIn_r _ [14, 6, 15, 35, 36] (by decide +kernel) (by decide +kernel)
set_option maxRecDepth 20000 in
theorem gX1_encode_X3_append : GoodIn wsX1_encode (wsV RX1 18 RX3 yX3_append wsX3_append) := goodIn_app (goodIn_of _ (by decide +kernel)) ggX1_encode_X3_append
set_option maxRecDepth 20000 in
theorem ggX1_encode_X1_bestDistance : GoodIn wsX1_encode wsX1_bestDistance := goodIn_r _ [19, 20, 21, 22, 23, 7, 8, 9, 4, 10, 6, 24, 25, 18, 26, 27, 28, 29, 30, 15, 35, 36] (by decide +kernel) (by decide +kernel)
set_option maxRecDepth 20000 in
theorem gX1_encode_X1_bestDistance : GoodIn wsX1_encode (va_wsS RX1 22 yX1_bestDistance wsX1_bestDistance) := goodIn_app (goodIn_of _ (by decide +kernel)) ggX1_encode_X1_bestDistance
set_option maxRecDepth 20000 in
theorem ggX1_encode_X3_setBit : GoodIn wsX1_encode wsX3_setBit := goodIn_r _ [34, 6, 15, 35, 36] (by decide +kernel) (by decide +kernel)
set_option maxRecDepth 20000 in
theorem gX1_encode_X3_setBit : GoodIn wsX1_encode (wsV RX1 28 RX3 yX3_setBit wsX3_setBit) := goodIn_app (goodIn_of _ (by decide +kernel)) ggX1_encode_X3_setBit
set_option maxRecDepth 20000 in
theorem ggX1_encode_X3_at : GoodIn wsX1_encode wsX3_at := goodIn_r _ [30, 6, 15, 35, 36] (by decide +kernel) (by decide +kernel)
set_option maxRecDepth 20000 in
theorem gX1_encode_X3_at : GoodIn wsX1_encode (wsV RX1 32 RX3 yX3_at wsX3_at) := goodIn_app (goodIn_of _ (by decide +kernel)) ggX1_encode_X3_at
set_option maxRecDepth 20000 in
theorem ggX1_encode_X1_rowLength : GoodIn wsX1_encode wsX1_rowLength := goodIn_r _ [26, 20, 21, 22, 23, 7, 8, 9, 4, 10, 6, 27, 28, 29, 30, 15, 35, 36] (by decide +kernel) (by decide +kernel)
set_option maxRecDepth 20000 in
theorem gX1_encode_X1_rowLength : GoodIn wsX1_encode (va_wsS RX1 36 yX1_rowLength wsX1_rowLength) := goodIn_app (goodIn_of _ (by decide +kernel)) ggX1_encode_X1_rowLength
theorem dX1_encode_0 : decode cX1_encode 0 = .ok (.aload_n 1, 1) := by decide +kernel
theorem dX1_encode_1 : decode cX1_encode 1 = .ok (.invokevirtual 9, 3) := by decide +kernel
theorem dX1_encode_4 : decode cX1_encode 4 = .ok (.iconst 0, 1) := by decide +kernel
theorem dX1_encode_5 : decode cX1_encode 5 = .ok (.istore_n 2, 1) := by decide +kernel
theorem dX1_encode_6 : decode cX1_encode 6 = .ok (.iconst 0, 1) := by decide +kernel
theorem dX1_encode_7 : decode cX1_encode 7 = .ok (.istore_n 3, 1) := by decide +kernel
theorem dX1_encode_8 : decode cX1_encode 8 = .ok (.iconst 0, 1) := by decide +kernel
theorem dX1_encode_9 : decode cX1_encode 9 = .ok (.istore 4, 2) := by decide +kernel
theorem dX1_encode_11 : decode cX1_encode 11 = .ok (.iconst 0, 1) := by decide +kernel
theorem dX1_encode_12 : decode cX1_encode 12 = .ok (.istore 5, 2) := by decide +kernel
theorem dX1_encode_14 : decode cX1_encode 14 = .ok (.iload 5, 2) := by decide +kernel
theorem dX1_encode_16 : decode cX1_encode 16 = .ok (.aload_n 0, 1) := by decide +kernel
theorem dX1_encode_17 : decode cX1_encode 17 = .ok (.invokevirtual 14, 3) := by decide +kernel
theorem dX1_encode_20 : decode cX1_encode 20 = .ok (.if_icmp .ge 115, 3) := by decide +kernel
theorem dX1_encode_23 : decode cX1_encode 23 = .ok (.iload 5, 2) := by decide +kernel
theorem dX1_encode_25 : decode cX1_encode 25 = .ok (.iload 4, 2) := by decide +kernel
theorem dX1_encode_27 : decode cX1_encode 27 = .ok (.if_icmp .ge 6, 3) := by decide +kernel
theorem dX1_encode_30 : decode cX1_encode 30 = .ok (.goto 99, 3) := by decide +kernel
theorem dX1_encode_33 : decode cX1_encode 33 = .ok (.iload_n 3, 1) := by decide +kernel
theorem dX1_encode_34 : decode cX1_encode 34 = .ok (.bipush 8, 2) := by decide +kernel
theorem dX1_encode_36 : decode cX1_encode 36 = .ok (.irem, 1) := by decide +kernel
theorem dX1_encode_37 : decode cX1_encode 37 = .ok (.istore 6, 2) := by decide +kernel
theorem dX1_encode_39 : decode cX1_encode 39 = .ok (.iload 6, 2) := by decide +kernel
theorem dX1_encode_41 : decode cX1_encode 41 = .ok (.ifCond .ne 13, 3) := by decide +kernel
theorem dX1_encode_44 : decode cX1_encode 44 = .ok (.aload_n 1, 1) := by decide +kernel
theorem dX1_encode_45 : decode cX1_encode 45 = .ok (.invokevirtual 14, 3) := by decide +kernel
theorem dX1_encode_48 : decode cX1_encode 48 = .ok (.istore_n 2, 1) := by decide +kernel
theorem dX1_encode_49 : decode cX1_encode 49 = .ok (.aload_n 1, 1) := by decide +kernel
theorem dX1_encode_50 : decode cX1_encode 50 = .ok (.iconst 0, 1) := by decide +kernel
theorem dX1_encode_51 : decode cX1_encode 51 = .ok (.invokevirtual 18, 3) := by decide +kernel
theorem dX1_encode_54 : decode cX1_encode 54 = .ok (.aload_n 0, 1) := by decide +kernel
theorem dX1_encode_55 : decode cX1_encode 55 = .ok (.iload 5, 2) := by decide +kernel
theorem dX1_encode_57 : decode cX1_encode 57 = .ok (.invokestatic 22, 3) := by decide +kernel
theorem dX1_encode_60 : decode cX1_encode 60 = .ok (.istore 7, 2) := by decide +kernel
theorem dX1_encode_62 : decode cX1_encode 62 = .ok (.iload 7, 2) := by decide +kernel
theorem dX1_encode_64 : decode cX1_encode 64 = .ok (.ifCond .ne 29, 3) := by decide +kernel
theorem dX1_encode_67 : decode cX1_encode 67 = .ok (.aload_n 1, 1) := by decide +kernel
theorem dX1_encode_68 : decode cX1_encode 68 = .ok (.iload_n 2, 1) := by decide +kernel
theorem dX1_encode_69 : decode cX1_encode 69 = .ok (.iload 6, 2) := by decide +kernel
theorem dX1_encode_71 : decode cX1_encode 71 = .ok (.invokevirtual 28, 3) := by decide +kernel
theorem dX1_encode_74 : decode cX1_encode 74 = .ok (.aload_n 1, 1) := by decide +kernel
theorem dX1_encode_75 : decode cX1_encode 75 = .ok (.aload_n 0, 1) := by decide +kernel
theorem dX1_encode_76 : decode cX1_encode 76 = .ok (.iload 5, 2) := by decide +kernel
theorem dX1_encode_78 : decode cX1_encode 78 = .ok (.invokevirtual 32, 3) := by decide +kernel
theorem dX1_encode_81 : decode cX1_encode 81 = .ok (.invokevirtual 18, 3) := by decide +kernel
theorem dX1_encode_84 : decode cX1_encode 84 = .ok (.iload 5, 2) := by decide +kernel
theorem dX1_encode_86 : decode cX1_encode 86 = .ok (.iconst 1, 1) := by decide +kernel
theorem dX1_encode_87 : decode cX1_encode 87 = .ok (.iadd, 1) := by decide +kernel
theorem dX1_encode_88 : decode cX1_encode 88 = .ok (.istore 4, 2) := by decide +kernel
theorem dX1_encode_90 : decode cX1_encode 90 = .ok (.goto 36, 3) := by decide +kernel
theorem dX1_encode_93 : decode cX1_encode 93 = .ok (.aload_n 0, 1) := by decide +kernel
theorem dX1_encode_94 : decode cX1_encode 94 = .ok (.iload 5, 2) := by decide +kernel
theorem dX1_encode_96 : decode cX1_encode 96 = .ok (.iload 7, 2) := by decide +kernel
theorem dX1_encode_98 : decode cX1_encode 98 = .ok (.invokestatic 36, 3) := by decide +kernel
theorem dX1_encode_101 : decode cX1_encode 101 = .ok (.istore 8, 2) := by decide +kernel
theorem dX1_encode_103 : decode cX1_encode 103 = .ok (.aload_n 1, 1) := by decide +kernel
theorem dX1_encode_104 : decode cX1_encode 104 = .ok (.iload 7, 2) := by decide +kernel
theorem dX1_encode_106 : decode cX1_encode 106 = .ok (.iconst 1, 1) := by decide +kernel
theorem dX1_encode_107 : decode cX1_encode 107 = .ok (.isub, 1) := by decide +kernel
theorem dX1_encode_108 : decode cX1_encode 108 = .ok (.invokevirtual 18, 3) := by decide +kernel
theorem dX1_encode_111 : decode cX1_encode 111 = .ok (.aload_n 1, 1) := by decide +kernel
theorem dX1_encode_112 : decode cX1_encode 112 = .ok (.iload 8, 2) := by decide +kernel
theorem dX1_encode_114 : decode cX1_encode 114 = .ok (.iconst 3, 1) := by decide +kernel
theorem dX1_encode_115 : decode cX1_encode 115 = .ok (.isub, 1) := by decide +kernel
theorem dX1_encode_116 : decode cX1_encode 116 = .ok (.invokevirtual 18, 3) := by decide +kernel
theorem dX1_encode_119 : decode cX1_encode 119 = .ok (.iload 5, 2) := by decide +kernel
theorem dX1_encode_121 : decode cX1_encode 121 = .ok (.iload 8, 2) := by decide +kernel
theorem dX1_encode_123 : decode cX1_encode 123 = .ok (.iadd, 1) := by decide +kernel
theorem dX1_encode_124 : decode cX1_encode 124 = .ok (.istore 4, 2) := by decide +kernel
theorem dX1_encode_126 : decode cX1_encode 126 = .ok (.iinc 3 1, 3) := by decide +kernel
theorem dX1_encode_129 : decode cX1_encode 129 = .ok (.iinc 5 1, 3) := by decide +kernel
theorem dX1_encode_132 : decode cX1_encode 132 = .ok (.goto (-118), 3) := by decide +kernel
theorem dX1_encode_135 : decode cX1_encode 135 = .ok (.return_, 1) := by decide +kernel
set_option maxRecDepth 20000 in
theorem ggX1_bestDistance_X3_size : GoodIn wsX1_bestDistance wsX3_size := goodIn_r _ [9, 10, 20, 21] (by decide +kernel) (by decide +kernel)
set_option maxRecDepth 20000 in
theorem gX1_bestDistance_X3_size : GoodIn wsX1_bestDistance (wsV RX1 14 RX3 yX3_size wsX3_size) := goodIn_app (goodIn_of _ (by decide +kernel)) ggX1_bestDistance_X3_size
set_option maxRecDepth 20000 in
theorem ggX1_bestDistance_X1_rowLength : GoodIn wsX1_bestDistance wsX1_rowLength := goodIn_r _ [14, 1, 2, 3, 4, 5, 6, 7, 8, 9, 10, 15, 16, 17, 18, 19, 20, 21] (by decide +kernel) (by decide +kernel)
set_option maxRecDepth 20000 in
theorem gX1_bestDistance_X1_rowLength : GoodIn wsX1_bestDistance (va_wsS RX1 36 yX1_rowLength wsX1_rowLength) := goodIn_app (goodIn_of _ (by decide +kernel)) ggX1_bestDistance_X1_rowLength
theorem dX1_bestDistance_0 : decode cX1_bestDistance 0 = .ok (.sipush 258, 3) := by decide +kernel
theorem dX1_bestDistance_3 : decode cX1_bestDistance 3 = .ok (.aload_n 0, 1) := by decide +kernel
theorem dX1_bestDistance_4 : decode cX1_bestDistance 4 = .ok (.invokevirtual 14, 3) := by decide +kernel
theorem dX1_bestDistance_7 : decode cX1_bestDistance 7 = .ok (.iload_n 1, 1) := by decide +kernel
theorem dX1_bestDistance_8 : decode cX1_bestDistance 8 = .ok (.isub, 1) := by decide +kernel
theorem dX1_bestDistance_9 : decode cX1_bestDistance 9 = .ok (.invokestatic 40, 3) := by decide +kernel
theorem dX1_bestDistance_12 : decode cX1_bestDistance 12 = .ok (.istore_n 2, 1) := by decide +kernel
theorem dX1_bestDistance_13 : decode cX1_bestDistance 13 = .ok (.iconst 2, 1) := by decide +kernel
theorem dX1_bestDistance_14 : decode cX1_bestDistance 14 = .ok (.istore_n 3, 1) := by decide +kernel
theorem dX1_bestDistance_15 : decode cX1_bestDistance 15 = .ok (.iconst 0, 1) := by decide +kernel
theorem dX1_bestDistance_16 : decode cX1_bestDistance 16 = .ok (.istore 4, 2) := by decide +kernel
theorem dX1_bestDistance_18 : decode cX1_bestDistance 18 = .ok (.iconst 1, 1) := by decide +kernel
theorem dX1_bestDistance_19 : decode cX1_bestDistance 19 = .ok (.istore 5, 2) := by decide +kernel
theorem dX1_bestDistance_21 : decode cX1_bestDistance 21 = .ok (.iload 5, 2) := by decide +kernel
theorem dX1_bestDistance_23 : decode cX1_bestDistance 23 = .ok (.sipush 256, 3) := by decide +kernel
theorem dX1_bestDistance_26 : decode cX1_bestDistance 26 = .ok (.if_icmp .gt 42, 3) := by decide +kernel
theorem dX1_bestDistance_29 : decode cX1_bestDistance 29 = .ok (.iload 5, 2) := by decide +kernel
theorem dX1_bestDistance_31 : decode cX1_bestDistance 31 = .ok (.iload_n 1, 1) := by decide +kernel
theorem dX1_bestDistance_32 : decode cX1_bestDistance 32 = .ok (.if_icmp .gt 36, 3) := by decide +kernel
theorem dX1_bestDistance_35 : decode cX1_bestDistance 35 = .ok (.iload_n 3, 1) := by decide +kernel
theorem dX1_bestDistance_36 : decode cX1_bestDistance 36 = .ok (.iload_n 2, 1) := by decide +kernel
theorem dX1_bestDistance_37 : decode cX1_bestDistance 37 = .ok (.if_icmp .ge 31, 3) := by decide +kernel
theorem dX1_bestDistance_40 : decode cX1_bestDistance 40 = .ok (.aload_n 0, 1) := by decide +kernel
theorem dX1_bestDistance_41 : decode cX1_bestDistance 41 = .ok (.iload_n 1, 1) := by decide +kernel
theorem dX1_bestDistance_42 : decode cX1_bestDistance 42 = .ok (.iload 5, 2) := by decide +kernel
theorem dX1_bestDistance_44 : decode cX1_bestDistance 44 = .ok (.invokestatic 36, 3) := by decide +kernel
theorem dX1_bestDistance_47 : decode cX1_bestDistance 47 = .ok (.istore 6, 2) := by decide +kernel
theorem dX1_bestDistance_49 : decode cX1_bestDistance 49 = .ok (.iload 6, 2) := by decide +kernel
theorem dX1_bestDistance_51 : decode cX1_bestDistance 51 = .ok (.iload_n 3, 1) := by decide +kernel
theorem dX1_bestDistance_52 : decode cX1_bestDistance 52 = .ok (.if_icmp .le 10, 3) := by decide +kernel
theorem dX1_bestDistance_55 : decode cX1_bestDistance 55 = .ok (.iload 6, 2) := by decide +kernel
theorem dX1_bestDistance_57 : decode cX1_bestDistance 57 = .ok (.istore_n 3, 1) := by decide +kernel
theorem dX1_bestDistance_58 : decode cX1_bestDistance 58 = .ok (.iload 5, 2) := by decide +kernel
theorem dX1_bestDistance_60 : decode cX1_bestDistance 60 = .ok (.istore 4, 2) := by decide +kernel
theorem dX1_bestDistance_62 : decode cX1_bestDistance 62 = .ok (.iinc 5 1, 3) := by decide +kernel
theorem dX1_bestDistance_65 : decode cX1_bestDistance 65 = .ok (.goto (-44), 3) := by decide +kernel
theorem dX1_bestDistance_68 : decode cX1_bestDistance 68 = .ok (.iload 4, 2) := by decide +kernel
theorem dX1_bestDistance_70 : decode cX1_bestDistance 70 = .ok (.ireturn, 1) := by decide +kernel
set_option maxRecDepth 20000 in
theorem ggX1_rowLength_X3_size : GoodIn wsX1_rowLength wsX3_size := goodIn_r _ [9, 10, 16, 17] (by decide +kernel) (by decide +kernel)
set_option maxRecDepth 20000 in
theorem gX1_rowLength_X3_size : GoodIn wsX1_rowLength (wsV RX1 14 RX3 yX3_size wsX3_size) := goodIn_app (goodIn_of _ (by decide +kernel)) ggX1_rowLength_X3_size
set_option maxRecDepth 20000 in
theorem ggX1_rowLength_X3_at : GoodIn wsX1_rowLength wsX3_at := goodIn_r _ [14, 10, 15, 16, 17] (by decide +kernel) (by decide +kernel)
set_option maxRecDepth 20000 in
theorem gX1_rowLength_X3_at : GoodIn wsX1_rowLength (wsV RX1 32 RX3 yX3_at wsX3_at) := goodIn_app (goodIn_of _ (by decide +kernel)) ggX1_rowLength_X3_at
theorem dX1_rowLength_0 : decode cX1_rowLength 0 = .ok (.sipush 258, 3) := by decide +kernel
theorem dX1_rowLength_3 : decode cX1_rowLength 3 = .ok (.aload_n 0, 1) := by decide +kernel
theorem dX1_rowLength_4 : decode cX1_rowLength 4 = .ok (.invokevirtual 14, 3) := by decide +kernel
theorem dX1_rowLength_7 : decode cX1_rowLength 7 = .ok (.iload_n 1, 1) := by decide +kernel
theorem dX1_rowLength_8 : decode cX1_rowLength 8 = .ok (.isub, 1) := by decide +kernel
theorem dX1_rowLength_9 : decode cX1_rowLength 9 = .ok (.invokestatic 40, 3) := by decide +kernel
theorem dX1_rowLength_12 : decode cX1_rowLength 12 = .ok (.istore_n 3, 1) := by decide +kernel
theorem dX1_rowLength_13 : decode cX1_rowLength 13 = .ok (.iconst 0, 1) := by decide +kernel
theorem dX1_rowLength_14 : decode cX1_rowLength 14 = .ok (.istore 4, 2) := by decide +kernel
theorem dX1_rowLength_16 : decode cX1_rowLength 16 = .ok (.iload 4, 2) := by decide +kernel
theorem dX1_rowLength_18 : decode cX1_rowLength 18 = .ok (.iload_n 3, 1) := by decide +kernel
theorem dX1_rowLength_19 : decode cX1_rowLength 19 = .ok (.if_icmp .ge 33, 3) := by decide +kernel
theorem dX1_rowLength_22 : decode cX1_rowLength 22 = .ok (.aload_n 0, 1) := by decide +kernel
theorem dX1_rowLength_23 : decode cX1_rowLength 23 = .ok (.iload_n 1, 1) := by decide +kernel
theorem dX1_rowLength_24 : decode cX1_rowLength 24 = .ok (.iload 4, 2) := by decide +kernel
theorem dX1_rowLength_26 : decode cX1_rowLength 26 = .ok (.iadd, 1) := by decide +kernel
theorem dX1_rowLength_27 : decode cX1_rowLength 27 = .ok (.invokevirtual 32, 3) := by decide +kernel
theorem dX1_rowLength_30 : decode cX1_rowLength 30 = .ok (.aload_n 0, 1) := by decide +kernel
theorem dX1_rowLength_31 : decode cX1_rowLength 31 = .ok (.iload_n 1, 1) := by decide +kernel
theorem dX1_rowLength_32 : decode cX1_rowLength 32 = .ok (.iload 4, 2) := by decide +kernel
theorem dX1_rowLength_34 : decode cX1_rowLength 34 = .ok (.iadd, 1) := by decide +kernel
theorem dX1_rowLength_35 : decode cX1_rowLength 35 = .ok (.iload_n 2, 1) := by decide +kernel
theorem dX1_rowLength_36 : decode cX1_rowLength 36 = .ok (.isub, 1) := by decide +kernel
theorem dX1_rowLength_37 : decode cX1_rowLength 37 = .ok (.invokevirtual 32, 3) := by decide +kernel
theorem dX1_rowLength_40 : decode cX1_rowLength 40 = .ok (.if_icmp .eq 6, 3) := by decide +kernel
theorem dX1_rowLength_43 : decode cX1_rowLength 43 = .ok (.iload 4, 2) := by decide +kernel
theorem dX1_rowLength_45 : decode cX1_rowLength 45 = .ok (.ireturn, 1) := by decide +kernel
theorem dX1_rowLength_46 : decode cX1_rowLength 46 = .ok (.iinc 4 1, 3) := by decide +kernel
theorem dX1_rowLength_49 : decode cX1_rowLength 49 = .ok (.goto (-33), 3) := by decide +kernel
theorem dX1_rowLength_52 : decode cX1_rowLength 52 = .ok (.iload_n 3, 1) := by decide +kernel
theorem dX1_rowLength_53 : decode cX1_rowLength 53 = .ok (.ireturn, 1) := by decide +kernel
set_option maxRecDepth 20000 in
theorem ggX1_decode_X3_empty : GoodIn wsX1_decode wsX3_empty := goodIn_r _ [5, 6, 33, 34] (by decide +kernel) (by decide +kernel)
set_option maxRecDepth 20000 in
theorem gX1_decode_X3_empty : GoodIn wsX1_decode (wsV RX1 9 RX3 yX3_empty wsX3_empty) := goodIn_app (goodIn_of _ (by decide +kernel)) ggX1_decode_X3_empty
set_option maxRecDepth 20000 in
theorem ggX1_decode_X3_size : GoodIn wsX1_decode wsX3_size := goodIn_r _ [10, 6, 33, 34] (by decide +kernel) (by decide +kernel)
set_option maxRecDepth 20000 in
theorem gX1_decode_X3_size : GoodIn wsX1_decode (wsV RX1 14 RX3 yX3_size wsX3_size) := goodIn_app (goodIn_of _ (by decide +kernel)) ggX1_decode_X3_size
set_option maxRecDepth 20000 in
theorem ggX1_decode_X3_at : GoodIn wsX1_decode wsX3_at := goodIn_r _ [14, 6, 15, 33, 34] (by decide +kernel) (by decide +kernel)
set_option maxRecDepth 20000 in
theorem gX1_decode_X3_at : GoodIn wsX1_decode (wsV RX1 32 RX3 yX3_at wsX3_at) := goodIn_app (goodIn_of _ (by decide +kernel)) ggX1_decode_X3_at
set_option maxRecDepth 20000 in
theorem ggX1_decode_X1_decodeSingle : GoodIn wsX1_decode wsX1_decodeSingle := goodIn_r _ [19, 7, 8, 9, 4, 10, 6, 11, 12, 13, 14, 15, 20, 21, 22, 23, 33, 34] (by decide +kernel) (by decide +kernel)
set_option maxRecDepth 20000 in
theorem gX1_decode_X1_decodeSingle : GoodIn wsX1_decode (va_wsS RX1 46 yX1_decodeSingle wsX1_decodeSingle) := goodIn_app (goodIn_of _ (by decide +kernel)) ggX1_decode_X1_decodeSingle
set_option maxRecDepth 20000 in
theorem ggX1_decode_X1_decodeRow : GoodIn wsX1_decode wsX1_decodeRow := goodIn_r _ [26, 7, 8, 9, 4, 10, 6, 11, 12, 13, 14, 15, 27, 28, 29, 30, 31, 32, 21, 22, 23, 33, 34] (by decide +kernel) (by decide +kernel)
set_option maxRecDepth 20000 in
theorem gX1_decode_X1_decodeRow : GoodIn wsX1_decode (va_wsS RX1 50 yX1_decodeRow wsX1_decodeRow) := goodIn_app (goodIn_of _ (by decide +kernel)) ggX1_decode_X1_decodeRow
theorem dX1_decode_0 : decode cX1_decode 0 = .ok (.aload_n 1, 1) := by decide +kernel
theorem dX1_decode_1 : decode cX1_decode 1 = .ok (.invokevirtual 9, 3) := by decide +kernel
theorem dX1_decode_4 : decode cX1_decode 4 = .ok (.iconst 0, 1) := by decide +kernel
theorem dX1_decode_5 : decode cX1_decode 5 = .ok (.istore_n 2, 1) := by decide +kernel
theorem dX1_decode_6 : decode cX1_decode 6 = .ok (.bipush 8, 2) := by decide +kernel
theorem dX1_decode_8 : decode cX1_decode 8 = .ok (.istore_n 3, 1) := by decide +kernel
theorem dX1_decode_9 : decode cX1_decode 9 = .ok (.iconst 0, 1) := by decide +kernel
theorem dX1_decode_10 : decode cX1_decode 10 = .ok (.istore 4, 2) := by decide +kernel
theorem dX1_decode_12 : decode cX1_decode 12 = .ok (.iconst 0, 1) := by decide +kernel
theorem dX1_decode_13 : decode cX1_decode 13 = .ok (.istore 5, 2) := by decide +kernel
theorem dX1_decode_15 : decode cX1_decode 15 = .ok (.iload 5, 2) := by decide +kernel
theorem dX1_decode_17 : decode cX1_decode 17 = .ok (.aload_n 0, 1) := by decide +kernel
theorem dX1_decode_18 : decode cX1_decode 18 = .ok (.invokevirtual 14, 3) := by decide +kernel
theorem dX1_decode_21 : decode cX1_decode 21 = .ok (.if_icmp .ge 113, 3) := by decide +kernel
theorem dX1_decode_24 : decode cX1_decode 24 = .ok (.iload 5, 2) := by decide +kernel
theorem dX1_decode_26 : decode cX1_decode 26 = .ok (.iload 4, 2) := by decide +kernel
theorem dX1_decode_28 : decode cX1_decode 28 = .ok (.if_icmp .ge 6, 3) := by decide +kernel
theorem dX1_decode_31 : decode cX1_decode 31 = .ok (.goto 97, 3) := by decide +kernel
theorem dX1_decode_34 : decode cX1_decode 34 = .ok (.iload_n 3, 1) := by decide +kernel
theorem dX1_decode_35 : decode cX1_decode 35 = .ok (.bipush 8, 2) := by decide +kernel
theorem dX1_decode_37 : decode cX1_decode 37 = .ok (.if_icmp .ne 17, 3) := by decide +kernel
theorem dX1_decode_40 : decode cX1_decode 40 = .ok (.iload 5, 2) := by decide +kernel
theorem dX1_decode_42 : decode cX1_decode 42 = .ok (.istore_n 2, 1) := by decide +kernel
theorem dX1_decode_43 : decode cX1_decode 43 = .ok (.iconst 0, 1) := by decide +kernel
theorem dX1_decode_44 : decode cX1_decode 44 = .ok (.istore_n 3, 1) := by decide +kernel
theorem dX1_decode_45 : decode cX1_decode 45 = .ok (.iload 5, 2) := by decide +kernel
theorem dX1_decode_47 : decode cX1_decode 47 = .ok (.iconst 1, 1) := by decide +kernel
theorem dX1_decode_48 : decode cX1_decode 48 = .ok (.iadd, 1) := by decide +kernel
theorem dX1_decode_49 : decode cX1_decode 49 = .ok (.istore 4, 2) := by decide +kernel
theorem dX1_decode_51 : decode cX1_decode 51 = .ok (.goto 77, 3) := by decide +kernel
theorem dX1_decode_54 : decode cX1_decode 54 = .ok (.aload_n 0, 1) := by decide +kernel
theorem dX1_decode_55 : decode cX1_decode 55 = .ok (.iload_n 2, 1) := by decide +kernel
theorem dX1_decode_56 : decode cX1_decode 56 = .ok (.invokevirtual 32, 3) := by decide +kernel
theorem dX1_decode_59 : decode cX1_decode 59 = .ok (.iload_n 3, 1) := by decide +kernel
theorem dX1_decode_60 : decode cX1_decode 60 = .ok (.ishr, 1) := by decide +kernel
theorem dX1_decode_61 : decode cX1_decode 61 = .ok (.iconst 1, 1) := by decide +kernel
theorem dX1_decode_62 : decode cX1_decode 62 = .ok (.iand, 1) := by decide +kernel
theorem dX1_decode_63 : decode cX1_decode 63 = .ok (.iconst 1, 1) := by decide +kernel
theorem dX1_decode_64 : decode cX1_decode 64 = .ok (.if_icmp .ne 7, 3) := by decide +kernel
theorem dX1_decode_67 : decode cX1_decode 67 = .ok (.iconst 1, 1) := by decide +kernel
theorem dX1_decode_68 : decode cX1_decode 68 = .ok (.goto 4, 3) := by decide +kernel
theorem dX1_decode_71 : decode cX1_decode 71 = .ok (.iconst 0, 1) := by decide +kernel
theorem dX1_decode_72 : decode cX1_decode 72 = .ok (.istore 6, 2) := by decide +kernel
theorem dX1_decode_74 : decode cX1_decode 74 = .ok (.iload 6, 2) := by decide +kernel
theorem dX1_decode_76 : decode cX1_decode 76 = .ok (.ifCond .eq 13, 3) := by decide +kernel
theorem dX1_decode_79 : decode cX1_decode 79 = .ok (.aload_n 0, 1) := by decide +kernel
theorem dX1_decode_80 : decode cX1_decode 80 = .ok (.iload 5, 2) := by decide +kernel
theorem dX1_decode_82 : decode cX1_decode 82 = .ok (.aload_n 1, 1) := by decide +kernel
theorem dX1_decode_83 : decode cX1_decode 83 = .ok (.invokestatic 46, 3) := by decide +kernel
theorem dX1_decode_86 : decode cX1_decode 86 = .ok (.goto 10, 3) := by decide +kernel
theorem dX1_decode_89 : decode cX1_decode 89 = .ok (.aload_n 0, 1) := by decide +kernel
theorem dX1_decode_90 : decode cX1_decode 90 = .ok (.iload 5, 2) := by decide +kernel
theorem dX1_decode_92 : decode cX1_decode 92 = .ok (.aload_n 1, 1) := by decide +kernel
theorem dX1_decode_93 : decode cX1_decode 93 = .ok (.invokestatic 50, 3) := by decide +kernel
theorem dX1_decode_96 : decode cX1_decode 96 = .ok (.istore 7, 2) := by decide +kernel
theorem dX1_decode_98 : decode cX1_decode 98 = .ok (.iload 7, 2) := by decide +kernel
theorem dX1_decode_100 : decode cX1_decode 100 = .ok (.iconst (-1), 1) := by decide +kernel
theorem dX1_decode_101 : decode cX1_decode 101 = .ok (.if_icmp .eq 6, 3) := by decide +kernel
theorem dX1_decode_104 : decode cX1_decode 104 = .ok (.iload 7, 2) := by decide +kernel
theorem dX1_decode_106 : decode cX1_decode 106 = .ok (.ireturn, 1) := by decide +kernel
theorem dX1_decode_107 : decode cX1_decode 107 = .ok (.iload 6, 2) := by decide +kernel
theorem dX1_decode_109 : decode cX1_decode 109 = .ok (.ifCond .eq 10, 3) := by decide +kernel
theorem dX1_decode_112 : decode cX1_decode 112 = .ok (.iload 5, 2) := by decide +kernel
theorem dX1_decode_114 : decode cX1_decode 114 = .ok (.iconst 1, 1) := by decide +kernel
theorem dX1_decode_115 : decode cX1_decode 115 = .ok (.iadd, 1) := by decide +kernel
theorem dX1_decode_116 : decode cX1_decode 116 = .ok (.goto 7, 3) := by decide +kernel
theorem dX1_decode_119 : decode cX1_decode 119 = .ok (.iload 5, 2) := by decide +kernel
theorem dX1_decode_121 : decode cX1_decode 121 = .ok (.iconst 2, 1) := by decide +kernel
theorem dX1_decode_122 : decode cX1_decode 122 = .ok (.iadd, 1) := by decide +kernel
theorem dX1_decode_123 : decode cX1_decode 123 = .ok (.istore 4, 2) := by decide +kernel
theorem dX1_decode_125 : decode cX1_decode 125 = .ok (.iinc 3 1, 3) := by decide +kernel
theorem dX1_decode_128 : decode cX1_decode 128 = .ok (.iinc 5 1, 3) := by decide +kernel
theorem dX1_decode_131 : decode cX1_decode 131 = .ok (.goto (-116), 3) := by decide +kernel
theorem dX1_decode_134 : decode cX1_decode 134 = .ok (.iload_n 3, 1) := by decide +kernel
theorem dX1_decode_135 : decode cX1_decode 135 = .ok (.ifCond .ne 10, 3) := by decide +kernel
theorem dX1_decode_138 : decode cX1_decode 138 = .ok (.aload_n 0, 1) := by decide +kernel
theorem dX1_decode_139 : decode cX1_decode 139 = .ok (.invokevirtual 14, 3) := by decide +kernel
theorem dX1_decode_142 : decode cX1_decode 142 = .ok (.ifCond .gt 13, 3) := by decide +kernel
theorem dX1_decode_145 : decode cX1_decode 145 = .ok (.aload_n 0, 1) := by decide +kernel
theorem dX1_decode_146 : decode cX1_decode 146 = .ok (.iload_n 2, 1) := by decide +kernel
theorem dX1_decode_147 : decode cX1_decode 147 = .ok (.invokevirtual 32, 3) := by decide +kernel
theorem dX1_decode_150 : decode cX1_decode 150 = .ok (.iload_n 3, 1) := by decide +kernel
theorem dX1_decode_151 : decode cX1_decode 151 = .ok (.ishr, 1) := by decide +kernel
theorem dX1_decode_152 : decode cX1_decode 152 = .ok (.ifCond .eq 7, 3) := by decide +kernel
theorem dX1_decode_155 : decode cX1_decode 155 = .ok (.iconst 1, 1) := by decide +kernel
theorem dX1_decode_156 : decode cX1_decode 156 = .ok (.goto 4, 3) := by decide +kernel
theorem dX1_decode_159 : decode cX1_decode 159 = .ok (.iconst 0, 1) := by decide +kernel
theorem dX1_decode_160 : decode cX1_decode 160 = .ok (.istore 5, 2) := by decide +kernel
theorem dX1_decode_162 : decode cX1_decode 162 = .ok (.iload 5, 2) := by decide +kernel
theorem dX1_decode_164 : decode cX1_decode 164 = .ok (.ifCond .eq 7, 3) := by decide +kernel
theorem dX1_decode_167 : decode cX1_decode 167 = .ok (.iload_n 2, 1) := by decide +kernel
theorem dX1_decode_168 : decode cX1_decode 168 = .ok (.goto 4, 3) := by decide +kernel
theorem dX1_decode_171 : decode cX1_decode 171 = .ok (.iconst (-1), 1) := by decide +kernel
theorem dX1_decode_172 : decode cX1_decode 172 = .ok (.ireturn, 1) := by decide +kernel
set_option maxRecDepth 20000 in
theorem ggX1_decodeSingle_X3_size : GoodIn wsX1_decodeSingle wsX3_size := goodIn_r _ [5, 6, 16, 17] (by decide +kernel) (by decide +kernel)
set_option maxRecDepth 20000 in
theorem gX1_decodeSingle_X3_size : GoodIn wsX1_decodeSingle (wsV RX1 14 RX3 yX3_size wsX3_size) := goodIn_app (goodIn_of _ (by decide +kernel)) ggX1_decodeSingle_X3_size
set_option maxRecDepth 20000 in
theorem ggX1_decodeSingle_X3_at : GoodIn wsX1_decodeSingle wsX3_at := goodIn_r _ [10, 6, 11, 16, 17] (by decide +kernel) (by decide +kernel)
set_option maxRecDepth 20000 in
theorem gX1_decodeSingle_X3_at : GoodIn wsX1_decodeSingle (wsV RX1 32 RX3 yX3_at wsX3_at) := goodIn_app (goodIn_of _ (by decide +kernel)) ggX1_decodeSingle_X3_at
set_option maxRecDepth 20000 in
theorem ggX1_decodeSingle_X3_append : GoodIn wsX1_decodeSingle wsX3_append := goodIn_r _ [15, 6, 11, 16, 17] (by decide +kernel) (by decide +kernel)
set_option maxRecDepth 20000 in
theorem gX1_decodeSingle_X3_append : GoodIn wsX1_decodeSingle (wsV RX1 18 RX3 yX3_append wsX3_append) := goodIn_app (goodIn_of _ (by decide +kernel)) ggX1_decodeSingle_X3_append
theorem dX1_decodeSingle_0 : decode cX1_decodeSingle 0 = .ok (.aload_n 2, 1) := by decide +kernel
theorem dX1_decodeSingle_1 : decode cX1_decodeSingle 1 = .ok (.invokevirtual 14, 3) := by decide +kernel
theorem dX1_decodeSingle_4 : decode cX1_decodeSingle 4 = .ok (.iconst 1, 1) := by decide +kernel
theorem dX1_decodeSingle_5 : decode cX1_decodeSingle 5 = .ok (.iadd, 1) := by decide +kernel
theorem dX1_decodeSingle_6 : decode cX1_decodeSingle 6 = .ok (.sipush 400, 3) := by decide +kernel
theorem dX1_decodeSingle_9 : decode cX1_decodeSingle 9 = .ok (.if_icmp .le 5, 3) := by decide +kernel
theorem dX1_decodeSingle_12 : decode cX1_decodeSingle 12 = .ok (.iload_n 1, 1) := by decide +kernel
theorem dX1_decodeSingle_13 : decode cX1_decodeSingle 13 = .ok (.ireturn, 1) := by decide +kernel
theorem dX1_decodeSingle_14 : decode cX1_decodeSingle 14 = .ok (.aload_n 2, 1) := by decide +kernel
theorem dX1_decodeSingle_15 : decode cX1_decodeSingle 15 = .ok (.aload_n 0, 1) := by decide +kernel
theorem dX1_decodeSingle_16 : decode cX1_decodeSingle 16 = .ok (.iload_n 1, 1) := by decide +kernel
theorem dX1_decodeSingle_17 : decode cX1_decodeSingle 17 = .ok (.invokevirtual 32, 3) := by decide +kernel
theorem dX1_decodeSingle_20 : decode cX1_decodeSingle 20 = .ok (.invokevirtual 18, 3) := by decide +kernel
theorem dX1_decodeSingle_23 : decode cX1_decodeSingle 23 = .ok (.iconst (-1), 1) := by decide +kernel
theorem dX1_decodeSingle_24 : decode cX1_decodeSingle 24 = .ok (.ireturn, 1) := by decide +kernel
set_option maxRecDepth 20000 in
theorem ggX1_decodeRow_X3_size : GoodIn wsX1_decodeRow wsX3_size := goodIn_r _ [5, 6, 21, 22] (by decide +kernel) (by decide +kernel)
set_option maxRecDepth 20000 in
theorem gX1_decodeRow_X3_size : GoodIn wsX1_decodeRow (wsV RX1 14 RX3 yX3_size wsX3_size) := goodIn_app (goodIn_of _ (by decide +kernel)) ggX1_decodeRow_X3_size
set_option maxRecDepth 20000 in
theorem ggX1_decodeRow_X3_at : GoodIn wsX1_decodeRow wsX3_at := goodIn_r _ [10, 6, 11, 21, 22] (by decide +kernel) (by decide +kernel)
set_option maxRecDepth 20000 in
theorem gX1_decodeRow_X3_at : GoodIn wsX1_decodeRow (wsV RX1 32 RX3 yX3_at wsX3_at) := goodIn_app (goodIn_of _ (by decide +kernel)) ggX1_decodeRow_X3_at
set_option maxRecDepth 20000 in
theorem ggX1_decodeRow_X3_repeat : GoodIn wsX1_decodeRow wsX3_repeat := goodIn_r _ [15, 6, 16, 8, 9, 4, 10, 11, 17, 18, 19, 20, 21, 22] (by decide +kernel) (by decide +kernel)
set_option maxRecDepth 20000 in
theorem gX1_decodeRow_X3_repeat : GoodIn wsX1_decodeRow (wsV RX1 53 RX3 yX3_repeat wsX3_repeat) := goodIn_app (goodIn_of _ (by decide +kernel)) ggX1_decodeRow_X3_repeat
theorem dX1_decodeRow_0 : decode cX1_decodeRow 0 = .ok (.iload_n 1, 1) := by decide +kernel
theorem dX1_decodeRow_1 : decode cX1_decodeRow 1 = .ok (.iconst 1, 1) := by decide +kernel
theorem dX1_decodeRow_2 : decode cX1_decodeRow 2 = .ok (.iadd, 1) := by decide +kernel
theorem dX1_decodeRow_3 : decode cX1_decodeRow 3 = .ok (.aload_n 0, 1) := by decide +kernel
theorem dX1_decodeRow_4 : decode cX1_decodeRow 4 = .ok (.invokevirtual 14, 3) := by decide +kernel
theorem dX1_decodeRow_7 : decode cX1_decodeRow 7 = .ok (.if_icmp .lt 8, 3) := by decide +kernel
theorem dX1_decodeRow_10 : decode cX1_decodeRow 10 = .ok (.aload_n 0, 1) := by decide +kernel
theorem dX1_decodeRow_11 : decode cX1_decodeRow 11 = .ok (.invokevirtual 14, 3) := by decide +kernel
theorem dX1_decodeRow_14 : decode cX1_decodeRow 14 = .ok (.ireturn, 1) := by decide +kernel
theorem dX1_decodeRow_15 : decode cX1_decodeRow 15 = .ok (.aload_n 0, 1) := by decide +kernel
theorem dX1_decodeRow_16 : decode cX1_decodeRow 16 = .ok (.iload_n 1, 1) := by decide +kernel
theorem dX1_decodeRow_17 : decode cX1_decodeRow 17 = .ok (.invokevirtual 32, 3) := by decide +kernel
theorem dX1_decodeRow_20 : decode cX1_decodeRow 20 = .ok (.iconst 1, 1) := by decide +kernel
theorem dX1_decodeRow_21 : decode cX1_decodeRow 21 = .ok (.iadd, 1) := by decide +kernel
theorem dX1_decodeRow_22 : decode cX1_decodeRow 22 = .ok (.istore_n 3, 1) := by decide +kernel
theorem dX1_decodeRow_23 : decode cX1_decodeRow 23 = .ok (.aload_n 0, 1) := by decide +kernel
theorem dX1_decodeRow_24 : decode cX1_decodeRow 24 = .ok (.iload_n 1, 1) := by decide +kernel
theorem dX1_decodeRow_25 : decode cX1_decodeRow 25 = .ok (.iconst 1, 1) := by decide +kernel
theorem dX1_decodeRow_26 : decode cX1_decodeRow 26 = .ok (.iadd, 1) := by decide +kernel
theorem dX1_decodeRow_27 : decode cX1_decodeRow 27 = .ok (.invokevirtual 32, 3) := by decide +kernel
theorem dX1_decodeRow_30 : decode cX1_decodeRow 30 = .ok (.iconst 3, 1) := by decide +kernel
theorem dX1_decodeRow_31 : decode cX1_decodeRow 31 = .ok (.iadd, 1) := by decide +kernel
theorem dX1_decodeRow_32 : decode cX1_decodeRow 32 = .ok (.istore 4, 2) := by decide +kernel
theorem dX1_decodeRow_34 : decode cX1_decodeRow 34 = .ok (.iload_n 3, 1) := by decide +kernel
theorem dX1_decodeRow_35 : decode cX1_decodeRow 35 = .ok (.aload_n 2, 1) := by decide +kernel
theorem dX1_decodeRow_36 : decode cX1_decodeRow 36 = .ok (.invokevirtual 14, 3) := by decide +kernel
theorem dX1_decodeRow_39 : decode cX1_decodeRow 39 = .ok (.if_icmp .gt 16, 3) := by decide +kernel
theorem dX1_decodeRow_42 : decode cX1_decodeRow 42 = .ok (.aload_n 2, 1) := by decide +kernel
theorem dX1_decodeRow_43 : decode cX1_decodeRow 43 = .ok (.invokevirtual 14, 3) := by decide +kernel
theorem dX1_decodeRow_46 : decode cX1_decodeRow 46 = .ok (.iload 4, 2) := by decide +kernel
theorem dX1_decodeRow_48 : decode cX1_decodeRow 48 = .ok (.iadd, 1) := by decide +kernel
theorem dX1_decodeRow_49 : decode cX1_decodeRow 49 = .ok (.sipush 400, 3) := by decide +kernel
theorem dX1_decodeRow_52 : decode cX1_decodeRow 52 = .ok (.if_icmp .le 5, 3) := by decide +kernel
theorem dX1_decodeRow_55 : decode cX1_decodeRow 55 = .ok (.iload_n 1, 1) := by decide +kernel
theorem dX1_decodeRow_56 : decode cX1_decodeRow 56 = .ok (.ireturn, 1) := by decide +kernel
theorem dX1_decodeRow_57 : decode cX1_decodeRow 57 = .ok (.aload_n 2, 1) := by decide +kernel
theorem dX1_decodeRow_58 : decode cX1_decodeRow 58 = .ok (.iload_n 3, 1) := by decide +kernel
theorem dX1_decodeRow_59 : decode cX1_decodeRow 59 = .ok (.iload 4, 2) := by decide +kernel
theorem dX1_decodeRow_61 : decode cX1_decodeRow 61 = .ok (.invokevirtual 53, 3) := by decide +kernel
theorem dX1_decodeRow_64 : decode cX1_decodeRow 64 = .ok (.iconst (-1), 1) := by decide +kernel
theorem dX1_decodeRow_65 : decode cX1_decodeRow 65 = .ok (.ireturn, 1) := by decide +kernel
theorem dX2_init_0 : decode cX2_init 0 = .ok (.aload_n 0, 1) := by decide +kernel
theorem dX2_init_1 : decode cX2_init 1 = .ok (.invokespecial 3, 3) := by decide +kernel
theorem dX2_init_4 : decode cX2_init 4 = .ok (.aload_n 0, 1) := by decide +kernel
theorem dX2_init_5 : decode cX2_init 5 = .ok (.sipush 512, 3) := by decide +kernel
theorem dX2_init_8 : decode cX2_init 8 = .ok (.newarray .int, 2) := by decide +kernel
theorem dX2_init_10 : decode cX2_init 10 = .ok (.putfield 9, 3) := by decide +kernel
theorem dX2_init_13 : decode cX2_init 13 = .ok (.aload_n 0, 1) := by decide +kernel
theorem dX2_init_14 : decode cX2_init 14 = .ok (.iconst 1, 1) := by decide +kernel
theorem dX2_init_15 : decode cX2_init 15 = .ok (.putfield 15, 3) := by decide +kernel
theorem dX2_init_18 : decode cX2_init 18 = .ok (.aload_n 0, 1) := by decide +kernel
theorem dX2_init_19 : decode cX2_init 19 = .ok (.iconst (-1), 1) := by decide +kernel
theorem dX2_init_20 : decode cX2_init 20 = .ok (.putfield 19, 3) := by decide +kernel
theorem dX2_init_23 : decode cX2_init 23 = .ok (.return_, 1) := by decide +kernel
theorem dX2_isOn_0 : decode cX2_isOn 0 = .ok (.aload_n 0, 1) := by decide +kernel
theorem dX2_isOn_1 : decode cX2_isOn 1 = .ok (.getfield 15, 3) := by decide +kernel
theorem dX2_isOn_4 : decode cX2_isOn 4 = .ok (.ireturn, 1) := by decide +kernel
theorem dX2_switchOn_0 : decode cX2_switchOn 0 = .ok (.aload_n 0, 1) := by decide +kernel
theorem dX2_switchOn_1 : decode cX2_switchOn 1 = .ok (.iconst 1, 1) := by decide +kernel
theorem dX2_switchOn_2 : decode cX2_switchOn 2 = .ok (.putfield 15, 3) := by decide +kernel
theorem dX2_switchOn_5 : decode cX2_switchOn 5 = .ok (.aload_n 0, 1) := by decide +kernel
theorem dX2_switchOn_6 : decode cX2_switchOn 6 = .ok (.iconst (-1), 1) := by decide +kernel
theorem dX2_switchOn_7 : decode cX2_switchOn 7 = .ok (.putfield 19, 3) := by decide +kernel
theorem dX2_switchOn_10 : decode cX2_switchOn 10 = .ok (.return_, 1) := by decide +kernel
theorem dX2_allowWrites_0 : decode cX2_allowWrites 0 = .ok (.aload_n 0, 1) := by decide +kernel
theorem dX2_allowWrites_1 : decode cX2_allowWrites 1 = .ok (.iload_n 1, 1) := by decide +kernel
theorem dX2_allowWrites_2 : decode cX2_allowWrites 2 = .ok (.putfield 19, 3) := by decide +kernel
theorem dX2_allowWrites_5 : decode cX2_allowWrites 5 = .ok (.return_, 1) := by decide +kernel
theorem dX2_writesLeft_0 : decode cX2_writesLeft 0 = .ok (.aload_n 0, 1) := by decide +kernel
theorem dX2_writesLeft_1 : decode cX2_writesLeft 1 = .ok (.getfield 19, 3) := by decide +kernel
theorem dX2_writesLeft_4 : decode cX2_writesLeft 4 = .ok (.ireturn, 1) := by decide +kernel
theorem dX2_writesDone_0 : decode cX2_writesDone 0 = .ok (.aload_n 0, 1) := by decide +kernel
theorem dX2_writesDone_1 : decode cX2_writesDone 1 = .ok (.getfield 23, 3) := by decide +kernel
theorem dX2_writesDone_4 : decode cX2_writesDone 4 = .ok (.ireturn, 1) := by decide +kernel
theorem dX2_write_0 : decode cX2_write 0 = .ok (.aload_n 0, 1) := by decide +kernel
theorem dX2_write_1 : decode cX2_write 1 = .ok (.getfield 15, 3) := by decide +kernel
theorem dX2_write_4 : decode cX2_write 4 = .ok (.ifCond .eq 24, 3) := by decide +kernel
theorem dX2_write_7 : decode cX2_write 7 = .ok (.iload_n 1, 1) := by decide +kernel
theorem dX2_write_8 : decode cX2_write 8 = .ok (.ifCond .lt 20, 3) := by decide +kernel
theorem dX2_write_11 : decode cX2_write 11 = .ok (.iload_n 1, 1) := by decide +kernel
theorem dX2_write_12 : decode cX2_write 12 = .ok (.bipush 64, 2) := by decide +kernel
theorem dX2_write_14 : decode cX2_write 14 = .ok (.if_icmp .ge 14, 3) := by decide +kernel
theorem dX2_write_17 : decode cX2_write 17 = .ok (.aload_n 2, 1) := by decide +kernel
theorem dX2_write_18 : decode cX2_write 18 = .ok (.ifnull 10, 3) := by decide +kernel
theorem dX2_write_21 : decode cX2_write 21 = .ok (.aload_n 2, 1) := by decide +kernel
theorem dX2_write_22 : decode cX2_write 22 = .ok (.arraylength, 1) := by decide +kernel
theorem dX2_write_23 : decode cX2_write 23 = .ok (.bipush 8, 2) := by decide +kernel
theorem dX2_write_25 : decode cX2_write 25 = .ok (.if_icmp .ge 5, 3) := by decide +kernel
theorem dX2_write_28 : decode cX2_write 28 = .ok (.iconst 0, 1) := by decide +kernel
theorem dX2_write_29 : decode cX2_write 29 = .ok (.ireturn, 1) := by decide +kernel
theorem dX2_write_30 : decode cX2_write 30 = .ok (.aload_n 0, 1) := by decide +kernel
theorem dX2_write_31 : decode cX2_write 31 = .ok (.getfield 19, 3) := by decide +kernel
theorem dX2_write_34 : decode cX2_write 34 = .ok (.ifCond .ne 10, 3) := by decide +kernel
theorem dX2_write_37 : decode cX2_write 37 = .ok (.aload_n 0, 1) := by decide +kernel
theorem dX2_write_38 : decode cX2_write 38 = .ok (.iconst 0, 1) := by decide +kernel
theorem dX2_write_39 : decode cX2_write 39 = .ok (.putfield 15, 3) := by decide +kernel
theorem dX2_write_42 : decode cX2_write 42 = .ok (.iconst 0, 1) := by decide +kernel
theorem dX2_write_43 : decode cX2_write 43 = .ok (.ireturn, 1) := by decide +kernel
theorem dX2_write_44 : decode cX2_write 44 = .ok (.iconst 0, 1) := by decide +kernel
theorem dX2_write_45 : decode cX2_write 45 = .ok (.istore_n 3, 1) := by decide +kernel
theorem dX2_write_46 : decode cX2_write 46 = .ok (.iload_n 3, 1) := by decide +kernel
theorem dX2_write_47 : decode cX2_write 47 = .ok (.bipush 8, 2) := by decide +kernel
theorem dX2_write_49 : decode cX2_write 49 = .ok (.if_icmp .ge 23, 3) := by decide +kernel
theorem dX2_write_52 : decode cX2_write 52 = .ok (.aload_n 0, 1) := by decide +kernel
theorem dX2_write_53 : decode cX2_write 53 = .ok (.getfield 9, 3) := by decide +kernel
theorem dX2_write_56 : decode cX2_write 56 = .ok (.iload_n 1, 1) := by decide +kernel
theorem dX2_write_57 : decode cX2_write 57 = .ok (.bipush 8, 2) := by decide +kernel
theorem dX2_write_59 : decode cX2_write 59 = .ok (.imul, 1) := by decide +kernel
theorem dX2_write_60 : decode cX2_write 60 = .ok (.iload_n 3, 1) := by decide +kernel
theorem dX2_write_61 : decode cX2_write 61 = .ok (.iadd, 1) := by decide +kernel
theorem dX2_write_62 : decode cX2_write 62 = .ok (.aload_n 2, 1) := by decide +kernel
theorem dX2_write_63 : decode cX2_write 63 = .ok (.iload_n 3, 1) := by decide +kernel
theorem dX2_write_64 : decode cX2_write 64 = .ok (.iaload, 1) := by decide +kernel
theorem dX2_write_65 : decode cX2_write 65 = .ok (.iastore, 1) := by decide +kernel
theorem dX2_write_66 : decode cX2_write 66 = .ok (.iinc 3 1, 3) := by decide +kernel
theorem dX2_write_69 : decode cX2_write 69 = .ok (.goto (-23), 3) := by decide +kernel
theorem dX2_write_72 : decode cX2_write 72 = .ok (.aload_n 0, 1) := by decide +kernel
theorem dX2_write_73 : decode cX2_write 73 = .ok (.getfield 19, 3) := by decide +kernel
theorem dX2_write_76 : decode cX2_write 76 = .ok (.ifCond .le 13, 3) := by decide +kernel
theorem dX2_write_79 : decode cX2_write 79 = .ok (.aload_n 0, 1) := by decide +kernel
theorem dX2_write_80 : decode cX2_write 80 = .ok (.dup, 1) := by decide +kernel
theorem dX2_write_81 : decode cX2_write 81 = .ok (.getfield 19, 3) := by decide +kernel
theorem dX2_write_84 : decode cX2_write 84 = .ok (.iconst 1, 1) := by decide +kernel
theorem dX2_write_85 : decode cX2_write 85 = .ok (.isub, 1) := by decide +kernel
theorem dX2_write_86 : decode cX2_write 86 = .ok (.putfield 19, 3) := by decide +kernel
theorem dX2_write_89 : decode cX2_write 89 = .ok (.aload_n 0, 1) := by decide +kernel
theorem dX2_write_90 : decode cX2_write 90 = .ok (.dup, 1) := by decide +kernel
theorem dX2_write_91 : decode cX2_write 91 = .ok (.getfield 23, 3) := by decide +kernel
theorem dX2_write_94 : decode cX2_write 94 = .ok (.iconst 1, 1) := by decide +kernel
theorem dX2_write_95 : decode cX2_write 95 = .ok (.iadd, 1) := by decide +kernel
theorem dX2_write_96 : decode cX2_write 96 = .ok (.putfield 23, 3) := by decide +kernel
theorem dX2_write_99 : decode cX2_write 99 = .ok (.iconst 1, 1) := by decide +kernel
theorem dX2_write_100 : decode cX2_write 100 = .ok (.ireturn, 1) := by decide +kernel
theorem dX2_wordAt_0 : decode cX2_wordAt 0 = .ok (.iload_n 1, 1) := by decide +kernel
theorem dX2_wordAt_1 : decode cX2_wordAt 1 = .ok (.ifCond .lt 19, 3) := by decide +kernel
theorem dX2_wordAt_4 : decode cX2_wordAt 4 = .ok (.iload_n 1, 1) := by decide +kernel
theorem dX2_wordAt_5 : decode cX2_wordAt 5 = .ok (.bipush 64, 2) := by decide +kernel
theorem dX2_wordAt_7 : decode cX2_wordAt 7 = .ok (.if_icmp .ge 13, 3) := by decide +kernel
theorem dX2_wordAt_10 : decode cX2_wordAt 10 = .ok (.iload_n 2, 1) := by decide +kernel
theorem dX2_wordAt_11 : decode cX2_wordAt 11 = .ok (.ifCond .lt 9, 3) := by decide +kernel
theorem dX2_wordAt_14 : decode cX2_wordAt 14 = .ok (.iload_n 2, 1) := by decide +kernel
theorem dX2_wordAt_15 : decode cX2_wordAt 15 = .ok (.bipush 8, 2) := by decide +kernel
theorem dX2_wordAt_17 : decode cX2_wordAt 17 = .ok (.if_icmp .lt 5, 3) := by decide +kernel
theorem dX2_wordAt_20 : decode cX2_wordAt 20 = .ok (.iconst 0, 1) := by decide +kernel
theorem dX2_wordAt_21 : decode cX2_wordAt 21 = .ok (.ireturn, 1) := by decide +kernel
theorem dX2_wordAt_22 : decode cX2_wordAt 22 = .ok (.aload_n 0, 1) := by decide +kernel
theorem dX2_wordAt_23 : decode cX2_wordAt 23 = .ok (.getfield 9, 3) := by decide +kernel
theorem dX2_wordAt_26 : decode cX2_wordAt 26 = .ok (.iload_n 1, 1) := by decide +kernel
theorem dX2_wordAt_27 : decode cX2_wordAt 27 = .ok (.bipush 8, 2) := by decide +kernel
theorem dX2_wordAt_29 : decode cX2_wordAt 29 = .ok (.imul, 1) := by decide +kernel
theorem dX2_wordAt_30 : decode cX2_wordAt 30 = .ok (.iload_n 2, 1) := by decide +kernel
theorem dX2_wordAt_31 : decode cX2_wordAt 31 = .ok (.iadd, 1) := by decide +kernel
theorem dX2_wordAt_32 : decode cX2_wordAt 32 = .ok (.iaload, 1) := by decide +kernel
theorem dX2_wordAt_33 : decode cX2_wordAt 33 = .ok (.ireturn, 1) := by decide +kernel
set_option maxRecDepth 20000 in
theorem ggX2_numberOf_X2_wordAt : GoodIn wsX2_numberOf wsX2_wordAt := goodIn_r _ [5, 6, 7, 8, 9, 10] (by decide +kernel) (by decide +kernel)
set_option maxRecDepth 20000 in
theorem gX2_numberOf_X2_wordAt : GoodIn wsX2_numberOf (wsV RX2 26 RX2 yX2_wordAt wsX2_wordAt) := goodIn_app (goodIn_of _ (by decide +kernel)) ggX2_numberOf_X2_wordAt
theorem dX2_numberOf_0 : decode cX2_numberOf 0 = .ok (.aload_n 0, 1) := by decide +kernel
theorem dX2_numberOf_1 : decode cX2_numberOf 1 = .ok (.iload_n 1, 1) := by decide +kernel
theorem dX2_numberOf_2 : decode cX2_numberOf 2 = .ok (.iconst 0, 1) := by decide +kernel
theorem dX2_numberOf_3 : decode cX2_numberOf 3 = .ok (.invokevirtual 26, 3) := by decide +kernel
theorem dX2_numberOf_6 : decode cX2_numberOf 6 = .ok (.ireturn, 1) := by decide +kernel
set_option maxRecDepth 20000 in
theorem ggX2_partOf_X2_wordAt : GoodIn wsX2_partOf wsX2_wordAt := goodIn_r _ [5, 6, 7, 8, 9, 10] (by decide +kernel) (by decide +kernel)
set_option maxRecDepth 20000 in
theorem gX2_partOf_X2_wordAt : GoodIn wsX2_partOf (wsV RX2 26 RX2 yX2_wordAt wsX2_wordAt) := goodIn_app (goodIn_of _ (by decide +kernel)) ggX2_partOf_X2_wordAt
theorem dX2_partOf_0 : decode cX2_partOf 0 = .ok (.aload_n 0, 1) := by decide +kernel
theorem dX2_partOf_1 : decode cX2_partOf 1 = .ok (.iload_n 1, 1) := by decide +kernel
theorem dX2_partOf_2 : decode cX2_partOf 2 = .ok (.iconst 1, 1) := by decide +kernel
theorem dX2_partOf_3 : decode cX2_partOf 3 = .ok (.invokevirtual 26, 3) := by decide +kernel
theorem dX2_partOf_6 : decode cX2_partOf 6 = .ok (.sipush 255, 3) := by decide +kernel
theorem dX2_partOf_9 : decode cX2_partOf 9 = .ok (.iand, 1) := by decide +kernel
theorem dX2_partOf_10 : decode cX2_partOf 10 = .ok (.ireturn, 1) := by decide +kernel
set_option maxRecDepth 20000 in
theorem ggX2_partsOf_X2_wordAt : GoodIn wsX2_partsOf wsX2_wordAt := goodIn_r _ [5, 6, 7, 8, 9, 10] (by decide +kernel) (by decide +kernel)
set_option maxRecDepth 20000 in
theorem gX2_partsOf_X2_wordAt : GoodIn wsX2_partsOf (wsV RX2 26 RX2 yX2_wordAt wsX2_wordAt) := goodIn_app (goodIn_of _ (by decide +kernel)) ggX2_partsOf_X2_wordAt
theorem dX2_partsOf_0 : decode cX2_partsOf 0 = .ok (.aload_n 0, 1) := by decide +kernel
theorem dX2_partsOf_1 : decode cX2_partsOf 1 = .ok (.iload_n 1, 1) := by decide +kernel
theorem dX2_partsOf_2 : decode cX2_partsOf 2 = .ok (.iconst 1, 1) := by decide +kernel
theorem dX2_partsOf_3 : decode cX2_partsOf 3 = .ok (.invokevirtual 26, 3) := by decide +kernel
theorem dX2_partsOf_6 : decode cX2_partsOf 6 = .ok (.bipush 8, 2) := by decide +kernel
theorem dX2_partsOf_8 : decode cX2_partsOf 8 = .ok (.ishr, 1) := by decide +kernel
theorem dX2_partsOf_9 : decode cX2_partsOf 9 = .ok (.sipush 255, 3) := by decide +kernel
theorem dX2_partsOf_12 : decode cX2_partsOf 12 = .ok (.iand, 1) := by decide +kernel
theorem dX2_partsOf_13 : decode cX2_partsOf 13 = .ok (.ireturn, 1) := by decide +kernel
set_option maxRecDepth 20000 in
theorem ggX2_formOf_X2_wordAt : GoodIn wsX2_formOf wsX2_wordAt := goodIn_r _ [5, 6, 7, 8, 9, 10] (by decide +kernel) (by decide +kernel)
set_option maxRecDepth 20000 in
theorem gX2_formOf_X2_wordAt : GoodIn wsX2_formOf (wsV RX2 26 RX2 yX2_wordAt wsX2_wordAt) := goodIn_app (goodIn_of _ (by decide +kernel)) ggX2_formOf_X2_wordAt
theorem dX2_formOf_0 : decode cX2_formOf 0 = .ok (.aload_n 0, 1) := by decide +kernel
theorem dX2_formOf_1 : decode cX2_formOf 1 = .ok (.iload_n 1, 1) := by decide +kernel
theorem dX2_formOf_2 : decode cX2_formOf 2 = .ok (.iconst 1, 1) := by decide +kernel
theorem dX2_formOf_3 : decode cX2_formOf 3 = .ok (.invokevirtual 26, 3) := by decide +kernel
theorem dX2_formOf_6 : decode cX2_formOf 6 = .ok (.bipush 16, 2) := by decide +kernel
theorem dX2_formOf_8 : decode cX2_formOf 8 = .ok (.ishr, 1) := by decide +kernel
theorem dX2_formOf_9 : decode cX2_formOf 9 = .ok (.ireturn, 1) := by decide +kernel
set_option maxRecDepth 20000 in
theorem ggX2_keyOf_X2_wordAt : GoodIn wsX2_keyOf wsX2_wordAt := goodIn_r _ [5, 6, 7, 8, 9, 10] (by decide +kernel) (by decide +kernel)
set_option maxRecDepth 20000 in
theorem gX2_keyOf_X2_wordAt : GoodIn wsX2_keyOf (wsV RX2 26 RX2 yX2_wordAt wsX2_wordAt) := goodIn_app (goodIn_of _ (by decide +kernel)) ggX2_keyOf_X2_wordAt
theorem dX2_keyOf_0 : decode cX2_keyOf 0 = .ok (.aload_n 0, 1) := by decide +kernel
theorem dX2_keyOf_1 : decode cX2_keyOf 1 = .ok (.iload_n 1, 1) := by decide +kernel
theorem dX2_keyOf_2 : decode cX2_keyOf 2 = .ok (.iconst 2, 1) := by decide +kernel
theorem dX2_keyOf_3 : decode cX2_keyOf 3 = .ok (.invokevirtual 26, 3) := by decide +kernel
theorem dX2_keyOf_6 : decode cX2_keyOf 6 = .ok (.ireturn, 1) := by decide +kernel
set_option maxRecDepth 20000 in
theorem ggX2_octetsOf_X2_wordAt : GoodIn wsX2_octetsOf wsX2_wordAt := goodIn_r _ [5, 6, 7, 8, 9, 10] (by decide +kernel) (by decide +kernel)
set_option maxRecDepth 20000 in
theorem gX2_octetsOf_X2_wordAt : GoodIn wsX2_octetsOf (wsV RX2 26 RX2 yX2_wordAt wsX2_wordAt) := goodIn_app (goodIn_of _ (by decide +kernel)) ggX2_octetsOf_X2_wordAt
theorem dX2_octetsOf_0 : decode cX2_octetsOf 0 = .ok (.aload_n 0, 1) := by decide +kernel
theorem dX2_octetsOf_1 : decode cX2_octetsOf 1 = .ok (.iload_n 1, 1) := by decide +kernel
theorem dX2_octetsOf_2 : decode cX2_octetsOf 2 = .ok (.iconst 3, 1) := by decide +kernel
theorem dX2_octetsOf_3 : decode cX2_octetsOf 3 = .ok (.invokevirtual 26, 3) := by decide +kernel
theorem dX2_octetsOf_6 : decode cX2_octetsOf 6 = .ok (.ireturn, 1) := by decide +kernel
set_option maxRecDepth 20000 in
theorem ggX2_greatestNumber_X2_numberOf : GoodIn wsX2_greatestNumber wsX2_numberOf := goodIn_r _ [9, 10, 11, 12, 8, 13, 14, 15, 16, 17, 18] (by decide +kernel) (by decide +kernel)
set_option maxRecDepth 20000 in
theorem gX2_greatestNumber_X2_numberOf : GoodIn wsX2_greatestNumber (wsV RX2 30 RX2 yX2_numberOf wsX2_numberOf) := goodIn_app (goodIn_of _ (by decide +kernel)) ggX2_greatestNumber_X2_numberOf
theorem dX2_greatestNumber_0 : decode cX2_greatestNumber 0 = .ok (.iconst 0, 1) := by decide +kernel
theorem dX2_greatestNumber_1 : decode cX2_greatestNumber 1 = .ok (.istore_n 1, 1) := by decide +kernel
theorem dX2_greatestNumber_2 : decode cX2_greatestNumber 2 = .ok (.iconst 0, 1) := by decide +kernel
theorem dX2_greatestNumber_3 : decode cX2_greatestNumber 3 = .ok (.istore_n 2, 1) := by decide +kernel
theorem dX2_greatestNumber_4 : decode cX2_greatestNumber 4 = .ok (.iload_n 2, 1) := by decide +kernel
theorem dX2_greatestNumber_5 : decode cX2_greatestNumber 5 = .ok (.bipush 64, 2) := by decide +kernel
theorem dX2_greatestNumber_7 : decode cX2_greatestNumber 7 = .ok (.if_icmp .ge 19, 3) := by decide +kernel
theorem dX2_greatestNumber_10 : decode cX2_greatestNumber 10 = .ok (.iload_n 1, 1) := by decide +kernel
theorem dX2_greatestNumber_11 : decode cX2_greatestNumber 11 = .ok (.aload_n 0, 1) := by decide +kernel
theorem dX2_greatestNumber_12 : decode cX2_greatestNumber 12 = .ok (.iload_n 2, 1) := by decide +kernel
theorem dX2_greatestNumber_13 : decode cX2_greatestNumber 13 = .ok (.invokevirtual 30, 3) := by decide +kernel
theorem dX2_greatestNumber_16 : decode cX2_greatestNumber 16 = .ok (.invokestatic 34, 3) := by decide +kernel
theorem dX2_greatestNumber_19 : decode cX2_greatestNumber 19 = .ok (.istore_n 1, 1) := by decide +kernel
theorem dX2_greatestNumber_20 : decode cX2_greatestNumber 20 = .ok (.iinc 2 1, 3) := by decide +kernel
theorem dX2_greatestNumber_23 : decode cX2_greatestNumber 23 = .ok (.goto (-19), 3) := by decide +kernel
theorem dX2_greatestNumber_26 : decode cX2_greatestNumber 26 = .ok (.iload_n 1, 1) := by decide +kernel
theorem dX2_greatestNumber_27 : decode cX2_greatestNumber 27 = .ok (.ireturn, 1) := by decide +kernel
set_option maxRecDepth 20000 in
theorem ggX2_blockOf_X2_numberOf : GoodIn wsX2_blockOf wsX2_numberOf := goodIn_r _ [5, 6, 7, 8, 4, 9, 10, 15, 16, 17, 18] (by decide +kernel) (by decide +kernel)
set_option maxRecDepth 20000 in
theorem gX2_blockOf_X2_numberOf : GoodIn wsX2_blockOf (wsV RX2 30 RX2 yX2_numberOf wsX2_numberOf) := goodIn_app (goodIn_of _ (by decide +kernel)) ggX2_blockOf_X2_numberOf
set_option maxRecDepth 20000 in
theorem ggX2_blockOf_X2_partOf : GoodIn wsX2_blockOf wsX2_partOf := goodIn_r _ [14, 6, 7, 8, 4, 9, 10, 15, 16, 17, 18] (by decide +kernel) (by decide +kernel)
set_option maxRecDepth 20000 in
theorem gX2_blockOf_X2_partOf : GoodIn wsX2_blockOf (wsV RX2 39 RX2 yX2_partOf wsX2_partOf) := goodIn_app (goodIn_of _ (by decide +kernel)) ggX2_blockOf_X2_partOf
theorem dX2_blockOf_0 : decode cX2_blockOf 0 = .ok (.iconst 0, 1) := by decide +kernel
theorem dX2_blockOf_1 : decode cX2_blockOf 1 = .ok (.istore_n 3, 1) := by decide +kernel
theorem dX2_blockOf_2 : decode cX2_blockOf 2 = .ok (.iload_n 3, 1) := by decide +kernel
theorem dX2_blockOf_3 : decode cX2_blockOf 3 = .ok (.bipush 64, 2) := by decide +kernel
theorem dX2_blockOf_5 : decode cX2_blockOf 5 = .ok (.if_icmp .ge 29, 3) := by decide +kernel
theorem dX2_blockOf_8 : decode cX2_blockOf 8 = .ok (.aload_n 0, 1) := by decide +kernel
theorem dX2_blockOf_9 : decode cX2_blockOf 9 = .ok (.iload_n 3, 1) := by decide +kernel
theorem dX2_blockOf_10 : decode cX2_blockOf 10 = .ok (.invokevirtual 30, 3) := by decide +kernel
theorem dX2_blockOf_13 : decode cX2_blockOf 13 = .ok (.iload_n 1, 1) := by decide +kernel
theorem dX2_blockOf_14 : decode cX2_blockOf 14 = .ok (.if_icmp .ne 14, 3) := by decide +kernel
theorem dX2_blockOf_17 : decode cX2_blockOf 17 = .ok (.aload_n 0, 1) := by decide +kernel
theorem dX2_blockOf_18 : decode cX2_blockOf 18 = .ok (.iload_n 3, 1) := by decide +kernel
theorem dX2_blockOf_19 : decode cX2_blockOf 19 = .ok (.invokevirtual 39, 3) := by decide +kernel
theorem dX2_blockOf_22 : decode cX2_blockOf 22 = .ok (.iload_n 2, 1) := by decide +kernel
theorem dX2_blockOf_23 : decode cX2_blockOf 23 = .ok (.if_icmp .ne 5, 3) := by decide +kernel
theorem dX2_blockOf_26 : decode cX2_blockOf 26 = .ok (.iload_n 3, 1) := by decide +kernel
theorem dX2_blockOf_27 : decode cX2_blockOf 27 = .ok (.ireturn, 1) := by decide +kernel
theorem dX2_blockOf_28 : decode cX2_blockOf 28 = .ok (.iinc 3 1, 3) := by decide +kernel
theorem dX2_blockOf_31 : decode cX2_blockOf 31 = .ok (.goto (-29), 3) := by decide +kernel
theorem dX2_blockOf_34 : decode cX2_blockOf 34 = .ok (.iconst (-1), 1) := by decide +kernel
theorem dX2_blockOf_35 : decode cX2_blockOf 35 = .ok (.ireturn, 1) := by decide +kernel
theorem dX3_init_0 : decode cX3_init 0 = .ok (.aload_n 0, 1) := by decide +kernel
theorem dX3_init_1 : decode cX3_init 1 = .ok (.invokespecial 3, 3) := by decide +kernel
theorem dX3_init_4 : decode cX3_init 4 = .ok (.aload_n 0, 1) := by decide +kernel
theorem dX3_init_5 : decode cX3_init 5 = .ok (.sipush 450, 3) := by decide +kernel
theorem dX3_init_8 : decode cX3_init 8 = .ok (.newarray .int, 2) := by decide +kernel
theorem dX3_init_10 : decode cX3_init 10 = .ok (.putfield 9, 3) := by decide +kernel
theorem dX3_init_13 : decode cX3_init 13 = .ok (.return_, 1) := by decide +kernel
theorem dX3_size_0 : decode cX3_size 0 = .ok (.aload_n 0, 1) := by decide +kernel
theorem dX3_size_1 : decode cX3_size 1 = .ok (.getfield 15, 3) := by decide +kernel
theorem dX3_size_4 : decode cX3_size 4 = .ok (.ireturn, 1) := by decide +kernel
theorem dX3_empty_0 : decode cX3_empty 0 = .ok (.aload_n 0, 1) := by decide +kernel
theorem dX3_empty_1 : decode cX3_empty 1 = .ok (.iconst 0, 1) := by decide +kernel
theorem dX3_empty_2 : decode cX3_empty 2 = .ok (.putfield 15, 3) := by decide +kernel
theorem dX3_empty_5 : decode cX3_empty 5 = .ok (.return_, 1) := by decide +kernel
theorem dX3_append_0 : decode cX3_append 0 = .ok (.aload_n 0, 1) := by decide +kernel
theorem dX3_append_1 : decode cX3_append 1 = .ok (.getfield 15, 3) := by decide +kernel
theorem dX3_append_4 : decode cX3_append 4 = .ok (.ifCond .lt 39, 3) := by decide +kernel
theorem dX3_append_7 : decode cX3_append 7 = .ok (.aload_n 0, 1) := by decide +kernel
theorem dX3_append_8 : decode cX3_append 8 = .ok (.getfield 15, 3) := by decide +kernel
theorem dX3_append_11 : decode cX3_append 11 = .ok (.aload_n 0, 1) := by decide +kernel
theorem dX3_append_12 : decode cX3_append 12 = .ok (.getfield 9, 3) := by decide +kernel
theorem dX3_append_15 : decode cX3_append 15 = .ok (.arraylength, 1) := by decide +kernel
theorem dX3_append_16 : decode cX3_append 16 = .ok (.if_icmp .ge 27, 3) := by decide +kernel
theorem dX3_append_19 : decode cX3_append 19 = .ok (.aload_n 0, 1) := by decide +kernel
theorem dX3_append_20 : decode cX3_append 20 = .ok (.getfield 9, 3) := by decide +kernel
theorem dX3_append_23 : decode cX3_append 23 = .ok (.aload_n 0, 1) := by decide +kernel
theorem dX3_append_24 : decode cX3_append 24 = .ok (.getfield 15, 3) := by decide +kernel
theorem dX3_append_27 : decode cX3_append 27 = .ok (.iload_n 1, 1) := by decide +kernel
theorem dX3_append_28 : decode cX3_append 28 = .ok (.sipush 255, 3) := by decide +kernel
theorem dX3_append_31 : decode cX3_append 31 = .ok (.iand, 1) := by decide +kernel
theorem dX3_append_32 : decode cX3_append 32 = .ok (.iastore, 1) := by decide +kernel
theorem dX3_append_33 : decode cX3_append 33 = .ok (.aload_n 0, 1) := by decide +kernel
theorem dX3_append_34 : decode cX3_append 34 = .ok (.dup, 1) := by decide +kernel
theorem dX3_append_35 : decode cX3_append 35 = .ok (.getfield 15, 3) := by decide +kernel
theorem dX3_append_38 : decode cX3_append 38 = .ok (.iconst 1, 1) := by decide +kernel
theorem dX3_append_39 : decode cX3_append 39 = .ok (.iadd, 1) := by decide +kernel
theorem dX3_append_40 : decode cX3_append 40 = .ok (.putfield 15, 3) := by decide +kernel
theorem dX3_append_43 : decode cX3_append 43 = .ok (.return_, 1) := by decide +kernel
theorem dX3_at_0 : decode cX3_at 0 = .ok (.iload_n 1, 1) := by decide +kernel
theorem dX3_at_1 : decode cX3_at 1 = .ok (.ifCond .lt 20, 3) := by decide +kernel
theorem dX3_at_4 : decode cX3_at 4 = .ok (.iload_n 1, 1) := by decide +kernel
theorem dX3_at_5 : decode cX3_at 5 = .ok (.aload_n 0, 1) := by decide +kernel
theorem dX3_at_6 : decode cX3_at 6 = .ok (.getfield 15, 3) := by decide +kernel
theorem dX3_at_9 : decode cX3_at 9 = .ok (.if_icmp .ge 12, 3) := by decide +kernel
theorem dX3_at_12 : decode cX3_at 12 = .ok (.iload_n 1, 1) := by decide +kernel
theorem dX3_at_13 : decode cX3_at 13 = .ok (.aload_n 0, 1) := by decide +kernel
theorem dX3_at_14 : decode cX3_at 14 = .ok (.getfield 9, 3) := by decide +kernel
theorem dX3_at_17 : decode cX3_at 17 = .ok (.arraylength, 1) := by decide +kernel
theorem dX3_at_18 : decode cX3_at 18 = .ok (.if_icmp .lt 5, 3) := by decide +kernel
theorem dX3_at_21 : decode cX3_at 21 = .ok (.iconst 0, 1) := by decide +kernel
theorem dX3_at_22 : decode cX3_at 22 = .ok (.ireturn, 1) := by decide +kernel
theorem dX3_at_23 : decode cX3_at 23 = .ok (.aload_n 0, 1) := by decide +kernel
theorem dX3_at_24 : decode cX3_at 24 = .ok (.getfield 9, 3) := by decide +kernel
theorem dX3_at_27 : decode cX3_at 27 = .ok (.iload_n 1, 1) := by decide +kernel
theorem dX3_at_28 : decode cX3_at 28 = .ok (.iaload, 1) := by decide +kernel
theorem dX3_at_29 : decode cX3_at 29 = .ok (.ireturn, 1) := by decide +kernel
theorem dX3_setBit_0 : decode cX3_setBit 0 = .ok (.iload_n 1, 1) := by decide +kernel
theorem dX3_setBit_1 : decode cX3_setBit 1 = .ok (.ifCond .lt 32, 3) := by decide +kernel
theorem dX3_setBit_4 : decode cX3_setBit 4 = .ok (.iload_n 1, 1) := by decide +kernel
theorem dX3_setBit_5 : decode cX3_setBit 5 = .ok (.aload_n 0, 1) := by decide +kernel
theorem dX3_setBit_6 : decode cX3_setBit 6 = .ok (.getfield 15, 3) := by decide +kernel
theorem dX3_setBit_9 : decode cX3_setBit 9 = .ok (.if_icmp .ge 24, 3) := by decide +kernel
theorem dX3_setBit_12 : decode cX3_setBit 12 = .ok (.iload_n 1, 1) := by decide +kernel
theorem dX3_setBit_13 : decode cX3_setBit 13 = .ok (.aload_n 0, 1) := by decide +kernel
theorem dX3_setBit_14 : decode cX3_setBit 14 = .ok (.getfield 9, 3) := by decide +kernel
theorem dX3_setBit_17 : decode cX3_setBit 17 = .ok (.arraylength, 1) := by decide +kernel
theorem dX3_setBit_18 : decode cX3_setBit 18 = .ok (.if_icmp .ge 15, 3) := by decide +kernel
theorem dX3_setBit_21 : decode cX3_setBit 21 = .ok (.aload_n 0, 1) := by decide +kernel
theorem dX3_setBit_22 : decode cX3_setBit 22 = .ok (.getfield 9, 3) := by decide +kernel
theorem dX3_setBit_25 : decode cX3_setBit 25 = .ok (.iload_n 1, 1) := by decide +kernel
theorem dX3_setBit_26 : decode cX3_setBit 26 = .ok (.dup2, 1) := by decide +kernel
theorem dX3_setBit_27 : decode cX3_setBit 27 = .ok (.iaload, 1) := by decide +kernel
theorem dX3_setBit_28 : decode cX3_setBit 28 = .ok (.iconst 1, 1) := by decide +kernel
theorem dX3_setBit_29 : decode cX3_setBit 29 = .ok (.iload_n 2, 1) := by decide +kernel
theorem dX3_setBit_30 : decode cX3_setBit 30 = .ok (.ishl, 1) := by decide +kernel
theorem dX3_setBit_31 : decode cX3_setBit 31 = .ok (.ior, 1) := by decide +kernel
theorem dX3_setBit_32 : decode cX3_setBit 32 = .ok (.iastore, 1) := by decide +kernel
theorem dX3_setBit_33 : decode cX3_setBit 33 = .ok (.return_, 1) := by decide +kernel
set_option maxRecDepth 20000 in
theorem ggX3_fourFrom_X3_at : GoodIn wsX3_fourFrom wsX3_at := goodIn_r _ [5, 6, 7, 8, 9] (by decide +kernel) (by decide +kernel)
set_option maxRecDepth 20000 in
theorem gX3_fourFrom_X3_at : GoodIn wsX3_fourFrom (wsV RX3 19 RX3 yX3_at wsX3_at) := goodIn_app (goodIn_of _ (by decide +kernel)) ggX3_fourFrom_X3_at
theorem dX3_fourFrom_0 : decode cX3_fourFrom 0 = .ok (.aload_n 0, 1) := by decide +kernel
theorem dX3_fourFrom_1 : decode cX3_fourFrom 1 = .ok (.iload_n 1, 1) := by decide +kernel
theorem dX3_fourFrom_2 : decode cX3_fourFrom 2 = .ok (.invokevirtual 19, 3) := by decide +kernel
theorem dX3_fourFrom_5 : decode cX3_fourFrom 5 = .ok (.aload_n 0, 1) := by decide +kernel
theorem dX3_fourFrom_6 : decode cX3_fourFrom 6 = .ok (.iload_n 1, 1) := by decide +kernel
theorem dX3_fourFrom_7 : decode cX3_fourFrom 7 = .ok (.iconst 1, 1) := by decide +kernel
theorem dX3_fourFrom_8 : decode cX3_fourFrom 8 = .ok (.iadd, 1) := by decide +kernel
theorem dX3_fourFrom_9 : decode cX3_fourFrom 9 = .ok (.invokevirtual 19, 3) := by decide +kernel
theorem dX3_fourFrom_12 : decode cX3_fourFrom 12 = .ok (.bipush 8, 2) := by decide +kernel
theorem dX3_fourFrom_14 : decode cX3_fourFrom 14 = .ok (.ishl, 1) := by decide +kernel
theorem dX3_fourFrom_15 : decode cX3_fourFrom 15 = .ok (.ior, 1) := by decide +kernel
theorem dX3_fourFrom_16 : decode cX3_fourFrom 16 = .ok (.aload_n 0, 1) := by decide +kernel
theorem dX3_fourFrom_17 : decode cX3_fourFrom 17 = .ok (.iload_n 1, 1) := by decide +kernel
theorem dX3_fourFrom_18 : decode cX3_fourFrom 18 = .ok (.iconst 2, 1) := by decide +kernel
theorem dX3_fourFrom_19 : decode cX3_fourFrom 19 = .ok (.iadd, 1) := by decide +kernel
theorem dX3_fourFrom_20 : decode cX3_fourFrom 20 = .ok (.invokevirtual 19, 3) := by decide +kernel
theorem dX3_fourFrom_23 : decode cX3_fourFrom 23 = .ok (.bipush 16, 2) := by decide +kernel
theorem dX3_fourFrom_25 : decode cX3_fourFrom 25 = .ok (.ishl, 1) := by decide +kernel
theorem dX3_fourFrom_26 : decode cX3_fourFrom 26 = .ok (.ior, 1) := by decide +kernel
theorem dX3_fourFrom_27 : decode cX3_fourFrom 27 = .ok (.aload_n 0, 1) := by decide +kernel
theorem dX3_fourFrom_28 : decode cX3_fourFrom 28 = .ok (.iload_n 1, 1) := by decide +kernel
theorem dX3_fourFrom_29 : decode cX3_fourFrom 29 = .ok (.iconst 3, 1) := by decide +kernel
theorem dX3_fourFrom_30 : decode cX3_fourFrom 30 = .ok (.iadd, 1) := by decide +kernel
theorem dX3_fourFrom_31 : decode cX3_fourFrom 31 = .ok (.invokevirtual 19, 3) := by decide +kernel
theorem dX3_fourFrom_34 : decode cX3_fourFrom 34 = .ok (.bipush 24, 2) := by decide +kernel
theorem dX3_fourFrom_36 : decode cX3_fourFrom 36 = .ok (.ishl, 1) := by decide +kernel
theorem dX3_fourFrom_37 : decode cX3_fourFrom 37 = .ok (.ior, 1) := by decide +kernel
theorem dX3_fourFrom_38 : decode cX3_fourFrom 38 = .ok (.ireturn, 1) := by decide +kernel
set_option maxRecDepth 20000 in
theorem ggX3_becomeLike_X3_empty : GoodIn wsX3_becomeLike wsX3_empty := goodIn_r _ [6, 1, 16, 17] (by decide +kernel) (by decide +kernel)
set_option maxRecDepth 20000 in
theorem gX3_becomeLike_X3_empty : GoodIn wsX3_becomeLike (wsV RX3 23 RX3 yX3_empty wsX3_empty) := goodIn_app (goodIn_of _ (by decide +kernel)) ggX3_becomeLike_X3_empty
set_option maxRecDepth 20000 in
theorem ggX3_becomeLike_X3_at : GoodIn wsX3_becomeLike wsX3_at := goodIn_r _ [10, 1, 11, 16, 17] (by decide +kernel) (by decide +kernel)
set_option maxRecDepth 20000 in
theorem gX3_becomeLike_X3_at : GoodIn wsX3_becomeLike (wsV RX3 19 RX3 yX3_at wsX3_at) := goodIn_app (goodIn_of _ (by decide +kernel)) ggX3_becomeLike_X3_at
set_option maxRecDepth 20000 in
theorem ggX3_becomeLike_X3_append : GoodIn wsX3_becomeLike wsX3_append := goodIn_r _ [15, 1, 11, 16, 17] (by decide +kernel) (by decide +kernel)
set_option maxRecDepth 20000 in
theorem gX3_becomeLike_X3_append : GoodIn wsX3_becomeLike (wsV RX3 26 RX3 yX3_append wsX3_append) := goodIn_app (goodIn_of _ (by decide +kernel)) ggX3_becomeLike_X3_append
theorem dX3_becomeLike_0 : decode cX3_becomeLike 0 = .ok (.aload_n 0, 1) := by decide +kernel
theorem dX3_becomeLike_1 : decode cX3_becomeLike 1 = .ok (.invokevirtual 23, 3) := by decide +kernel
theorem dX3_becomeLike_4 : decode cX3_becomeLike 4 = .ok (.iconst 0, 1) := by decide +kernel
theorem dX3_becomeLike_5 : decode cX3_becomeLike 5 = .ok (.istore_n 2, 1) := by decide +kernel
theorem dX3_becomeLike_6 : decode cX3_becomeLike 6 = .ok (.iload_n 2, 1) := by decide +kernel
theorem dX3_becomeLike_7 : decode cX3_becomeLike 7 = .ok (.aload_n 1, 1) := by decide +kernel
theorem dX3_becomeLike_8 : decode cX3_becomeLike 8 = .ok (.getfield 15, 3) := by decide +kernel
theorem dX3_becomeLike_11 : decode cX3_becomeLike 11 = .ok (.if_icmp .ge 18, 3) := by decide +kernel
theorem dX3_becomeLike_14 : decode cX3_becomeLike 14 = .ok (.aload_n 0, 1) := by decide +kernel
theorem dX3_becomeLike_15 : decode cX3_becomeLike 15 = .ok (.aload_n 1, 1) := by decide +kernel
theorem dX3_becomeLike_16 : decode cX3_becomeLike 16 = .ok (.iload_n 2, 1) := by decide +kernel
theorem dX3_becomeLike_17 : decode cX3_becomeLike 17 = .ok (.invokevirtual 19, 3) := by decide +kernel
theorem dX3_becomeLike_20 : decode cX3_becomeLike 20 = .ok (.invokevirtual 26, 3) := by decide +kernel
theorem dX3_becomeLike_23 : decode cX3_becomeLike 23 = .ok (.iinc 2 1, 3) := by decide +kernel
theorem dX3_becomeLike_26 : decode cX3_becomeLike 26 = .ok (.goto (-20), 3) := by decide +kernel
theorem dX3_becomeLike_29 : decode cX3_becomeLike 29 = .ok (.return_, 1) := by decide +kernel
set_option maxRecDepth 20000 in
theorem ggX3_repeat_X3_at : GoodIn wsX3_repeat wsX3_at := goodIn_r _ [6, 1, 7, 12, 13] (by decide +kernel) (by decide +kernel)
set_option maxRecDepth 20000 in
theorem gX3_repeat_X3_at : GoodIn wsX3_repeat (wsV RX3 19 RX3 yX3_at wsX3_at) := goodIn_app (goodIn_of _ (by decide +kernel)) ggX3_repeat_X3_at
set_option maxRecDepth 20000 in
theorem ggX3_repeat_X3_append : GoodIn wsX3_repeat wsX3_append := goodIn_r _ [11, 1, 7, 12, 13] (by decide +kernel) (by decide +kernel)
set_option maxRecDepth 20000 in
theorem gX3_repeat_X3_append : GoodIn wsX3_repeat (wsV RX3 26 RX3 yX3_append wsX3_append) := goodIn_app (goodIn_of _ (by decide +kernel)) ggX3_repeat_X3_append
theorem dX3_repeat_0 : decode cX3_repeat 0 = .ok (.iconst 0, 1) := by decide +kernel
theorem dX3_repeat_1 : decode cX3_repeat 1 = .ok (.istore_n 3, 1) := by decide +kernel
theorem dX3_repeat_2 : decode cX3_repeat 2 = .ok (.iload_n 3, 1) := by decide +kernel
theorem dX3_repeat_3 : decode cX3_repeat 3 = .ok (.iload_n 2, 1) := by decide +kernel
theorem dX3_repeat_4 : decode cX3_repeat 4 = .ok (.if_icmp .ge 23, 3) := by decide +kernel
theorem dX3_repeat_7 : decode cX3_repeat 7 = .ok (.aload_n 0, 1) := by decide +kernel
theorem dX3_repeat_8 : decode cX3_repeat 8 = .ok (.aload_n 0, 1) := by decide +kernel
theorem dX3_repeat_9 : decode cX3_repeat 9 = .ok (.aload_n 0, 1) := by decide +kernel
theorem dX3_repeat_10 : decode cX3_repeat 10 = .ok (.getfield 15, 3) := by decide +kernel
theorem dX3_repeat_13 : decode cX3_repeat 13 = .ok (.iload_n 1, 1) := by decide +kernel
theorem dX3_repeat_14 : decode cX3_repeat 14 = .ok (.isub, 1) := by decide +kernel
theorem dX3_repeat_15 : decode cX3_repeat 15 = .ok (.invokevirtual 19, 3) := by decide +kernel
theorem dX3_repeat_18 : decode cX3_repeat 18 = .ok (.invokevirtual 26, 3) := by decide +kernel
theorem dX3_repeat_21 : decode cX3_repeat 21 = .ok (.iinc 3 1, 3) := by decide +kernel
theorem dX3_repeat_24 : decode cX3_repeat 24 = .ok (.goto (-22), 3) := by decide +kernel
theorem dX3_repeat_27 : decode cX3_repeat 27 = .ok (.return_, 1) := by decide +kernel
abbrev vwCl : List vw_C := [(RX0, TX0, 4), (RX2, TX2, 4), (RX3, TX3, 2), (RX4, TX4, 9), (RX5, TX5, 15)]
