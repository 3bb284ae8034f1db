def y_Log_init : MethodName := ⟨R_Log, "<init>", "(I)V"⟩
abbrev b_Log_init : ByteArray := prog_1_method_1_code
theorem yo_Log_init : y_Log_init.cls = R_Log ∧ YO y_Log_init 1 := ⟨rfl, by decide +kernel, by decide +kernel, by decide +kernel⟩
def y_Log_areEntriesRising : MethodName := ⟨R_Log, "areEntriesRising", "(II)Z"⟩
abbrev b_Log_areEntriesRising : ByteArray := prog_1_method_57_code
theorem yo_Log_areEntriesRising : y_Log_areEntriesRising.cls = R_Log ∧ YO y_Log_areEntriesRising 2 := ⟨rfl, by decide +kernel, by decide +kernel, by decide +kernel⟩
def y_Log_badAt : MethodName := ⟨R_Log, "badAt", "()I"⟩
abbrev b_Log_badAt : ByteArray := prog_1_method_20_code
theorem yo_Log_badAt : y_Log_badAt.cls = R_Log ∧ YO y_Log_badAt 0 := ⟨rfl, by decide +kernel, by decide +kernel, by decide +kernel⟩
def y_Log_behindPart : MethodName := ⟨R_Log, "behindPart", "(I)I"⟩
abbrev b_Log_behindPart : ByteArray := prog_1_method_74_code
theorem yo_Log_behindPart : y_Log_behindPart.cls = R_Log ∧ YO y_Log_behindPart 1 := ⟨rfl, by decide +kernel, by decide +kernel, by decide +kernel⟩
def y_Log_bodiesOf : MethodName := ⟨R_Log, "bodiesOf", "(I)I"⟩
abbrev b_Log_bodiesOf : ByteArray := prog_1_method_30_code
theorem yo_Log_bodiesOf : y_Log_bodiesOf.cls = R_Log ∧ YO y_Log_bodiesOf 1 := ⟨rfl, by decide +kernel, by decide +kernel, by decide +kernel⟩
def y_Log_byteAt : MethodName := ⟨R_Log, "byteAt", "(II)I"⟩
abbrev b_Log_byteAt : ByteArray := prog_1_method_22_code
theorem yo_Log_byteAt : y_Log_byteAt.cls = R_Log ∧ YO y_Log_byteAt 2 := ⟨rfl, by decide +kernel, by decide +kernel, by decide +kernel⟩
def y_Log_byteOfPart : MethodName := ⟨R_Log, "byteOfPart", "(II)I"⟩
abbrev b_Log_byteOfPart : ByteArray := prog_1_method_61_code
theorem yo_Log_byteOfPart : y_Log_byteOfPart.cls = R_Log ∧ YO y_Log_byteOfPart 2 := ⟨rfl, by decide +kernel, by decide +kernel, by decide +kernel⟩
def y_Log_close : MethodName := ⟨R_Log, "close", "()Z"⟩
abbrev b_Log_close : ByteArray := prog_1_method_11_code
theorem yo_Log_close : y_Log_close.cls = R_Log ∧ YO y_Log_close 0 := ⟨rfl, by decide +kernel, by decide +kernel, by decide +kernel⟩
def y_Log_countNaming : MethodName := ⟨R_Log, "countNaming", "(I)I"⟩
abbrev b_Log_countNaming : ByteArray := prog_1_method_60_code
theorem yo_Log_countNaming : y_Log_countNaming.cls = R_Log ∧ YO y_Log_countNaming 1 := ⟨rfl, by decide +kernel, by decide +kernel, by decide +kernel⟩
def y_Log_cut : MethodName := ⟨R_Log, "cut", "(I)Z"⟩
abbrev b_Log_cut : ByteArray := prog_1_method_10_code
theorem yo_Log_cut : y_Log_cut.cls = R_Log ∧ YO y_Log_cut 1 := ⟨rfl, by decide +kernel, by decide +kernel, by decide +kernel⟩
def y_Log_digestStep : MethodName := ⟨R_Log, "digestStep", "(JI)J"⟩
abbrev b_Log_digestStep : ByteArray := prog_1_method_27_code
theorem yo_Log_digestStep : y_Log_digestStep.cls = R_Log ∧ YO y_Log_digestStep 2 := ⟨rfl, by decide +kernel, by decide +kernel, by decide +kernel⟩
def y_Log_drawEntry : MethodName := ⟨R_Log, "drawEntry", "(II)V"⟩
abbrev b_Log_drawEntry : ByteArray := prog_1_method_41_code
theorem yo_Log_drawEntry : y_Log_drawEntry.cls = R_Log ∧ YO y_Log_drawEntry 2 := ⟨rfl, by decide +kernel, by decide +kernel, by decide +kernel⟩
def y_Log_drawHead : MethodName := ⟨R_Log, "drawHead", "()V"⟩
abbrev b_Log_drawHead : ByteArray := prog_1_method_42_code
theorem yo_Log_drawHead : y_Log_drawHead.cls = R_Log ∧ YO y_Log_drawHead 0 := ⟨rfl, by decide +kernel, by decide +kernel, by decide +kernel⟩
def y_Log_drawMark : MethodName := ⟨R_Log, "drawMark", "(I)J"⟩
abbrev b_Log_drawMark : ByteArray := prog_1_method_40_code
theorem yo_Log_drawMark : y_Log_drawMark.cls = R_Log ∧ YO y_Log_drawMark 1 := ⟨rfl, by decide +kernel, by decide +kernel, by decide +kernel⟩
def y_Log_drawPart : MethodName := ⟨R_Log, "drawPart", "(IIJII)V"⟩
abbrev b_Log_drawPart : ByteArray := prog_1_method_39_code
theorem yo_Log_drawPart : y_Log_drawPart.cls = R_Log ∧ YO y_Log_drawPart 5 := ⟨rfl, by decide +kernel, by decide +kernel, by decide +kernel⟩
def y_Log_drawPartOut : MethodName := ⟨R_Log, "drawPartOut", "(LMarkLog$Bytes;I)V"⟩
abbrev b_Log_drawPartOut : ByteArray := prog_1_method_70_code
theorem yo_Log_drawPartOut : y_Log_drawPartOut.cls = R_Log ∧ YO y_Log_drawPartOut 2 := ⟨rfl, by decide +kernel, by decide +kernel, by decide +kernel⟩
def y_Log_drawSavepoint : MethodName := ⟨R_Log, "drawSavepoint", "(LMarkLog$Bytes;I)V"⟩
abbrev b_Log_drawSavepoint : ByteArray := prog_1_method_69_code
theorem yo_Log_drawSavepoint : y_Log_drawSavepoint.cls = R_Log ∧ YO y_Log_drawSavepoint 2 := ⟨rfl, by decide +kernel, by decide +kernel, by decide +kernel⟩
def y_Log_drawSum : MethodName := ⟨R_Log, "drawSum", "()V"⟩
abbrev b_Log_drawSum : ByteArray := prog_1_method_43_code
theorem yo_Log_drawSum : y_Log_drawSum.cls = R_Log ∧ YO y_Log_drawSum 0 := ⟨rfl, by decide +kernel, by decide +kernel, by decide +kernel⟩
def y_Log_drop : MethodName := ⟨R_Log, "drop", "(I)I"⟩
abbrev b_Log_drop : ByteArray := prog_1_method_9_code
theorem yo_Log_drop : y_Log_drop.cls = R_Log ∧ YO y_Log_drop 1 := ⟨rfl, by decide +kernel, by decide +kernel, by decide +kernel⟩
def y_Log_dropMarks : MethodName := ⟨R_Log, "dropMarks", "(I)Z"⟩
abbrev b_Log_dropMarks : ByteArray := prog_1_method_47_code
theorem yo_Log_dropMarks : y_Log_dropMarks.cls = R_Log ∧ YO y_Log_dropMarks 1 := ⟨rfl, by decide +kernel, by decide +kernel, by decide +kernel⟩
def y_Log_dropParts : MethodName := ⟨R_Log, "dropParts", "(I)I"⟩
abbrev b_Log_dropParts : ByteArray := prog_1_method_48_code
theorem yo_Log_dropParts : y_Log_dropParts.cls = R_Log ∧ YO y_Log_dropParts 1 := ⟨rfl, by decide +kernel, by decide +kernel, by decide +kernel⟩
def y_Log_entriesOf : MethodName := ⟨R_Log, "entriesOf", "(I)I"⟩
abbrev b_Log_entriesOf : ByteArray := prog_1_method_32_code
theorem yo_Log_entriesOf : y_Log_entriesOf.cls = R_Log ∧ YO y_Log_entriesOf 1 := ⟨rfl, by decide +kernel, by decide +kernel, by decide +kernel⟩
def y_Log_entryByte : MethodName := ⟨R_Log, "entryByte", "(I)I"⟩
abbrev b_Log_entryByte : ByteArray := prog_1_method_35_code
theorem yo_Log_entryByte : y_Log_entryByte.cls = R_Log ∧ YO y_Log_entryByte 1 := ⟨rfl, by decide +kernel, by decide +kernel, by decide +kernel⟩
def y_Log_entryRow : MethodName := ⟨R_Log, "entryRow", "(II)I"⟩
abbrev b_Log_entryRow : ByteArray := prog_1_method_34_code
theorem yo_Log_entryRow : y_Log_entryRow.cls = R_Log ∧ YO y_Log_entryRow 2 := ⟨rfl, by decide +kernel, by decide +kernel, by decide +kernel⟩
def y_Log_equal : MethodName := ⟨R_Log, "equal", "(II)I"⟩
abbrev b_Log_equal : ByteArray := prog_1_method_26_code
theorem yo_Log_equal : y_Log_equal.cls = R_Log ∧ YO y_Log_equal 2 := ⟨rfl, by decide +kernel, by decide +kernel, by decide +kernel⟩
def y_Log_feed : MethodName := ⟨R_Log, "feed", "(JI)I"⟩
abbrev b_Log_feed : ByteArray := prog_1_method_2_code
theorem yo_Log_feed : y_Log_feed.cls = R_Log ∧ YO y_Log_feed 2 := ⟨rfl, by decide +kernel, by decide +kernel, by decide +kernel⟩
def y_Log_forget : MethodName := ⟨R_Log, "forget", "()V"⟩
abbrev b_Log_forget : ByteArray := prog_1_method_49_code
theorem yo_Log_forget : y_Log_forget.cls = R_Log ∧ YO y_Log_forget 0 := ⟨rfl, by decide +kernel, by decide +kernel, by decide +kernel⟩
def y_Log_give : MethodName := ⟨R_Log, "give", "(I)I"⟩
abbrev b_Log_give : ByteArray := prog_1_method_7_code
theorem yo_Log_give : y_Log_give.cls = R_Log ∧ YO y_Log_give 1 := ⟨rfl, by decide +kernel, by decide +kernel, by decide +kernel⟩
def y_Log_headThatCounts : MethodName := ⟨R_Log, "headThatCounts", "()I"⟩
abbrev b_Log_headThatCounts : ByteArray := prog_1_method_51_code
theorem yo_Log_headThatCounts : y_Log_headThatCounts.cls = R_Log ∧ YO y_Log_headThatCounts 0 := ⟨rfl, by decide +kernel, by decide +kernel, by decide +kernel⟩
def y_Log_in_ : MethodName := ⟨R_Log, "in", "()I"⟩
abbrev b_Log_in_ : ByteArray := prog_1_method_25_code
theorem yo_Log_in_ : y_Log_in_.cls = R_Log ∧ YO y_Log_in_ 0 := ⟨rfl, by decide +kernel, by decide +kernel, by decide +kernel⟩
def y_Log_isEntryRight : MethodName := ⟨R_Log, "isEntryRight", "(III)Z"⟩
abbrev b_Log_isEntryRight : ByteArray := prog_1_method_67_code
theorem yo_Log_isEntryRight : y_Log_isEntryRight.cls = R_Log ∧ YO y_Log_isEntryRight 3 := ⟨rfl, by decide +kernel, by decide +kernel, by decide +kernel⟩
def y_Log_isGoodHead : MethodName := ⟨R_Log, "isGoodHead", "(I)Z"⟩
abbrev b_Log_isGoodHead : ByteArray := prog_1_method_52_code
theorem yo_Log_isGoodHead : y_Log_isGoodHead.cls = R_Log ∧ YO y_Log_isGoodHead 1 := ⟨rfl, by decide +kernel, by decide +kernel, by decide +kernel⟩
def y_Log_isGroup : MethodName := ⟨R_Log, "isGroup", "(I)Z"⟩
abbrev b_Log_isGroup : ByteArray := prog_1_method_28_code
theorem yo_Log_isGroup : y_Log_isGroup.cls = R_Log ∧ YO y_Log_isGroup 1 := ⟨rfl, by decide +kernel, by decide +kernel, by decide +kernel⟩
def y_Log_isKeptAsFound : MethodName := ⟨R_Log, "isKeptAsFound", "(I)Z"⟩
abbrev b_Log_isKeptAsFound : ByteArray := prog_1_method_66_code
theorem yo_Log_isKeptAsFound : y_Log_isKeptAsFound.cls = R_Log ∧ YO y_Log_isKeptAsFound 1 := ⟨rfl, by decide +kernel, by decide +kernel, by decide +kernel⟩
def y_Log_isKeptWhole : MethodName := ⟨R_Log, "isKeptWhole", "(I)Z"⟩
abbrev b_Log_isKeptWhole : ByteArray := prog_1_method_65_code
theorem yo_Log_isKeptWhole : y_Log_isKeptWhole.cls = R_Log ∧ YO y_Log_isKeptWhole 1 := ⟨rfl, by decide +kernel, by decide +kernel, by decide +kernel⟩
def y_Log_isMadeWhole : MethodName := ⟨R_Log, "isMadeWhole", "(I)Z"⟩
abbrev b_Log_isMadeWhole : ByteArray := prog_1_method_64_code
theorem yo_Log_isMadeWhole : y_Log_isMadeWhole.cls = R_Log ∧ YO y_Log_isMadeWhole 1 := ⟨rfl, by decide +kernel, by decide +kernel, by decide +kernel⟩
def y_Log_isMarkThere : MethodName := ⟨R_Log, "isMarkThere", "(I)Z"⟩
abbrev b_Log_isMarkThere : ByteArray := prog_1_method_56_code
theorem yo_Log_isMarkThere : y_Log_isMarkThere.cls = R_Log ∧ YO y_Log_isMarkThere 1 := ⟨rfl, by decide +kernel, by decide +kernel, by decide +kernel⟩
def y_Log_isMarkWhole : MethodName := ⟨R_Log, "isMarkWhole", "(I)Z"⟩
abbrev b_Log_isMarkWhole : ByteArray := prog_1_method_63_code
theorem yo_Log_isMarkWhole : y_Log_isMarkWhole.cls = R_Log ∧ YO y_Log_isMarkWhole 1 := ⟨rfl, by decide +kernel, by decide +kernel, by decide +kernel⟩
def y_Log_isNumber : MethodName := ⟨R_Log, "isNumber", "(J)Z"⟩
abbrev b_Log_isNumber : ByteArray := prog_1_method_29_code
theorem yo_Log_isNumber : y_Log_isNumber.cls = R_Log ∧ YO y_Log_isNumber 1 := ⟨rfl, by decide +kernel, by decide +kernel, by decide +kernel⟩
def y_Log_isPartOnTape : MethodName := ⟨R_Log, "isPartOnTape", "(I)Z"⟩
abbrev b_Log_isPartOnTape : ByteArray := prog_1_method_72_code
theorem yo_Log_isPartOnTape : y_Log_isPartOnTape.cls = R_Log ∧ YO y_Log_isPartOnTape 1 := ⟨rfl, by decide +kernel, by decide +kernel, by decide +kernel⟩
def y_Log_isPartThere : MethodName := ⟨R_Log, "isPartThere", "(I)Z"⟩
abbrev b_Log_isPartThere : ByteArray := prog_1_method_54_code
theorem yo_Log_isPartThere : y_Log_isPartThere.cls = R_Log ∧ YO y_Log_isPartThere 1 := ⟨rfl, by decide +kernel, by decide +kernel, by decide +kernel⟩
def y_Log_isPartWhole : MethodName := ⟨R_Log, "isPartWhole", "(I)Z"⟩
abbrev b_Log_isPartWhole : ByteArray := prog_1_method_62_code
theorem yo_Log_isPartWhole : y_Log_isPartWhole.cls = R_Log ∧ YO y_Log_isPartWhole 1 := ⟨rfl, by decide +kernel, by decide +kernel, by decide +kernel⟩
def y_Log_isRoomForSavepoint : MethodName := ⟨R_Log, "isRoomForSavepoint", "(I)Z"⟩
abbrev b_Log_isRoomForSavepoint : ByteArray := prog_1_method_75_code
theorem yo_Log_isRoomForSavepoint : y_Log_isRoomForSavepoint.cls = R_Log ∧ YO y_Log_isRoomForSavepoint 1 := ⟨rfl, by decide +kernel, by decide +kernel, by decide +kernel⟩
def y_Log_isSavepointOnTape : MethodName := ⟨R_Log, "isSavepointOnTape", "()Z"⟩
abbrev b_Log_isSavepointOnTape : ByteArray := prog_1_method_71_code
theorem yo_Log_isSavepointOnTape : y_Log_isSavepointOnTape.cls = R_Log ∧ YO y_Log_isSavepointOnTape 0 := ⟨rfl, by decide +kernel, by decide +kernel, by decide +kernel⟩
def y_Log_keep : MethodName := ⟨R_Log, "keep", "(I)I"⟩
abbrev b_Log_keep : ByteArray := prog_1_method_6_code
theorem yo_Log_keep : y_Log_keep.cls = R_Log ∧ YO y_Log_keep 1 := ⟨rfl, by decide +kernel, by decide +kernel, by decide +kernel⟩
def y_Log_learnMark : MethodName := ⟨R_Log, "learnMark", "(I)I"⟩
abbrev b_Log_learnMark : ByteArray := prog_1_method_58_code
theorem yo_Log_learnMark : y_Log_learnMark.cls = R_Log ∧ YO y_Log_learnMark 1 := ⟨rfl, by decide +kernel, by decide +kernel, by decide +kernel⟩
def y_Log_learnPart : MethodName := ⟨R_Log, "learnPart", "(I)I"⟩
abbrev b_Log_learnPart : ByteArray := prog_1_method_55_code
theorem yo_Log_learnPart : y_Log_learnPart.cls = R_Log ∧ YO y_Log_learnPart 1 := ⟨rfl, by decide +kernel, by decide +kernel, by decide +kernel⟩
def y_Log_learnRow : MethodName := ⟨R_Log, "learnRow", "(I)I"⟩
abbrev b_Log_learnRow : ByteArray := prog_1_method_53_code
theorem yo_Log_learnRow : y_Log_learnRow.cls = R_Log ∧ YO y_Log_learnRow 1 := ⟨rfl, by decide +kernel, by decide +kernel, by decide +kernel⟩
def y_Log_lengthOnTape : MethodName := ⟨R_Log, "lengthOnTape", "(I)I"⟩
abbrev b_Log_lengthOnTape : ByteArray := prog_1_method_73_code
theorem yo_Log_lengthOnTape : y_Log_lengthOnTape.cls = R_Log ∧ YO y_Log_lengthOnTape 1 := ⟨rfl, by decide +kernel, by decide +kernel, by decide +kernel⟩
def y_Log_makeMark : MethodName := ⟨R_Log, "makeMark", "(I)I"⟩
abbrev b_Log_makeMark : ByteArray := prog_1_method_46_code
theorem yo_Log_makeMark : y_Log_makeMark.cls = R_Log ∧ YO y_Log_makeMark 1 := ⟨rfl, by decide +kernel, by decide +kernel, by decide +kernel⟩
def y_Log_mark : MethodName := ⟨R_Log, "mark", "(I)I"⟩
abbrev b_Log_mark : ByteArray := prog_1_method_5_code
theorem yo_Log_mark : y_Log_mark.cls = R_Log ∧ YO y_Log_mark 1 := ⟨rfl, by decide +kernel, by decide +kernel, by decide +kernel⟩
def y_Log_markOf : MethodName := ⟨R_Log, "markOf", "(II)I"⟩
abbrev b_Log_markOf : ByteArray := prog_1_method_16_code
theorem yo_Log_markOf : y_Log_markOf.cls = R_Log ∧ YO y_Log_markOf 2 := ⟨rfl, by decide +kernel, by decide +kernel, by decide +kernel⟩
def y_Log_marks : MethodName := ⟨R_Log, "marks", "(I)I"⟩
abbrev b_Log_marks : ByteArray := prog_1_method_15_code
theorem yo_Log_marks : y_Log_marks.cls = R_Log ∧ YO y_Log_marks 1 := ⟨rfl, by decide +kernel, by decide +kernel, by decide +kernel⟩
def y_Log_named : MethodName := ⟨R_Log, "named", "(I)I"⟩
abbrev b_Log_named : ByteArray := prog_1_method_19_code
theorem yo_Log_named : y_Log_named.cls = R_Log ∧ YO y_Log_named 1 := ⟨rfl, by decide +kernel, by decide +kernel, by decide +kernel⟩
def y_Log_open_ : MethodName := ⟨R_Log, "open", "()I"⟩
abbrev b_Log_open_ : ByteArray := prog_1_method_12_code
theorem yo_Log_open_ : y_Log_open_.cls = R_Log ∧ YO y_Log_open_ 0 := ⟨rfl, by decide +kernel, by decide +kernel, by decide +kernel⟩
def y_Log_out : MethodName := ⟨R_Log, "out", "(II)I"⟩
abbrev b_Log_out : ByteArray := prog_1_method_24_code
theorem yo_Log_out : y_Log_out.cls = R_Log ∧ YO y_Log_out 2 := ⟨rfl, by decide +kernel, by decide +kernel, by decide +kernel⟩
def y_Log_owner : MethodName := ⟨R_Log, "owner", "(I)I"⟩
abbrev b_Log_owner : ByteArray := prog_1_method_8_code
theorem yo_Log_owner : y_Log_owner.cls = R_Log ∧ YO y_Log_owner 1 := ⟨rfl, by decide +kernel, by decide +kernel, by decide +kernel⟩
def y_Log_part : MethodName := ⟨R_Log, "part", "(IJ)I"⟩
abbrev b_Log_part : ByteArray := prog_1_method_4_code
theorem yo_Log_part : y_Log_part.cls = R_Log ∧ YO y_Log_part 2 := ⟨rfl, by decide +kernel, by decide +kernel, by decide +kernel⟩
def y_Log_partByte : MethodName := ⟨R_Log, "partByte", "(II)I"⟩
abbrev b_Log_partByte : ByteArray := prog_1_method_18_code
theorem yo_Log_partByte : y_Log_partByte.cls = R_Log ∧ YO y_Log_partByte 2 := ⟨rfl, by decide +kernel, by decide +kernel, by decide +kernel⟩
def y_Log_partOf : MethodName := ⟨R_Log, "partOf", "(II)J"⟩
abbrev b_Log_partOf : ByteArray := prog_1_method_17_code
theorem yo_Log_partOf : y_Log_partOf.cls = R_Log ∧ YO y_Log_partOf 2 := ⟨rfl, by decide +kernel, by decide +kernel, by decide +kernel⟩
def y_Log_placeOf : MethodName := ⟨R_Log, "placeOf", "([III)I"⟩
abbrev b_Log_placeOf : ByteArray := prog_1_method_36_code
theorem yo_Log_placeOf : y_Log_placeOf.cls = R_Log ∧ YO y_Log_placeOf 3 := ⟨rfl, by decide +kernel, by decide +kernel, by decide +kernel⟩
def y_Log_poke : MethodName := ⟨R_Log, "poke", "(III)I"⟩
abbrev b_Log_poke : ByteArray := prog_1_method_21_code
theorem yo_Log_poke : y_Log_poke.cls = R_Log ∧ YO y_Log_poke 3 := ⟨rfl, by decide +kernel, by decide +kernel, by decide +kernel⟩
def y_Log_readHeads : MethodName := ⟨R_Log, "readHeads", "()V"⟩
abbrev b_Log_readHeads : ByteArray := prog_1_method_50_code
theorem yo_Log_readHeads : y_Log_readHeads.cls = R_Log ∧ YO y_Log_readHeads 0 := ⟨rfl, by decide +kernel, by decide +kernel, by decide +kernel⟩
def y_Log_rowsOfMark : MethodName := ⟨R_Log, "rowsOfMark", "(I)I"⟩
abbrev b_Log_rowsOfMark : ByteArray := prog_1_method_33_code
theorem yo_Log_rowsOfMark : y_Log_rowsOfMark.cls = R_Log ∧ YO y_Log_rowsOfMark 1 := ⟨rfl, by decide +kernel, by decide +kernel, by decide +kernel⟩
def y_Log_rowsOfPart : MethodName := ⟨R_Log, "rowsOfPart", "(I)I"⟩
abbrev b_Log_rowsOfPart : ByteArray := prog_1_method_31_code
theorem yo_Log_rowsOfPart : y_Log_rowsOfPart.cls = R_Log ∧ YO y_Log_rowsOfPart 1 := ⟨rfl, by decide +kernel, by decide +kernel, by decide +kernel⟩
def y_Log_tableOf : MethodName := ⟨R_Log, "tableOf", "(I)LMarkLog$Marks;"⟩
abbrev b_Log_tableOf : ByteArray := prog_1_method_59_code
theorem yo_Log_tableOf : y_Log_tableOf.cls = R_Log ∧ YO y_Log_tableOf 1 := ⟨rfl, by decide +kernel, by decide +kernel, by decide +kernel⟩
def y_Log_takeBack : MethodName := ⟨R_Log, "takeBack", "(II)Z"⟩
abbrev b_Log_takeBack : ByteArray := prog_1_method_45_code
theorem yo_Log_takeBack : y_Log_takeBack.cls = R_Log ∧ YO y_Log_takeBack 2 := ⟨rfl, by decide +kernel, by decide +kernel, by decide +kernel⟩
def y_Log_told : MethodName := ⟨R_Log, "told", "(I)I"⟩
abbrev b_Log_told : ByteArray := prog_1_method_23_code
theorem yo_Log_told : y_Log_told.cls = R_Log ∧ YO y_Log_told 1 := ⟨rfl, by decide +kernel, by decide +kernel, by decide +kernel⟩
def y_Log_toldOpen : MethodName := ⟨R_Log, "toldOpen", "(I)I"⟩
abbrev b_Log_toldOpen : ByteArray := prog_1_method_68_code
theorem yo_Log_toldOpen : y_Log_toldOpen.cls = R_Log ∧ YO y_Log_toldOpen 1 := ⟨rfl, by decide +kernel, by decide +kernel, by decide +kernel⟩
def y_Log_usable : MethodName := ⟨R_Log, "usable", "()I"⟩
abbrev b_Log_usable : ByteArray := prog_1_method_13_code
theorem yo_Log_usable : y_Log_usable.cls = R_Log ∧ YO y_Log_usable 0 := ⟨rfl, by decide +kernel, by decide +kernel, by decide +kernel⟩
def y_Log_whole : MethodName := ⟨R_Log, "whole", "(I)I"⟩
abbrev b_Log_whole : ByteArray := prog_1_method_14_code
theorem yo_Log_whole : y_Log_whole.cls = R_Log ∧ YO y_Log_whole 1 := ⟨rfl, by decide +kernel, by decide +kernel, by decide +kernel⟩
def y_Log_wipe : MethodName := ⟨R_Log, "wipe", "()I"⟩
abbrev b_Log_wipe : ByteArray := prog_1_method_3_code
theorem yo_Log_wipe : y_Log_wipe.cls = R_Log ∧ YO y_Log_wipe 0 := ⟨rfl, by decide +kernel, by decide +kernel, by decide +kernel⟩
def y_Log_writeImage : MethodName := ⟨R_Log, "writeImage", "(II)Z"⟩
abbrev b_Log_writeImage : ByteArray := prog_1_method_44_code
theorem yo_Log_writeImage : y_Log_writeImage.cls = R_Log ∧ YO y_Log_writeImage 2 := ⟨rfl, by decide +kernel, by decide +kernel, by decide +kernel⟩
def y_Log_writePart : MethodName := ⟨R_Log, "writePart", "(IIJII)Z"⟩
abbrev b_Log_writePart : ByteArray := prog_1_method_38_code
theorem yo_Log_writePart : y_Log_writePart.cls = R_Log ∧ YO y_Log_writePart 5 := ⟨rfl, by decide +kernel, by decide +kernel, by decide +kernel⟩
def y_Log_writeSavepoint : MethodName := ⟨R_Log, "writeSavepoint", "(I)I"⟩
abbrev b_Log_writeSavepoint : ByteArray := prog_1_method_76_code
theorem yo_Log_writeSavepoint : y_Log_writeSavepoint.cls = R_Log ∧ YO y_Log_writeSavepoint 1 := ⟨rfl, by decide +kernel, by decide +kernel, by decide +kernel⟩
def y_Log_writeTape : MethodName := ⟨R_Log, "writeTape", "(IJ)I"⟩
abbrev b_Log_writeTape : ByteArray := prog_1_method_37_code
theorem yo_Log_writeTape : y_Log_writeTape.cls = R_Log ∧ YO y_Log_writeTape 2 := ⟨rfl, by decide +kernel, by decide +kernel, by decide +kernel⟩
def y_Bytes_init : MethodName := ⟨R_Bytes, "<init>", "(I)V"⟩
abbrev b_Bytes_init : ByteArray := prog_2_method_1_code
theorem yo_Bytes_init : y_Bytes_init.cls = R_Bytes ∧ YO y_Bytes_init 1 := ⟨rfl, by decide +kernel, by decide +kernel, by decide +kernel⟩
def y_Bytes_add : MethodName := ⟨R_Bytes, "add", "(JI)V"⟩
abbrev b_Bytes_add : ByteArray := prog_2_method_6_code
theorem yo_Bytes_add : y_Bytes_add.cls = R_Bytes ∧ YO y_Bytes_add 2 := ⟨rfl, by decide +kernel, by decide +kernel, by decide +kernel⟩
def y_Bytes_at : MethodName := ⟨R_Bytes, "at", "(I)I"⟩
abbrev b_Bytes_at : ByteArray := prog_2_method_4_code
theorem yo_Bytes_at : y_Bytes_at.cls = R_Bytes ∧ YO y_Bytes_at 1 := ⟨rfl, by decide +kernel, by decide +kernel, by decide +kernel⟩
def y_Bytes_clear : MethodName := ⟨R_Bytes, "clear", "()V"⟩
abbrev b_Bytes_clear : ByteArray := prog_2_method_3_code
theorem yo_Bytes_clear : y_Bytes_clear.cls = R_Bytes ∧ YO y_Bytes_clear 0 := ⟨rfl, by decide +kernel, by decide +kernel, by decide +kernel⟩
def y_Bytes_digest : MethodName := ⟨R_Bytes, "digest", "(II)J"⟩
abbrev b_Bytes_digest : ByteArray := prog_2_method_9_code
theorem yo_Bytes_digest : y_Bytes_digest.cls = R_Bytes ∧ YO y_Bytes_digest 2 := ⟨rfl, by decide +kernel, by decide +kernel, by decide +kernel⟩
def y_Bytes_isSame : MethodName := ⟨R_Bytes, "isSame", "(LMarkLog$Bytes;)Z"⟩
abbrev b_Bytes_isSame : ByteArray := prog_2_method_10_code
theorem yo_Bytes_isSame : y_Bytes_isSame.cls = R_Bytes ∧ YO y_Bytes_isSame 1 := ⟨rfl, by decide +kernel, by decide +kernel, by decide +kernel⟩
def y_Bytes_number : MethodName := ⟨R_Bytes, "number", "(II)J"⟩
abbrev b_Bytes_number : ByteArray := prog_2_method_5_code
theorem yo_Bytes_number : y_Bytes_number.cls = R_Bytes ∧ YO y_Bytes_number 2 := ⟨rfl, by decide +kernel, by decide +kernel, by decide +kernel⟩
def y_Bytes_put : MethodName := ⟨R_Bytes, "put", "(IJI)V"⟩
abbrev b_Bytes_put : ByteArray := prog_2_method_7_code
theorem yo_Bytes_put : y_Bytes_put.cls = R_Bytes ∧ YO y_Bytes_put 3 := ⟨rfl, by decide +kernel, by decide +kernel, by decide +kernel⟩
def y_Bytes_putByte : MethodName := ⟨R_Bytes, "putByte", "(IJ)V"⟩
abbrev b_Bytes_putByte : ByteArray := prog_2_method_8_code
theorem yo_Bytes_putByte : y_Bytes_putByte.cls = R_Bytes ∧ YO y_Bytes_putByte 2 := ⟨rfl, by decide +kernel, by decide +kernel, by decide +kernel⟩
def y_Bytes_size : MethodName := ⟨R_Bytes, "size", "()I"⟩
abbrev b_Bytes_size : ByteArray := prog_2_method_2_code
theorem yo_Bytes_size : y_Bytes_size.cls = R_Bytes ∧ YO y_Bytes_size 0 := ⟨rfl, by decide +kernel, by decide +kernel, by decide +kernel⟩
def y_Marks_init : MethodName := ⟨R_Marks, "<init>", "(I)V"⟩
abbrev b_Marks_init : ByteArray := prog_3_method_1_code
theorem yo_Marks_init : y_Marks_init.cls = R_Marks ∧ YO y_Marks_init 1 := ⟨rfl, by decide +kernel, by decide +kernel, by decide +kernel⟩
def y_Marks_add : MethodName := ⟨R_Marks, "add", "(IIIJ)I"⟩
abbrev b_Marks_add : ByteArray := prog_3_method_10_code
theorem yo_Marks_add : y_Marks_add.cls = R_Marks ∧ YO y_Marks_add 4 := ⟨rfl, by decide +kernel, by decide +kernel, by decide +kernel⟩
def y_Marks_countAt : MethodName := ⟨R_Marks, "countAt", "(I)I"⟩
abbrev b_Marks_countAt : ByteArray := prog_3_method_5_code
theorem yo_Marks_countAt : y_Marks_countAt.cls = R_Marks ∧ YO y_Marks_countAt 1 := ⟨rfl, by decide +kernel, by decide +kernel, by decide +kernel⟩
def y_Marks_countNaming : MethodName := ⟨R_Marks, "countNaming", "(I)I"⟩
abbrev b_Marks_countNaming : ByteArray := prog_3_method_13_code
theorem yo_Marks_countNaming : y_Marks_countNaming.cls = R_Marks ∧ YO y_Marks_countNaming 1 := ⟨rfl, by decide +kernel, by decide +kernel, by decide +kernel⟩
def y_Marks_digestAt : MethodName := ⟨R_Marks, "digestAt", "(I)J"⟩
abbrev b_Marks_digestAt : ByteArray := prog_3_method_7_code
theorem yo_Marks_digestAt : y_Marks_digestAt.cls = R_Marks ∧ YO y_Marks_digestAt 1 := ⟨rfl, by decide +kernel, by decide +kernel, by decide +kernel⟩
def y_Marks_find : MethodName := ⟨R_Marks, "find", "(I)I"⟩
abbrev b_Marks_find : ByteArray := prog_3_method_3_code
theorem yo_Marks_find : y_Marks_find.cls = R_Marks ∧ YO y_Marks_find 1 := ⟨rfl, by decide +kernel, by decide +kernel, by decide +kernel⟩
def y_Marks_greatestPart : MethodName := ⟨R_Marks, "greatestPart", "()I"⟩
abbrev b_Marks_greatestPart : ByteArray := prog_3_method_15_code
theorem yo_Marks_greatestPart : y_Marks_greatestPart.cls = R_Marks ∧ YO y_Marks_greatestPart 0 := ⟨rfl, by decide +kernel, by decide +kernel, by decide +kernel⟩
def y_Marks_has : MethodName := ⟨R_Marks, "has", "(I)Z"⟩
abbrev b_Marks_has : ByteArray := prog_3_method_17_code
theorem yo_Marks_has : y_Marks_has.cls = R_Marks ∧ YO y_Marks_has 1 := ⟨rfl, by decide +kernel, by decide +kernel, by decide +kernel⟩
def y_Marks_isNaming : MethodName := ⟨R_Marks, "isNaming", "(II)Z"⟩
abbrev b_Marks_isNaming : ByteArray := prog_3_method_14_code
theorem yo_Marks_isNaming : y_Marks_isNaming.cls = R_Marks ∧ YO y_Marks_isNaming 2 := ⟨rfl, by decide +kernel, by decide +kernel, by decide +kernel⟩
def y_Marks_move : MethodName := ⟨R_Marks, "move", "(II)V"⟩
abbrev b_Marks_move : ByteArray := prog_3_method_16_code
theorem yo_Marks_move : y_Marks_move.cls = R_Marks ∧ YO y_Marks_move 2 := ⟨rfl, by decide +kernel, by decide +kernel, by decide +kernel⟩
def y_Marks_numberAt : MethodName := ⟨R_Marks, "numberAt", "(I)I"⟩
abbrev b_Marks_numberAt : ByteArray := prog_3_method_4_code
theorem yo_Marks_numberAt : y_Marks_numberAt.cls = R_Marks ∧ YO y_Marks_numberAt 1 := ⟨rfl, by decide +kernel, by decide +kernel, by decide +kernel⟩
def y_Marks_partAt : MethodName := ⟨R_Marks, "partAt", "(II)I"⟩
abbrev b_Marks_partAt : ByteArray := prog_3_method_8_code
theorem yo_Marks_partAt : y_Marks_partAt.cls = R_Marks ∧ YO y_Marks_partAt 2 := ⟨rfl, by decide +kernel, by decide +kernel, by decide +kernel⟩
def y_Marks_remove : MethodName := ⟨R_Marks, "remove", "(I)V"⟩
abbrev b_Marks_remove : ByteArray := prog_3_method_11_code
theorem yo_Marks_remove : y_Marks_remove.cls = R_Marks ∧ YO y_Marks_remove 1 := ⟨rfl, by decide +kernel, by decide +kernel, by decide +kernel⟩
def y_Marks_removeFirst : MethodName := ⟨R_Marks, "removeFirst", "(I)V"⟩
abbrev b_Marks_removeFirst : ByteArray := prog_3_method_12_code
theorem yo_Marks_removeFirst : y_Marks_removeFirst.cls = R_Marks ∧ YO y_Marks_removeFirst 1 := ⟨rfl, by decide +kernel, by decide +kernel, by decide +kernel⟩
def y_Marks_rowAt : MethodName := ⟨R_Marks, "rowAt", "(I)I"⟩
abbrev b_Marks_rowAt : ByteArray := prog_3_method_6_code
theorem yo_Marks_rowAt : y_Marks_rowAt.cls = R_Marks ∧ YO y_Marks_rowAt 1 := ⟨rfl, by decide +kernel, by decide +kernel, by decide +kernel⟩
def y_Marks_setPart : MethodName := ⟨R_Marks, "setPart", "(III)V"⟩
abbrev b_Marks_setPart : ByteArray := prog_3_method_9_code
theorem yo_Marks_setPart : y_Marks_setPart.cls = R_Marks ∧ YO y_Marks_setPart 3 := ⟨rfl, by decide +kernel, by decide +kernel, by decide +kernel⟩
def y_Marks_size : MethodName := ⟨R_Marks, "size", "()I"⟩
abbrev b_Marks_size : ByteArray := prog_3_method_2_code
theorem yo_Marks_size : y_Marks_size.cls = R_Marks ∧ YO y_Marks_size 0 := ⟨rfl, by decide +kernel, by decide +kernel, by decide +kernel⟩
def y_Medium_init : MethodName := ⟨R_Medium, "<init>", "(I)V"⟩
abbrev b_Medium_init : ByteArray := prog_4_method_1_code
theorem yo_Medium_init : y_Medium_init.cls = R_Medium ∧ YO y_Medium_init 1 := ⟨rfl, by decide +kernel, by decide +kernel, by decide +kernel⟩
def y_Medium_alter : MethodName := ⟨R_Medium, "alter", "(III)V"⟩
abbrev b_Medium_alter : ByteArray := prog_4_method_8_code
theorem yo_Medium_alter : y_Medium_alter.cls = R_Medium ∧ YO y_Medium_alter 3 := ⟨rfl, by decide +kernel, by decide +kernel, by decide +kernel⟩
def y_Medium_at : MethodName := ⟨R_Medium, "at", "(II)I"⟩
abbrev b_Medium_at : ByteArray := prog_4_method_6_code
theorem yo_Medium_at : y_Medium_at.cls = R_Medium ∧ YO y_Medium_at 2 := ⟨rfl, by decide +kernel, by decide +kernel, by decide +kernel⟩
def y_Medium_digest : MethodName := ⟨R_Medium, "digest", "(II)J"⟩
abbrev b_Medium_digest : ByteArray := prog_4_method_10_code
theorem yo_Medium_digest : y_Medium_digest.cls = R_Medium ∧ YO y_Medium_digest 2 := ⟨rfl, by decide +kernel, by decide +kernel, by decide +kernel⟩
def y_Medium_erase : MethodName := ⟨R_Medium, "erase", "(I)Z"⟩
abbrev b_Medium_erase : ByteArray := prog_4_method_13_code
theorem yo_Medium_erase : y_Medium_erase.cls = R_Medium ∧ YO y_Medium_erase 1 := ⟨rfl, by decide +kernel, by decide +kernel, by decide +kernel⟩
def y_Medium_has : MethodName := ⟨R_Medium, "has", "(II)Z"⟩
abbrev b_Medium_has : ByteArray := prog_4_method_5_code
theorem yo_Medium_has : y_Medium_has.cls = R_Medium ∧ YO y_Medium_has 2 := ⟨rfl, by decide +kernel, by decide +kernel, by decide +kernel⟩
def y_Medium_isClear : MethodName := ⟨R_Medium, "isClear", "(I)Z"⟩
abbrev b_Medium_isClear : ByteArray := prog_4_method_9_code
theorem yo_Medium_isClear : y_Medium_isClear.cls = R_Medium ∧ YO y_Medium_isClear 1 := ⟨rfl, by decide +kernel, by decide +kernel, by decide +kernel⟩
def y_Medium_isSumRight : MethodName := ⟨R_Medium, "isSumRight", "(I)Z"⟩
abbrev b_Medium_isSumRight : ByteArray := prog_4_method_11_code
theorem yo_Medium_isSumRight : y_Medium_isSumRight.cls = R_Medium ∧ YO y_Medium_isSumRight 1 := ⟨rfl, by decide +kernel, by decide +kernel, by decide +kernel⟩
def y_Medium_number : MethodName := ⟨R_Medium, "number", "(III)J"⟩
abbrev b_Medium_number : ByteArray := prog_4_method_7_code
theorem yo_Medium_number : y_Medium_number.cls = R_Medium ∧ YO y_Medium_number 3 := ⟨rfl, by decide +kernel, by decide +kernel, by decide +kernel⟩
def y_Medium_rows : MethodName := ⟨R_Medium, "rows", "()I"⟩
abbrev b_Medium_rows : ByteArray := prog_4_method_2_code
theorem yo_Medium_rows : y_Medium_rows.cls = R_Medium ∧ YO y_Medium_rows 0 := ⟨rfl, by decide +kernel, by decide +kernel, by decide +kernel⟩
def y_Medium_setPower : MethodName := ⟨R_Medium, "setPower", "(I)V"⟩
abbrev b_Medium_setPower : ByteArray := prog_4_method_4_code
theorem yo_Medium_setPower : y_Medium_setPower.cls = R_Medium ∧ YO y_Medium_setPower 1 := ⟨rfl, by decide +kernel, by decide +kernel, by decide +kernel⟩
def y_Medium_write : MethodName := ⟨R_Medium, "write", "(ILMarkLog$Bytes;I)Z"⟩
abbrev b_Medium_write : ByteArray := prog_4_method_12_code
theorem yo_Medium_write : y_Medium_write.cls = R_Medium ∧ YO y_Medium_write 3 := ⟨rfl, by decide +kernel, by decide +kernel, by decide +kernel⟩
def y_Medium_writeByte : MethodName := ⟨R_Medium, "writeByte", "(III)Z"⟩
abbrev b_Medium_writeByte : ByteArray := prog_4_method_14_code
theorem yo_Medium_writeByte : y_Medium_writeByte.cls = R_Medium ∧ YO y_Medium_writeByte 3 := ⟨rfl, by decide +kernel, by decide +kernel, by decide +kernel⟩
def y_Medium_written : MethodName := ⟨R_Medium, "written", "()I"⟩
abbrev b_Medium_written : ByteArray := prog_4_method_3_code
theorem yo_Medium_written : y_Medium_written.cls = R_Medium ∧ YO y_Medium_written 0 := ⟨rfl, by decide +kernel, by decide +kernel, by decide +kernel⟩
def y_Parts_init : MethodName := ⟨R_Parts, "<init>", "(I)V"⟩
abbrev b_Parts_init : ByteArray := prog_5_method_1_code
theorem yo_Parts_init : y_Parts_init.cls = R_Parts ∧ YO y_Parts_init 1 := ⟨rfl, by decide +kernel, by decide +kernel, by decide +kernel⟩
def y_Parts_add : MethodName := ⟨R_Parts, "add", "(IIIIJ)V"⟩
abbrev b_Parts_add : ByteArray := prog_5_method_9_code
theorem yo_Parts_add : y_Parts_add.cls = R_Parts ∧ YO y_Parts_add 5 := ⟨rfl, by decide +kernel, by decide +kernel, by decide +kernel⟩
def y_Parts_find : MethodName := ⟨R_Parts, "find", "(I)I"⟩
abbrev b_Parts_find : ByteArray := prog_5_method_3_code
theorem yo_Parts_find : y_Parts_find.cls = R_Parts ∧ YO y_Parts_find 1 := ⟨rfl, by decide +kernel, by decide +kernel, by decide +kernel⟩
def y_Parts_groupAt : MethodName := ⟨R_Parts, "groupAt", "(I)I"⟩
abbrev b_Parts_groupAt : ByteArray := prog_5_method_5_code
theorem yo_Parts_groupAt : y_Parts_groupAt.cls = R_Parts ∧ YO y_Parts_groupAt 1 := ⟨rfl, by decide +kernel, by decide +kernel, by decide +kernel⟩
def y_Parts_has : MethodName := ⟨R_Parts, "has", "(I)Z"⟩
abbrev b_Parts_has : ByteArray := prog_5_method_12_code
theorem yo_Parts_has : y_Parts_has.cls = R_Parts ∧ YO y_Parts_has 1 := ⟨rfl, by decide +kernel, by decide +kernel, by decide +kernel⟩
def y_Parts_lengthAt : MethodName := ⟨R_Parts, "lengthAt", "(I)I"⟩
abbrev b_Parts_lengthAt : ByteArray := prog_5_method_6_code
theorem yo_Parts_lengthAt : y_Parts_lengthAt.cls = R_Parts ∧ YO y_Parts_lengthAt 1 := ⟨rfl, by decide +kernel, by decide +kernel, by decide +kernel⟩
def y_Parts_move : MethodName := ⟨R_Parts, "move", "(II)V"⟩
abbrev b_Parts_move : ByteArray := prog_5_method_10_code
theorem yo_Parts_move : y_Parts_move.cls = R_Parts ∧ YO y_Parts_move 2 := ⟨rfl, by decide +kernel, by decide +kernel, by decide +kernel⟩
def y_Parts_numberAt : MethodName := ⟨R_Parts, "numberAt", "(I)I"⟩
abbrev b_Parts_numberAt : ByteArray := prog_5_method_4_code
theorem yo_Parts_numberAt : y_Parts_numberAt.cls = R_Parts ∧ YO y_Parts_numberAt 1 := ⟨rfl, by decide +kernel, by decide +kernel, by decide +kernel⟩
def y_Parts_positionAt : MethodName := ⟨R_Parts, "positionAt", "(I)J"⟩
abbrev b_Parts_positionAt : ByteArray := prog_5_method_8_code
theorem yo_Parts_positionAt : y_Parts_positionAt.cls = R_Parts ∧ YO y_Parts_positionAt 1 := ⟨rfl, by decide +kernel, by decide +kernel, by decide +kernel⟩
def y_Parts_rowAt : MethodName := ⟨R_Parts, "rowAt", "(I)I"⟩
abbrev b_Parts_rowAt : ByteArray := prog_5_method_7_code
theorem yo_Parts_rowAt : y_Parts_rowAt.cls = R_Parts ∧ YO y_Parts_rowAt 1 := ⟨rfl, by decide +kernel, by decide +kernel, by decide +kernel⟩
def y_Parts_shorten : MethodName := ⟨R_Parts, "shorten", "(I)V"⟩
abbrev b_Parts_shorten : ByteArray := prog_5_method_11_code
theorem yo_Parts_shorten : y_Parts_shorten.cls = R_Parts ∧ YO y_Parts_shorten 1 := ⟨rfl, by decide +kernel, by decide +kernel, by decide +kernel⟩
def y_Parts_size : MethodName := ⟨R_Parts, "size", "()I"⟩
abbrev b_Parts_size : ByteArray := prog_5_method_2_code
theorem yo_Parts_size : y_Parts_size.cls = R_Parts ∧ YO y_Parts_size 0 := ⟨rfl, by decide +kernel, by decide +kernel, by decide +kernel⟩
def y_Room_init : MethodName := ⟨R_Room, "<init>", "(I)V"⟩
abbrev b_Room_init : ByteArray := prog_6_method_1_code
theorem yo_Room_init : y_Room_init.cls = R_Room ∧ YO y_Room_init 1 := ⟨rfl, by decide +kernel, by decide +kernel, by decide +kernel⟩
def y_Room_copyFrom : MethodName := ⟨R_Room, "copyFrom", "(LMarkLog$Room;)V"⟩
abbrev b_Room_copyFrom : ByteArray := prog_6_method_7_code
theorem yo_Room_copyFrom : y_Room_copyFrom.cls = R_Room ∧ YO y_Room_copyFrom 1 := ⟨rfl, by decide +kernel, by decide +kernel, by decide +kernel⟩
def y_Room_countFree : MethodName := ⟨R_Room, "countFree", "()I"⟩
abbrev b_Room_countFree : ByteArray := prog_6_method_3_code
theorem yo_Room_countFree : y_Room_countFree.cls = R_Room ∧ YO y_Room_countFree 0 := ⟨rfl, by decide +kernel, by decide +kernel, by decide +kernel⟩
def y_Room_firstRun : MethodName := ⟨R_Room, "firstRun", "(I)I"⟩
abbrev b_Room_firstRun : ByteArray := prog_6_method_2_code
theorem yo_Room_firstRun : y_Room_firstRun.cls = R_Room ∧ YO y_Room_firstRun 1 := ⟨rfl, by decide +kernel, by decide +kernel, by decide +kernel⟩
def y_Room_free : MethodName := ⟨R_Room, "free", "(II)V"⟩
abbrev b_Room_free : ByteArray := prog_6_method_5_code
theorem yo_Room_free : y_Room_free.cls = R_Room ∧ YO y_Room_free 2 := ⟨rfl, by decide +kernel, by decide +kernel, by decide +kernel⟩
def y_Room_set : MethodName := ⟨R_Room, "set", "(IIZ)V"⟩
abbrev b_Room_set : ByteArray := prog_6_method_6_code
theorem yo_Room_set : y_Room_set.cls = R_Room ∧ YO y_Room_set 3 := ⟨rfl, by decide +kernel, by decide +kernel, by decide +kernel⟩
def y_Room_take : MethodName := ⟨R_Room, "take", "(II)V"⟩
abbrev b_Room_take : ByteArray := prog_6_method_4_code
theorem yo_Room_take : y_Room_take.cls = R_Room ∧ YO y_Room_take 2 := ⟨rfl, by decide +kernel, by decide +kernel, by decide +kernel⟩
set_option maxRecDepth 100000 in
theorem w_max_static : Cond.static Lib.Math.max.name ∈ ALL := ALL_of (i := 105) rfl rfl
set_option maxRecDepth 100000 in
theorem w_max_code : Cond.code Lib.Math.max.name Lib.Math.max.code 2 (some .int) ∈ ALL := ALL_of (i := 106) rfl rfl
set_option maxRecDepth 100000 in
theorem w_min_static : Cond.static Lib.Math.min.name ∈ ALL := ALL_of (i := 102) rfl rfl
set_option maxRecDepth 100000 in
theorem w_min_code : Cond.code Lib.Math.min.name Lib.Math.min.code 2 (some .int) ∈ ALL := ALL_of (i := 103) rfl rfl
set_option maxRecDepth 100000 in
theorem w_math_init : (Jvm.Cond.initialized "java/lang/Math") ∈ ALL := ALL_of (i := 81) rfl rfl
set_option maxRecDepth 100000 in
theorem w_oi_inst : (Jvm.Cond.instanceMethod ({ cls := "java/lang/Object", name := "<init>", desc := "()V" } : Jvm.MethodName)) ∈ ALL := ALL_of (i := 93) rfl rfl
set_option maxRecDepth 100000 in
theorem w_oi_code : (Jvm.Cond.code ({ cls := "java/lang/Object", name := "<init>", desc := "()V" } : Jvm.MethodName) object_method_1_code (1 : Nat) (Option.none : Option Jvm.ClassFile.FieldType)) ∈ ALL := ALL_of (i := 94) rfl rfl
set_option maxRecDepth 100000 in
theorem wf_Log_21 : (Jvm.Cond.fieldLink "MarkLog" (21 : Nat) "MarkLog" "tape" "LMarkLog$Bytes;") ∈ ALL := ALL_of (i := 206) rfl rfl
set_option maxRecDepth 100000 in
theorem wf_Bytes_19 : (Jvm.Cond.fieldLink "MarkLog$Bytes" (19 : Nat) "MarkLog$Bytes" "size" "I") ∈ ALL := ALL_of (i := 129) rfl rfl
set_option maxRecDepth 100000 in
theorem g_Log_73 : CWV R_Log 73 R_Bytes y_Bytes_size b_Bytes_size 1 (some .int) := ⟨ALL_of (i := 255) rfl rfl, ALL_of (i := 256) rfl rfl, ALL_of (i := 257) rfl rfl, ALL_of (i := 82) rfl rfl, ALL_of (i := 258) rfl rfl⟩
set_option maxRecDepth 100000 in
theorem wf_Bytes_13 : (Jvm.Cond.fieldLink "MarkLog$Bytes" (13 : Nat) "MarkLog$Bytes" "bytes" "[B") ∈ ALL := ALL_of (i := 128) rfl rfl
set_option maxRecDepth 100000 in
theorem wm_Bytes_7 : (Jvm.Cond.methodLink "MarkLog$Bytes" (7 : Nat) ({ cls := "java/lang/Math", name := "max", desc := "(II)I" } : Jvm.MethodName)) ∈ ALL := ALL_of (i := 127) rfl rfl
set_option maxRecDepth 100000 in
theorem g_Bytes_31 : CWV R_Bytes 31 R_Bytes y_Bytes_putByte b_Bytes_putByte 4 none := ⟨ALL_of (i := 267) rfl rfl, ALL_of (i := 269) rfl rfl, ALL_of (i := 0) rfl rfl, ALL_of (i := 82) rfl rfl, ALL_of (i := 270) rfl rfl⟩
set_option maxRecDepth 100000 in
theorem g_Bytes_27 : CWV R_Bytes 27 R_Bytes y_Bytes_put b_Bytes_put 6 none := ⟨ALL_of (i := 263) rfl rfl, ALL_of (i := 264) rfl rfl, ALL_of (i := 265) rfl rfl, ALL_of (i := 82) rfl rfl, ALL_of (i := 266) rfl rfl⟩
set_option maxRecDepth 100000 in
theorem g_Log_76 : CWV R_Log 76 R_Bytes y_Bytes_add b_Bytes_add 4 none := ⟨ALL_of (i := 259) rfl rfl, ALL_of (i := 260) rfl rfl, ALL_of (i := 261) rfl rfl, ALL_of (i := 82) rfl rfl, ALL_of (i := 262) rfl rfl⟩
set_option maxRecDepth 100000 in
theorem g_Log_80 : CWV R_Log 80 R_Bytes y_Bytes_clear b_Bytes_clear 2 none := ⟨ALL_of (i := 275) rfl rfl, ALL_of (i := 276) rfl rfl, ALL_of (i := 277) rfl rfl, ALL_of (i := 82) rfl rfl, ALL_of (i := 278) rfl rfl⟩
set_option maxRecDepth 100000 in
theorem wf_Log_69 : (Jvm.Cond.fieldLink "MarkLog" (69 : Nat) "MarkLog" "isOpen" "Z") ∈ ALL := ALL_of (i := 219) rfl rfl
set_option maxRecDepth 100000 in
theorem g_Log_132 : CWS R_Log 132 y_Log_isGroup b_Log_isGroup 1 (some .boolean) := ⟨ALL_of (i := 287) rfl rfl, ALL_of (i := 288) rfl rfl, ALL_of (i := 79) rfl rfl, ALL_of (i := 289) rfl rfl⟩
set_option maxRecDepth 100000 in
theorem wf_Log_268 : (Jvm.Cond.fieldLink "MarkLog" (268 : Nat) "MarkLog" "greatestPart" "I") ∈ ALL := ALL_of (i := 217) rfl rfl
set_option maxRecDepth 100000 in
theorem wc_Log_93 : (Jvm.Cond.constant "MarkLog" (93 : Nat) (1000000000 : Int32)) ∈ ALL := ALL_of (i := 290) rfl rfl
set_option maxRecDepth 100000 in
theorem wf_Log_41 : (Jvm.Cond.fieldLink "MarkLog" (41 : Nat) "MarkLog" "room" "LMarkLog$Room;") ∈ ALL := ALL_of (i := 210) rfl rfl
set_option maxRecDepth 100000 in
theorem g_Log_259 : CWS R_Log 259 y_Log_bodiesOf b_Log_bodiesOf 1 (some .int) := ⟨ALL_of (i := 294) rfl rfl, ALL_of (i := 295) rfl rfl, ALL_of (i := 79) rfl rfl, ALL_of (i := 296) rfl rfl⟩
set_option maxRecDepth 100000 in
theorem g_Log_270 : CWS R_Log 270 y_Log_rowsOfPart b_Log_rowsOfPart 1 (some .int) := ⟨ALL_of (i := 291) rfl rfl, ALL_of (i := 292) rfl rfl, ALL_of (i := 79) rfl rfl, ALL_of (i := 293) rfl rfl⟩
set_option maxRecDepth 100000 in
theorem wf_Room_15 : (Jvm.Cond.fieldLink "MarkLog$Room" (15 : Nat) "MarkLog$Room" "taken" "[Z") ∈ ALL := ALL_of (i := 146) rfl rfl
set_option maxRecDepth 100000 in
theorem g_Log_107 : CWV R_Log 107 R_Room y_Room_firstRun b_Room_firstRun 4 (some .int) := ⟨ALL_of (i := 297) rfl rfl, ALL_of (i := 298) rfl rfl, ALL_of (i := 299) rfl rfl, ALL_of (i := 83) rfl rfl, ALL_of (i := 300) rfl rfl⟩
set_option maxRecDepth 100000 in
theorem wf_Log_25 : (Jvm.Cond.fieldLink "MarkLog" (25 : Nat) "MarkLog" "image" "LMarkLog$Bytes;") ∈ ALL := ALL_of (i := 207) rfl rfl
set_option maxRecDepth 100000 in
theorem g_Log_286 : CWV R_Log 286 R_Bytes y_Bytes_put b_Bytes_put 6 none := ⟨ALL_of (i := 310) rfl rfl, ALL_of (i := 264) rfl rfl, ALL_of (i := 265) rfl rfl, ALL_of (i := 82) rfl rfl, ALL_of (i := 266) rfl rfl⟩
set_option maxRecDepth 100000 in
theorem g_Bytes_23 : CWV R_Bytes 23 R_Bytes y_Bytes_at b_Bytes_at 2 (some .int) := ⟨ALL_of (i := 319) rfl rfl, ALL_of (i := 312) rfl rfl, ALL_of (i := 313) rfl rfl, ALL_of (i := 82) rfl rfl, ALL_of (i := 314) rfl rfl⟩
set_option maxRecDepth 100000 in
theorem wc_Log_255 : (Jvm.Cond.constantLong "MarkLog" (255 : Nat) (-4417276706812531889 : Int64)) ∈ ALL := ALL_of (i := 323) rfl rfl
set_option maxRecDepth 100000 in
theorem g_Bytes_35 : CWN R_Bytes 35 y_Log_digestStep "MarkLog" b_Log_digestStep 5 (some .long) := ⟨List.mem_of_getElem? (i := 0) (by decide +kernel), ALL_of (i := 321) rfl rfl, ALL_of (i := 79) rfl rfl, ALL_of (i := 322) rfl rfl⟩
set_option maxRecDepth 100000 in
theorem g_Log_290 : CWV R_Log 290 R_Bytes y_Bytes_digest b_Bytes_digest 6 (some .long) := ⟨ALL_of (i := 315) rfl rfl, ALL_of (i := 316) rfl rfl, ALL_of (i := 317) rfl rfl, ALL_of (i := 82) rfl rfl, ALL_of (i := 318) rfl rfl⟩
set_option maxRecDepth 100000 in
theorem g_Log_294 : CWV R_Log 294 R_Log y_Log_drawSum b_Log_drawSum 1 none := ⟨ALL_of (i := 324) rfl rfl, ALL_of (i := 326) rfl rfl, ALL_of (i := 4) rfl rfl, ALL_of (i := 79) rfl rfl, ALL_of (i := 327) rfl rfl⟩
set_option maxRecDepth 100000 in
theorem g_Log_239 : CWV R_Log 239 R_Bytes y_Bytes_at b_Bytes_at 2 (some .int) := ⟨ALL_of (i := 311) rfl rfl, ALL_of (i := 312) rfl rfl, ALL_of (i := 313) rfl rfl, ALL_of (i := 82) rfl rfl, ALL_of (i := 314) rfl rfl⟩
set_option maxRecDepth 100000 in
theorem wc_Log_284 : (Jvm.Cond.constantLong "MarkLog" (284 : Nat) (5 : Int64)) ∈ ALL := ALL_of (i := 309) rfl rfl
set_option maxRecDepth 100000 in
theorem g_Log_277 : CWV R_Log 277 R_Log y_Log_drawPart b_Log_drawPart 8 none := ⟨ALL_of (i := 305) rfl rfl, ALL_of (i := 307) rfl rfl, ALL_of (i := 3) rfl rfl, ALL_of (i := 79) rfl rfl, ALL_of (i := 308) rfl rfl⟩
set_option maxRecDepth 100000 in
theorem g_Room_21 : CWV R_Room 21 R_Room y_Room_set b_Room_set 6 none := ⟨ALL_of (i := 349) rfl rfl, ALL_of (i := 351) rfl rfl, ALL_of (i := 7) rfl rfl, ALL_of (i := 83) rfl rfl, ALL_of (i := 352) rfl rfl⟩
set_option maxRecDepth 100000 in
theorem g_Log_321 : CWV R_Log 321 R_Room y_Room_take b_Room_take 3 none := ⟨ALL_of (i := 345) rfl rfl, ALL_of (i := 346) rfl rfl, ALL_of (i := 347) rfl rfl, ALL_of (i := 83) rfl rfl, ALL_of (i := 348) rfl rfl⟩
set_option maxRecDepth 100000 in
theorem wf_Log_14 : (Jvm.Cond.fieldLink "MarkLog" (14 : Nat) "MarkLog" "medium" "LMarkLog$Medium;") ∈ ALL := ALL_of (i := 205) rfl rfl
set_option maxRecDepth 100000 in
theorem g_Medium_49 : CWV R_Medium 49 R_Bytes y_Bytes_at b_Bytes_at 2 (some .int) := ⟨ALL_of (i := 336) rfl rfl, ALL_of (i := 312) rfl rfl, ALL_of (i := 313) rfl rfl, ALL_of (i := 82) rfl rfl, ALL_of (i := 314) rfl rfl⟩
set_option maxRecDepth 100000 in
theorem wf_Medium_28 : (Jvm.Cond.fieldLink "MarkLog$Medium" (28 : Nat) "MarkLog$Medium" "power" "I") ∈ ALL := ALL_of (i := 109) rfl rfl
set_option maxRecDepth 100000 in
theorem wf_Medium_18 : (Jvm.Cond.fieldLink "MarkLog$Medium" (18 : Nat) "MarkLog$Medium" "rows" "I") ∈ ALL := ALL_of (i := 107) rfl rfl
set_option maxRecDepth 100000 in
theorem g_Medium_34 : CWV R_Medium 34 R_Medium y_Medium_has b_Medium_has 3 (some .boolean) := ⟨ALL_of (i := 341) rfl rfl, ALL_of (i := 342) rfl rfl, ALL_of (i := 343) rfl rfl, ALL_of (i := 80) rfl rfl, ALL_of (i := 344) rfl rfl⟩
set_option maxRecDepth 100000 in
theorem wf_Medium_31 : (Jvm.Cond.fieldLink "MarkLog$Medium" (31 : Nat) "MarkLog$Medium" "written" "I") ∈ ALL := ALL_of (i := 110) rfl rfl
set_option maxRecDepth 100000 in
theorem wf_Medium_24 : (Jvm.Cond.fieldLink "MarkLog$Medium" (24 : Nat) "MarkLog$Medium" "bytes" "[B") ∈ ALL := ALL_of (i := 108) rfl rfl
set_option maxRecDepth 100000 in
theorem g_Medium_54 : CWV R_Medium 54 R_Medium y_Medium_writeByte b_Medium_writeByte 4 (some .boolean) := ⟨ALL_of (i := 337) rfl rfl, ALL_of (i := 339) rfl rfl, ALL_of (i := 6) rfl rfl, ALL_of (i := 80) rfl rfl, ALL_of (i := 340) rfl rfl⟩
set_option maxRecDepth 100000 in
theorem g_Log_317 : CWV R_Log 317 R_Medium y_Medium_write b_Medium_write 5 (some .boolean) := ⟨ALL_of (i := 332) rfl rfl, ALL_of (i := 333) rfl rfl, ALL_of (i := 334) rfl rfl, ALL_of (i := 80) rfl rfl, ALL_of (i := 335) rfl rfl⟩
set_option maxRecDepth 100000 in
theorem g_Log_114 : CWV R_Log 114 R_Log y_Log_writeImage b_Log_writeImage 4 (some .boolean) := ⟨ALL_of (i := 328) rfl rfl, ALL_of (i := 330) rfl rfl, ALL_of (i := 5) rfl rfl, ALL_of (i := 79) rfl rfl, ALL_of (i := 331) rfl rfl⟩
set_option maxRecDepth 100000 in
theorem wf_Log_51 : (Jvm.Cond.fieldLink "MarkLog" (51 : Nat) "MarkLog" "parts" "LMarkLog$Parts;") ∈ ALL := ALL_of (i := 212) rfl rfl
set_option maxRecDepth 100000 in
theorem wf_Parts_34 : (Jvm.Cond.fieldLink "MarkLog$Parts" (34 : Nat) "MarkLog$Parts" "size" "I") ∈ ALL := ALL_of (i := 163) rfl rfl
set_option maxRecDepth 100000 in
theorem wf_Parts_15 : (Jvm.Cond.fieldLink "MarkLog$Parts" (15 : Nat) "MarkLog$Parts" "numbers" "[I") ∈ ALL := ALL_of (i := 158) rfl rfl
set_option maxRecDepth 100000 in
theorem wm_Log_265 : (Jvm.Cond.methodLink "MarkLog" (265 : Nat) ({ cls := "java/lang/Math", name := "min", desc := "(II)I" } : Jvm.MethodName)) ∈ ALL := ALL_of (i := 360) rfl rfl
set_option maxRecDepth 100000 in
theorem g_Parts_38 : CWN R_Parts 38 y_Log_placeOf "MarkLog" b_Log_placeOf 6 (some .int) := ⟨List.mem_of_getElem? (i := 1) (by decide +kernel), ALL_of (i := 358) rfl rfl, ALL_of (i := 79) rfl rfl, ALL_of (i := 359) rfl rfl⟩
set_option maxRecDepth 100000 in
theorem g_Parts_46 : CWV R_Parts 46 R_Parts y_Parts_has b_Parts_has 2 (some .boolean) := ⟨ALL_of (i := 365) rfl rfl, ALL_of (i := 367) rfl rfl, ALL_of (i := 8) rfl rfl, ALL_of (i := 84) rfl rfl, ALL_of (i := 368) rfl rfl⟩
set_option maxRecDepth 100000 in
theorem wf_Parts_21 : (Jvm.Cond.fieldLink "MarkLog$Parts" (21 : Nat) "MarkLog$Parts" "groups" "[I") ∈ ALL := ALL_of (i := 159) rfl rfl
set_option maxRecDepth 100000 in
theorem wf_Parts_24 : (Jvm.Cond.fieldLink "MarkLog$Parts" (24 : Nat) "MarkLog$Parts" "lengths" "[I") ∈ ALL := ALL_of (i := 160) rfl rfl
set_option maxRecDepth 100000 in
theorem wf_Parts_27 : (Jvm.Cond.fieldLink "MarkLog$Parts" (27 : Nat) "MarkLog$Parts" "rows" "[I") ∈ ALL := ALL_of (i := 161) rfl rfl
set_option maxRecDepth 100000 in
theorem wf_Parts_30 : (Jvm.Cond.fieldLink "MarkLog$Parts" (30 : Nat) "MarkLog$Parts" "positions" "[J") ∈ ALL := ALL_of (i := 162) rfl rfl
set_option maxRecDepth 100000 in
theorem g_Parts_52 : CWV R_Parts 52 R_Parts y_Parts_move b_Parts_move 3 none := ⟨ALL_of (i := 361) rfl rfl, ALL_of (i := 362) rfl rfl, ALL_of (i := 363) rfl rfl, ALL_of (i := 84) rfl rfl, ALL_of (i := 364) rfl rfl⟩
set_option maxRecDepth 100000 in
theorem g_Log_281 : CWV R_Log 281 R_Parts y_Parts_add b_Parts_add 9 none := ⟨ALL_of (i := 353) rfl rfl, ALL_of (i := 354) rfl rfl, ALL_of (i := 355) rfl rfl, ALL_of (i := 84) rfl rfl, ALL_of (i := 356) rfl rfl⟩
set_option maxRecDepth 100000 in
theorem g_Log_273 : CWV R_Log 273 R_Log y_Log_writePart b_Log_writePart 8 (some .boolean) := ⟨ALL_of (i := 301) rfl rfl, ALL_of (i := 303) rfl rfl, ALL_of (i := 2) rfl rfl, ALL_of (i := 79) rfl rfl, ALL_of (i := 304) rfl rfl⟩
set_option maxRecDepth 100000 in
theorem g_Log_83 : CWV R_Log 83 R_Log y_Log_writeTape b_Log_writeTape 6 (some .int) := ⟨ALL_of (i := 283) rfl rfl, ALL_of (i := 285) rfl rfl, ALL_of (i := 1) rfl rfl, ALL_of (i := 79) rfl rfl, ALL_of (i := 286) rfl rfl⟩
set_option maxRecDepth 100000 in
theorem g_Log_87 : CWV R_Log 87 R_Parts y_Parts_size b_Parts_size 1 (some .int) := ⟨ALL_of (i := 373) rfl rfl, ALL_of (i := 374) rfl rfl, ALL_of (i := 375) rfl rfl, ALL_of (i := 84) rfl rfl, ALL_of (i := 376) rfl rfl⟩
set_option maxRecDepth 100000 in
theorem wf_Log_62 : (Jvm.Cond.fieldLink "MarkLog" (62 : Nat) "MarkLog" "made" "LMarkLog$Marks;") ∈ ALL := ALL_of (i := 214) rfl rfl
set_option maxRecDepth 100000 in
theorem wf_Marks_34 : (Jvm.Cond.fieldLink "MarkLog$Marks" (34 : Nat) "MarkLog$Marks" "size" "I") ∈ ALL := ALL_of (i := 191) rfl rfl
set_option maxRecDepth 100000 in
theorem g_Log_88 : CWV R_Log 88 R_Marks y_Marks_size b_Marks_size 1 (some .int) := ⟨ALL_of (i := 377) rfl rfl, ALL_of (i := 378) rfl rfl, ALL_of (i := 379) rfl rfl, ALL_of (i := 85) rfl rfl, ALL_of (i := 380) rfl rfl⟩
set_option maxRecDepth 100000 in
theorem wf_Log_89 : (Jvm.Cond.fieldLink "MarkLog" (89 : Nat) "MarkLog" "greatestMark" "I") ∈ ALL := ALL_of (i := 218) rfl rfl
set_option maxRecDepth 100000 in
theorem wf_Marks_15 : (Jvm.Cond.fieldLink "MarkLog$Marks" (15 : Nat) "MarkLog$Marks" "numbers" "[I") ∈ ALL := ALL_of (i := 186) rfl rfl
set_option maxRecDepth 100000 in
theorem g_Marks_38 : CWN R_Marks 38 y_Log_placeOf "MarkLog" b_Log_placeOf 6 (some .int) := ⟨List.mem_of_getElem? (i := 2) (by decide +kernel), ALL_of (i := 358) rfl rfl, ALL_of (i := 79) rfl rfl, ALL_of (i := 359) rfl rfl⟩
set_option maxRecDepth 100000 in
theorem g_Marks_46 : CWV R_Marks 46 R_Marks y_Marks_has b_Marks_has 2 (some .boolean) := ⟨ALL_of (i := 394) rfl rfl, ALL_of (i := 396) rfl rfl, ALL_of (i := 11) rfl rfl, ALL_of (i := 85) rfl rfl, ALL_of (i := 397) rfl rfl⟩
set_option maxRecDepth 100000 in
theorem wf_Marks_21 : (Jvm.Cond.fieldLink "MarkLog$Marks" (21 : Nat) "MarkLog$Marks" "counts" "[I") ∈ ALL := ALL_of (i := 187) rfl rfl
set_option maxRecDepth 100000 in
theorem wm_Marks_57 : (Jvm.Cond.methodLink "MarkLog$Marks" (57 : Nat) ({ cls := "java/lang/Math", name := "min", desc := "(II)I" } : Jvm.MethodName)) ∈ ALL := ALL_of (i := 398) rfl rfl
set_option maxRecDepth 100000 in
theorem wm_Marks_9 : (Jvm.Cond.methodLink "MarkLog$Marks" (9 : Nat) ({ cls := "java/lang/Math", name := "max", desc := "(II)I" } : Jvm.MethodName)) ∈ ALL := ALL_of (i := 185) rfl rfl
set_option maxRecDepth 100000 in
theorem wf_Marks_24 : (Jvm.Cond.fieldLink "MarkLog$Marks" (24 : Nat) "MarkLog$Marks" "rows" "[I") ∈ ALL := ALL_of (i := 188) rfl rfl
set_option maxRecDepth 100000 in
theorem wf_Marks_27 : (Jvm.Cond.fieldLink "MarkLog$Marks" (27 : Nat) "MarkLog$Marks" "digests" "[J") ∈ ALL := ALL_of (i := 190) rfl rfl
set_option maxRecDepth 100000 in
theorem wf_Marks_31 : (Jvm.Cond.fieldLink "MarkLog$Marks" (31 : Nat) "MarkLog$Marks" "partNumbers" "[I") ∈ ALL := ALL_of (i := 189) rfl rfl
set_option maxRecDepth 100000 in
theorem g_Marks_53 : CWV R_Marks 53 R_Marks y_Marks_move b_Marks_move 4 none := ⟨ALL_of (i := 390) rfl rfl, ALL_of (i := 392) rfl rfl, ALL_of (i := 10) rfl rfl, ALL_of (i := 85) rfl rfl, ALL_of (i := 393) rfl rfl⟩
set_option maxRecDepth 100000 in
theorem g_Log_118 : CWV R_Log 118 R_Marks y_Marks_add b_Marks_add 8 (some .int) := ⟨ALL_of (i := 385) rfl rfl, ALL_of (i := 386) rfl rfl, ALL_of (i := 387) rfl rfl, ALL_of (i := 85) rfl rfl, ALL_of (i := 388) rfl rfl⟩
set_option maxRecDepth 100000 in
theorem g_Log_330 : CWV R_Log 330 R_Parts y_Parts_numberAt b_Parts_numberAt 2 (some .int) := ⟨ALL_of (i := 399) rfl rfl, ALL_of (i := 400) rfl rfl, ALL_of (i := 401) rfl rfl, ALL_of (i := 84) rfl rfl, ALL_of (i := 402) rfl rfl⟩
set_option maxRecDepth 100000 in
theorem g_Marks_50 : CWV R_Marks 50 R_Marks y_Marks_countAt b_Marks_countAt 2 (some .int) := ⟨ALL_of (i := 407) rfl rfl, ALL_of (i := 408) rfl rfl, ALL_of (i := 409) rfl rfl, ALL_of (i := 85) rfl rfl, ALL_of (i := 410) rfl rfl⟩
set_option maxRecDepth 100000 in
theorem g_Log_125 : CWV R_Log 125 R_Marks y_Marks_setPart b_Marks_setPart 4 none := ⟨ALL_of (i := 403) rfl rfl, ALL_of (i := 404) rfl rfl, ALL_of (i := 405) rfl rfl, ALL_of (i := 85) rfl rfl, ALL_of (i := 406) rfl rfl⟩
set_option maxRecDepth 100000 in
theorem g_Log_94 : CWV R_Log 94 R_Log y_Log_makeMark b_Log_makeMark 5 (some .int) := ⟨ALL_of (i := 381) rfl rfl, ALL_of (i := 383) rfl rfl, ALL_of (i := 9) rfl rfl, ALL_of (i := 79) rfl rfl, ALL_of (i := 384) rfl rfl⟩
set_option maxRecDepth 100000 in
theorem g_Marks_42 : CWV R_Marks 42 R_Marks y_Marks_numberAt b_Marks_numberAt 2 (some .int) := ⟨ALL_of (i := 419) rfl rfl, ALL_of (i := 420) rfl rfl, ALL_of (i := 421) rfl rfl, ALL_of (i := 85) rfl rfl, ALL_of (i := 422) rfl rfl⟩
set_option maxRecDepth 100000 in
theorem g_Log_98 : CWV R_Log 98 R_Marks y_Marks_find b_Marks_find 3 (some .int) := ⟨ALL_of (i := 415) rfl rfl, ALL_of (i := 416) rfl rfl, ALL_of (i := 417) rfl rfl, ALL_of (i := 85) rfl rfl, ALL_of (i := 418) rfl rfl⟩
set_option maxRecDepth 100000 in
theorem g_Log_101 : CWV R_Log 101 R_Marks y_Marks_countAt b_Marks_countAt 2 (some .int) := ⟨ALL_of (i := 423) rfl rfl, ALL_of (i := 408) rfl rfl, ALL_of (i := 409) rfl rfl, ALL_of (i := 85) rfl rfl, ALL_of (i := 410) rfl rfl⟩
set_option maxRecDepth 100000 in
theorem g_Log_262 : CWS R_Log 262 y_Log_entriesOf b_Log_entriesOf 1 (some .int) := ⟨ALL_of (i := 427) rfl rfl, ALL_of (i := 428) rfl rfl, ALL_of (i := 79) rfl rfl, ALL_of (i := 429) rfl rfl⟩
set_option maxRecDepth 100000 in
theorem g_Log_104 : CWS R_Log 104 y_Log_rowsOfMark b_Log_rowsOfMark 1 (some .int) := ⟨ALL_of (i := 424) rfl rfl, ALL_of (i := 425) rfl rfl, ALL_of (i := 79) rfl rfl, ALL_of (i := 426) rfl rfl⟩
set_option maxRecDepth 100000 in
theorem wc_Log_301 : (Jvm.Cond.constantLong "MarkLog" (301 : Nat) (2 : Int64)) ∈ ALL := ALL_of (i := 466) rfl rfl
set_option maxRecDepth 100000 in
theorem g_Log_172 : CWV R_Log 172 R_Marks y_Marks_numberAt b_Marks_numberAt 2 (some .int) := ⟨ALL_of (i := 467) rfl rfl, ALL_of (i := 420) rfl rfl, ALL_of (i := 421) rfl rfl, ALL_of (i := 85) rfl rfl, ALL_of (i := 422) rfl rfl⟩
set_option maxRecDepth 100000 in
theorem g_Log_121 : CWV R_Log 121 R_Marks y_Marks_partAt b_Marks_partAt 3 (some .int) := ⟨ALL_of (i := 434) rfl rfl, ALL_of (i := 435) rfl rfl, ALL_of (i := 436) rfl rfl, ALL_of (i := 85) rfl rfl, ALL_of (i := 437) rfl rfl⟩
set_option maxRecDepth 100000 in
theorem g_Parts_42 : CWV R_Parts 42 R_Parts y_Parts_numberAt b_Parts_numberAt 2 (some .int) := ⟨ALL_of (i := 446) rfl rfl, ALL_of (i := 400) rfl rfl, ALL_of (i := 401) rfl rfl, ALL_of (i := 84) rfl rfl, ALL_of (i := 402) rfl rfl⟩
set_option maxRecDepth 100000 in
theorem g_Log_186 : CWV R_Log 186 R_Parts y_Parts_find b_Parts_find 3 (some .int) := ⟨ALL_of (i := 442) rfl rfl, ALL_of (i := 443) rfl rfl, ALL_of (i := 444) rfl rfl, ALL_of (i := 84) rfl rfl, ALL_of (i := 445) rfl rfl⟩
set_option maxRecDepth 100000 in
theorem g_Log_198 : CWV R_Log 198 R_Parts y_Parts_rowAt b_Parts_rowAt 2 (some .int) := ⟨ALL_of (i := 447) rfl rfl, ALL_of (i := 448) rfl rfl, ALL_of (i := 449) rfl rfl, ALL_of (i := 84) rfl rfl, ALL_of (i := 450) rfl rfl⟩
set_option maxRecDepth 100000 in
theorem g_Log_303 : CWS R_Log 303 y_Log_entryRow b_Log_entryRow 2 (some .int) := ⟨ALL_of (i := 451) rfl rfl, ALL_of (i := 452) rfl rfl, ALL_of (i := 79) rfl rfl, ALL_of (i := 453) rfl rfl⟩
set_option maxRecDepth 100000 in
theorem wc_Log_306 : (Jvm.Cond.constantLong "MarkLog" (306 : Nat) (6 : Int64)) ∈ ALL := ALL_of (i := 454) rfl rfl
set_option maxRecDepth 100000 in
theorem g_Log_308 : CWS R_Log 308 y_Log_entryByte b_Log_entryByte 1 (some .int) := ⟨ALL_of (i := 455) rfl rfl, ALL_of (i := 456) rfl rfl, ALL_of (i := 79) rfl rfl, ALL_of (i := 457) rfl rfl⟩
set_option maxRecDepth 100000 in
theorem g_Medium_38 : CWV R_Medium 38 R_Medium y_Medium_at b_Medium_at 3 (some .int) := ⟨ALL_of (i := 462) rfl rfl, ALL_of (i := 463) rfl rfl, ALL_of (i := 464) rfl rfl, ALL_of (i := 80) rfl rfl, ALL_of (i := 465) rfl rfl⟩
set_option maxRecDepth 100000 in
theorem g_Log_311 : CWV R_Log 311 R_Medium y_Medium_number b_Medium_number 7 (some .long) := ⟨ALL_of (i := 458) rfl rfl, ALL_of (i := 459) rfl rfl, ALL_of (i := 460) rfl rfl, ALL_of (i := 80) rfl rfl, ALL_of (i := 461) rfl rfl⟩
set_option maxRecDepth 100000 in
theorem g_Log_297 : CWV R_Log 297 R_Log y_Log_drawEntry b_Log_drawEntry 5 none := ⟨ALL_of (i := 438) rfl rfl, ALL_of (i := 440) rfl rfl, ALL_of (i := 13) rfl rfl, ALL_of (i := 79) rfl rfl, ALL_of (i := 441) rfl rfl⟩
set_option maxRecDepth 100000 in
theorem g_Log_110 : CWV R_Log 110 R_Log y_Log_drawMark b_Log_drawMark 5 (some .long) := ⟨ALL_of (i := 430) rfl rfl, ALL_of (i := 432) rfl rfl, ALL_of (i := 12) rfl rfl, ALL_of (i := 79) rfl rfl, ALL_of (i := 433) rfl rfl⟩
set_option maxRecDepth 100000 in
theorem wf_Log_58 : (Jvm.Cond.fieldLink "MarkLog" (58 : Nat) "MarkLog" "kept" "LMarkLog$Marks;") ∈ ALL := ALL_of (i := 213) rfl rfl
set_option maxRecDepth 100000 in
theorem g_Log_129 : CWV R_Log 129 R_Marks y_Marks_remove b_Marks_remove 3 none := ⟨ALL_of (i := 468) rfl rfl, ALL_of (i := 469) rfl rfl, ALL_of (i := 470) rfl rfl, ALL_of (i := 85) rfl rfl, ALL_of (i := 471) rfl rfl⟩
set_option maxRecDepth 100000 in
theorem wf_Log_65 : (Jvm.Cond.fieldLink "MarkLog" (65 : Nat) "MarkLog" "owners" "[I") ∈ ALL := ALL_of (i := 215) rfl rfl
set_option maxRecDepth 100000 in
theorem wc_Log_136 : (Jvm.Cond.constant "MarkLog" (136 : Nat) (65535 : Int32)) ∈ ALL := ALL_of (i := 480) rfl rfl
set_option maxRecDepth 100000 in
theorem wf_Log_137 : (Jvm.Cond.fieldLink "MarkLog" (137 : Nat) "MarkLog" "serial" "I") ∈ ALL := ALL_of (i := 216) rfl rfl
set_option maxRecDepth 100000 in
theorem wc_Log_315 : (Jvm.Cond.constantLong "MarkLog" (315 : Nat) (4 : Int64)) ∈ ALL := ALL_of (i := 485) rfl rfl
set_option maxRecDepth 100000 in
theorem g_Log_140 : CWV R_Log 140 R_Log y_Log_drawHead b_Log_drawHead 2 none := ⟨ALL_of (i := 481) rfl rfl, ALL_of (i := 483) rfl rfl, ALL_of (i := 14) rfl rfl, ALL_of (i := 79) rfl rfl, ALL_of (i := 484) rfl rfl⟩
set_option maxRecDepth 100000 in
theorem g_Marks_64 : CWV R_Marks 64 R_Marks y_Marks_partAt b_Marks_partAt 3 (some .int) := ⟨ALL_of (i := 494) rfl rfl, ALL_of (i := 435) rfl rfl, ALL_of (i := 436) rfl rfl, ALL_of (i := 85) rfl rfl, ALL_of (i := 437) rfl rfl⟩
set_option maxRecDepth 100000 in
theorem g_Log_143 : CWV R_Log 143 R_Marks y_Marks_greatestPart b_Marks_greatestPart 3 (some .int) := ⟨ALL_of (i := 490) rfl rfl, ALL_of (i := 491) rfl rfl, ALL_of (i := 492) rfl rfl, ALL_of (i := 85) rfl rfl, ALL_of (i := 493) rfl rfl⟩
set_option maxRecDepth 100000 in
theorem g_Log_334 : CWV R_Log 334 R_Marks y_Marks_removeFirst b_Marks_removeFirst 3 none := ⟨ALL_of (i := 515) rfl rfl, ALL_of (i := 516) rfl rfl, ALL_of (i := 517) rfl rfl, ALL_of (i := 85) rfl rfl, ALL_of (i := 518) rfl rfl⟩
set_option maxRecDepth 100000 in
theorem g_Log_216 : CWV R_Log 216 R_Marks y_Marks_rowAt b_Marks_rowAt 2 (some .int) := ⟨ALL_of (i := 499) rfl rfl, ALL_of (i := 500) rfl rfl, ALL_of (i := 501) rfl rfl, ALL_of (i := 85) rfl rfl, ALL_of (i := 502) rfl rfl⟩
set_option maxRecDepth 100000 in
theorem g_Log_327 : CWV R_Log 327 R_Room y_Room_free b_Room_free 3 none := ⟨ALL_of (i := 511) rfl rfl, ALL_of (i := 512) rfl rfl, ALL_of (i := 513) rfl rfl, ALL_of (i := 83) rfl rfl, ALL_of (i := 514) rfl rfl⟩
set_option maxRecDepth 100000 in
theorem g_Log_324 : CWV R_Log 324 R_Medium y_Medium_erase b_Medium_erase 3 (some .boolean) := ⟨ALL_of (i := 507) rfl rfl, ALL_of (i := 508) rfl rfl, ALL_of (i := 509) rfl rfl, ALL_of (i := 80) rfl rfl, ALL_of (i := 510) rfl rfl⟩
set_option maxRecDepth 100000 in
theorem g_Log_331 : CWV R_Log 331 R_Log y_Log_takeBack b_Log_takeBack 4 (some .boolean) := ⟨ALL_of (i := 503) rfl rfl, ALL_of (i := 505) rfl rfl, ALL_of (i := 16) rfl rfl, ALL_of (i := 79) rfl rfl, ALL_of (i := 506) rfl rfl⟩
set_option maxRecDepth 100000 in
theorem g_Log_146 : CWV R_Log 146 R_Log y_Log_dropMarks b_Log_dropMarks 3 (some .boolean) := ⟨ALL_of (i := 495) rfl rfl, ALL_of (i := 497) rfl rfl, ALL_of (i := 15) rfl rfl, ALL_of (i := 79) rfl rfl, ALL_of (i := 498) rfl rfl⟩
set_option maxRecDepth 100000 in
theorem wm_Parts_56 : (Jvm.Cond.methodLink "MarkLog$Parts" (56 : Nat) ({ cls := "java/lang/Math", name := "min", desc := "(II)I" } : Jvm.MethodName)) ∈ ALL := ALL_of (i := 544) rfl rfl
set_option maxRecDepth 100000 in
theorem wm_Parts_9 : (Jvm.Cond.methodLink "MarkLog$Parts" (9 : Nat) ({ cls := "java/lang/Math", name := "max", desc := "(II)I" } : Jvm.MethodName)) ∈ ALL := ALL_of (i := 157) rfl rfl
set_option maxRecDepth 100000 in
theorem g_Log_340 : CWV R_Log 340 R_Parts y_Parts_shorten b_Parts_shorten 2 none := ⟨ALL_of (i := 540) rfl rfl, ALL_of (i := 541) rfl rfl, ALL_of (i := 542) rfl rfl, ALL_of (i := 84) rfl rfl, ALL_of (i := 543) rfl rfl⟩
set_option maxRecDepth 100000 in
theorem g_Log_337 : CWV R_Log 337 R_Parts y_Parts_move b_Parts_move 3 none := ⟨ALL_of (i := 539) rfl rfl, ALL_of (i := 362) rfl rfl, ALL_of (i := 363) rfl rfl, ALL_of (i := 84) rfl rfl, ALL_of (i := 364) rfl rfl⟩
set_option maxRecDepth 100000 in
theorem g_Marks_60 : CWV R_Marks 60 R_Marks y_Marks_isNaming b_Marks_isNaming 4 (some .boolean) := ⟨ALL_of (i := 531) rfl rfl, ALL_of (i := 533) rfl rfl, ALL_of (i := 19) rfl rfl, ALL_of (i := 85) rfl rfl, ALL_of (i := 534) rfl rfl⟩
set_option maxRecDepth 100000 in
theorem g_Log_369 : CWV R_Log 369 R_Marks y_Marks_countNaming b_Marks_countNaming 4 (some .int) := ⟨ALL_of (i := 527) rfl rfl, ALL_of (i := 528) rfl rfl, ALL_of (i := 529) rfl rfl, ALL_of (i := 85) rfl rfl, ALL_of (i := 530) rfl rfl⟩
set_option maxRecDepth 100000 in
theorem g_Log_204 : CWV R_Log 204 R_Log y_Log_countNaming b_Log_countNaming 2 (some .int) := ⟨ALL_of (i := 523) rfl rfl, ALL_of (i := 525) rfl rfl, ALL_of (i := 18) rfl rfl, ALL_of (i := 79) rfl rfl, ALL_of (i := 526) rfl rfl⟩
set_option maxRecDepth 100000 in
theorem g_Log_195 : CWV R_Log 195 R_Parts y_Parts_lengthAt b_Parts_lengthAt 2 (some .int) := ⟨ALL_of (i := 535) rfl rfl, ALL_of (i := 536) rfl rfl, ALL_of (i := 537) rfl rfl, ALL_of (i := 84) rfl rfl, ALL_of (i := 538) rfl rfl⟩
set_option maxRecDepth 100000 in
theorem g_Log_149 : CWV R_Log 149 R_Log y_Log_dropParts b_Log_dropParts 6 (some .int) := ⟨ALL_of (i := 519) rfl rfl, ALL_of (i := 521) rfl rfl, ALL_of (i := 17) rfl rfl, ALL_of (i := 79) rfl rfl, ALL_of (i := 522) rfl rfl⟩
set_option maxRecDepth 100000 in
theorem g_Log_152 : CWV R_Log 152 R_Medium y_Medium_setPower b_Medium_setPower 2 none := ⟨ALL_of (i := 549) rfl rfl, ALL_of (i := 550) rfl rfl, ALL_of (i := 551) rfl rfl, ALL_of (i := 80) rfl rfl, ALL_of (i := 552) rfl rfl⟩
set_option maxRecDepth 100000 in
theorem g_Log_36 : CWV R_Log 36 R_Medium y_Medium_rows b_Medium_rows 1 (some .int) := ⟨ALL_of (i := 137) rfl rfl, ALL_of (i := 138) rfl rfl, ALL_of (i := 139) rfl rfl, ALL_of (i := 80) rfl rfl, ALL_of (i := 140) rfl rfl⟩
set_option maxRecDepth 100000 in
theorem g_Log_155 : CWV R_Log 155 R_Log y_Log_forget b_Log_forget 1 none := ⟨ALL_of (i := 561) rfl rfl, ALL_of (i := 563) rfl rfl, ALL_of (i := 20) rfl rfl, ALL_of (i := 79) rfl rfl, ALL_of (i := 564) rfl rfl⟩
set_option maxRecDepth 100000 in
theorem g_Log_226 : CWV R_Log 226 R_Medium y_Medium_at b_Medium_at 3 (some .int) := ⟨ALL_of (i := 577) rfl rfl, ALL_of (i := 463) rfl rfl, ALL_of (i := 464) rfl rfl, ALL_of (i := 80) rfl rfl, ALL_of (i := 465) rfl rfl⟩
set_option maxRecDepth 100000 in
theorem g_Medium_45 : CWV R_Medium 45 R_Medium y_Medium_number b_Medium_number 7 (some .long) := ⟨ALL_of (i := 583) rfl rfl, ALL_of (i := 459) rfl rfl, ALL_of (i := 460) rfl rfl, ALL_of (i := 80) rfl rfl, ALL_of (i := 461) rfl rfl⟩
set_option maxRecDepth 100000 in
theorem g_Medium_41 : CWN R_Medium 41 y_Log_digestStep "MarkLog" b_Log_digestStep 5 (some .long) := ⟨List.mem_of_getElem? (i := 3) (by decide +kernel), ALL_of (i := 321) rfl rfl, ALL_of (i := 79) rfl rfl, ALL_of (i := 322) rfl rfl⟩
set_option maxRecDepth 100000 in
theorem g_Log_346 : CWV R_Log 346 R_Medium y_Medium_isSumRight b_Medium_isSumRight 5 (some .boolean) := ⟨ALL_of (i := 578) rfl rfl, ALL_of (i := 579) rfl rfl, ALL_of (i := 580) rfl rfl, ALL_of (i := 80) rfl rfl, ALL_of (i := 581) rfl rfl⟩
set_option maxRecDepth 100000 in
theorem wc_Log_257 : (Jvm.Cond.constantLong "MarkLog" (257 : Nat) (1000000000 : Int64)) ∈ ALL := ALL_of (i := 587) rfl rfl
set_option maxRecDepth 100000 in
theorem g_Log_349 : CWS R_Log 349 y_Log_isNumber b_Log_isNumber 2 (some .boolean) := ⟨ALL_of (i := 584) rfl rfl, ALL_of (i := 585) rfl rfl, ALL_of (i := 79) rfl rfl, ALL_of (i := 586) rfl rfl⟩
set_option maxRecDepth 100000 in
theorem g_Log_213 : CWV R_Log 213 R_Log y_Log_isGoodHead b_Log_isGoodHead 2 (some .boolean) := ⟨ALL_of (i := 573) rfl rfl, ALL_of (i := 575) rfl rfl, ALL_of (i := 23) rfl rfl, ALL_of (i := 79) rfl rfl, ALL_of (i := 576) rfl rfl⟩
set_option maxRecDepth 100000 in
theorem g_Log_343 : CWV R_Log 343 R_Log y_Log_headThatCounts b_Log_headThatCounts 1 (some .int) := ⟨ALL_of (i := 569) rfl rfl, ALL_of (i := 571) rfl rfl, ALL_of (i := 22) rfl rfl, ALL_of (i := 79) rfl rfl, ALL_of (i := 572) rfl rfl⟩
set_option maxRecDepth 100000 in
theorem g_Log_158 : CWV R_Log 158 R_Log y_Log_readHeads b_Log_readHeads 3 none := ⟨ALL_of (i := 565) rfl rfl, ALL_of (i := 567) rfl rfl, ALL_of (i := 21) rfl rfl, ALL_of (i := 79) rfl rfl, ALL_of (i := 568) rfl rfl⟩
set_option maxRecDepth 100000 in
theorem g_Log_353 : CWV R_Log 353 R_Log y_Log_isPartThere b_Log_isPartThere 3 (some .boolean) := ⟨ALL_of (i := 592) rfl rfl, ALL_of (i := 594) rfl rfl, ALL_of (i := 25) rfl rfl, ALL_of (i := 79) rfl rfl, ALL_of (i := 595) rfl rfl⟩
set_option maxRecDepth 100000 in
theorem g_Log_365 : CWV R_Log 365 R_Medium y_Medium_digest b_Medium_digest 7 (some .long) := ⟨ALL_of (i := 605) rfl rfl, ALL_of (i := 606) rfl rfl, ALL_of (i := 607) rfl rfl, ALL_of (i := 80) rfl rfl, ALL_of (i := 608) rfl rfl⟩
set_option maxRecDepth 100000 in
theorem g_Log_366 : CWV R_Log 366 R_Log y_Log_areEntriesRising b_Log_areEntriesRising 8 (some .boolean) := ⟨ALL_of (i := 609) rfl rfl, ALL_of (i := 611) rfl rfl, ALL_of (i := 28) rfl rfl, ALL_of (i := 79) rfl rfl, ALL_of (i := 612) rfl rfl⟩
set_option maxRecDepth 100000 in
theorem g_Log_359 : CWV R_Log 359 R_Log y_Log_isMarkThere b_Log_isMarkThere 3 (some .boolean) := ⟨ALL_of (i := 601) rfl rfl, ALL_of (i := 603) rfl rfl, ALL_of (i := 27) rfl rfl, ALL_of (i := 79) rfl rfl, ALL_of (i := 604) rfl rfl⟩
set_option maxRecDepth 100000 in
theorem wm_Log_164 : (Jvm.Cond.methodLink "MarkLog" (164 : Nat) ({ cls := "java/lang/Math", name := "max", desc := "(II)I" } : Jvm.MethodName)) ∈ ALL := ALL_of (i := 600) rfl rfl
set_option maxRecDepth 100000 in
theorem g_Log_362 : CWV R_Log 362 R_Log y_Log_learnMark b_Log_learnMark 7 (some .int) := ⟨ALL_of (i := 613) rfl rfl, ALL_of (i := 615) rfl rfl, ALL_of (i := 29) rfl rfl, ALL_of (i := 79) rfl rfl, ALL_of (i := 616) rfl rfl⟩
set_option maxRecDepth 100000 in
theorem g_Log_356 : CWV R_Log 356 R_Log y_Log_learnPart b_Log_learnPart 4 (some .int) := ⟨ALL_of (i := 596) rfl rfl, ALL_of (i := 598) rfl rfl, ALL_of (i := 26) rfl rfl, ALL_of (i := 79) rfl rfl, ALL_of (i := 599) rfl rfl⟩
set_option maxRecDepth 100000 in
theorem g_Log_161 : CWV R_Log 161 R_Log y_Log_learnRow b_Log_learnRow 2 (some .int) := ⟨ALL_of (i := 588) rfl rfl, ALL_of (i := 590) rfl rfl, ALL_of (i := 24) rfl rfl, ALL_of (i := 79) rfl rfl, ALL_of (i := 591) rfl rfl⟩
set_option maxRecDepth 100000 in
theorem g_Log_377 : CWV R_Log 377 R_Marks y_Marks_digestAt b_Marks_digestAt 2 (some .long) := ⟨ALL_of (i := 629) rfl rfl, ALL_of (i := 630) rfl rfl, ALL_of (i := 631) rfl rfl, ALL_of (i := 85) rfl rfl, ALL_of (i := 632) rfl rfl⟩
set_option maxRecDepth 100000 in
theorem g_Log_217 : CWV R_Log 217 R_Log y_Log_isKeptAsFound b_Log_isKeptAsFound 6 (some .boolean) := ⟨ALL_of (i := 625) rfl rfl, ALL_of (i := 627) rfl rfl, ALL_of (i := 31) rfl rfl, ALL_of (i := 79) rfl rfl, ALL_of (i := 628) rfl rfl⟩
set_option maxRecDepth 100000 in
theorem g_Log_373 : CWV R_Log 373 R_Log y_Log_isEntryRight b_Log_isEntryRight 7 (some .boolean) := ⟨ALL_of (i := 633) rfl rfl, ALL_of (i := 635) rfl rfl, ALL_of (i := 32) rfl rfl, ALL_of (i := 79) rfl rfl, ALL_of (i := 636) rfl rfl⟩
set_option maxRecDepth 100000 in
theorem g_Log_201 : CWV R_Log 201 R_Log y_Log_isPartWhole b_Log_isPartWhole 4 (some .boolean) := ⟨ALL_of (i := 637) rfl rfl, ALL_of (i := 639) rfl rfl, ALL_of (i := 33) rfl rfl, ALL_of (i := 79) rfl rfl, ALL_of (i := 640) rfl rfl⟩
set_option maxRecDepth 100000 in
theorem g_Log_169 : CWV R_Log 169 R_Log y_Log_isKeptWhole b_Log_isKeptWhole 5 (some .boolean) := ⟨ALL_of (i := 621) rfl rfl, ALL_of (i := 623) rfl rfl, ALL_of (i := 30) rfl rfl, ALL_of (i := 79) rfl rfl, ALL_of (i := 624) rfl rfl⟩
set_option maxRecDepth 100000 in
theorem g_Log_175 : CWV R_Log 175 R_Log y_Log_tableOf b_Log_tableOf 2 (some (.object "MarkLog$Marks")) := ⟨ALL_of (i := 645) rfl rfl, ALL_of (i := 647) rfl rfl, ALL_of (i := 34) rfl rfl, ALL_of (i := 79) rfl rfl, ALL_of (i := 648) rfl rfl⟩
set_option maxRecDepth 100000 in
theorem g_Log_370 : CWV R_Log 370 R_Log y_Log_isMadeWhole b_Log_isMadeWhole 4 (some .boolean) := ⟨ALL_of (i := 653) rfl rfl, ALL_of (i := 655) rfl rfl, ALL_of (i := 36) rfl rfl, ALL_of (i := 79) rfl rfl, ALL_of (i := 656) rfl rfl⟩
set_option maxRecDepth 100000 in
theorem g_Log_179 : CWV R_Log 179 R_Log y_Log_isMarkWhole b_Log_isMarkWhole 3 (some .boolean) := ⟨ALL_of (i := 649) rfl rfl, ALL_of (i := 651) rfl rfl, ALL_of (i := 35) rfl rfl, ALL_of (i := 79) rfl rfl, ALL_of (i := 652) rfl rfl⟩
set_option maxRecDepth 100000 in
theorem wc_Log_184 : (Jvm.Cond.constantLong "MarkLog" (184 : Nat) (-2 : Int64)) ∈ ALL := ALL_of (i := 670) rfl rfl
set_option maxRecDepth 100000 in
theorem g_Log_189 : CWV R_Log 189 R_Parts y_Parts_groupAt b_Parts_groupAt 2 (some .int) := ⟨ALL_of (i := 672) rfl rfl, ALL_of (i := 673) rfl rfl, ALL_of (i := 674) rfl rfl, ALL_of (i := 84) rfl rfl, ALL_of (i := 675) rfl rfl⟩
set_option maxRecDepth 100000 in
theorem wc_Parts_50 : (Jvm.Cond.constantLong "MarkLog$Parts" (50 : Nat) (-1 : Int64)) ∈ ALL := ALL_of (i := 680) rfl rfl
set_option maxRecDepth 100000 in
theorem g_Log_192 : CWV R_Log 192 R_Parts y_Parts_positionAt b_Parts_positionAt 2 (some .long) := ⟨ALL_of (i := 676) rfl rfl, ALL_of (i := 677) rfl rfl, ALL_of (i := 678) rfl rfl, ALL_of (i := 84) rfl rfl, ALL_of (i := 679) rfl rfl⟩
set_option maxRecDepth 100000 in
theorem wc_Log_187 : (Jvm.Cond.constantLong "MarkLog" (187 : Nat) (-1 : Int64)) ∈ ALL := ALL_of (i := 671) rfl rfl
set_option maxRecDepth 100000 in
theorem wc_Log_182 : (Jvm.Cond.constantLong "MarkLog" (182 : Nat) (-3 : Int64)) ∈ ALL := ALL_of (i := 669) rfl rfl
set_option maxRecDepth 100000 in
theorem g_Log_207 : CWV R_Log 207 R_Log y_Log_byteOfPart b_Log_byteOfPart 3 (some .int) := ⟨ALL_of (i := 685) rfl rfl, ALL_of (i := 687) rfl rfl, ALL_of (i := 37) rfl rfl, ALL_of (i := 79) rfl rfl, ALL_of (i := 688) rfl rfl⟩
set_option maxRecDepth 100000 in
theorem g_Log_210 : CWV R_Log 210 R_Medium y_Medium_isClear b_Medium_isClear 3 (some .boolean) := ⟨ALL_of (i := 697) rfl rfl, ALL_of (i := 698) rfl rfl, ALL_of (i := 699) rfl rfl, ALL_of (i := 80) rfl rfl, ALL_of (i := 700) rfl rfl⟩
set_option maxRecDepth 100000 in
theorem g_Log_220 : CWV R_Log 220 R_Medium y_Medium_has b_Medium_has 3 (some .boolean) := ⟨ALL_of (i := 705) rfl rfl, ALL_of (i := 342) rfl rfl, ALL_of (i := 343) rfl rfl, ALL_of (i := 80) rfl rfl, ALL_of (i := 344) rfl rfl⟩
set_option maxRecDepth 100000 in
theorem g_Log_223 : CWV R_Log 223 R_Medium y_Medium_alter b_Medium_alter 4 none := ⟨ALL_of (i := 706) rfl rfl, ALL_of (i := 707) rfl rfl, ALL_of (i := 708) rfl rfl, ALL_of (i := 80) rfl rfl, ALL_of (i := 709) rfl rfl⟩
set_option maxRecDepth 100000 in
theorem g_Log_380 : CWV R_Log 380 R_Room y_Room_countFree b_Room_countFree 3 (some .int) := ⟨ALL_of (i := 726) rfl rfl, ALL_of (i := 727) rfl rfl, ALL_of (i := 728) rfl rfl, ALL_of (i := 83) rfl rfl, ALL_of (i := 729) rfl rfl⟩
set_option maxRecDepth 100000 in
theorem g_Log_232 : CWV R_Log 232 R_Log y_Log_toldOpen b_Log_toldOpen 3 (some .int) := ⟨ALL_of (i := 722) rfl rfl, ALL_of (i := 724) rfl rfl, ALL_of (i := 38) rfl rfl, ALL_of (i := 79) rfl rfl, ALL_of (i := 725) rfl rfl⟩
set_option maxRecDepth 100000 in
theorem g_Log_229 : CWV R_Log 229 R_Medium y_Medium_written b_Medium_written 1 (some .int) := ⟨ALL_of (i := 718) rfl rfl, ALL_of (i := 719) rfl rfl, ALL_of (i := 720) rfl rfl, ALL_of (i := 80) rfl rfl, ALL_of (i := 721) rfl rfl⟩
set_option maxRecDepth 100000 in
theorem wf_Log_28 : (Jvm.Cond.fieldLink "MarkLog" (28 : Nat) "MarkLog" "savepoint" "LMarkLog$Bytes;") ∈ ALL := ALL_of (i := 208) rfl rfl
set_option maxRecDepth 100000 in
theorem wc_Log_383 : (Jvm.Cond.constantLong "MarkLog" (383 : Nat) (77 : Int64)) ∈ ALL := ALL_of (i := 738) rfl rfl
set_option maxRecDepth 100000 in
theorem g_Log_385 : CWV R_Log 385 R_Log y_Log_drawPartOut b_Log_drawPartOut 5 none := ⟨ALL_of (i := 739) rfl rfl, ALL_of (i := 741) rfl rfl, ALL_of (i := 40) rfl rfl, ALL_of (i := 79) rfl rfl, ALL_of (i := 742) rfl rfl⟩
set_option maxRecDepth 100000 in
theorem g_Log_235 : CWV R_Log 235 R_Log y_Log_drawSavepoint b_Log_drawSavepoint 7 none := ⟨ALL_of (i := 734) rfl rfl, ALL_of (i := 736) rfl rfl, ALL_of (i := 39) rfl rfl, ALL_of (i := 79) rfl rfl, ALL_of (i := 737) rfl rfl⟩
set_option maxRecDepth 100000 in
theorem g_Log_394 : CWV R_Log 394 R_Bytes y_Bytes_number b_Bytes_number 6 (some .long) := ⟨ALL_of (i := 759) rfl rfl, ALL_of (i := 760) rfl rfl, ALL_of (i := 761) rfl rfl, ALL_of (i := 82) rfl rfl, ALL_of (i := 762) rfl rfl⟩
set_option maxRecDepth 100000 in
theorem g_Log_396 : CWV R_Log 396 R_Log y_Log_lengthOnTape b_Log_lengthOnTape 2 (some .int) := ⟨ALL_of (i := 755) rfl rfl, ALL_of (i := 757) rfl rfl, ALL_of (i := 43) rfl rfl, ALL_of (i := 79) rfl rfl, ALL_of (i := 758) rfl rfl⟩
set_option maxRecDepth 100000 in
theorem g_Log_391 : CWV R_Log 391 R_Log y_Log_behindPart b_Log_behindPart 2 (some .int) := ⟨ALL_of (i := 763) rfl rfl, ALL_of (i := 765) rfl rfl, ALL_of (i := 44) rfl rfl, ALL_of (i := 79) rfl rfl, ALL_of (i := 766) rfl rfl⟩
set_option maxRecDepth 100000 in
theorem g_Log_388 : CWV R_Log 388 R_Log y_Log_isPartOnTape b_Log_isPartOnTape 2 (some .boolean) := ⟨ALL_of (i := 751) rfl rfl, ALL_of (i := 753) rfl rfl, ALL_of (i := 42) rfl rfl, ALL_of (i := 79) rfl rfl, ALL_of (i := 754) rfl rfl⟩
set_option maxRecDepth 100000 in
theorem g_Log_241 : CWV R_Log 241 R_Log y_Log_isSavepointOnTape b_Log_isSavepointOnTape 4 (some .boolean) := ⟨ALL_of (i := 747) rfl rfl, ALL_of (i := 749) rfl rfl, ALL_of (i := 41) rfl rfl, ALL_of (i := 79) rfl rfl, ALL_of (i := 750) rfl rfl⟩
set_option maxRecDepth 100000 in
theorem wf_Log_45 : (Jvm.Cond.fieldLink "MarkLog" (45 : Nat) "MarkLog" "trial" "LMarkLog$Room;") ∈ ALL := ALL_of (i := 211) rfl rfl
set_option maxRecDepth 100000 in
theorem g_Log_399 : CWV R_Log 399 R_Room y_Room_copyFrom b_Room_copyFrom 3 none := ⟨ALL_of (i := 771) rfl rfl, ALL_of (i := 772) rfl rfl, ALL_of (i := 773) rfl rfl, ALL_of (i := 83) rfl rfl, ALL_of (i := 774) rfl rfl⟩
set_option maxRecDepth 100000 in
theorem g_Log_245 : CWV R_Log 245 R_Log y_Log_isRoomForSavepoint b_Log_isRoomForSavepoint 6 (some .boolean) := ⟨ALL_of (i := 767) rfl rfl, ALL_of (i := 769) rfl rfl, ALL_of (i := 45) rfl rfl, ALL_of (i := 79) rfl rfl, ALL_of (i := 770) rfl rfl⟩
set_option maxRecDepth 100000 in
theorem g_Log_248 : CWV R_Log 248 R_Log y_Log_writeSavepoint b_Log_writeSavepoint 6 (some .int) := ⟨ALL_of (i := 775) rfl rfl, ALL_of (i := 777) rfl rfl, ALL_of (i := 46) rfl rfl, ALL_of (i := 79) rfl rfl, ALL_of (i := 778) rfl rfl⟩
set_option maxRecDepth 100000 in
theorem wf_Log_31 : (Jvm.Cond.fieldLink "MarkLog" (31 : Nat) "MarkLog" "otherSavepoint" "LMarkLog$Bytes;") ∈ ALL := ALL_of (i := 209) rfl rfl
set_option maxRecDepth 100000 in
theorem g_Log_251 : CWV R_Log 251 R_Bytes y_Bytes_isSame b_Bytes_isSame 3 (some .boolean) := ⟨ALL_of (i := 783) rfl rfl, ALL_of (i := 784) rfl rfl, ALL_of (i := 785) rfl rfl, ALL_of (i := 82) rfl rfl, ALL_of (i := 786) rfl rfl⟩
set_option maxRecDepth 100000 in
theorem wo_Medium_3 : (Jvm.Cond.methodLink "MarkLog$Medium" (3 : Nat) ({ cls := "java/lang/Object", name := "<init>", desc := "()V" } : Jvm.MethodName)) ∈ ALL := ALL_of (i := 100) rfl rfl
set_option maxRecDepth 100000 in
theorem wm_Medium_9 : (Jvm.Cond.methodLink "MarkLog$Medium" (9 : Nat) ({ cls := "java/lang/Math", name := "min", desc := "(II)I" } : Jvm.MethodName)) ∈ ALL := ALL_of (i := 101) rfl rfl
set_option maxRecDepth 100000 in
theorem wm_Medium_15 : (Jvm.Cond.methodLink "MarkLog$Medium" (15 : Nat) ({ cls := "java/lang/Math", name := "max", desc := "(II)I" } : Jvm.MethodName)) ∈ ALL := ALL_of (i := 104) rfl rfl
set_option maxRecDepth 100000 in
theorem wa_0 : (Jvm.Cond.arrayClass Jvm.ClassFile.FieldType.byte) ∈ ALL := ALL_of (i := 120) rfl rfl
set_option maxRecDepth 100000 in
theorem wo_Bytes_1 : (Jvm.Cond.methodLink "MarkLog$Bytes" (1 : Nat) ({ cls := "java/lang/Object", name := "<init>", desc := "()V" } : Jvm.MethodName)) ∈ ALL := ALL_of (i := 126) rfl rfl
set_option maxRecDepth 100000 in
theorem wo_Room_3 : (Jvm.Cond.methodLink "MarkLog$Room" (3 : Nat) ({ cls := "java/lang/Object", name := "<init>", desc := "()V" } : Jvm.MethodName)) ∈ ALL := ALL_of (i := 144) rfl rfl
set_option maxRecDepth 100000 in
theorem wm_Room_9 : (Jvm.Cond.methodLink "MarkLog$Room" (9 : Nat) ({ cls := "java/lang/Math", name := "max", desc := "(II)I" } : Jvm.MethodName)) ∈ ALL := ALL_of (i := 145) rfl rfl
set_option maxRecDepth 100000 in
theorem wa_1 : (Jvm.Cond.arrayClass Jvm.ClassFile.FieldType.boolean) ∈ ALL := ALL_of (i := 150) rfl rfl
set_option maxRecDepth 100000 in
theorem wo_Parts_3 : (Jvm.Cond.methodLink "MarkLog$Parts" (3 : Nat) ({ cls := "java/lang/Object", name := "<init>", desc := "()V" } : Jvm.MethodName)) ∈ ALL := ALL_of (i := 156) rfl rfl
set_option maxRecDepth 100000 in
theorem wa_2 : (Jvm.Cond.arrayClass Jvm.ClassFile.FieldType.int) ∈ ALL := ALL_of (i := 177) rfl rfl
set_option maxRecDepth 100000 in
theorem wa_3 : (Jvm.Cond.arrayClass Jvm.ClassFile.FieldType.long) ∈ ALL := ALL_of (i := 178) rfl rfl
set_option maxRecDepth 100000 in
theorem wo_Marks_3 : (Jvm.Cond.methodLink "MarkLog$Marks" (3 : Nat) ({ cls := "java/lang/Object", name := "<init>", desc := "()V" } : Jvm.MethodName)) ∈ ALL := ALL_of (i := 184) rfl rfl
set_option maxRecDepth 100000 in
theorem wo_Log_3 : (Jvm.Cond.methodLink "MarkLog" (3 : Nat) ({ cls := "java/lang/Object", name := "<init>", desc := "()V" } : Jvm.MethodName)) ∈ ALL := ALL_of (i := 92) rfl rfl
set_option maxRecDepth 100000 in
theorem wk_Log_9 : (Jvm.Cond.classLink "MarkLog" (9 : Nat) "MarkLog$Medium") ∈ ALL := ALL_of (i := 95) rfl rfl
set_option maxRecDepth 100000 in
theorem wi_Medium : (Jvm.Cond.instantiable "MarkLog$Medium" (4 : Nat)) ∈ ALL := ALL_of (i := 96) rfl rfl
set_option maxRecDepth 100000 in
theorem wj_Medium : (Jvm.Cond.initialized "MarkLog$Medium") ∈ ALL := ALL_of (i := 80) rfl rfl
set_option maxRecDepth 100000 in
theorem gi_Log_11 : Cond.methodLink R_Log 11 y_Medium_init ∈ ALL ∧ Cond.instanceMethod y_Medium_init ∈ ALL ∧ Cond.initialized y_Medium_init.cls ∈ ALL ∧ Cond.code y_Medium_init b_Medium_init 2 none ∈ ALL := ⟨ALL_of (i := 97) rfl rfl, ALL_of (i := 98) rfl rfl, ALL_of (i := 80) rfl rfl, ALL_of (i := 99) rfl rfl⟩
set_option maxRecDepth 100000 in
theorem wk_Log_18 : (Jvm.Cond.classLink "MarkLog" (18 : Nat) "MarkLog$Bytes") ∈ ALL := ALL_of (i := 121) rfl rfl
set_option maxRecDepth 100000 in
theorem wi_Bytes : (Jvm.Cond.instantiable "MarkLog$Bytes" (2 : Nat)) ∈ ALL := ALL_of (i := 122) rfl rfl
set_option maxRecDepth 100000 in
theorem wj_Bytes : (Jvm.Cond.initialized "MarkLog$Bytes") ∈ ALL := ALL_of (i := 82) rfl rfl
set_option maxRecDepth 100000 in
theorem gi_Log_20 : Cond.methodLink R_Log 20 y_Bytes_init ∈ ALL ∧ Cond.instanceMethod y_Bytes_init ∈ ALL ∧ Cond.initialized y_Bytes_init.cls ∈ ALL ∧ Cond.code y_Bytes_init b_Bytes_init 2 none ∈ ALL := ⟨ALL_of (i := 123) rfl rfl, ALL_of (i := 124) rfl rfl, ALL_of (i := 82) rfl rfl, ALL_of (i := 125) rfl rfl⟩
set_option maxRecDepth 100000 in
theorem wk_Log_34 : (Jvm.Cond.classLink "MarkLog" (34 : Nat) "MarkLog$Room") ∈ ALL := ALL_of (i := 135) rfl rfl
set_option maxRecDepth 100000 in
theorem wi_Room : (Jvm.Cond.instantiable "MarkLog$Room" (1 : Nat)) ∈ ALL := ALL_of (i := 136) rfl rfl
set_option maxRecDepth 100000 in
theorem wj_Room : (Jvm.Cond.initialized "MarkLog$Room") ∈ ALL := ALL_of (i := 83) rfl rfl
set_option maxRecDepth 100000 in
theorem gi_Log_40 : Cond.methodLink R_Log 40 y_Room_init ∈ ALL ∧ Cond.instanceMethod y_Room_init ∈ ALL ∧ Cond.initialized y_Room_init.cls ∈ ALL ∧ Cond.code y_Room_init b_Room_init 2 none ∈ ALL := ⟨ALL_of (i := 141) rfl rfl, ALL_of (i := 142) rfl rfl, ALL_of (i := 83) rfl rfl, ALL_of (i := 143) rfl rfl⟩
set_option maxRecDepth 100000 in
theorem wk_Log_48 : (Jvm.Cond.classLink "MarkLog" (48 : Nat) "MarkLog$Parts") ∈ ALL := ALL_of (i := 151) rfl rfl
set_option maxRecDepth 100000 in
theorem wi_Parts : (Jvm.Cond.instantiable "MarkLog$Parts" (6 : Nat)) ∈ ALL := ALL_of (i := 152) rfl rfl
set_option maxRecDepth 100000 in
theorem wj_Parts : (Jvm.Cond.initialized "MarkLog$Parts") ∈ ALL := ALL_of (i := 84) rfl rfl
set_option maxRecDepth 100000 in
theorem gi_Log_50 : Cond.methodLink R_Log 50 y_Parts_init ∈ ALL ∧ Cond.instanceMethod y_Parts_init ∈ ALL ∧ Cond.initialized y_Parts_init.cls ∈ ALL ∧ Cond.code y_Parts_init b_Parts_init 3 none ∈ ALL := ⟨ALL_of (i := 153) rfl rfl, ALL_of (i := 154) rfl rfl, ALL_of (i := 84) rfl rfl, ALL_of (i := 155) rfl rfl⟩
set_option maxRecDepth 100000 in
theorem wk_Log_55 : (Jvm.Cond.classLink "MarkLog" (55 : Nat) "MarkLog$Marks") ∈ ALL := ALL_of (i := 179) rfl rfl
set_option maxRecDepth 100000 in
theorem wi_Marks : (Jvm.Cond.instantiable "MarkLog$Marks" (6 : Nat)) ∈ ALL := ALL_of (i := 180) rfl rfl
set_option maxRecDepth 100000 in
theorem wj_Marks : (Jvm.Cond.initialized "MarkLog$Marks") ∈ ALL := ALL_of (i := 85) rfl rfl
set_option maxRecDepth 100000 in
theorem gi_Log_57 : Cond.methodLink R_Log 57 y_Marks_init ∈ ALL ∧ Cond.instanceMethod y_Marks_init ∈ ALL ∧ Cond.initialized y_Marks_init.cls ∈ ALL ∧ Cond.code y_Marks_init b_Marks_init 3 none ∈ ALL := ⟨ALL_of (i := 181) rfl rfl, ALL_of (i := 182) rfl rfl, ALL_of (i := 85) rfl rfl, ALL_of (i := 183) rfl rfl⟩
