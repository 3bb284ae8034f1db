def y_RRef_init : MethodName := ⟨R_RRef, "<init>", "(I)V"⟩
abbrev b_RRef_init : ByteArray := prog_8_method_1_code
theorem yo_RRef_init : y_RRef_init.cls = R_RRef ∧ YO y_RRef_init 1 := ⟨rfl, by decide +kernel, by decide +kernel, by decide +kernel⟩
def y_RRef_badAt : MethodName := ⟨R_RRef, "badAt", "()I"⟩
abbrev b_RRef_badAt : ByteArray := prog_8_method_56_code
theorem yo_RRef_badAt : y_RRef_badAt.cls = R_RRef ∧ YO y_RRef_badAt 0 := ⟨rfl, by decide +kernel, by decide +kernel, by decide +kernel⟩
def y_RRef_below : MethodName := ⟨R_RRef, "below", "(I)I"⟩
abbrev b_RRef_below : ByteArray := prog_8_method_38_code
theorem yo_RRef_below : y_RRef_below.cls = R_RRef ∧ YO y_RRef_below 1 := ⟨rfl, by decide +kernel, by decide +kernel, by decide +kernel⟩
def y_RRef_bodies : MethodName := ⟨R_RRef, "bodies", "(I)I"⟩
abbrev b_RRef_bodies : ByteArray := prog_8_method_13_code
theorem yo_RRef_bodies : y_RRef_bodies.cls = R_RRef ∧ YO y_RRef_bodies 1 := ⟨rfl, by decide +kernel, by decide +kernel, by decide +kernel⟩
def y_RRef_byteAt : MethodName := ⟨R_RRef, "byteAt", "(II)I"⟩
abbrev b_RRef_byteAt : ByteArray := prog_8_method_58_code
theorem yo_RRef_byteAt : y_RRef_byteAt.cls = R_RRef ∧ YO y_RRef_byteAt 2 := ⟨rfl, by decide +kernel, by decide +kernel, by decide +kernel⟩
def y_RRef_byteOf : MethodName := ⟨R_RRef, "byteOf", "(II)I"⟩
abbrev b_RRef_byteOf : ByteArray := prog_8_method_53_code
theorem yo_RRef_byteOf : y_RRef_byteOf.cls = R_RRef ∧ YO y_RRef_byteOf 2 := ⟨rfl, by decide +kernel, by decide +kernel, by decide +kernel⟩
def y_RRef_clearDraft : MethodName := ⟨R_RRef, "clearDraft", "()V"⟩
abbrev b_RRef_clearDraft : ByteArray := prog_8_method_11_code
theorem yo_RRef_clearDraft : y_RRef_clearDraft.cls = R_RRef ∧ YO y_RRef_clearDraft 0 := ⟨rfl, by decide +kernel, by decide +kernel, by decide +kernel⟩
def y_RRef_close : MethodName := ⟨R_RRef, "close", "()Z"⟩
abbrev b_RRef_close : ByteArray := prog_8_method_47_code
theorem yo_RRef_close : y_RRef_close.cls = R_RRef ∧ YO y_RRef_close 0 := ⟨rfl, by decide +kernel, by decide +kernel, by decide +kernel⟩
def y_RRef_count : MethodName := ⟨R_RRef, "count", "(Z)I"⟩
abbrev b_RRef_count : ByteArray := prog_8_method_17_code
theorem yo_RRef_count : y_RRef_count.cls = R_RRef ∧ YO y_RRef_count 1 := ⟨rfl, by decide +kernel, by decide +kernel, by decide +kernel⟩
def y_RRef_cut : MethodName := ⟨R_RRef, "cut", "(I)Z"⟩
abbrev b_RRef_cut : ByteArray := prog_8_method_46_code
theorem yo_RRef_cut : y_RRef_cut.cls = R_RRef ∧ YO y_RRef_cut 1 := ⟨rfl, by decide +kernel, by decide +kernel, by decide +kernel⟩
def y_RRef_digest : MethodName := ⟨R_RRef, "digest", "([BII)J"⟩
abbrev b_RRef_digest : ByteArray := prog_8_method_3_code
theorem yo_RRef_digest : y_RRef_digest.cls = R_RRef ∧ YO y_RRef_digest 3 := ⟨rfl, by decide +kernel, by decide +kernel, by decide +kernel⟩
def y_RRef_drop : MethodName := ⟨R_RRef, "drop", "(I)I"⟩
abbrev b_RRef_drop : ByteArray := prog_8_method_45_code
theorem yo_RRef_drop : y_RRef_drop.cls = R_RRef ∧ YO y_RRef_drop 1 := ⟨rfl, by decide +kernel, by decide +kernel, by decide +kernel⟩
def y_RRef_entries : MethodName := ⟨R_RRef, "entries", "(I)I"⟩
abbrev b_RRef_entries : ByteArray := prog_8_method_14_code
theorem yo_RRef_entries : y_RRef_entries.cls = R_RRef ∧ YO y_RRef_entries 1 := ⟨rfl, by decide +kernel, by decide +kernel, by decide +kernel⟩
def y_RRef_entryAt : MethodName := ⟨R_RRef, "entryAt", "(II)I"⟩
abbrev b_RRef_entryAt : ByteArray := prog_8_method_30_code
theorem yo_RRef_entryAt : y_RRef_entryAt.cls = R_RRef ∧ YO y_RRef_entryAt 2 := ⟨rfl, by decide +kernel, by decide +kernel, by decide +kernel⟩
def y_RRef_equal : MethodName := ⟨R_RRef, "equal", "(II)I"⟩
abbrev b_RRef_equal : ByteArray := prog_8_method_63_code
theorem yo_RRef_equal : y_RRef_equal.cls = R_RRef ∧ YO y_RRef_equal 2 := ⟨rfl, by decide +kernel, by decide +kernel, by decide +kernel⟩
def y_RRef_feed : MethodName := ⟨R_RRef, "feed", "(JI)I"⟩
abbrev b_RRef_feed : ByteArray := prog_8_method_34_code
theorem yo_RRef_feed : y_RRef_feed.cls = R_RRef ∧ YO y_RRef_feed 2 := ⟨rfl, by decide +kernel, by decide +kernel, by decide +kernel⟩
def y_RRef_findMark : MethodName := ⟨R_RRef, "findMark", "(I)I"⟩
abbrev b_RRef_findMark : ByteArray := prog_8_method_16_code
theorem yo_RRef_findMark : y_RRef_findMark.cls = R_RRef ∧ YO y_RRef_findMark 1 := ⟨rfl, by decide +kernel, by decide +kernel, by decide +kernel⟩
def y_RRef_findPart : MethodName := ⟨R_RRef, "findPart", "(I)I"⟩
abbrev b_RRef_findPart : ByteArray := prog_8_method_15_code
theorem yo_RRef_findPart : y_RRef_findPart.cls = R_RRef ∧ YO y_RRef_findPart 1 := ⟨rfl, by decide +kernel, by decide +kernel, by decide +kernel⟩
def y_RRef_forgetMark : MethodName := ⟨R_RRef, "forgetMark", "(I)V"⟩
abbrev b_RRef_forgetMark : ByteArray := prog_8_method_22_code
theorem yo_RRef_forgetMark : y_RRef_forgetMark.cls = R_RRef ∧ YO y_RRef_forgetMark 1 := ⟨rfl, by decide +kernel, by decide +kernel, by decide +kernel⟩
def y_RRef_forgetPart : MethodName := ⟨R_RRef, "forgetPart", "(I)V"⟩
abbrev b_RRef_forgetPart : ByteArray := prog_8_method_21_code
theorem yo_RRef_forgetPart : y_RRef_forgetPart.cls = R_RRef ∧ YO y_RRef_forgetPart 1 := ⟨rfl, by decide +kernel, by decide +kernel, by decide +kernel⟩
def y_RRef_give : MethodName := ⟨R_RRef, "give", "(I)I"⟩
abbrev b_RRef_give : ByteArray := prog_8_method_42_code
theorem yo_RRef_give : y_RRef_give.cls = R_RRef ∧ YO y_RRef_give 1 := ⟨rfl, by decide +kernel, by decide +kernel, by decide +kernel⟩
def y_RRef_heads : MethodName := ⟨R_RRef, "heads", "()V"⟩
abbrev b_RRef_heads : ByteArray := prog_8_method_27_code
theorem yo_RRef_heads : y_RRef_heads.cls = R_RRef ∧ YO y_RRef_heads 0 := ⟨rfl, by decide +kernel, by decide +kernel, by decide +kernel⟩
def y_RRef_in_ : MethodName := ⟨R_RRef, "in", "()I"⟩
abbrev b_RRef_in_ : ByteArray := prog_8_method_62_code
theorem yo_RRef_in_ : y_RRef_in_.cls = R_RRef ∧ YO y_RRef_in_ 0 := ⟨rfl, by decide +kernel, by decide +kernel, by decide +kernel⟩
def y_RRef_isAsFound : MethodName := ⟨R_RRef, "isAsFound", "(I)Z"⟩
abbrev b_RRef_isAsFound : ByteArray := prog_8_method_24_code
theorem yo_RRef_isAsFound : y_RRef_isAsFound.cls = R_RRef ∧ YO y_RRef_isAsFound 1 := ⟨rfl, by decide +kernel, by decide +kernel, by decide +kernel⟩
def y_RRef_isGood : MethodName := ⟨R_RRef, "isGood", "(I)Z"⟩
abbrev b_RRef_isGood : ByteArray := prog_8_method_26_code
theorem yo_RRef_isGood : y_RRef_isGood.cls = R_RRef ∧ YO y_RRef_isGood 1 := ⟨rfl, by decide +kernel, by decide +kernel, by decide +kernel⟩
def y_RRef_isIn : MethodName := ⟨R_RRef, "isIn", "(III)Z"⟩
abbrev b_RRef_isIn : ByteArray := prog_8_method_2_code
theorem yo_RRef_isIn : y_RRef_isIn.cls = R_RRef ∧ YO y_RRef_isIn 3 := ⟨rfl, by decide +kernel, by decide +kernel, by decide +kernel⟩
def y_RRef_isSavepoint : MethodName := ⟨R_RRef, "isSavepoint", "(I)Z"⟩
abbrev b_RRef_isSavepoint : ByteArray := prog_8_method_61_code
theorem yo_RRef_isSavepoint : y_RRef_isSavepoint.cls = R_RRef ∧ YO y_RRef_isSavepoint 1 := ⟨rfl, by decide +kernel, by decide +kernel, by decide +kernel⟩
def y_RRef_isSummed : MethodName := ⟨R_RRef, "isSummed", "(I)Z"⟩
abbrev b_RRef_isSummed : ByteArray := prog_8_method_6_code
theorem yo_RRef_isSummed : y_RRef_isSummed.cls = R_RRef ∧ YO y_RRef_isSummed 1 := ⟨rfl, by decide +kernel, by decide +kernel, by decide +kernel⟩
def y_RRef_isWholeMark : MethodName := ⟨R_RRef, "isWholeMark", "(I)Z"⟩
abbrev b_RRef_isWholeMark : ByteArray := prog_8_method_25_code
theorem yo_RRef_isWholeMark : y_RRef_isWholeMark.cls = R_RRef ∧ YO y_RRef_isWholeMark 1 := ⟨rfl, by decide +kernel, by decide +kernel, by decide +kernel⟩
def y_RRef_isWholePart : MethodName := ⟨R_RRef, "isWholePart", "(I)Z"⟩
abbrev b_RRef_isWholePart : ByteArray := prog_8_method_23_code
theorem yo_RRef_isWholePart : y_RRef_isWholePart.cls = R_RRef ∧ YO y_RRef_isWholePart 1 := ⟨rfl, by decide +kernel, by decide +kernel, by decide +kernel⟩
def y_RRef_keep : MethodName := ⟨R_RRef, "keep", "(I)I"⟩
abbrev b_RRef_keep : ByteArray := prog_8_method_41_code
theorem yo_RRef_keep : y_RRef_keep.cls = R_RRef ∧ YO y_RRef_keep 1 := ⟨rfl, by decide +kernel, by decide +kernel, by decide +kernel⟩
def y_RRef_kind : MethodName := ⟨R_RRef, "kind", "(I)I"⟩
abbrev b_RRef_kind : ByteArray := prog_8_method_7_code
theorem yo_RRef_kind : y_RRef_kind.cls = R_RRef ∧ YO y_RRef_kind 1 := ⟨rfl, by decide +kernel, by decide +kernel, by decide +kernel⟩
def y_RRef_learnMark : MethodName := ⟨R_RRef, "learnMark", "(I)V"⟩
abbrev b_RRef_learnMark : ByteArray := prog_8_method_32_code
theorem yo_RRef_learnMark : y_RRef_learnMark.cls = R_RRef ∧ YO y_RRef_learnMark 1 := ⟨rfl, by decide +kernel, by decide +kernel, by decide +kernel⟩
def y_RRef_learnPart : MethodName := ⟨R_RRef, "learnPart", "(I)V"⟩
abbrev b_RRef_learnPart : ByteArray := prog_8_method_31_code
theorem yo_RRef_learnPart : y_RRef_learnPart.cls = R_RRef ∧ YO y_RRef_learnPart 1 := ⟨rfl, by decide +kernel, by decide +kernel, by decide +kernel⟩
def y_RRef_mark : MethodName := ⟨R_RRef, "mark", "(I)I"⟩
abbrev b_RRef_mark : ByteArray := prog_8_method_39_code
theorem yo_RRef_mark : y_RRef_mark.cls = R_RRef ∧ YO y_RRef_mark 1 := ⟨rfl, by decide +kernel, by decide +kernel, by decide +kernel⟩
def y_RRef_markAt : MethodName := ⟨R_RRef, "markAt", "(I)I"⟩
abbrev b_RRef_markAt : ByteArray := prog_8_method_29_code
theorem yo_RRef_markAt : y_RRef_markAt.cls = R_RRef ∧ YO y_RRef_markAt 1 := ⟨rfl, by decide +kernel, by decide +kernel, by decide +kernel⟩
def y_RRef_markOf : MethodName := ⟨R_RRef, "markOf", "(II)I"⟩
abbrev b_RRef_markOf : ByteArray := prog_8_method_51_code
theorem yo_RRef_markOf : y_RRef_markOf.cls = R_RRef ∧ YO y_RRef_markOf 2 := ⟨rfl, by decide +kernel, by decide +kernel, by decide +kernel⟩
def y_RRef_marks : MethodName := ⟨R_RRef, "marks", "(I)I"⟩
abbrev b_RRef_marks : ByteArray := prog_8_method_50_code
theorem yo_RRef_marks : y_RRef_marks.cls = R_RRef ∧ YO y_RRef_marks 1 := ⟨rfl, by decide +kernel, by decide +kernel, by decide +kernel⟩
def y_RRef_marksUsed : MethodName := ⟨R_RRef, "marksUsed", "()V"⟩
abbrev b_RRef_marksUsed : ByteArray := prog_8_method_19_code
theorem yo_RRef_marksUsed : y_RRef_marksUsed.cls = R_RRef ∧ YO y_RRef_marksUsed 0 := ⟨rfl, by decide +kernel, by decide +kernel, by decide +kernel⟩
def y_RRef_named : MethodName := ⟨R_RRef, "named", "(I)I"⟩
abbrev b_RRef_named : ByteArray := prog_8_method_55_code
theorem yo_RRef_named : y_RRef_named.cls = R_RRef ∧ YO y_RRef_named 1 := ⟨rfl, by decide +kernel, by decide +kernel, by decide +kernel⟩
def y_RRef_named0 : MethodName := ⟨R_RRef, "named0", "(I)I"⟩
abbrev b_RRef_named0 : ByteArray := prog_8_method_18_code
theorem yo_RRef_named0 : y_RRef_named0.cls = R_RRef ∧ YO y_RRef_named0 1 := ⟨rfl, by decide +kernel, by decide +kernel, by decide +kernel⟩
def y_RRef_newMark : MethodName := ⟨R_RRef, "newMark", "(I)I"⟩
abbrev b_RRef_newMark : ByteArray := prog_8_method_40_code
theorem yo_RRef_newMark : y_RRef_newMark.cls = R_RRef ∧ YO y_RRef_newMark 1 := ⟨rfl, by decide +kernel, by decide +kernel, by decide +kernel⟩
def y_RRef_number : MethodName := ⟨R_RRef, "number", "([BII)J"⟩
abbrev b_RRef_number : ByteArray := prog_8_method_4_code
theorem yo_RRef_number : y_RRef_number.cls = R_RRef ∧ YO y_RRef_number 3 := ⟨rfl, by decide +kernel, by decide +kernel, by decide +kernel⟩
def y_RRef_oldest : MethodName := ⟨R_RRef, "oldest", "()I"⟩
abbrev b_RRef_oldest : ByteArray := prog_8_method_44_code
theorem yo_RRef_oldest : y_RRef_oldest.cls = R_RRef ∧ YO y_RRef_oldest 0 := ⟨rfl, by decide +kernel, by decide +kernel, by decide +kernel⟩
def y_RRef_open_ : MethodName := ⟨R_RRef, "open", "()I"⟩
abbrev b_RRef_open_ : ByteArray := prog_8_method_33_code
theorem yo_RRef_open_ : y_RRef_open_.cls = R_RRef ∧ YO y_RRef_open_ 0 := ⟨rfl, by decide +kernel, by decide +kernel, by decide +kernel⟩
def y_RRef_out : MethodName := ⟨R_RRef, "out", "(II)I"⟩
abbrev b_RRef_out : ByteArray := prog_8_method_60_code
theorem yo_RRef_out : y_RRef_out.cls = R_RRef ∧ YO y_RRef_out 2 := ⟨rfl, by decide +kernel, by decide +kernel, by decide +kernel⟩
def y_RRef_owner : MethodName := ⟨R_RRef, "owner", "(I)I"⟩
abbrev b_RRef_owner : ByteArray := prog_8_method_43_code
theorem yo_RRef_owner : y_RRef_owner.cls = R_RRef ∧ YO y_RRef_owner 1 := ⟨rfl, by decide +kernel, by decide +kernel, by decide +kernel⟩
def y_RRef_part : MethodName := ⟨R_RRef, "part", "(IJ)I"⟩
abbrev b_RRef_part : ByteArray := prog_8_method_37_code
theorem yo_RRef_part : y_RRef_part.cls = R_RRef ∧ YO y_RRef_part 2 := ⟨rfl, by decide +kernel, by decide +kernel, by decide +kernel⟩
def y_RRef_partAt : MethodName := ⟨R_RRef, "partAt", "(I)I"⟩
abbrev b_RRef_partAt : ByteArray := prog_8_method_28_code
theorem yo_RRef_partAt : y_RRef_partAt.cls = R_RRef ∧ YO y_RRef_partAt 1 := ⟨rfl, by decide +kernel, by decide +kernel, by decide +kernel⟩
def y_RRef_partByte : MethodName := ⟨R_RRef, "partByte", "(II)I"⟩
abbrev b_RRef_partByte : ByteArray := prog_8_method_54_code
theorem yo_RRef_partByte : y_RRef_partByte.cls = R_RRef ∧ YO y_RRef_partByte 2 := ⟨rfl, by decide +kernel, by decide +kernel, by decide +kernel⟩
def y_RRef_partOf : MethodName := ⟨R_RRef, "partOf", "(II)J"⟩
abbrev b_RRef_partOf : ByteArray := prog_8_method_52_code
theorem yo_RRef_partOf : y_RRef_partOf.cls = R_RRef ∧ YO y_RRef_partOf 2 := ⟨rfl, by decide +kernel, by decide +kernel, by decide +kernel⟩
def y_RRef_poke : MethodName := ⟨R_RRef, "poke", "(III)I"⟩
abbrev b_RRef_poke : ByteArray := prog_8_method_57_code
theorem yo_RRef_poke : y_RRef_poke.cls = R_RRef ∧ YO y_RRef_poke 3 := ⟨rfl, by decide +kernel, by decide +kernel, by decide +kernel⟩
def y_RRef_put : MethodName := ⟨R_RRef, "put", "([BIIJ)V"⟩
abbrev b_RRef_put : ByteArray := prog_8_method_5_code
theorem yo_RRef_put : y_RRef_put.cls = R_RRef ∧ YO y_RRef_put 4 := ⟨rfl, by decide +kernel, by decide +kernel, by decide +kernel⟩
def y_RRef_room : MethodName := ⟨R_RRef, "room", "(I)I"⟩
abbrev b_RRef_room : ByteArray := prog_8_method_20_code
theorem yo_RRef_room : y_RRef_room.cls = R_RRef ∧ YO y_RRef_room 1 := ⟨rfl, by decide +kernel, by decide +kernel, by decide +kernel⟩
def y_RRef_savepoint : MethodName := ⟨R_RRef, "savepoint", "(I)I"⟩
abbrev b_RRef_savepoint : ByteArray := prog_8_method_59_code
theorem yo_RRef_savepoint : y_RRef_savepoint.cls = R_RRef ∧ YO y_RRef_savepoint 1 := ⟨rfl, by decide +kernel, by decide +kernel, by decide +kernel⟩
def y_RRef_sumDraft : MethodName := ⟨R_RRef, "sumDraft", "()V"⟩
abbrev b_RRef_sumDraft : ByteArray := prog_8_method_12_code
theorem yo_RRef_sumDraft : y_RRef_sumDraft.cls = R_RRef ∧ YO y_RRef_sumDraft 0 := ⟨rfl, by decide +kernel, by decide +kernel, by decide +kernel⟩
def y_RRef_takeBack : MethodName := ⟨R_RRef, "takeBack", "(II)Z"⟩
abbrev b_RRef_takeBack : ByteArray := prog_8_method_10_code
theorem yo_RRef_takeBack : y_RRef_takeBack.cls = R_RRef ∧ YO y_RRef_takeBack 2 := ⟨rfl, by decide +kernel, by decide +kernel, by decide +kernel⟩
def y_RRef_told : MethodName := ⟨R_RRef, "told", "(I)I"⟩
abbrev b_RRef_told : ByteArray := prog_8_method_64_code
theorem yo_RRef_told : y_RRef_told.cls = R_RRef ∧ YO y_RRef_told 1 := ⟨rfl, by decide +kernel, by decide +kernel, by decide +kernel⟩
def y_RRef_usable : MethodName := ⟨R_RRef, "usable", "()I"⟩
abbrev b_RRef_usable : ByteArray := prog_8_method_48_code
theorem yo_RRef_usable : y_RRef_usable.cls = R_RRef ∧ YO y_RRef_usable 0 := ⟨rfl, by decide +kernel, by decide +kernel, by decide +kernel⟩
def y_RRef_whole : MethodName := ⟨R_RRef, "whole", "(I)I"⟩
abbrev b_RRef_whole : ByteArray := prog_8_method_49_code
theorem yo_RRef_whole : y_RRef_whole.cls = R_RRef ∧ YO y_RRef_whole 1 := ⟨rfl, by decide +kernel, by decide +kernel, by decide +kernel⟩
def y_RRef_wipe : MethodName := ⟨R_RRef, "wipe", "()I"⟩
abbrev b_RRef_wipe : ByteArray := prog_8_method_35_code
theorem yo_RRef_wipe : y_RRef_wipe.cls = R_RRef ∧ YO y_RRef_wipe 0 := ⟨rfl, by decide +kernel, by decide +kernel, by decide +kernel⟩
def y_RRef_write : MethodName := ⟨R_RRef, "write", "(II)Z"⟩
abbrev b_RRef_write : ByteArray := prog_8_method_8_code
theorem yo_RRef_write : y_RRef_write.cls = R_RRef ∧ YO y_RRef_write 2 := ⟨rfl, by decide +kernel, by decide +kernel, by decide +kernel⟩
def y_RRef_writeAll : MethodName := ⟨R_RRef, "writeAll", "(II)Z"⟩
abbrev b_RRef_writeAll : ByteArray := prog_8_method_9_code
theorem yo_RRef_writeAll : y_RRef_writeAll.cls = R_RRef ∧ YO y_RRef_writeAll 2 := ⟨rfl, by decide +kernel, by decide +kernel, by decide +kernel⟩
def y_RRef_writePart : MethodName := ⟨R_RRef, "writePart", "(IJ[BIII)I"⟩
abbrev b_RRef_writePart : ByteArray := prog_8_method_36_code
theorem yo_RRef_writePart : y_RRef_writePart.cls = R_RRef ∧ YO y_RRef_writePart 6 := ⟨rfl, by decide +kernel, by decide +kernel, by decide +kernel⟩
set_option maxRecDepth 100000 in
theorem wf_RRef_13 : (Jvm.Cond.fieldLink "MarkLogModel" (13 : Nat) "MarkLogModel" "open" "Z") ∈ ALL := ALL_of (i := 798) rfl rfl
set_option maxRecDepth 100000 in
theorem wf_RRef_106 : (Jvm.Cond.fieldLink "MarkLogModel" (106 : Nat) "MarkLogModel" "parts" "I") ∈ ALL := ALL_of (i := 808) rfl rfl
set_option maxRecDepth 100000 in
theorem wf_RRef_109 : (Jvm.Cond.fieldLink "MarkLogModel" (109 : Nat) "MarkLogModel" "marks" "I") ∈ ALL := ALL_of (i := 816) rfl rfl
set_option maxRecDepth 100000 in
theorem wf_RRef_147 : (Jvm.Cond.fieldLink "MarkLogModel" (147 : Nat) "MarkLogModel" "lastPart" "I") ∈ ALL := ALL_of (i := 819) rfl rfl
set_option maxRecDepth 100000 in
theorem wf_RRef_153 : (Jvm.Cond.fieldLink "MarkLogModel" (153 : Nat) "MarkLogModel" "lastMark" "I") ∈ ALL := ALL_of (i := 820) rfl rfl
set_option maxRecDepth 100000 in
theorem wf_RRef_137 : (Jvm.Cond.fieldLink "MarkLogModel" (137 : Nat) "MarkLogModel" "serial" "I") ∈ ALL := ALL_of (i := 818) rfl rfl
set_option maxRecDepth 100000 in
theorem wf_RRef_62 : (Jvm.Cond.fieldLink "MarkLogModel" (62 : Nat) "MarkLogModel" "owners" "[I") ∈ ALL := ALL_of (i := 817) rfl rfl
set_option maxRecDepth 100000 in
theorem wf_RRef_7 : (Jvm.Cond.fieldLink "MarkLogModel" (7 : Nat) "MarkLogModel" "medium" "[B") ∈ ALL := ALL_of (i := 796) rfl rfl
set_option maxRecDepth 100000 in
theorem wc_RRef_81 : (Jvm.Cond.constantLong "MarkLogModel" (81 : Nat) (255 : Int64)) ∈ ALL := ALL_of (i := 899) rfl rfl
set_option maxRecDepth 100000 in
theorem g_RRef_85 : CWS R_RRef 85 y_RRef_number b_RRef_number 6 (some .long) := ⟨ALL_of (i := 896) rfl rfl, ALL_of (i := 897) rfl rfl, ALL_of (i := 86) rfl rfl, ALL_of (i := 898) rfl rfl⟩
set_option maxRecDepth 100000 in
theorem g_RRef_119 : CWV R_RRef 119 R_RRef y_RRef_kind b_RRef_kind 2 (some .int) := ⟨ALL_of (i := 900) rfl rfl, ALL_of (i := 902) rfl rfl, ALL_of (i := 49) rfl rfl, ALL_of (i := 86) rfl rfl, ALL_of (i := 903) rfl rfl⟩
set_option maxRecDepth 100000 in
theorem wc_RRef_83 : (Jvm.Cond.constantLong "MarkLogModel" (83 : Nat) (-4417276706812531889 : Int64)) ∈ ALL := ALL_of (i := 911) rfl rfl
set_option maxRecDepth 100000 in
theorem g_RRef_89 : CWS R_RRef 89 y_RRef_digest b_RRef_digest 8 (some .long) := ⟨ALL_of (i := 908) rfl rfl, ALL_of (i := 909) rfl rfl, ALL_of (i := 86) rfl rfl, ALL_of (i := 910) rfl rfl⟩
set_option maxRecDepth 100000 in
theorem g_RRef_122 : CWV R_RRef 122 R_RRef y_RRef_isSummed b_RRef_isSummed 2 (some .boolean) := ⟨ALL_of (i := 904) rfl rfl, ALL_of (i := 906) rfl rfl, ALL_of (i := 50) rfl rfl, ALL_of (i := 86) rfl rfl, ALL_of (i := 907) rfl rfl⟩
set_option maxRecDepth 100000 in
theorem wc_RRef_135 : (Jvm.Cond.constantLong "MarkLogModel" (135 : Nat) (1000000000 : Int64)) ∈ ALL := ALL_of (i := 912) rfl rfl
set_option maxRecDepth 100000 in
theorem g_RRef_140 : CWV R_RRef 140 R_RRef y_RRef_isGood b_RRef_isGood 4 (some .boolean) := ⟨ALL_of (i := 892) rfl rfl, ALL_of (i := 894) rfl rfl, ALL_of (i := 48) rfl rfl, ALL_of (i := 86) rfl rfl, ALL_of (i := 895) rfl rfl⟩
set_option maxRecDepth 100000 in
theorem g_RRef_156 : CWV R_RRef 156 R_RRef y_RRef_heads b_RRef_heads 4 none := ⟨ALL_of (i := 888) rfl rfl, ALL_of (i := 890) rfl rfl, ALL_of (i := 47) rfl rfl, ALL_of (i := 86) rfl rfl, ALL_of (i := 891) rfl rfl⟩
set_option maxRecDepth 100000 in
theorem wf_RRef_78 : (Jvm.Cond.fieldLink "MarkLogModel" (78 : Nat) "MarkLogModel" "rows" "I") ∈ ALL := ALL_of (i := 797) rfl rfl
set_option maxRecDepth 100000 in
theorem g_RRef_112 : CWS R_RRef 112 y_RRef_bodies b_RRef_bodies 1 (some .int) := ⟨ALL_of (i := 917) rfl rfl, ALL_of (i := 918) rfl rfl, ALL_of (i := 86) rfl rfl, ALL_of (i := 919) rfl rfl⟩
set_option maxRecDepth 100000 in
theorem g_RRef_159 : CWV R_RRef 159 R_RRef y_RRef_partAt b_RRef_partAt 8 (some .int) := ⟨ALL_of (i := 913) rfl rfl, ALL_of (i := 915) rfl rfl, ALL_of (i := 51) rfl rfl, ALL_of (i := 86) rfl rfl, ALL_of (i := 916) rfl rfl⟩
set_option maxRecDepth 100000 in
theorem wf_RRef_24 : (Jvm.Cond.fieldLink "MarkLogModel" (24 : Nat) "MarkLogModel" "pNumber" "[I") ∈ ALL := ALL_of (i := 803) rfl rfl
set_option maxRecDepth 100000 in
theorem g_RRef_129 : CWV R_RRef 129 R_RRef y_RRef_findPart b_RRef_findPart 3 (some .int) := ⟨ALL_of (i := 934) rfl rfl, ALL_of (i := 936) rfl rfl, ALL_of (i := 54) rfl rfl, ALL_of (i := 86) rfl rfl, ALL_of (i := 937) rfl rfl⟩
set_option maxRecDepth 100000 in
theorem wf_RRef_28 : (Jvm.Cond.fieldLink "MarkLogModel" (28 : Nat) "MarkLogModel" "pGroup" "[I") ∈ ALL := ALL_of (i := 804) rfl rfl
set_option maxRecDepth 100000 in
theorem wf_RRef_31 : (Jvm.Cond.fieldLink "MarkLogModel" (31 : Nat) "MarkLogModel" "pPosition" "[J") ∈ ALL := ALL_of (i := 805) rfl rfl
set_option maxRecDepth 100000 in
theorem wf_RRef_35 : (Jvm.Cond.fieldLink "MarkLogModel" (35 : Nat) "MarkLogModel" "pLength" "[I") ∈ ALL := ALL_of (i := 806) rfl rfl
set_option maxRecDepth 100000 in
theorem wf_RRef_38 : (Jvm.Cond.fieldLink "MarkLogModel" (38 : Nat) "MarkLogModel" "pRow" "[I") ∈ ALL := ALL_of (i := 807) rfl rfl
set_option maxRecDepth 100000 in
theorem g_RRef_165 : CWV R_RRef 165 R_RRef y_RRef_learnPart b_RRef_learnPart 4 none := ⟨ALL_of (i := 930) rfl rfl, ALL_of (i := 932) rfl rfl, ALL_of (i := 53) rfl rfl, ALL_of (i := 86) rfl rfl, ALL_of (i := 933) rfl rfl⟩
set_option maxRecDepth 100000 in
theorem g_RRef_116 : CWS R_RRef 116 y_RRef_entries b_RRef_entries 1 (some .int) := ⟨ALL_of (i := 924) rfl rfl, ALL_of (i := 925) rfl rfl, ALL_of (i := 86) rfl rfl, ALL_of (i := 926) rfl rfl⟩
set_option maxRecDepth 100000 in
theorem g_RRef_143 : CWS R_RRef 143 y_RRef_entryAt b_RRef_entryAt 2 (some .int) := ⟨ALL_of (i := 927) rfl rfl, ALL_of (i := 928) rfl rfl, ALL_of (i := 86) rfl rfl, ALL_of (i := 929) rfl rfl⟩
set_option maxRecDepth 100000 in
theorem g_RRef_162 : CWV R_RRef 162 R_RRef y_RRef_markAt b_RRef_markAt 13 (some .int) := ⟨ALL_of (i := 920) rfl rfl, ALL_of (i := 922) rfl rfl, ALL_of (i := 52) rfl rfl, ALL_of (i := 86) rfl rfl, ALL_of (i := 923) rfl rfl⟩
set_option maxRecDepth 100000 in
theorem wf_RRef_41 : (Jvm.Cond.fieldLink "MarkLogModel" (41 : Nat) "MarkLogModel" "mNumber" "[I") ∈ ALL := ALL_of (i := 809) rfl rfl
set_option maxRecDepth 100000 in
theorem g_RRef_150 : CWV R_RRef 150 R_RRef y_RRef_findMark b_RRef_findMark 3 (some .int) := ⟨ALL_of (i := 942) rfl rfl, ALL_of (i := 944) rfl rfl, ALL_of (i := 56) rfl rfl, ALL_of (i := 86) rfl rfl, ALL_of (i := 945) rfl rfl⟩
set_option maxRecDepth 100000 in
theorem wf_RRef_44 : (Jvm.Cond.fieldLink "MarkLogModel" (44 : Nat) "MarkLogModel" "mRow" "[I") ∈ ALL := ALL_of (i := 810) rfl rfl
set_option maxRecDepth 100000 in
theorem wf_RRef_47 : (Jvm.Cond.fieldLink "MarkLogModel" (47 : Nat) "MarkLogModel" "mCount" "[I") ∈ ALL := ALL_of (i := 811) rfl rfl
set_option maxRecDepth 100000 in
theorem wf_RRef_50 : (Jvm.Cond.fieldLink "MarkLogModel" (50 : Nat) "MarkLogModel" "mDigest" "[J") ∈ ALL := ALL_of (i := 812) rfl rfl
set_option maxRecDepth 100000 in
theorem wf_RRef_53 : (Jvm.Cond.fieldLink "MarkLogModel" (53 : Nat) "MarkLogModel" "mPart" "[I") ∈ ALL := ALL_of (i := 813) rfl rfl
set_option maxRecDepth 100000 in
theorem wf_RRef_56 : (Jvm.Cond.fieldLink "MarkLogModel" (56 : Nat) "MarkLogModel" "mPartRow" "[I") ∈ ALL := ALL_of (i := 814) rfl rfl
set_option maxRecDepth 100000 in
theorem wf_RRef_59 : (Jvm.Cond.fieldLink "MarkLogModel" (59 : Nat) "MarkLogModel" "mPartDigest" "[J") ∈ ALL := ALL_of (i := 815) rfl rfl
set_option maxRecDepth 100000 in
theorem g_RRef_169 : CWV R_RRef 169 R_RRef y_RRef_learnMark b_RRef_learnMark 7 none := ⟨ALL_of (i := 938) rfl rfl, ALL_of (i := 940) rfl rfl, ALL_of (i := 55) rfl rfl, ALL_of (i := 86) rfl rfl, ALL_of (i := 941) rfl rfl⟩
set_option maxRecDepth 100000 in
theorem g_RRef_172 : CWS R_RRef 172 y_RRef_isIn b_RRef_isIn 3 (some .boolean) := ⟨ALL_of (i := 950) rfl rfl, ALL_of (i := 951) rfl rfl, ALL_of (i := 86) rfl rfl, ALL_of (i := 952) rfl rfl⟩
set_option maxRecDepth 100000 in
theorem wf_RRef_176 : (Jvm.Cond.fieldLink "MarkLogModel" (176 : Nat) "MarkLogModel" "taped" "I") ∈ ALL := ALL_of (i := 802) rfl rfl
set_option maxRecDepth 100000 in
theorem wf_RRef_21 : (Jvm.Cond.fieldLink "MarkLogModel" (21 : Nat) "MarkLogModel" "tape" "[B") ∈ ALL := ALL_of (i := 801) rfl rfl
set_option maxRecDepth 100000 in
theorem wf_RRef_65 : (Jvm.Cond.fieldLink "MarkLogModel" (65 : Nat) "MarkLogModel" "used" "[Z") ∈ ALL := ALL_of (i := 821) rfl rfl
set_option maxRecDepth 100000 in
theorem g_RRef_185 : CWV R_RRef 185 R_RRef y_RRef_marksUsed b_RRef_marksUsed 3 none := ⟨ALL_of (i := 961) rfl rfl, ALL_of (i := 963) rfl rfl, ALL_of (i := 57) rfl rfl, ALL_of (i := 86) rfl rfl, ALL_of (i := 964) rfl rfl⟩
set_option maxRecDepth 100000 in
theorem g_RRef_188 : CWV R_RRef 188 R_RRef y_RRef_room b_RRef_room 4 (some .int) := ⟨ALL_of (i := 965) rfl rfl, ALL_of (i := 967) rfl rfl, ALL_of (i := 58) rfl rfl, ALL_of (i := 86) rfl rfl, ALL_of (i := 968) rfl rfl⟩
set_option maxRecDepth 100000 in
theorem wc_RRef_191 : (Jvm.Cond.constant "MarkLogModel" (191 : Nat) (1000000000 : Int32)) ∈ ALL := ALL_of (i := 969) rfl rfl
set_option maxRecDepth 100000 in
theorem wf_RRef_69 : (Jvm.Cond.fieldLink "MarkLogModel" (69 : Nat) "MarkLogModel" "draft" "[B") ∈ ALL := ALL_of (i := 822) rfl rfl
set_option maxRecDepth 100000 in
theorem g_RRef_99 : CWV R_RRef 99 R_RRef y_RRef_clearDraft b_RRef_clearDraft 2 none := ⟨ALL_of (i := 974) rfl rfl, ALL_of (i := 976) rfl rfl, ALL_of (i := 60) rfl rfl, ALL_of (i := 86) rfl rfl, ALL_of (i := 977) rfl rfl⟩
set_option maxRecDepth 100000 in
theorem g_RRef_102 : CWS R_RRef 102 y_RRef_put b_RRef_put 6 none := ⟨ALL_of (i := 978) rfl rfl, ALL_of (i := 979) rfl rfl, ALL_of (i := 86) rfl rfl, ALL_of (i := 980) rfl rfl⟩
set_option maxRecDepth 100000 in
theorem g_RRef_179 : CWV R_RRef 179 R_RRef y_RRef_sumDraft b_RRef_sumDraft 1 none := ⟨ALL_of (i := 981) rfl rfl, ALL_of (i := 983) rfl rfl, ALL_of (i := 61) rfl rfl, ALL_of (i := 86) rfl rfl, ALL_of (i := 984) rfl rfl⟩
set_option maxRecDepth 100000 in
theorem wf_RRef_17 : (Jvm.Cond.fieldLink "MarkLogModel" (17 : Nat) "MarkLogModel" "cutIn" "I") ∈ ALL := ALL_of (i := 799) rfl rfl
set_option maxRecDepth 100000 in
theorem wf_RRef_92 : (Jvm.Cond.fieldLink "MarkLogModel" (92 : Nat) "MarkLogModel" "written" "I") ∈ ALL := ALL_of (i := 800) rfl rfl
set_option maxRecDepth 100000 in
theorem g_RRef_95 : CWV R_RRef 95 R_RRef y_RRef_write b_RRef_write 4 (some .boolean) := ⟨ALL_of (i := 989) rfl rfl, ALL_of (i := 991) rfl rfl, ALL_of (i := 63) rfl rfl, ALL_of (i := 86) rfl rfl, ALL_of (i := 992) rfl rfl⟩
set_option maxRecDepth 100000 in
theorem g_RRef_182 : CWV R_RRef 182 R_RRef y_RRef_writeAll b_RRef_writeAll 5 (some .boolean) := ⟨ALL_of (i := 985) rfl rfl, ALL_of (i := 987) rfl rfl, ALL_of (i := 62) rfl rfl, ALL_of (i := 86) rfl rfl, ALL_of (i := 988) rfl rfl⟩
set_option maxRecDepth 100000 in
theorem g_RRef_192 : CWV R_RRef 192 R_RRef y_RRef_writePart b_RRef_writePart 9 (some .int) := ⟨ALL_of (i := 970) rfl rfl, ALL_of (i := 972) rfl rfl, ALL_of (i := 59) rfl rfl, ALL_of (i := 86) rfl rfl, ALL_of (i := 973) rfl rfl⟩
set_option maxRecDepth 100000 in
theorem g_RRef_196 : CWV R_RRef 196 R_RRef y_RRef_count b_RRef_count 4 (some .int) := ⟨ALL_of (i := 997) rfl rfl, ALL_of (i := 999) rfl rfl, ALL_of (i := 64) rfl rfl, ALL_of (i := 86) rfl rfl, ALL_of (i := 1000) rfl rfl⟩
set_option maxRecDepth 100000 in
theorem wc_RRef_200 : (Jvm.Cond.constant "MarkLogModel" (200 : Nat) (1000000001 : Int32)) ∈ ALL := ALL_of (i := 1001) rfl rfl
set_option maxRecDepth 100000 in
theorem g_RRef_204 : CWV R_RRef 204 R_RRef y_RRef_newMark b_RRef_newMark 2 (some .int) := ⟨ALL_of (i := 1006) rfl rfl, ALL_of (i := 1008) rfl rfl, ALL_of (i := 66) rfl rfl, ALL_of (i := 86) rfl rfl, ALL_of (i := 1009) rfl rfl⟩
set_option maxRecDepth 100000 in
theorem g_RRef_201 : CWV R_RRef 201 R_RRef y_RRef_below b_RRef_below 4 (some .int) := ⟨ALL_of (i := 1002) rfl rfl, ALL_of (i := 1004) rfl rfl, ALL_of (i := 65) rfl rfl, ALL_of (i := 86) rfl rfl, ALL_of (i := 1005) rfl rfl⟩
set_option maxRecDepth 100000 in
theorem g_RRef_207 : CWV R_RRef 207 R_RRef y_RRef_forgetMark b_RRef_forgetMark 3 none := ⟨ALL_of (i := 1018) rfl rfl, ALL_of (i := 1020) rfl rfl, ALL_of (i := 67) rfl rfl, ALL_of (i := 86) rfl rfl, ALL_of (i := 1021) rfl rfl⟩
set_option maxRecDepth 100000 in
theorem wc_RRef_210 : (Jvm.Cond.constant "MarkLogModel" (210 : Nat) (65535 : Int32)) ∈ ALL := ALL_of (i := 1026) rfl rfl
set_option maxRecDepth 100000 in
theorem g_RRef_218 : CWV R_RRef 218 R_RRef y_RRef_named0 b_RRef_named0 5 (some .int) := ⟨ALL_of (i := 1039) rfl rfl, ALL_of (i := 1041) rfl rfl, ALL_of (i := 70) rfl rfl, ALL_of (i := 86) rfl rfl, ALL_of (i := 1042) rfl rfl⟩
set_option maxRecDepth 100000 in
theorem g_RRef_215 : CWV R_RRef 215 R_RRef y_RRef_takeBack b_RRef_takeBack 5 (some .boolean) := ⟨ALL_of (i := 1035) rfl rfl, ALL_of (i := 1037) rfl rfl, ALL_of (i := 69) rfl rfl, ALL_of (i := 86) rfl rfl, ALL_of (i := 1038) rfl rfl⟩
set_option maxRecDepth 100000 in
theorem g_RRef_221 : CWV R_RRef 221 R_RRef y_RRef_forgetPart b_RRef_forgetPart 2 none := ⟨ALL_of (i := 1043) rfl rfl, ALL_of (i := 1045) rfl rfl, ALL_of (i := 71) rfl rfl, ALL_of (i := 86) rfl rfl, ALL_of (i := 1046) rfl rfl⟩
set_option maxRecDepth 100000 in
theorem g_RRef_211 : CWV R_RRef 211 R_RRef y_RRef_oldest b_RRef_oldest 3 (some .int) := ⟨ALL_of (i := 1031) rfl rfl, ALL_of (i := 1033) rfl rfl, ALL_of (i := 68) rfl rfl, ALL_of (i := 86) rfl rfl, ALL_of (i := 1034) rfl rfl⟩
set_option maxRecDepth 100000 in
theorem g_RRef_132 : CWV R_RRef 132 R_RRef y_RRef_isWholePart b_RRef_isWholePart 3 (some .boolean) := ⟨ALL_of (i := 1067) rfl rfl, ALL_of (i := 1069) rfl rfl, ALL_of (i := 74) rfl rfl, ALL_of (i := 86) rfl rfl, ALL_of (i := 1070) rfl rfl⟩
set_option maxRecDepth 100000 in
theorem g_RRef_126 : CWV R_RRef 126 R_RRef y_RRef_isAsFound b_RRef_isAsFound 3 (some .boolean) := ⟨ALL_of (i := 1063) rfl rfl, ALL_of (i := 1065) rfl rfl, ALL_of (i := 73) rfl rfl, ALL_of (i := 86) rfl rfl, ALL_of (i := 1066) rfl rfl⟩
set_option maxRecDepth 100000 in
theorem g_RRef_224 : CWV R_RRef 224 R_RRef y_RRef_isWholeMark b_RRef_isWholeMark 6 (some .boolean) := ⟨ALL_of (i := 1059) rfl rfl, ALL_of (i := 1061) rfl rfl, ALL_of (i := 72) rfl rfl, ALL_of (i := 86) rfl rfl, ALL_of (i := 1062) rfl rfl⟩
set_option maxRecDepth 100000 in
theorem wc_RRef_231 : (Jvm.Cond.constantLong "MarkLogModel" (231 : Nat) (-1 : Int64)) ∈ ALL := ALL_of (i := 1089) rfl rfl
set_option maxRecDepth 100000 in
theorem wc_RRef_229 : (Jvm.Cond.constantLong "MarkLogModel" (229 : Nat) (-2 : Int64)) ∈ ALL := ALL_of (i := 1088) rfl rfl
set_option maxRecDepth 100000 in
theorem wc_RRef_227 : (Jvm.Cond.constantLong "MarkLogModel" (227 : Nat) (-3 : Int64)) ∈ ALL := ALL_of (i := 1087) rfl rfl
set_option maxRecDepth 100000 in
theorem g_RRef_233 : CWV R_RRef 233 R_RRef y_RRef_byteOf b_RRef_byteOf 3 (some .int) := ⟨ALL_of (i := 1094) rfl rfl, ALL_of (i := 1096) rfl rfl, ALL_of (i := 75) rfl rfl, ALL_of (i := 86) rfl rfl, ALL_of (i := 1097) rfl rfl⟩
set_option maxRecDepth 100000 in
theorem wf_RRef_72 : (Jvm.Cond.fieldLink "MarkLogModel" (72 : Nat) "MarkLogModel" "spoint" "[B") ∈ ALL := ALL_of (i := 823) rfl rfl
set_option maxRecDepth 100000 in
theorem g_RRef_236 : CWV R_RRef 236 R_RRef y_RRef_savepoint b_RRef_savepoint 6 (some .int) := ⟨ALL_of (i := 1118) rfl rfl, ALL_of (i := 1120) rfl rfl, ALL_of (i := 76) rfl rfl, ALL_of (i := 86) rfl rfl, ALL_of (i := 1121) rfl rfl⟩
set_option maxRecDepth 100000 in
theorem g_RRef_239 : CWV R_RRef 239 R_RRef y_RRef_isSavepoint b_RRef_isSavepoint 5 (some .boolean) := ⟨ALL_of (i := 1126) rfl rfl, ALL_of (i := 1128) rfl rfl, ALL_of (i := 77) rfl rfl, ALL_of (i := 86) rfl rfl, ALL_of (i := 1129) rfl rfl⟩
set_option maxRecDepth 100000 in
theorem wf_RRef_75 : (Jvm.Cond.fieldLink "MarkLogModel" (75 : Nat) "MarkLogModel" "places" "[I") ∈ ALL := ALL_of (i := 824) rfl rfl
set_option maxRecDepth 100000 in
theorem wo_RRef_1 : (Jvm.Cond.methodLink "MarkLogModel" (1 : Nat) ({ cls := "java/lang/Object", name := "<init>", desc := "()V" } : Jvm.MethodName)) ∈ ALL := ALL_of (i := 795) rfl rfl
