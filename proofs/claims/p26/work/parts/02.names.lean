def ALL : List Cond := lw_tbl.filter goodWord
theorem ALL_of {w : Cond} {i : Nat} (h : lw_tbl[i]? = some w) (hg : goodWord w = true) : w ∈ ALL := List.mem_filter.mpr ⟨List.mem_of_getElem? h, hg⟩
def NL : List Cond := [(Jvm.Cond.methodLinkNest "MarkLog$Bytes" (35 : Nat) ({ cls := "MarkLog", name := "digestStep", desc := "(JI)J" } : Jvm.MethodName) "MarkLog"), (Jvm.Cond.methodLinkNest "MarkLog$Parts" (38 : Nat) ({ cls := "MarkLog", name := "placeOf", desc := "([III)I" } : Jvm.MethodName) "MarkLog"), (Jvm.Cond.methodLinkNest "MarkLog$Marks" (38 : Nat) ({ cls := "MarkLog", name := "placeOf", desc := "([III)I" } : Jvm.MethodName) "MarkLog"), (Jvm.Cond.methodLinkNest "MarkLog$Medium" (41 : Nat) ({ cls := "MarkLog", name := "digestStep", desc := "(JI)J" } : Jvm.MethodName) "MarkLog")]
theorem NL_in : ∀ w ∈ NL, w ∈ lw_tbl := by
  intro w hw
  have h : NL = [320, 357, 389, 582].filterMap (fun i => lw_tbl[i]?) := by decide +kernel
  rw [h] at hw
  obtain ⟨i, -, hi⟩ := List.mem_filterMap.mp hw
  exact List.mem_of_getElem? hi
theorem NL_is : ∀ w ∈ NL, ∃ a i x h, w = Cond.methodLinkNest a i x h := by
  intro w hw
  simp only [NL, List.mem_cons, List.not_mem_nil, or_false] at hw
  rcases hw with rfl | rfl | rfl | rfl <;> exact ⟨_, _, _, _, rfl⟩
theorem ALL_good : ∀ w ∈ ALL, (w.onTables && w.keeps) = true ∨ ∃ ty, w = .arrayClass ty := fun w hw => good_of_word (List.mem_filter.mp hw).2
abbrev R_Log : String := "MarkLog"
def F_Log : u_T := fun k => match k with
  | 0 => ("MarkLog", "medium", "LMarkLog$Medium;", true)
  | 1 => ("MarkLog", "tape", "LMarkLog$Bytes;", true)
  | 2 => ("MarkLog", "image", "LMarkLog$Bytes;", true)
  | 3 => ("MarkLog", "savepoint", "LMarkLog$Bytes;", true)
  | 4 => ("MarkLog", "otherSavepoint", "LMarkLog$Bytes;", true)
  | 5 => ("MarkLog", "room", "LMarkLog$Room;", true)
  | 6 => ("MarkLog", "trial", "LMarkLog$Room;", true)
  | 7 => ("MarkLog", "parts", "LMarkLog$Parts;", true)
  | 8 => ("MarkLog", "kept", "LMarkLog$Marks;", true)
  | 9 => ("MarkLog", "made", "LMarkLog$Marks;", true)
  | 10 => ("MarkLog", "owners", "[I", true)
  | 11 => ("MarkLog", "serial", "I", false)
  | 12 => ("MarkLog", "greatestPart", "I", false)
  | 13 => ("MarkLog", "greatestMark", "I", false)
  | _ => ("MarkLog", "isOpen", "Z", false)
def t_Log : Nat → FieldType := fun k => match k with
  | 0 => .object "MarkLog$Medium"
  | 1 => .object "MarkLog$Bytes"
  | 2 => .object "MarkLog$Bytes"
  | 3 => .object "MarkLog$Bytes"
  | 4 => .object "MarkLog$Bytes"
  | 5 => .object "MarkLog$Room"
  | 6 => .object "MarkLog$Room"
  | 7 => .object "MarkLog$Parts"
  | 8 => .object "MarkLog$Marks"
  | 9 => .object "MarkLog$Marks"
  | 10 => .array .int
  | 11 => .int
  | 12 => .int
  | 13 => .int
  | _ => .boolean
theorem t_Log_ok : ∀ k, k < 15 → parseFieldDescriptor (F_Log k).2.2.1 = some (t_Log k) := by decide +kernel
theorem n_Log : ∀ a, a < 15 → ∀ b, b < 15 → a ≠ b → (F_Log a).2.1 ≠ (F_Log b).2.1 := by decide +kernel
theorem i_Log : ∀ w ∈ u_ws R_Log F_Log 15, w ∈ ALL := by
  intro w hw
  have h : u_ws R_Log F_Log 15 = [220, 222, 224, 226, 228, 230, 232, 234, 236, 238, 240, 242, 244, 246, 248].filterMap (fun i => lw_tbl[i]?) := by decide +kernel
  have hg : (u_ws R_Log F_Log 15).all goodWord = true := by decide +kernel
  have h2 := List.all_eq_true.mp hg w hw
  rw [h] at hw
  obtain ⟨i, -, hi⟩ := List.mem_filterMap.mp hw
  exact ALL_of hi h2
abbrev R_Medium : String := "MarkLog$Medium"
def F_Medium : u_T := fun k => match k with
  | 0 => ("MarkLog$Medium", "rows", "I", true)
  | 1 => ("MarkLog$Medium", "bytes", "[B", true)
  | 2 => ("MarkLog$Medium", "power", "I", false)
  | _ => ("MarkLog$Medium", "written", "I", false)
def t_Medium : Nat → FieldType := fun k => match k with
  | 0 => .int
  | 1 => .array .byte
  | 2 => .int
  | _ => .int
theorem t_Medium_ok : ∀ k, k < 4 → parseFieldDescriptor (F_Medium k).2.2.1 = some (t_Medium k) := by decide +kernel
theorem n_Medium : ∀ a, a < 4 → ∀ b, b < 4 → a ≠ b → (F_Medium a).2.1 ≠ (F_Medium b).2.1 := by decide +kernel
theorem i_Medium : ∀ w ∈ u_ws R_Medium F_Medium 4, w ∈ ALL := by
  intro w hw
  have h : u_ws R_Medium F_Medium 4 = [111, 113, 115, 117].filterMap (fun i => lw_tbl[i]?) := by decide +kernel
  have hg : (u_ws R_Medium F_Medium 4).all goodWord = true := by decide +kernel
  have h2 := List.all_eq_true.mp hg w hw
  rw [h] at hw
  obtain ⟨i, -, hi⟩ := List.mem_filterMap.mp hw
  exact ALL_of hi h2
abbrev R_Bytes : String := "MarkLog$Bytes"
def F_Bytes : u_T := fun k => match k with
  | 0 => ("MarkLog$Bytes", "bytes", "[B", true)
  | _ => ("MarkLog$Bytes", "size", "I", false)
def t_Bytes : Nat → FieldType := fun k => match k with
  | 0 => .array .byte
  | _ => .int
theorem t_Bytes_ok : ∀ k, k < 2 → parseFieldDescriptor (F_Bytes k).2.2.1 = some (t_Bytes k) := by decide +kernel
theorem n_Bytes : ∀ a, a < 2 → ∀ b, b < 2 → a ≠ b → (F_Bytes a).2.1 ≠ (F_Bytes b).2.1 := by decide +kernel
theorem i_Bytes : ∀ w ∈ u_ws R_Bytes F_Bytes 2, w ∈ ALL := by
  intro w hw
  have h : u_ws R_Bytes F_Bytes 2 = [130, 132].filterMap (fun i => lw_tbl[i]?) := by decide +kernel
  have hg : (u_ws R_Bytes F_Bytes 2).all goodWord = true := by decide +kernel
  have h2 := List.all_eq_true.mp hg w hw
  rw [h] at hw
  obtain ⟨i, -, hi⟩ := List.mem_filterMap.mp hw
  exact ALL_of hi h2
abbrev R_Room : String := "MarkLog$Room"
def F_Room : u_T := fun k => match k with
  | _ => ("MarkLog$Room", "taken", "[Z", true)
def t_Room : Nat → FieldType := fun k => match k with
  | _ => .array .boolean
theorem t_Room_ok : ∀ k, k < 1 → parseFieldDescriptor (F_Room k).2.2.1 = some (t_Room k) := by decide +kernel
theorem n_Room : ∀ a, a < 1 → ∀ b, b < 1 → a ≠ b → (F_Room a).2.1 ≠ (F_Room b).2.1 := by decide +kernel
theorem i_Room : ∀ w ∈ u_ws R_Room F_Room 1, w ∈ ALL := by
  intro w hw
  have h : u_ws R_Room F_Room 1 = [147].filterMap (fun i => lw_tbl[i]?) := by decide +kernel
  have hg : (u_ws R_Room F_Room 1).all goodWord = true := by decide +kernel
  have h2 := List.all_eq_true.mp hg w hw
  rw [h] at hw
  obtain ⟨i, -, hi⟩ := List.mem_filterMap.mp hw
  exact ALL_of hi h2
abbrev R_Parts : String := "MarkLog$Parts"
def F_Parts : u_T := fun k => match k with
  | 0 => ("MarkLog$Parts", "numbers", "[I", true)
  | 1 => ("MarkLog$Parts", "groups", "[I", true)
  | 2 => ("MarkLog$Parts", "lengths", "[I", true)
  | 3 => ("MarkLog$Parts", "rows", "[I", true)
  | 4 => ("MarkLog$Parts", "positions", "[J", true)
  | _ => ("MarkLog$Parts", "size", "I", false)
def t_Parts : Nat → FieldType := fun k => match k with
  | 0 => .array .int
  | 1 => .array .int
  | 2 => .array .int
  | 3 => .array .int
  | 4 => .array .long
  | _ => .int
theorem t_Parts_ok : ∀ k, k < 6 → parseFieldDescriptor (F_Parts k).2.2.1 = some (t_Parts k) := by decide +kernel
theorem n_Parts : ∀ a, a < 6 → ∀ b, b < 6 → a ≠ b → (F_Parts a).2.1 ≠ (F_Parts b).2.1 := by decide +kernel
theorem i_Parts : ∀ w ∈ u_ws R_Parts F_Parts 6, w ∈ ALL := by
  intro w hw
  have h : u_ws R_Parts F_Parts 6 = [164, 166, 168, 170, 172, 174].filterMap (fun i => lw_tbl[i]?) := by decide +kernel
  have hg : (u_ws R_Parts F_Parts 6).all goodWord = true := by decide +kernel
  have h2 := List.all_eq_true.mp hg w hw
  rw [h] at hw
  obtain ⟨i, -, hi⟩ := List.mem_filterMap.mp hw
  exact ALL_of hi h2
abbrev R_Marks : String := "MarkLog$Marks"
def F_Marks : u_T := fun k => match k with
  | 0 => ("MarkLog$Marks", "numbers", "[I", true)
  | 1 => ("MarkLog$Marks", "counts", "[I", true)
  | 2 => ("MarkLog$Marks", "rows", "[I", true)
  | 3 => ("MarkLog$Marks", "partNumbers", "[I", true)
  | 4 => ("MarkLog$Marks", "digests", "[J", true)
  | _ => ("MarkLog$Marks", "size", "I", false)
def t_Marks : Nat → FieldType := fun k => match k with
  | 0 => .array .int
  | 1 => .array .int
  | 2 => .array .int
  | 3 => .array .int
  | 4 => .array .long
  | _ => .int
theorem t_Marks_ok : ∀ k, k < 6 → parseFieldDescriptor (F_Marks k).2.2.1 = some (t_Marks k) := by decide +kernel
theorem n_Marks : ∀ a, a < 6 → ∀ b, b < 6 → a ≠ b → (F_Marks a).2.1 ≠ (F_Marks b).2.1 := by decide +kernel
theorem i_Marks : ∀ w ∈ u_ws R_Marks F_Marks 6, w ∈ ALL := by
  intro w hw
  have h : u_ws R_Marks F_Marks 6 = [192, 194, 196, 198, 200, 202].filterMap (fun i => lw_tbl[i]?) := by decide +kernel
  have hg : (u_ws R_Marks F_Marks 6).all goodWord = true := by decide +kernel
  have h2 := List.all_eq_true.mp hg w hw
  rw [h] at hw
  obtain ⟨i, -, hi⟩ := List.mem_filterMap.mp hw
  exact ALL_of hi h2
abbrev R_RRef : String := "MarkLogModel"
def F_RRef : u_T := fun k => match k with
  | 0 => ("MarkLogModel", "medium", "[B", true)
  | 1 => ("MarkLogModel", "rows", "I", true)
  | 2 => ("MarkLogModel", "open", "Z", false)
  | 3 => ("MarkLogModel", "cutIn", "I", false)
  | 4 => ("MarkLogModel", "written", "I", false)
  | 5 => ("MarkLogModel", "tape", "[B", true)
  | 6 => ("MarkLogModel", "taped", "I", false)
  | 7 => ("MarkLogModel", "pNumber", "[I", true)
  | 8 => ("MarkLogModel", "pGroup", "[I", true)
  | 9 => ("MarkLogModel", "pPosition", "[J", true)
  | 10 => ("MarkLogModel", "pLength", "[I", true)
  | 11 => ("MarkLogModel", "pRow", "[I", true)
  | 12 => ("MarkLogModel", "parts", "I", false)
  | 13 => ("MarkLogModel", "mNumber", "[I", true)
  | 14 => ("MarkLogModel", "mRow", "[I", true)
  | 15 => ("MarkLogModel", "mCount", "[I", true)
  | 16 => ("MarkLogModel", "mDigest", "[J", true)
  | 17 => ("MarkLogModel", "mPart", "[I", true)
  | 18 => ("MarkLogModel", "mPartRow", "[I", true)
  | 19 => ("MarkLogModel", "mPartDigest", "[J", true)
  | 20 => ("MarkLogModel", "marks", "I", false)
  | 21 => ("MarkLogModel", "owners", "[I", true)
  | 22 => ("MarkLogModel", "serial", "I", false)
  | 23 => ("MarkLogModel", "lastPart", "I", false)
  | 24 => ("MarkLogModel", "lastMark", "I", false)
  | 25 => ("MarkLogModel", "used", "[Z", true)
  | 26 => ("MarkLogModel", "draft", "[B", true)
  | 27 => ("MarkLogModel", "spoint", "[B", true)
  | _ => ("MarkLogModel", "places", "[I", true)
def t_RRef : Nat → FieldType := fun k => match k with
  | 0 => .array .byte
  | 1 => .int
  | 2 => .boolean
  | 3 => .int
  | 4 => .int
  | 5 => .array .byte
  | 6 => .int
  | 7 => .array .int
  | 8 => .array .int
  | 9 => .array .long
  | 10 => .array .int
  | 11 => .array .int
  | 12 => .int
  | 13 => .array .int
  | 14 => .array .int
  | 15 => .array .int
  | 16 => .array .long
  | 17 => .array .int
  | 18 => .array .int
  | 19 => .array .long
  | 20 => .int
  | 21 => .array .int
  | 22 => .int
  | 23 => .int
  | 24 => .int
  | 25 => .array .boolean
  | 26 => .array .byte
  | 27 => .array .byte
  | _ => .array .int
theorem t_RRef_ok : ∀ k, k < 29 → parseFieldDescriptor (F_RRef k).2.2.1 = some (t_RRef k) := by decide +kernel
theorem n_RRef : ∀ a, a < 29 → ∀ b, b < 29 → a ≠ b → (F_RRef a).2.1 ≠ (F_RRef b).2.1 := by decide +kernel
theorem i_RRef : ∀ w ∈ u_ws R_RRef F_RRef 29, w ∈ ALL := by
  intro w hw
  have h : u_ws R_RRef F_RRef 29 = [825, 827, 829, 831, 833, 835, 837, 839, 841, 843, 845, 847, 849, 851, 853, 855, 857, 859, 861, 863, 865, 867, 869, 871, 873, 875, 877, 879, 881].filterMap (fun i => lw_tbl[i]?) := by decide +kernel
  have hg : (u_ws R_RRef F_RRef 29).all goodWord = true := by decide +kernel
  have h2 := List.all_eq_true.mp hg w hw
  rw [h] at hw
  obtain ⟨i, -, hi⟩ := List.mem_filterMap.mp hw
  exact ALL_of hi h2
def classes : List vw_C := [(R_Medium, F_Medium, 4), (R_Bytes, F_Bytes, 2), (R_Room, F_Room, 1), (R_Parts, F_Parts, 6), (R_Marks, F_Marks, 6), (R_Log, F_Log, 15), (R_RRef, F_RRef, 29)]
abbrev CWV (own : String) (index : Nat) (C : String) (y : MethodName) (cc : ByteArray) (maxL : Nat) (ret : Option FieldType) : Prop := Cond.methodLink own index y ∈ ALL ∧ Cond.instanceMethod y ∈ ALL ∧ Cond.selects C y y ∈ ALL ∧ Cond.initialized C ∈ ALL ∧ Cond.code y cc maxL ret ∈ ALL
abbrev CWS (own : String) (index : Nat) (y : MethodName) (cc : ByteArray) (maxL : Nat) (ret : Option FieldType) : Prop := Cond.methodLink own index y ∈ ALL ∧ Cond.static y ∈ ALL ∧ Cond.initialized own ∈ ALL ∧ Cond.code y cc maxL ret ∈ ALL
abbrev CWN (own : String) (index : Nat) (y : MethodName) (host : String) (cc : ByteArray) (maxL : Nat) (ret : Option FieldType) : Prop := Cond.methodLinkNest own index y host ∈ NL ∧ Cond.static y ∈ ALL ∧ Cond.initialized y.cls ∈ ALL ∧ Cond.code y cc maxL ret ∈ ALL
abbrev YO (y : MethodName) (n : Nat) : Prop := y.cls ≠ "java/lang/invoke/MethodHandle" ∧ y.cls ≠ "java/lang/invoke/VarHandle" ∧ (parseMethodDescriptor y.desc).map (fun d => d.parameters.length) = some n

