/-! 11.meth.lean.txt -/
def y_4_exchange : MethodName := ⟨zR4, "exchange", "(LAbsentLords$Text;)LAbsentLords$Text;"⟩
abbrev M_4_exchange : zM := (zR4, prog_6_method_2_code, 3, (Option.some (Jvm.ClassFile.FieldType.object "AbsentLords$Text")))
def y_7_isBlank : MethodName := ⟨zR7, "isBlank", "(I)Z"⟩
abbrev M_7_isBlank : zM := (zR7, prog_9_method_9_code, 1, (Option.some Jvm.ClassFile.FieldType.boolean))
def y_7_skipBlanks : MethodName := ⟨zR7, "skipBlanks", "()V"⟩
abbrev M_7_skipBlanks : zM := (zR7, prog_9_method_3_code, 1, (Option.none : Option Jvm.ClassFile.FieldType))
def y_7_isLetter : MethodName := ⟨zR7, "isLetter", "(I)Z"⟩
abbrev M_7_isLetter : zM := (zR7, prog_9_method_10_code, 1, (Option.some Jvm.ClassFile.FieldType.boolean))
def y_j0_coder_7d493 : MethodName := ⟨zRJ0, "coder", "()B"⟩
abbrev M_j0_coder_7d493 : zM := (zRJ0, prog_15_method_152_code, 1, (Option.some Jvm.ClassFile.FieldType.byte))
def y_j0_length_8abf5 : MethodName := ⟨zRJ0, "length", "()I"⟩
abbrev M_j0_length_8abf5 : zM := (zRJ0, prog_15_method_54_code, 1, (Option.some Jvm.ClassFile.FieldType.int))
def y_j0_isLatin1_aae02 : MethodName := ⟨zRJ0, "isLatin1", "()Z"⟩
abbrev M_j0_isLatin1_aae02 : zM := (zRJ0, prog_15_method_154_code, 1, (Option.some Jvm.ClassFile.FieldType.boolean))
def y_j3_checkIndex_8e157 : MethodName := ⟨zRJ3, "checkIndex", "(IILjava/util/function/BiFunction;)I"⟩
abbrev M_j3_checkIndex_8e157 : zM := (zRJ3, prog_19_method_11_code, 3, (Option.some Jvm.ClassFile.FieldType.int))
def y_j0_checkIndex_df160 : MethodName := ⟨zRJ0, "checkIndex", "(II)V"⟩
abbrev M_j0_checkIndex_df160 : zM := (zRJ0, prog_15_method_155_code, 2, (Option.none : Option Jvm.ClassFile.FieldType))
def y_j1_charAt_3b067 : MethodName := ⟨zRJ1, "charAt", "([BI)C"⟩
abbrev M_j1_charAt_3b067 : zM := (zRJ1, prog_16_method_2_code, 2, (Option.some Jvm.ClassFile.FieldType.char))
def y_j0_charAt_5068e : MethodName := ⟨zRJ0, "charAt", "(I)C"⟩
abbrev M_j0_charAt_5068e : zM := (zRJ0, prog_15_method_56_code, 2, (Option.some Jvm.ClassFile.FieldType.char))
def y_7_isWord : MethodName := ⟨zR7, "isWord", "(III)Z"⟩
abbrev M_7_isWord : zM := (zR7, prog_9_method_8_code, 5, (Option.some Jvm.ClassFile.FieldType.boolean))
def y_7_wordOrName : MethodName := ⟨zR7, "wordOrName", "(I)I"⟩
abbrev M_7_wordOrName : zM := (zR7, prog_9_method_7_code, 3, (Option.some Jvm.ClassFile.FieldType.int))
def y_7_scanLetters : MethodName := ⟨zR7, "scanLetters", "(I)I"⟩
abbrev M_7_scanLetters : zM := (zR7, prog_9_method_5_code, 5, (Option.some Jvm.ClassFile.FieldType.int))
def y_7_isDigit : MethodName := ⟨zR7, "isDigit", "(I)Z"⟩
abbrev M_7_isDigit : zM := (zR7, prog_9_method_11_code, 1, (Option.some Jvm.ClassFile.FieldType.boolean))
def y_7_scanDigits : MethodName := ⟨zR7, "scanDigits", "(I)I"⟩
abbrev M_7_scanDigits : zM := (zR7, prog_9_method_6_code, 5, (Option.some Jvm.ClassFile.FieldType.int))
def y_j1_canEncode_9a6ad : MethodName := ⟨zRJ1, "canEncode", "(I)Z"⟩
abbrev M_j1_canEncode_9a6ad : zM := (zRJ1, prog_16_method_4_code, 1, (Option.some Jvm.ClassFile.FieldType.boolean))
def y_j1_indexOfChar_4cfef : MethodName := ⟨zRJ1, "indexOfChar", "([BIII)I"⟩
abbrev M_j1_indexOfChar_4cfef : zM := (zRJ1, prog_16_method_23_code, 6, (Option.some Jvm.ClassFile.FieldType.int))
def y_j1_indexOf_4cfef : MethodName := ⟨zRJ1, "indexOf", "([BIII)I"⟩
abbrev M_j1_indexOf_4cfef : zM := (zRJ1, prog_16_method_22_code, 4, (Option.some Jvm.ClassFile.FieldType.int))
def y_j0_indexOf_7cf53 : MethodName := ⟨zRJ0, "indexOf", "(II)I"⟩
abbrev M_j0_indexOf_7cf53 : zM := (zRJ0, prog_15_method_80_code, 3, (Option.some Jvm.ClassFile.FieldType.int))
def y_j0_indexOf_0f7a4 : MethodName := ⟨zRJ0, "indexOf", "(I)I"⟩
abbrev M_j0_indexOf_0f7a4 : zM := (zRJ0, prog_15_method_79_code, 2, (Option.some Jvm.ClassFile.FieldType.int))
def y_7_scanToken : MethodName := ⟨zR7, "scanToken", "(I)I"⟩
abbrev M_7_scanToken : zM := (zR7, prog_9_method_4_code, 3, (Option.some Jvm.ClassFile.FieldType.int))
def y_7_scan : MethodName := ⟨zR7, "scan", "([BI)V"⟩
abbrev M_7_scan : zM := (zR7, prog_9_method_2_code, 4, (Option.none : Option Jvm.ClassFile.FieldType))
def y_4_begin : MethodName := ⟨zR4, "begin", "()V"⟩
abbrev M_4_begin : zM := (zR4, prog_6_method_4_code, 1, (Option.none : Option Jvm.ClassFile.FieldType))
def y_4_kind : MethodName := ⟨zR4, "kind", "()I"⟩
abbrev M_4_kind : zM := (zR4, prog_6_method_16_code, 1, (Option.some Jvm.ClassFile.FieldType.int))
def y_4_refuse : MethodName := ⟨zR4, "refuse", "(I)Z"⟩
abbrev M_4_refuse : zM := (zR4, prog_6_method_19_code, 2, (Option.some Jvm.ClassFile.FieldType.boolean))
def y_4_take : MethodName := ⟨zR4, "take", "(I)Z"⟩
abbrev M_4_take : zM := (zR4, prog_6_method_18_code, 2, (Option.some Jvm.ClassFile.FieldType.boolean))
def y_4_value : MethodName := ⟨zR4, "value", "()J"⟩
abbrev M_4_value : zM := (zR4, prog_6_method_17_code, 1, (Option.some Jvm.ClassFile.FieldType.long))
def y_4_findName : MethodName := ⟨zR4, "findName", "([JI)I"⟩
abbrev M_4_findName : zM := (zR4, prog_6_method_21_code, 4, (Option.some Jvm.ClassFile.FieldType.int))
def y_4_suspect : MethodName := ⟨zR4, "suspect", "(I)V"⟩
abbrev M_4_suspect : zM := (zR4, prog_6_method_25_code, 2, (Option.none : Option Jvm.ClassFile.FieldType))
def y_4_suspectOldName : MethodName := ⟨zR4, "suspectOldName", "()V"⟩
abbrev M_4_suspectOldName : zM := (zR4, prog_6_method_22_code, 1, (Option.none : Option Jvm.ClassFile.FieldType))
def y_4_suspectNumber : MethodName := ⟨zR4, "suspectNumber", "()V"⟩
abbrev M_4_suspectNumber : zM := (zR4, prog_6_method_24_code, 1, (Option.none : Option Jvm.ClassFile.FieldType))
def y_4_readNamed : MethodName := ⟨zR4, "readNamed", "(I[J[II)Z"⟩
abbrev M_4_readNamed : zM := (zR4, prog_6_method_7_code, 5, (Option.some Jvm.ClassFile.FieldType.boolean))
def y_4_readHouse : MethodName := ⟨zR4, "readHouse", "()Z"⟩
abbrev M_4_readHouse : zM := (zR4, prog_6_method_5_code, 2, (Option.some Jvm.ClassFile.FieldType.boolean))
def y_4_readPerson : MethodName := ⟨zR4, "readPerson", "()Z"⟩
abbrev M_4_readPerson : zM := (zR4, prog_6_method_6_code, 2, (Option.some Jvm.ClassFile.FieldType.boolean))
def y_4_findPerson : MethodName := ⟨zR4, "findPerson", "()I"⟩
abbrev M_4_findPerson : zM := (zR4, prog_6_method_20_code, 2, (Option.some Jvm.ClassFile.FieldType.int))
def y_4_suspectOldRight : MethodName := ⟨zR4, "suspectOldRight", "(II)V"⟩
abbrev M_4_suspectOldRight : zM := (zR4, prog_6_method_23_code, 3, (Option.none : Option Jvm.ClassFile.FieldType))
def y_4_readRight : MethodName := ⟨zR4, "readRight", "()Z"⟩
abbrev M_4_readRight : zM := (zR4, prog_6_method_8_code, 3, (Option.some Jvm.ClassFile.FieldType.boolean))
def y_4_readAbsence : MethodName := ⟨zR4, "readAbsence", "()Z"⟩
abbrev M_4_readAbsence : zM := (zR4, prog_6_method_9_code, 2, (Option.some Jvm.ClassFile.FieldType.boolean))
def y_4_readSeed : MethodName := ⟨zR4, "readSeed", "()Z"⟩
abbrev M_4_readSeed : zM := (zR4, prog_6_method_10_code, 1, (Option.some Jvm.ClassFile.FieldType.boolean))
def y_4_readUnit : MethodName := ⟨zR4, "readUnit", "(I)Z"⟩
abbrev M_4_readUnit : zM := (zR4, prog_6_method_15_code, 3, (Option.some Jvm.ClassFile.FieldType.boolean))
def y_4_readProduct : MethodName := ⟨zR4, "readProduct", "(I)Z"⟩
abbrev M_4_readProduct : zM := (zR4, prog_6_method_14_code, 4, (Option.some Jvm.ClassFile.FieldType.boolean))
def y_4_readSum : MethodName := ⟨zR4, "readSum", "(I)Z"⟩
abbrev M_4_readSum : zM := (zR4, prog_6_method_13_code, 4, (Option.some Jvm.ClassFile.FieldType.boolean))
def y_6_jumpHere : MethodName := ⟨zR6, "jumpHere", "(I)V"⟩
abbrev M_6_jumpHere : zM := (zR6, prog_8_method_4_code, 2, (Option.none : Option Jvm.ClassFile.FieldType))
def y_4_readIf : MethodName := ⟨zR4, "readIf", "()Z"⟩
abbrev M_4_readIf : zM := (zR4, prog_6_method_12_code, 2, (Option.some Jvm.ClassFile.FieldType.boolean))
def y_4_readLaw : MethodName := ⟨zR4, "readLaw", "(I)Z"⟩
abbrev M_4_readLaw : zM := (zR4, prog_6_method_11_code, 3, (Option.some Jvm.ClassFile.FieldType.boolean))
def y_4_readTape : MethodName := ⟨zR4, "readTape", "([BI)I"⟩
abbrev M_4_readTape : zM := (zR4, prog_6_method_3_code, 5, (Option.some Jvm.ClassFile.FieldType.int))
def y_5_begin : MethodName := ⟨zR5, "begin", "(LAbsentLords$Text;)V"⟩
abbrev M_5_begin : zM := (zR5, prog_7_method_2_code, 3, (Option.none : Option Jvm.ClassFile.FieldType))
theorem fw_4_28 : z_FW zR4 28 4 3 (3, 6, fun i => i) := ⟨_, _, rfl, rfl, rfl, by decide, z_m1 (List.mem_of_getElem? (i := 137) rfl) rfl⟩
theorem pw_4_3 : z_PW 4 3 (.object "AbsentLords$Text") := fun _ _ h1 h2 => by
  cases h1
  cases h2
  exact ⟨rfl, by decide +kernel⟩
theorem fw_7_28 : z_FW zR7 28 7 5 (0, 0, fun i => i) := ⟨_, _, rfl, rfl, rfl, by decide, z_m1 (List.mem_of_getElem? (i := 47) rfl) rfl⟩
theorem fw_7_24 : z_FW zR7 24 7 4 (0, 0, fun i => i) := ⟨_, _, rfl, rfl, rfl, by decide, z_m1 (List.mem_of_getElem? (i := 46) rfl) rfl⟩
theorem fw_7_20 : z_FW zR7 20 7 3 (3, 34, fun i => i) := ⟨_, _, rfl, rfl, rfl, by decide, z_m1 (List.mem_of_getElem? (i := 45) rfl) rfl⟩
theorem sa_34 : z_SA 34 1 := ⟨rfl, rfl, by decide⟩
theorem mw_7_isBlank : z_MW y_7_isBlank M_7_isBlank 1 := ⟨z_m1 (List.mem_of_getElem? (i := 3) rfl) rfl, z_m2 (List.mem_of_getElem? (i := 139) rfl) rfl, by decide, by decide, by decide +kernel⟩
theorem ml_7_44 : Cond.methodLink zR7 44 y_7_isBlank ∈ lw_gd := z_m2 (List.mem_of_getElem? (i := 137) rfl) rfl
theorem is_7_isBlank : Cond.static y_7_isBlank ∈ lw_gd := z_m2 (List.mem_of_getElem? (i := 138) rfl) rfl
theorem pw_7_5 : z_PW 7 5 (.int) := fun _ _ h1 h2 => by
  cases h1
  cases h2
  exact ⟨rfl, by decide +kernel⟩
theorem fw_J0_38 : Cond.fieldLink zRJ0 38 "java/lang/String" "COMPACT_STRINGS" "Z" ∈ lw_gd := z_m2 (List.mem_of_getElem? (i := 165) rfl) rfl
theorem fw_J0_15 : Cond.fieldLink zRJ0 15 "java/lang/String" "coder" "B" ∈ lw_gd := z_m8 (List.mem_of_getElem? (i := 123) rfl) rfl
theorem fw_J0_9 : Cond.fieldLink zRJ0 9 "java/lang/String" "value" "[B" ∈ lw_gd := z_m8 (List.mem_of_getElem? (i := 122) rfl) rfl
theorem mw_j0_coder_7d493 : z_MW y_j0_coder_7d493 M_j0_coder_7d493 0 := ⟨z_m1 (List.mem_of_getElem? (i := 12) rfl) rfl, z_m2 (List.mem_of_getElem? (i := 164) rfl) rfl, by decide, by decide, by decide +kernel⟩
theorem ml_J0_335 : Cond.methodLink zRJ0 335 y_j0_coder_7d493 ∈ lw_gd := z_m2 (List.mem_of_getElem? (i := 161) rfl) rfl
theorem im_j0_coder_7d493 : Cond.instanceMethod y_j0_coder_7d493 ∈ lw_gd := z_m2 (List.mem_of_getElem? (i := 162) rfl) rfl
theorem se_j0_coder_7d493 : Cond.selects y_j0_coder_7d493.cls y_j0_coder_7d493 y_j0_coder_7d493 ∈ lw_gd := z_m2 (List.mem_of_getElem? (i := 163) rfl) rfl
theorem fw_J0_1053 : Cond.fieldLink zRJ0 1053 "jdk/internal/util/Preconditions" "SIOOBE_FORMATTER" "Ljava/util/function/BiFunction;" ∈ lw_gd := z_m2 (List.mem_of_getElem? (i := 185) rfl) rfl
theorem mw_j3_checkIndex_8e157 : z_MW y_j3_checkIndex_8e157 M_j3_checkIndex_8e157 3 := ⟨z_m1 (List.mem_of_getElem? (i := 14) rfl) rfl, z_m2 (List.mem_of_getElem? (i := 189) rfl) rfl, by decide, by decide, by decide +kernel⟩
theorem ml_J0_1059 : Cond.methodLink zRJ0 1059 y_j3_checkIndex_8e157 ∈ lw_gd := z_m2 (List.mem_of_getElem? (i := 187) rfl) rfl
theorem is_j3_checkIndex_8e157 : Cond.static y_j3_checkIndex_8e157 ∈ lw_gd := z_m2 (List.mem_of_getElem? (i := 188) rfl) rfl
theorem mw_j0_checkIndex_df160 : z_MW y_j0_checkIndex_df160 M_j0_checkIndex_df160 2 := ⟨z_m1 (List.mem_of_getElem? (i := 12) rfl) rfl, z_m2 (List.mem_of_getElem? (i := 184) rfl) rfl, by decide, by decide, by decide +kernel⟩
theorem fit_2_2_3 : z_fit (z_rm 3) 0 0 2 2 := ⟨by decide, by decide, by decide, by decide⟩
theorem ml_J1_9 : Cond.methodLink zRJ1 9 y_j0_checkIndex_df160 ∈ lw_gd := z_m2 (List.mem_of_getElem? (i := 182) rfl) rfl
theorem is_j0_checkIndex_df160 : Cond.static y_j0_checkIndex_df160 ∈ lw_gd := z_m2 (List.mem_of_getElem? (i := 183) rfl) rfl
theorem mw_j0_isLatin1_aae02 : z_MW y_j0_isLatin1_aae02 M_j0_isLatin1_aae02 0 := ⟨z_m1 (List.mem_of_getElem? (i := 12) rfl) rfl, z_m2 (List.mem_of_getElem? (i := 178) rfl) rfl, by decide, by decide, by decide +kernel⟩
theorem ml_J0_492 : Cond.methodLink zRJ0 492 y_j0_isLatin1_aae02 ∈ lw_gd := z_m2 (List.mem_of_getElem? (i := 175) rfl) rfl
theorem im_j0_isLatin1_aae02 : Cond.instanceMethod y_j0_isLatin1_aae02 ∈ lw_gd := z_m2 (List.mem_of_getElem? (i := 176) rfl) rfl
theorem se_j0_isLatin1_aae02 : Cond.selects y_j0_isLatin1_aae02.cls y_j0_isLatin1_aae02 y_j0_isLatin1_aae02 ∈ lw_gd := z_m2 (List.mem_of_getElem? (i := 177) rfl) rfl
theorem mw_j1_charAt_3b067 : z_MW y_j1_charAt_3b067 M_j1_charAt_3b067 2 := ⟨z_m1 (List.mem_of_getElem? (i := 13) rfl) rfl, z_m2 (List.mem_of_getElem? (i := 181) rfl) rfl, by decide, by decide, by decide +kernel⟩
theorem ml_J0_495 : Cond.methodLink zRJ0 495 y_j1_charAt_3b067 ∈ lw_gd := z_m2 (List.mem_of_getElem? (i := 179) rfl) rfl
theorem is_j1_charAt_3b067 : Cond.static y_j1_charAt_3b067 ∈ lw_gd := z_m2 (List.mem_of_getElem? (i := 180) rfl) rfl
theorem mw_j0_length_8abf5 : z_MW y_j0_length_8abf5 M_j0_length_8abf5 0 := ⟨z_m1 (List.mem_of_getElem? (i := 12) rfl) rfl, z_m2 (List.mem_of_getElem? (i := 160) rfl) rfl, by decide, by decide, by decide +kernel⟩
theorem fit_2_1_5 : z_fit (z_rm 5) 0 0 2 1 := ⟨by decide, by decide, by decide, by decide⟩
theorem ml_7_76 : Cond.methodLink zR7 76 y_j0_length_8abf5 ∈ lw_gd := z_m2 (List.mem_of_getElem? (i := 157) rfl) rfl
theorem im_j0_length_8abf5 : Cond.instanceMethod y_j0_length_8abf5 ∈ lw_gd := z_m2 (List.mem_of_getElem? (i := 158) rfl) rfl
theorem se_j0_length_8abf5 : Cond.selects y_j0_length_8abf5.cls y_j0_length_8abf5 y_j0_length_8abf5 ∈ lw_gd := z_m2 (List.mem_of_getElem? (i := 159) rfl) rfl
theorem mw_j0_charAt_5068e : z_MW y_j0_charAt_5068e M_j0_charAt_5068e 1 := ⟨z_m1 (List.mem_of_getElem? (i := 12) rfl) rfl, z_m2 (List.mem_of_getElem? (i := 174) rfl) rfl, by decide, by decide, by decide +kernel⟩
theorem fit_4_2_5 : z_fit (z_rm 5) 0 0 4 2 := ⟨by decide, by decide, by decide, by decide⟩
theorem ml_7_83 : Cond.methodLink zR7 83 y_j0_charAt_5068e ∈ lw_gd := z_m2 (List.mem_of_getElem? (i := 171) rfl) rfl
theorem im_j0_charAt_5068e : Cond.instanceMethod y_j0_charAt_5068e ∈ lw_gd := z_m2 (List.mem_of_getElem? (i := 172) rfl) rfl
theorem se_j0_charAt_5068e : Cond.selects y_j0_charAt_5068e.cls y_j0_charAt_5068e y_j0_charAt_5068e ∈ lw_gd := z_m2 (List.mem_of_getElem? (i := 173) rfl) rfl
theorem fit_2_1_6 : z_fit (z_rm 6) 0 0 2 1 := ⟨by decide, by decide, by decide, by decide⟩
theorem mw_7_isWord : z_MW y_7_isWord M_7_isWord 3 := ⟨z_m1 (List.mem_of_getElem? (i := 3) rfl) rfl, z_m2 (List.mem_of_getElem? (i := 170) rfl) rfl, by decide, by decide, by decide +kernel⟩
theorem ml_7_79 : Cond.methodLink zR7 79 y_7_isWord ∈ lw_gd := z_m2 (List.mem_of_getElem? (i := 167) rfl) rfl
theorem im_7_isWord : Cond.instanceMethod y_7_isWord ∈ lw_gd := z_m2 (List.mem_of_getElem? (i := 169) rfl) rfl
theorem se_7_isWord : Cond.selects y_7_isWord.cls y_7_isWord y_7_isWord ∈ lw_gd := z_s (q := (y_7_isWord, _)) (List.mem_of_getElem? (i := 5) rfl)
theorem mw_7_isLetter : z_MW y_7_isLetter M_7_isLetter 1 := ⟨z_m1 (List.mem_of_getElem? (i := 3) rfl) rfl, z_m2 (List.mem_of_getElem? (i := 146) rfl) rfl, by decide, by decide, by decide +kernel⟩
theorem fit_1_1_7 : z_fit (z_rm 7) 0 0 1 1 := ⟨by decide, by decide, by decide, by decide⟩
theorem ml_7_48 : Cond.methodLink zR7 48 y_7_isLetter ∈ lw_gd := z_m2 (List.mem_of_getElem? (i := 144) rfl) rfl
theorem is_7_isLetter : Cond.static y_7_isLetter ∈ lw_gd := z_m2 (List.mem_of_getElem? (i := 145) rfl) rfl
theorem kc_7_67 : Cond.constantLong zR7 67 (32 : Int64) ∈ lw_gd := z_m2 (List.mem_of_getElem? (i := 151) rfl) rfl
theorem fw_7_16 : z_FW zR7 16 7 2 (2, 33, fun i => i) := ⟨_, _, rfl, rfl, rfl, by decide, z_m1 (List.mem_of_getElem? (i := 43) rfl) rfl⟩
theorem sa_33 : z_SA 33 3 := ⟨rfl, rfl, by decide⟩
theorem mw_7_wordOrName : z_MW y_7_wordOrName M_7_wordOrName 1 := ⟨z_m1 (List.mem_of_getElem? (i := 3) rfl) rfl, z_m2 (List.mem_of_getElem? (i := 155) rfl) rfl, by decide, by decide, by decide +kernel⟩
theorem fit_6_3_7 : z_fit (z_rm 7) 0 0 6 3 := ⟨by decide, by decide, by decide, by decide⟩
theorem ml_7_69 : Cond.methodLink zR7 69 y_7_wordOrName ∈ lw_gd := z_m2 (List.mem_of_getElem? (i := 152) rfl) rfl
theorem im_7_wordOrName : Cond.instanceMethod y_7_wordOrName ∈ lw_gd := z_m2 (List.mem_of_getElem? (i := 154) rfl) rfl
theorem se_7_wordOrName : Cond.selects y_7_wordOrName.cls y_7_wordOrName y_7_wordOrName ∈ lw_gd := z_s (q := (y_7_wordOrName, _)) (List.mem_of_getElem? (i := 4) rfl)
theorem mw_7_isDigit : z_MW y_7_isDigit M_7_isDigit 1 := ⟨z_m1 (List.mem_of_getElem? (i := 3) rfl) rfl, z_m2 (List.mem_of_getElem? (i := 211) rfl) rfl, by decide, by decide, by decide +kernel⟩
theorem ml_7_54 : Cond.methodLink zR7 54 y_7_isDigit ∈ lw_gd := z_m2 (List.mem_of_getElem? (i := 209) rfl) rfl
theorem is_7_isDigit : Cond.static y_7_isDigit ∈ lw_gd := z_m2 (List.mem_of_getElem? (i := 210) rfl) rfl
theorem kc_7_72 : Cond.constantLong zR7 72 (10 : Int64) ∈ lw_gd := z_m2 (List.mem_of_getElem? (i := 216) rfl) rfl
theorem mw_j1_canEncode_9a6ad : z_MW y_j1_canEncode_9a6ad M_j1_canEncode_9a6ad 1 := ⟨z_m1 (List.mem_of_getElem? (i := 13) rfl) rfl, z_m2 (List.mem_of_getElem? (i := 232) rfl) rfl, by decide, by decide, by decide +kernel⟩
theorem ml_J1_88 : Cond.methodLink zRJ1 88 y_j1_canEncode_9a6ad ∈ lw_gd := z_m2 (List.mem_of_getElem? (i := 230) rfl) rfl
theorem is_j1_canEncode_9a6ad : Cond.static y_j1_canEncode_9a6ad ∈ lw_gd := z_m2 (List.mem_of_getElem? (i := 231) rfl) rfl
theorem ml_J1_92 : Cond.methodLink zRJ1 92 y_j9_max_7cf53 ∈ lw_gd := z_m2 (List.mem_of_getElem? (i := 233) rfl) rfl
theorem ml_J1_38 : Cond.methodLink zRJ1 38 y_j9_min_7cf53 ∈ lw_gd := z_m2 (List.mem_of_getElem? (i := 236) rfl) rfl
theorem mw_j1_indexOfChar_4cfef : z_MW y_j1_indexOfChar_4cfef M_j1_indexOfChar_4cfef 4 := ⟨z_m1 (List.mem_of_getElem? (i := 13) rfl) rfl, z_m2 (List.mem_of_getElem? (i := 239) rfl) rfl, by decide, by decide, by decide +kernel⟩
theorem fit_1_6_2 : z_fit (z_rm 2) 0 0 1 6 := ⟨by decide, by decide, by decide, by decide⟩
theorem ml_J1_95 : Cond.methodLink zRJ1 95 y_j1_indexOfChar_4cfef ∈ lw_gd := z_m2 (List.mem_of_getElem? (i := 237) rfl) rfl
theorem is_j1_indexOfChar_4cfef : Cond.static y_j1_indexOfChar_4cfef ∈ lw_gd := z_m2 (List.mem_of_getElem? (i := 238) rfl) rfl
theorem fit_1_1_3 : z_fit (z_rm 3) 0 0 1 1 := ⟨by decide, by decide, by decide, by decide⟩
theorem fit_2_1_3 : z_fit (z_rm 3) 0 0 2 1 := ⟨by decide, by decide, by decide, by decide⟩
theorem ml_J0_505 : Cond.methodLink zRJ0 505 y_j0_length_8abf5 ∈ lw_gd := z_m2 (List.mem_of_getElem? (i := 226) rfl) rfl
theorem mw_j1_indexOf_4cfef : z_MW y_j1_indexOf_4cfef M_j1_indexOf_4cfef 4 := ⟨z_m1 (List.mem_of_getElem? (i := 13) rfl) rfl, z_m2 (List.mem_of_getElem? (i := 229) rfl) rfl, by decide, by decide, by decide +kernel⟩
theorem fit_2_4_3 : z_fit (z_rm 3) 0 0 2 4 := ⟨by decide, by decide, by decide, by decide⟩
theorem ml_J0_637 : Cond.methodLink zRJ0 637 y_j1_indexOf_4cfef ∈ lw_gd := z_m2 (List.mem_of_getElem? (i := 227) rfl) rfl
theorem is_j1_indexOf_4cfef : Cond.static y_j1_indexOf_4cfef ∈ lw_gd := z_m2 (List.mem_of_getElem? (i := 228) rfl) rfl
theorem mw_j0_indexOf_7cf53 : z_MW y_j0_indexOf_7cf53 M_j0_indexOf_7cf53 2 := ⟨z_m1 (List.mem_of_getElem? (i := 12) rfl) rfl, z_m2 (List.mem_of_getElem? (i := 225) rfl) rfl, by decide, by decide, by decide +kernel⟩
theorem ml_J0_633 : Cond.methodLink zRJ0 633 y_j0_indexOf_7cf53 ∈ lw_gd := z_m2 (List.mem_of_getElem? (i := 222) rfl) rfl
theorem im_j0_indexOf_7cf53 : Cond.instanceMethod y_j0_indexOf_7cf53 ∈ lw_gd := z_m2 (List.mem_of_getElem? (i := 223) rfl) rfl
theorem se_j0_indexOf_7cf53 : Cond.selects y_j0_indexOf_7cf53.cls y_j0_indexOf_7cf53 y_j0_indexOf_7cf53 ∈ lw_gd := z_m2 (List.mem_of_getElem? (i := 224) rfl) rfl
theorem fit_1_1_8 : z_fit (z_rm 8) 0 0 1 1 := ⟨by decide, by decide, by decide, by decide⟩
theorem mw_j0_indexOf_0f7a4 : z_MW y_j0_indexOf_0f7a4 M_j0_indexOf_0f7a4 1 := ⟨z_m1 (List.mem_of_getElem? (i := 12) rfl) rfl, z_m2 (List.mem_of_getElem? (i := 221) rfl) rfl, by decide, by decide, by decide +kernel⟩
theorem fit_4_2_8 : z_fit (z_rm 8) 0 0 4 2 := ⟨by decide, by decide, by decide, by decide⟩
theorem ml_7_62 : Cond.methodLink zR7 62 y_j0_indexOf_0f7a4 ∈ lw_gd := z_m2 (List.mem_of_getElem? (i := 218) rfl) rfl
theorem im_j0_indexOf_0f7a4 : Cond.instanceMethod y_j0_indexOf_0f7a4 ∈ lw_gd := z_m2 (List.mem_of_getElem? (i := 219) rfl) rfl
theorem se_j0_indexOf_0f7a4 : Cond.selects y_j0_indexOf_0f7a4.cls y_j0_indexOf_0f7a4 y_j0_indexOf_0f7a4 ∈ lw_gd := z_m2 (List.mem_of_getElem? (i := 220) rfl) rfl
theorem mw_7_scanDigits : z_MW y_7_scanDigits M_7_scanDigits 1 := ⟨z_m1 (List.mem_of_getElem? (i := 3) rfl) rfl, z_m2 (List.mem_of_getElem? (i := 215) rfl) rfl, by decide, by decide, by decide +kernel⟩
theorem fit_2_5_8 : z_fit (z_rm 8) 0 0 2 5 := ⟨by decide, by decide, by decide, by decide⟩
theorem ml_7_57 : Cond.methodLink zR7 57 y_7_scanDigits ∈ lw_gd := z_m2 (List.mem_of_getElem? (i := 212) rfl) rfl
theorem im_7_scanDigits : Cond.instanceMethod y_7_scanDigits ∈ lw_gd := z_m2 (List.mem_of_getElem? (i := 214) rfl) rfl
theorem se_7_scanDigits : Cond.selects y_7_scanDigits.cls y_7_scanDigits y_7_scanDigits ∈ lw_gd := z_s (q := (y_7_scanDigits, _)) (List.mem_of_getElem? (i := 6) rfl)
theorem mw_7_scanLetters : z_MW y_7_scanLetters M_7_scanLetters 1 := ⟨z_m1 (List.mem_of_getElem? (i := 3) rfl) rfl, z_m2 (List.mem_of_getElem? (i := 150) rfl) rfl, by decide, by decide, by decide +kernel⟩
theorem fit_7_5_8 : z_fit (z_rm 8) 0 0 7 5 := ⟨by decide, by decide, by decide, by decide⟩
theorem ml_7_51 : Cond.methodLink zR7 51 y_7_scanLetters ∈ lw_gd := z_m2 (List.mem_of_getElem? (i := 147) rfl) rfl
theorem im_7_scanLetters : Cond.instanceMethod y_7_scanLetters ∈ lw_gd := z_m2 (List.mem_of_getElem? (i := 149) rfl) rfl
theorem se_7_scanLetters : Cond.selects y_7_scanLetters.cls y_7_scanLetters y_7_scanLetters ∈ lw_gd := z_s (q := (y_7_scanLetters, _)) (List.mem_of_getElem? (i := 3) rfl)
theorem pw_7_3 : z_PW 7 3 (.array .byte) := fun _ _ h1 h2 => by
  cases h1
  cases h2
  exact ⟨rfl, by decide +kernel⟩
theorem fit_1_2_9 : z_fit (z_rm 9) 0 0 1 2 := ⟨by decide, by decide, by decide, by decide⟩
theorem ml_7_31 : Cond.methodLink zR7 31 y_j9_min_7cf53 ∈ lw_gd := z_m2 (List.mem_of_getElem? (i := 130) rfl) rfl
theorem pw_7_4 : z_PW 7 4 (.int) := fun _ _ h1 h2 => by
  cases h1
  cases h2
  exact ⟨rfl, by decide +kernel⟩
theorem mw_7_skipBlanks : z_MW y_7_skipBlanks M_7_skipBlanks 0 := ⟨z_m1 (List.mem_of_getElem? (i := 3) rfl) rfl, z_m2 (List.mem_of_getElem? (i := 136) rfl) rfl, by decide, by decide, by decide +kernel⟩
theorem fit_2_1_9 : z_fit (z_rm 9) 0 0 2 1 := ⟨by decide, by decide, by decide, by decide⟩
theorem ml_7_37 : Cond.methodLink zR7 37 y_7_skipBlanks ∈ lw_gd := z_m2 (List.mem_of_getElem? (i := 133) rfl) rfl
theorem im_7_skipBlanks : Cond.instanceMethod y_7_skipBlanks ∈ lw_gd := z_m2 (List.mem_of_getElem? (i := 135) rfl) rfl
theorem se_7_skipBlanks : Cond.selects y_7_skipBlanks.cls y_7_skipBlanks y_7_skipBlanks ∈ lw_gd := z_s (q := (y_7_skipBlanks, _)) (List.mem_of_getElem? (i := 1) rfl)
theorem fw_7_13 : z_FW zR7 13 7 1 (2, 32, fun i => i) := ⟨_, _, rfl, rfl, rfl, by decide, z_m1 (List.mem_of_getElem? (i := 41) rfl) rfl⟩
theorem sa_32 : z_SA 32 0 := ⟨rfl, rfl, by decide⟩
theorem fw_7_9 : z_FW zR7 9 7 0 (2, 31, fun i => i) := ⟨_, _, rfl, rfl, rfl, by decide, z_m1 (List.mem_of_getElem? (i := 39) rfl) rfl⟩
theorem mw_7_scanToken : z_MW y_7_scanToken M_7_scanToken 1 := ⟨z_m1 (List.mem_of_getElem? (i := 3) rfl) rfl, z_m2 (List.mem_of_getElem? (i := 143) rfl) rfl, by decide, by decide, by decide +kernel⟩
theorem fit_8_3_9 : z_fit (z_rm 9) 0 0 8 3 := ⟨by decide, by decide, by decide, by decide⟩
theorem ml_7_40 : Cond.methodLink zR7 40 y_7_scanToken ∈ lw_gd := z_m2 (List.mem_of_getElem? (i := 140) rfl) rfl
theorem im_7_scanToken : Cond.instanceMethod y_7_scanToken ∈ lw_gd := z_m2 (List.mem_of_getElem? (i := 142) rfl) rfl
theorem se_7_scanToken : Cond.selects y_7_scanToken.cls y_7_scanToken y_7_scanToken ∈ lw_gd := z_s (q := (y_7_scanToken, _)) (List.mem_of_getElem? (i := 2) rfl)
theorem sa_31 : z_SA 31 0 := ⟨rfl, rfl, by decide⟩
theorem mw_6_empty : z_MW y_6_empty M_6_empty 0 := ⟨z_m1 (List.mem_of_getElem? (i := 4) rfl) rfl, z_m1 (List.mem_of_getElem? (i := 73) rfl) rfl, by decide, by decide, by decide +kernel⟩
theorem ml_4_89 : Cond.methodLink zR4 89 y_6_empty ∈ lw_gd := z_m3 (List.mem_of_getElem? (i := 39) rfl) rfl
theorem im_6_empty : Cond.instanceMethod y_6_empty ∈ lw_gd := z_m1 (List.mem_of_getElem? (i := 71) rfl) rfl
theorem se_6_empty : Cond.selects y_6_empty.cls y_6_empty y_6_empty ∈ lw_gd := z_m1 (List.mem_of_getElem? (i := 72) rfl) rfl
theorem fw_4_32 : z_FW zR4 32 4 4 (0, 0, fun i => i) := ⟨_, _, rfl, rfl, rfl, by decide, z_m1 (List.mem_of_getElem? (i := 138) rfl) rfl⟩
theorem pw_4_4 : z_PW 4 4 (.int) := fun _ _ h1 h2 => by
  cases h1
  cases h2
  exact ⟨rfl, by decide +kernel⟩
theorem fw_4_36 : z_FW zR4 36 4 5 (0, 0, fun i => i) := ⟨_, _, rfl, rfl, rfl, by decide, z_m1 (List.mem_of_getElem? (i := 139) rfl) rfl⟩
theorem pw_4_5 : z_PW 4 5 (.int) := fun _ _ h1 h2 => by
  cases h1
  cases h2
  exact ⟨rfl, by decide +kernel⟩
theorem fw_4_39 : z_FW zR4 39 4 6 (0, 0, fun i => i) := ⟨_, _, rfl, rfl, rfl, by decide, z_m1 (List.mem_of_getElem? (i := 140) rfl) rfl⟩
theorem pw_4_6 : z_PW 4 6 (.int) := fun _ _ h1 h2 => by
  cases h1
  cases h2
  exact ⟨rfl, by decide +kernel⟩
theorem fw_4_42 : z_FW zR4 42 4 7 (0, 0, fun i => i) := ⟨_, _, rfl, rfl, rfl, by decide, z_m1 (List.mem_of_getElem? (i := 141) rfl) rfl⟩
theorem pw_4_7 : z_PW 4 7 (.int) := fun _ _ h1 h2 => by
  cases h1
  cases h2
  exact ⟨rfl, by decide +kernel⟩
theorem fw_4_48 : z_FW zR4 48 4 9 (0, 0, fun i => i) := ⟨_, _, rfl, rfl, rfl, by decide, z_m1 (List.mem_of_getElem? (i := 144) rfl) rfl⟩
theorem pw_4_9 : z_PW 4 9 (.int) := fun _ _ h1 h2 => by
  cases h1
  cases h2
  exact ⟨rfl, by decide +kernel⟩
theorem fw_4_51 : z_FW zR4 51 4 10 (0, 0, fun i => i) := ⟨_, _, rfl, rfl, rfl, by decide, z_m1 (List.mem_of_getElem? (i := 145) rfl) rfl⟩
theorem pw_4_10 : z_PW 4 10 (.int) := fun _ _ h1 h2 => by
  cases h1
  cases h2
  exact ⟨rfl, by decide +kernel⟩
theorem fw_4_12 : z_FW zR4 12 4 0 (2, 7, fun _ => 0) := ⟨_, _, rfl, rfl, rfl, by decide, z_m1 (List.mem_of_getElem? (i := 134) rfl) rfl⟩
theorem fw_4_169 : z_FW zR4 169 7 0 (2, 31, fun i => i) := ⟨_, _, rfl, rfl, rfl, by decide, z_m1 (List.mem_of_getElem? (i := 40) rfl) rfl⟩
theorem fw_4_172 : z_FW zR4 172 7 2 (2, 33, fun i => i) := ⟨_, _, rfl, rfl, rfl, by decide, z_m1 (List.mem_of_getElem? (i := 44) rfl) rfl⟩
theorem sa_21 : z_SA 21 3 := ⟨rfl, rfl, by decide⟩
theorem mw_4_value : z_MW y_4_value M_4_value 0 := ⟨z_m1 (List.mem_of_getElem? (i := 2) rfl) rfl, z_m3 (List.mem_of_getElem? (i := 71) rfl) rfl, by decide, by decide, by decide +kernel⟩
theorem ml_4_117 : Cond.methodLink zR4 117 y_4_value ∈ lw_gd := z_m3 (List.mem_of_getElem? (i := 68) rfl) rfl
theorem im_4_value : Cond.instanceMethod y_4_value ∈ lw_gd := z_m3 (List.mem_of_getElem? (i := 70) rfl) rfl
theorem se_4_value : Cond.selects y_4_value.cls y_4_value y_4_value ∈ lw_gd := z_s (q := (y_4_value, _)) (List.mem_of_getElem? (i := 15) rfl)
theorem fw_4_85 : z_FW zR4 85 7 1 (2, 32, fun i => i) := ⟨_, _, rfl, rfl, rfl, by decide, z_m1 (List.mem_of_getElem? (i := 42) rfl) rfl⟩
theorem fw_4_18 : z_FW zR4 18 4 1 (2, 21, fun _ => 0) := ⟨_, _, rfl, rfl, rfl, by decide, z_m1 (List.mem_of_getElem? (i := 135) rfl) rfl⟩
theorem fw_4_92 : z_FW zR4 92 6 0 (0, 0, fun i => i) := ⟨_, _, rfl, rfl, rfl, by decide, z_m1 (List.mem_of_getElem? (i := 81) rfl) rfl⟩
theorem mw_4_findName : z_MW y_4_findName M_4_findName 2 := ⟨z_m1 (List.mem_of_getElem? (i := 2) rfl) rfl, z_m3 (List.mem_of_getElem? (i := 67) rfl) rfl, by decide, by decide, by decide +kernel⟩
theorem ml_4_127 : Cond.methodLink zR4 127 y_4_findName ∈ lw_gd := z_m3 (List.mem_of_getElem? (i := 64) rfl) rfl
theorem im_4_findName : Cond.instanceMethod y_4_findName ∈ lw_gd := z_m3 (List.mem_of_getElem? (i := 66) rfl) rfl
theorem se_4_findName : Cond.selects y_4_findName.cls y_4_findName y_4_findName ∈ lw_gd := z_s (q := (y_4_findName, _)) (List.mem_of_getElem? (i := 14) rfl)
theorem fw_4_22 : z_FW zR4 22 4 2 (2, 21, fun _ => 1) := ⟨_, _, rfl, rfl, rfl, by decide, z_m1 (List.mem_of_getElem? (i := 136) rfl) rfl⟩
theorem fw_4_105 : z_FW zR4 105 6 1 (0, 0, fun i => i) := ⟨_, _, rfl, rfl, rfl, by decide, z_m1 (List.mem_of_getElem? (i := 86) rfl) rfl⟩
theorem mw_4_suspect : z_MW y_4_suspect M_4_suspect 1 := ⟨z_m1 (List.mem_of_getElem? (i := 2) rfl) rfl, z_m3 (List.mem_of_getElem? (i := 75) rfl) rfl, by decide, by decide, by decide +kernel⟩
theorem ml_4_131 : Cond.methodLink zR4 131 y_4_suspect ∈ lw_gd := z_m3 (List.mem_of_getElem? (i := 72) rfl) rfl
theorem im_4_suspect : Cond.instanceMethod y_4_suspect ∈ lw_gd := z_m3 (List.mem_of_getElem? (i := 74) rfl) rfl
theorem se_4_suspect : Cond.selects y_4_suspect.cls y_4_suspect y_4_suspect ∈ lw_gd := z_s (q := (y_4_suspect, _)) (List.mem_of_getElem? (i := 16) rfl)
theorem kc_4_179 : Cond.constantLong zR4 179 (99 : Int64) ∈ lw_gd := z_m3 (List.mem_of_getElem? (i := 80) rfl) rfl
theorem mw_4_take : z_MW y_4_take M_4_take 1 := ⟨z_m1 (List.mem_of_getElem? (i := 2) rfl) rfl, z_m3 (List.mem_of_getElem? (i := 59) rfl) rfl, by decide, by decide, by decide +kernel⟩
theorem ml_4_111 : Cond.methodLink zR4 111 y_4_take ∈ lw_gd := z_m3 (List.mem_of_getElem? (i := 56) rfl) rfl
theorem im_4_take : Cond.instanceMethod y_4_take ∈ lw_gd := z_m3 (List.mem_of_getElem? (i := 58) rfl) rfl
theorem se_4_take : Cond.selects y_4_take.cls y_4_take y_4_take ∈ lw_gd := z_s (q := (y_4_take, _)) (List.mem_of_getElem? (i := 12) rfl)
theorem mw_4_suspectOldName : z_MW y_4_suspectOldName M_4_suspectOldName 0 := ⟨z_m1 (List.mem_of_getElem? (i := 2) rfl) rfl, z_m3 (List.mem_of_getElem? (i := 63) rfl) rfl, by decide, by decide, by decide +kernel⟩
theorem fit_3_1_4 : z_fit (z_rm 4) 0 0 3 1 := ⟨by decide, by decide, by decide, by decide⟩
theorem ml_4_114 : Cond.methodLink zR4 114 y_4_suspectOldName ∈ lw_gd := z_m3 (List.mem_of_getElem? (i := 60) rfl) rfl
theorem im_4_suspectOldName : Cond.instanceMethod y_4_suspectOldName ∈ lw_gd := z_m3 (List.mem_of_getElem? (i := 62) rfl) rfl
theorem se_4_suspectOldName : Cond.selects y_4_suspectOldName.cls y_4_suspectOldName y_4_suspectOldName ∈ lw_gd := z_s (q := (y_4_suspectOldName, _)) (List.mem_of_getElem? (i := 13) rfl)
theorem mw_4_suspectNumber : z_MW y_4_suspectNumber M_4_suspectNumber 0 := ⟨z_m1 (List.mem_of_getElem? (i := 2) rfl) rfl, z_m3 (List.mem_of_getElem? (i := 79) rfl) rfl, by decide, by decide, by decide +kernel⟩
theorem fit_2_1_4 : z_fit (z_rm 4) 0 0 2 1 := ⟨by decide, by decide, by decide, by decide⟩
theorem ml_4_121 : Cond.methodLink zR4 121 y_4_suspectNumber ∈ lw_gd := z_m3 (List.mem_of_getElem? (i := 76) rfl) rfl
theorem im_4_suspectNumber : Cond.instanceMethod y_4_suspectNumber ∈ lw_gd := z_m3 (List.mem_of_getElem? (i := 78) rfl) rfl
theorem se_4_suspectNumber : Cond.selects y_4_suspectNumber.cls y_4_suspectNumber y_4_suspectNumber ∈ lw_gd := z_s (q := (y_4_suspectNumber, _)) (List.mem_of_getElem? (i := 17) rfl)
theorem fw_4_98 : z_FW zR4 98 6 3 (2, 26, fun i => 2 * i) := ⟨_, _, rfl, rfl, rfl, by decide, z_m1 (List.mem_of_getElem? (i := 94) rfl) rfl⟩
theorem mw_4_readNamed : z_MW y_4_readNamed M_4_readNamed 4 := ⟨z_m1 (List.mem_of_getElem? (i := 2) rfl) rfl, z_m3 (List.mem_of_getElem? (i := 55) rfl) rfl, by decide, by decide, by decide +kernel⟩
theorem ml_4_101 : Cond.methodLink zR4 101 y_4_readNamed ∈ lw_gd := z_m3 (List.mem_of_getElem? (i := 52) rfl) rfl
theorem im_4_readNamed : Cond.instanceMethod y_4_readNamed ∈ lw_gd := z_m3 (List.mem_of_getElem? (i := 54) rfl) rfl
theorem se_4_readNamed : Cond.selects y_4_readNamed.cls y_4_readNamed y_4_readNamed ∈ lw_gd := z_s (q := (y_4_readNamed, _)) (List.mem_of_getElem? (i := 11) rfl)
theorem mw_4_refuse : z_MW y_4_refuse M_4_refuse 1 := ⟨z_m1 (List.mem_of_getElem? (i := 2) rfl) rfl, z_m3 (List.mem_of_getElem? (i := 51) rfl) rfl, by decide, by decide, by decide +kernel⟩
theorem ml_4_95 : Cond.methodLink zR4 95 y_4_refuse ∈ lw_gd := z_m3 (List.mem_of_getElem? (i := 48) rfl) rfl
theorem im_4_refuse : Cond.instanceMethod y_4_refuse ∈ lw_gd := z_m3 (List.mem_of_getElem? (i := 50) rfl) rfl
theorem se_4_refuse : Cond.selects y_4_refuse.cls y_4_refuse y_4_refuse ∈ lw_gd := z_s (q := (y_4_refuse, _)) (List.mem_of_getElem? (i := 10) rfl)
theorem fw_4_108 : z_FW zR4 108 6 5 (2, 26, fun i => 2 * i + 1) := ⟨_, _, rfl, rfl, rfl, by decide, z_m1 (List.mem_of_getElem? (i := 101) rfl) rfl⟩
theorem fw_4_139 : z_FW zR4 139 6 4 (2, 27, fun i => i) := ⟨_, _, rfl, rfl, rfl, by decide, z_m1 (List.mem_of_getElem? (i := 98) rfl) rfl⟩
theorem nl_4_175 : (zR4, 175, y_8_has, "AbsentLords") ∈ z_nest := List.mem_of_getElem? (i := 8) rfl
theorem mw_4_findPerson : z_MW y_4_findPerson M_4_findPerson 0 := ⟨z_m1 (List.mem_of_getElem? (i := 2) rfl) rfl, z_m3 (List.mem_of_getElem? (i := 92) rfl) rfl, by decide, by decide, by decide +kernel⟩
theorem ml_4_124 : Cond.methodLink zR4 124 y_4_findPerson ∈ lw_gd := z_m3 (List.mem_of_getElem? (i := 89) rfl) rfl
theorem im_4_findPerson : Cond.instanceMethod y_4_findPerson ∈ lw_gd := z_m3 (List.mem_of_getElem? (i := 91) rfl) rfl
theorem se_4_findPerson : Cond.selects y_4_findPerson.cls y_4_findPerson y_4_findPerson ∈ lw_gd := z_s (q := (y_4_findPerson, _)) (List.mem_of_getElem? (i := 20) rfl)
theorem fit_2_4_4 : z_fit (z_rm 4) 0 0 2 4 := ⟨by decide, by decide, by decide, by decide⟩
theorem mw_4_suspectOldRight : z_MW y_4_suspectOldRight M_4_suspectOldRight 2 := ⟨z_m1 (List.mem_of_getElem? (i := 2) rfl) rfl, z_m3 (List.mem_of_getElem? (i := 96) rfl) rfl, by decide, by decide, by decide +kernel⟩
theorem fit_2_3_4 : z_fit (z_rm 4) 0 0 2 3 := ⟨by decide, by decide, by decide, by decide⟩
theorem ml_4_135 : Cond.methodLink zR4 135 y_4_suspectOldRight ∈ lw_gd := z_m3 (List.mem_of_getElem? (i := 93) rfl) rfl
theorem im_4_suspectOldRight : Cond.instanceMethod y_4_suspectOldRight ∈ lw_gd := z_m3 (List.mem_of_getElem? (i := 95) rfl) rfl
theorem se_4_suspectOldRight : Cond.selects y_4_suspectOldRight.cls y_4_suspectOldRight y_4_suspectOldRight ∈ lw_gd := z_s (q := (y_4_suspectOldRight, _)) (List.mem_of_getElem? (i := 21) rfl)
theorem fw_4_142 : z_FW zR4 142 6 6 (2, 28, fun i => i) := ⟨_, _, rfl, rfl, rfl, by decide, z_m1 (List.mem_of_getElem? (i := 104) rfl) rfl⟩
theorem fw_4_144 : z_FW zR4 144 6 2 (0, 0, fun i => i) := ⟨_, _, rfl, rfl, rfl, by decide, z_m1 (List.mem_of_getElem? (i := 90) rfl) rfl⟩
theorem mw_4_kind : z_MW y_4_kind M_4_kind 0 := ⟨z_m1 (List.mem_of_getElem? (i := 2) rfl) rfl, z_m3 (List.mem_of_getElem? (i := 43) rfl) rfl, by decide, by decide, by decide +kernel⟩
theorem ml_4_61 : Cond.methodLink zR4 61 y_4_kind ∈ lw_gd := z_m3 (List.mem_of_getElem? (i := 40) rfl) rfl
theorem im_4_kind : Cond.instanceMethod y_4_kind ∈ lw_gd := z_m3 (List.mem_of_getElem? (i := 42) rfl) rfl
theorem se_4_kind : Cond.selects y_4_kind.cls y_4_kind y_4_kind ∈ lw_gd := z_s (q := (y_4_kind, _)) (List.mem_of_getElem? (i := 8) rfl)
theorem mw_4_readSum : z_MW y_4_readSum M_4_readSum 1 := ⟨z_m1 (List.mem_of_getElem? (i := 2) rfl) rfl, z_m3 (List.mem_of_getElem? (i := 119) rfl) rfl, by decide, by decide, by decide +kernel⟩
theorem ml_4_154 : Cond.methodLink zR4 154 y_4_readSum ∈ lw_gd := z_m3 (List.mem_of_getElem? (i := 116) rfl) rfl
theorem im_4_readSum : Cond.instanceMethod y_4_readSum ∈ lw_gd := z_m3 (List.mem_of_getElem? (i := 118) rfl) rfl
theorem se_4_readSum : Cond.selects y_4_readSum.cls y_4_readSum y_4_readSum ∈ lw_gd := z_s (q := (y_4_readSum, _)) (List.mem_of_getElem? (i := 26) rfl)
theorem ml_4_157 : Cond.methodLink zR4 157 y_6_write ∈ lw_gd := z_m3 (List.mem_of_getElem? (i := 128) rfl) rfl
theorem mw_4_readUnit : z_MW y_4_readUnit M_4_readUnit 1 := ⟨z_m1 (List.mem_of_getElem? (i := 2) rfl) rfl, z_m3 (List.mem_of_getElem? (i := 127) rfl) rfl, by decide, by decide, by decide +kernel⟩
theorem ml_4_166 : Cond.methodLink zR4 166 y_4_readUnit ∈ lw_gd := z_m3 (List.mem_of_getElem? (i := 124) rfl) rfl
theorem im_4_readUnit : Cond.instanceMethod y_4_readUnit ∈ lw_gd := z_m3 (List.mem_of_getElem? (i := 126) rfl) rfl
theorem se_4_readUnit : Cond.selects y_4_readUnit.cls y_4_readUnit y_4_readUnit ∈ lw_gd := z_s (q := (y_4_readUnit, _)) (List.mem_of_getElem? (i := 28) rfl)
theorem mw_4_readProduct : z_MW y_4_readProduct M_4_readProduct 1 := ⟨z_m1 (List.mem_of_getElem? (i := 2) rfl) rfl, z_m3 (List.mem_of_getElem? (i := 123) rfl) rfl, by decide, by decide, by decide +kernel⟩
theorem ml_4_163 : Cond.methodLink zR4 163 y_4_readProduct ∈ lw_gd := z_m3 (List.mem_of_getElem? (i := 120) rfl) rfl
theorem im_4_readProduct : Cond.instanceMethod y_4_readProduct ∈ lw_gd := z_m3 (List.mem_of_getElem? (i := 122) rfl) rfl
theorem se_4_readProduct : Cond.selects y_4_readProduct.cls y_4_readProduct y_4_readProduct ∈ lw_gd := z_s (q := (y_4_readProduct, _)) (List.mem_of_getElem? (i := 27) rfl)
theorem fit_1_2_31 : z_fit (z_rm 31) 0 0 1 2 := ⟨by decide, by decide, by decide, by decide⟩
theorem fit_30_4_31 : z_fit (z_rm 31) 0 0 30 4 := ⟨by decide, by decide, by decide, by decide⟩
theorem fw_4_148 : z_FW zR4 148 6 9 (0, 0, fun i => i) := ⟨_, _, rfl, rfl, rfl, by decide, z_m1 (List.mem_of_getElem? (i := 112) rfl) rfl⟩
theorem mw_6_jumpHere : z_MW y_6_jumpHere M_6_jumpHere 1 := ⟨z_m1 (List.mem_of_getElem? (i := 4) rfl) rfl, z_m3 (List.mem_of_getElem? (i := 132) rfl) rfl, by decide, by decide, by decide +kernel⟩
theorem ml_4_160 : Cond.methodLink zR4 160 y_6_jumpHere ∈ lw_gd := z_m3 (List.mem_of_getElem? (i := 129) rfl) rfl
theorem im_6_jumpHere : Cond.instanceMethod y_6_jumpHere ∈ lw_gd := z_m3 (List.mem_of_getElem? (i := 130) rfl) rfl
theorem se_6_jumpHere : Cond.selects y_6_jumpHere.cls y_6_jumpHere y_6_jumpHere ∈ lw_gd := z_m3 (List.mem_of_getElem? (i := 131) rfl) rfl
theorem fit_1_2_32 : z_fit (z_rm 32) 0 0 1 2 := ⟨by decide, by decide, by decide, by decide⟩
theorem fw_4_147 : z_FW zR4 147 6 8 (2, 30, fun i => i) := ⟨_, _, rfl, rfl, rfl, by decide, z_m1 (List.mem_of_getElem? (i := 109) rfl) rfl⟩
theorem fit_1_1_32 : z_fit (z_rm 32) 0 0 1 1 := ⟨by decide, by decide, by decide, by decide⟩
theorem mw_4_readIf : z_MW y_4_readIf M_4_readIf 0 := ⟨z_m1 (List.mem_of_getElem? (i := 2) rfl) rfl, z_m3 (List.mem_of_getElem? (i := 115) rfl) rfl, by decide, by decide, by decide +kernel⟩
theorem fit_31_2_32 : z_fit (z_rm 32) 0 0 31 2 := ⟨by decide, by decide, by decide, by decide⟩
theorem ml_4_151 : Cond.methodLink zR4 151 y_4_readIf ∈ lw_gd := z_m3 (List.mem_of_getElem? (i := 112) rfl) rfl
theorem im_4_readIf : Cond.instanceMethod y_4_readIf ∈ lw_gd := z_m3 (List.mem_of_getElem? (i := 114) rfl) rfl
theorem se_4_readIf : Cond.selects y_4_readIf.cls y_4_readIf y_4_readIf ∈ lw_gd := z_s (q := (y_4_readIf, _)) (List.mem_of_getElem? (i := 25) rfl)
theorem fit_30_4_32 : z_fit (z_rm 32) 0 0 30 4 := ⟨by decide, by decide, by decide, by decide⟩
theorem mw_7_scan : z_MW y_7_scan M_7_scan 2 := ⟨z_m1 (List.mem_of_getElem? (i := 3) rfl) rfl, z_m2 (List.mem_of_getElem? (i := 129) rfl) rfl, by decide, by decide, by decide +kernel⟩
theorem fit_9_4_33 : z_fit (z_rm 33) 0 0 9 4 := ⟨by decide, by decide, by decide, by decide⟩
theorem ml_4_54 : Cond.methodLink zR4 54 y_7_scan ∈ lw_gd := z_m2 (List.mem_of_getElem? (i := 126) rfl) rfl
theorem im_7_scan : Cond.instanceMethod y_7_scan ∈ lw_gd := z_m2 (List.mem_of_getElem? (i := 127) rfl) rfl
theorem se_7_scan : Cond.selects y_7_scan.cls y_7_scan y_7_scan ∈ lw_gd := z_m2 (List.mem_of_getElem? (i := 128) rfl) rfl
theorem mw_4_begin : z_MW y_4_begin M_4_begin 0 := ⟨z_m1 (List.mem_of_getElem? (i := 2) rfl) rfl, z_m3 (List.mem_of_getElem? (i := 38) rfl) rfl, by decide, by decide, by decide +kernel⟩
theorem fit_3_1_33 : z_fit (z_rm 33) 0 0 3 1 := ⟨by decide, by decide, by decide, by decide⟩
theorem ml_4_58 : Cond.methodLink zR4 58 y_4_begin ∈ lw_gd := z_m3 (List.mem_of_getElem? (i := 35) rfl) rfl
theorem im_4_begin : Cond.instanceMethod y_4_begin ∈ lw_gd := z_m3 (List.mem_of_getElem? (i := 37) rfl) rfl
theorem se_4_begin : Cond.selects y_4_begin.cls y_4_begin y_4_begin ∈ lw_gd := z_s (q := (y_4_begin, _)) (List.mem_of_getElem? (i := 7) rfl)
theorem fit_1_1_33 : z_fit (z_rm 33) 0 0 1 1 := ⟨by decide, by decide, by decide, by decide⟩
theorem mw_4_readHouse : z_MW y_4_readHouse M_4_readHouse 0 := ⟨z_m1 (List.mem_of_getElem? (i := 2) rfl) rfl, z_m3 (List.mem_of_getElem? (i := 47) rfl) rfl, by decide, by decide, by decide +kernel⟩
theorem fit_5_2_33 : z_fit (z_rm 33) 0 0 5 2 := ⟨by decide, by decide, by decide, by decide⟩
theorem ml_4_65 : Cond.methodLink zR4 65 y_4_readHouse ∈ lw_gd := z_m3 (List.mem_of_getElem? (i := 44) rfl) rfl
theorem im_4_readHouse : Cond.instanceMethod y_4_readHouse ∈ lw_gd := z_m3 (List.mem_of_getElem? (i := 46) rfl) rfl
theorem se_4_readHouse : Cond.selects y_4_readHouse.cls y_4_readHouse y_4_readHouse ∈ lw_gd := z_s (q := (y_4_readHouse, _)) (List.mem_of_getElem? (i := 9) rfl)
theorem mw_4_readPerson : z_MW y_4_readPerson M_4_readPerson 0 := ⟨z_m1 (List.mem_of_getElem? (i := 2) rfl) rfl, z_m3 (List.mem_of_getElem? (i := 84) rfl) rfl, by decide, by decide, by decide +kernel⟩
theorem ml_4_69 : Cond.methodLink zR4 69 y_4_readPerson ∈ lw_gd := z_m3 (List.mem_of_getElem? (i := 81) rfl) rfl
theorem im_4_readPerson : Cond.instanceMethod y_4_readPerson ∈ lw_gd := z_m3 (List.mem_of_getElem? (i := 83) rfl) rfl
theorem se_4_readPerson : Cond.selects y_4_readPerson.cls y_4_readPerson y_4_readPerson ∈ lw_gd := z_s (q := (y_4_readPerson, _)) (List.mem_of_getElem? (i := 18) rfl)
theorem mw_4_readRight : z_MW y_4_readRight M_4_readRight 0 := ⟨z_m1 (List.mem_of_getElem? (i := 2) rfl) rfl, z_m3 (List.mem_of_getElem? (i := 88) rfl) rfl, by decide, by decide, by decide +kernel⟩
theorem fit_4_3_33 : z_fit (z_rm 33) 0 0 4 3 := ⟨by decide, by decide, by decide, by decide⟩
theorem ml_4_72 : Cond.methodLink zR4 72 y_4_readRight ∈ lw_gd := z_m3 (List.mem_of_getElem? (i := 85) rfl) rfl
theorem im_4_readRight : Cond.instanceMethod y_4_readRight ∈ lw_gd := z_m3 (List.mem_of_getElem? (i := 87) rfl) rfl
theorem se_4_readRight : Cond.selects y_4_readRight.cls y_4_readRight y_4_readRight ∈ lw_gd := z_s (q := (y_4_readRight, _)) (List.mem_of_getElem? (i := 19) rfl)
theorem mw_4_readAbsence : z_MW y_4_readAbsence M_4_readAbsence 0 := ⟨z_m1 (List.mem_of_getElem? (i := 2) rfl) rfl, z_m3 (List.mem_of_getElem? (i := 103) rfl) rfl, by decide, by decide, by decide +kernel⟩
theorem fit_4_2_33 : z_fit (z_rm 33) 0 0 4 2 := ⟨by decide, by decide, by decide, by decide⟩
theorem ml_4_75 : Cond.methodLink zR4 75 y_4_readAbsence ∈ lw_gd := z_m3 (List.mem_of_getElem? (i := 100) rfl) rfl
theorem im_4_readAbsence : Cond.instanceMethod y_4_readAbsence ∈ lw_gd := z_m3 (List.mem_of_getElem? (i := 102) rfl) rfl
theorem se_4_readAbsence : Cond.selects y_4_readAbsence.cls y_4_readAbsence y_4_readAbsence ∈ lw_gd := z_s (q := (y_4_readAbsence, _)) (List.mem_of_getElem? (i := 22) rfl)
theorem mw_4_readLaw : z_MW y_4_readLaw M_4_readLaw 1 := ⟨z_m1 (List.mem_of_getElem? (i := 2) rfl) rfl, z_m3 (List.mem_of_getElem? (i := 111) rfl) rfl, by decide, by decide, by decide +kernel⟩
theorem fit_32_3_33 : z_fit (z_rm 33) 0 0 32 3 := ⟨by decide, by decide, by decide, by decide⟩
theorem ml_4_81 : Cond.methodLink zR4 81 y_4_readLaw ∈ lw_gd := z_m3 (List.mem_of_getElem? (i := 108) rfl) rfl
theorem im_4_readLaw : Cond.instanceMethod y_4_readLaw ∈ lw_gd := z_m3 (List.mem_of_getElem? (i := 110) rfl) rfl
theorem se_4_readLaw : Cond.selects y_4_readLaw.cls y_4_readLaw y_4_readLaw ∈ lw_gd := z_s (q := (y_4_readLaw, _)) (List.mem_of_getElem? (i := 24) rfl)
theorem mw_4_readSeed : z_MW y_4_readSeed M_4_readSeed 0 := ⟨z_m1 (List.mem_of_getElem? (i := 2) rfl) rfl, z_m3 (List.mem_of_getElem? (i := 107) rfl) rfl, by decide, by decide, by decide +kernel⟩
theorem fit_2_1_33 : z_fit (z_rm 33) 0 0 2 1 := ⟨by decide, by decide, by decide, by decide⟩
theorem ml_4_78 : Cond.methodLink zR4 78 y_4_readSeed ∈ lw_gd := z_m3 (List.mem_of_getElem? (i := 104) rfl) rfl
theorem im_4_readSeed : Cond.instanceMethod y_4_readSeed ∈ lw_gd := z_m3 (List.mem_of_getElem? (i := 106) rfl) rfl
theorem se_4_readSeed : Cond.selects y_4_readSeed.cls y_4_readSeed y_4_readSeed ∈ lw_gd := z_s (q := (y_4_readSeed, _)) (List.mem_of_getElem? (i := 23) rfl)
theorem fw_4_45 : z_FW zR4 45 4 8 (0, 0, fun i => i) := ⟨_, _, rfl, rfl, rfl, by decide, z_m1 (List.mem_of_getElem? (i := 142) rfl) rfl⟩
theorem pw_4_8 : z_PW 4 8 (.int) := fun _ _ h1 h2 => by
  cases h1
  cases h2
  exact ⟨rfl, by decide +kernel⟩
theorem fw_5_34 : z_FW zR5 34 6 1 (0, 0, fun i => i) := ⟨_, _, rfl, rfl, rfl, by decide, z_m1 (List.mem_of_getElem? (i := 85) rfl) rfl⟩
theorem nl_5_39 : (zR5, 39, y_8_everybody, "AbsentLords") ∈ z_nest := List.mem_of_getElem? (i := 9) rfl
theorem fw_5_43 : z_FW zR5 43 6 5 (2, 26, fun i => 2 * i + 1) := ⟨_, _, rfl, rfl, rfl, by decide, z_m1 (List.mem_of_getElem? (i := 100) rfl) rfl⟩
theorem fw_5_44 : z_FW zR5 44 6 6 (2, 28, fun i => i) := ⟨_, _, rfl, rfl, rfl, by decide, z_m1 (List.mem_of_getElem? (i := 103) rfl) rfl⟩
theorem ml_5_47 : Cond.methodLink zR5 47 y_5_goAway ∈ lw_gd := z_m3 (List.mem_of_getElem? (i := 144) rfl) rfl
theorem fw_5_51 : z_FW zR5 51 6 4 (2, 27, fun i => i) := ⟨_, _, rfl, rfl, rfl, by decide, z_m1 (List.mem_of_getElem? (i := 97) rfl) rfl⟩
theorem d_4_exchange_0 : zD prog_6_method_2_code 0 (.aload_n 0) 1 1 := ⟨by decide +kernel, rfl⟩
theorem d_4_exchange_1 : zD prog_6_method_2_code 1 (.getfield 28) 3 4 := ⟨by decide +kernel, rfl⟩
theorem d_4_exchange_4 : zD prog_6_method_2_code 4 (.astore_n 2) 1 5 := ⟨by decide +kernel, rfl⟩
theorem d_4_exchange_5 : zD prog_6_method_2_code 5 (.aload_n 0) 1 6 := ⟨by decide +kernel, rfl⟩
theorem d_4_exchange_6 : zD prog_6_method_2_code 6 (.aload_n 1) 1 7 := ⟨by decide +kernel, rfl⟩
theorem d_4_exchange_7 : zD prog_6_method_2_code 7 (.putfield 28) 3 10 := ⟨by decide +kernel, rfl⟩
theorem d_4_exchange_10 : zD prog_6_method_2_code 10 (.aload_n 2) 1 11 := ⟨by decide +kernel, rfl⟩
theorem d_4_exchange_11 : zD prog_6_method_2_code 11 (.areturn) 1 12 := ⟨by decide +kernel, rfl⟩
theorem d_7_isBlank_0 : zD prog_9_method_9_code 0 (.iload_n 0) 1 1 := ⟨by decide +kernel, rfl⟩
theorem d_7_isBlank_1 : zD prog_9_method_9_code 1 (.bipush 9) 2 3 := ⟨by decide +kernel, rfl⟩
theorem d_7_isBlank_3 : zD prog_9_method_9_code 3 (.if_icmp .eq 21) 3 6 := ⟨by decide +kernel, rfl⟩
theorem d_7_isBlank_6 : zD prog_9_method_9_code 6 (.iload_n 0) 1 7 := ⟨by decide +kernel, rfl⟩
theorem d_7_isBlank_7 : zD prog_9_method_9_code 7 (.bipush 10) 2 9 := ⟨by decide +kernel, rfl⟩
theorem d_7_isBlank_9 : zD prog_9_method_9_code 9 (.if_icmp .eq 15) 3 12 := ⟨by decide +kernel, rfl⟩
theorem d_7_isBlank_12 : zD prog_9_method_9_code 12 (.iload_n 0) 1 13 := ⟨by decide +kernel, rfl⟩
theorem d_7_isBlank_13 : zD prog_9_method_9_code 13 (.bipush 13) 2 15 := ⟨by decide +kernel, rfl⟩
theorem d_7_isBlank_15 : zD prog_9_method_9_code 15 (.if_icmp .eq 9) 3 18 := ⟨by decide +kernel, rfl⟩
theorem d_7_isBlank_18 : zD prog_9_method_9_code 18 (.iload_n 0) 1 19 := ⟨by decide +kernel, rfl⟩
theorem d_7_isBlank_19 : zD prog_9_method_9_code 19 (.bipush 32) 2 21 := ⟨by decide +kernel, rfl⟩
theorem d_7_isBlank_21 : zD prog_9_method_9_code 21 (.if_icmp .ne 7) 3 24 := ⟨by decide +kernel, rfl⟩
theorem d_7_isBlank_24 : zD prog_9_method_9_code 24 (.iconst 1) 1 25 := ⟨by decide +kernel, rfl⟩
theorem d_7_isBlank_25 : zD prog_9_method_9_code 25 (.goto 4) 3 28 := ⟨by decide +kernel, rfl⟩
theorem d_7_isBlank_28 : zD prog_9_method_9_code 28 (.iconst 0) 1 29 := ⟨by decide +kernel, rfl⟩
theorem d_7_isBlank_29 : zD prog_9_method_9_code 29 (.ireturn) 1 30 := ⟨by decide +kernel, rfl⟩
theorem d_7_skipBlanks_0 : zD prog_9_method_3_code 0 (.aload_n 0) 1 1 := ⟨by decide +kernel, rfl⟩
theorem d_7_skipBlanks_1 : zD prog_9_method_3_code 1 (.getfield 28) 3 4 := ⟨by decide +kernel, rfl⟩
theorem d_7_skipBlanks_4 : zD prog_9_method_3_code 4 (.aload_n 0) 1 5 := ⟨by decide +kernel, rfl⟩
theorem d_7_skipBlanks_5 : zD prog_9_method_3_code 5 (.getfield 24) 3 8 := ⟨by decide +kernel, rfl⟩
theorem d_7_skipBlanks_8 : zD prog_9_method_3_code 8 (.if_icmp .ge 31) 3 11 := ⟨by decide +kernel, rfl⟩
theorem d_7_skipBlanks_11 : zD prog_9_method_3_code 11 (.aload_n 0) 1 12 := ⟨by decide +kernel, rfl⟩
theorem d_7_skipBlanks_12 : zD prog_9_method_3_code 12 (.getfield 20) 3 15 := ⟨by decide +kernel, rfl⟩
theorem d_7_skipBlanks_15 : zD prog_9_method_3_code 15 (.aload_n 0) 1 16 := ⟨by decide +kernel, rfl⟩
theorem d_7_skipBlanks_16 : zD prog_9_method_3_code 16 (.getfield 28) 3 19 := ⟨by decide +kernel, rfl⟩
theorem d_7_skipBlanks_19 : zD prog_9_method_3_code 19 (.baload) 1 20 := ⟨by decide +kernel, rfl⟩
theorem d_7_skipBlanks_20 : zD prog_9_method_3_code 20 (.invokestatic 44) 3 23 := ⟨by decide +kernel, rfl⟩
theorem d_7_skipBlanks_23 : zD prog_9_method_3_code 23 (.ifCond .eq 16) 3 26 := ⟨by decide +kernel, rfl⟩
theorem d_7_skipBlanks_26 : zD prog_9_method_3_code 26 (.aload_n 0) 1 27 := ⟨by decide +kernel, rfl⟩
theorem d_7_skipBlanks_27 : zD prog_9_method_3_code 27 (.dup) 1 28 := ⟨by decide +kernel, rfl⟩
theorem d_7_skipBlanks_28 : zD prog_9_method_3_code 28 (.getfield 28) 3 31 := ⟨by decide +kernel, rfl⟩
theorem d_7_skipBlanks_31 : zD prog_9_method_3_code 31 (.iconst 1) 1 32 := ⟨by decide +kernel, rfl⟩
theorem d_7_skipBlanks_32 : zD prog_9_method_3_code 32 (.iadd) 1 33 := ⟨by decide +kernel, rfl⟩
theorem d_7_skipBlanks_33 : zD prog_9_method_3_code 33 (.putfield 28) 3 36 := ⟨by decide +kernel, rfl⟩
theorem d_7_skipBlanks_36 : zD prog_9_method_3_code 36 (.goto (-36)) 3 39 := ⟨by decide +kernel, rfl⟩
theorem d_7_skipBlanks_39 : zD prog_9_method_3_code 39 (.return_) 1 40 := ⟨by decide +kernel, rfl⟩
theorem d_7_isLetter_0 : zD prog_9_method_10_code 0 (.iload_n 0) 1 1 := ⟨by decide +kernel, rfl⟩
theorem d_7_isLetter_1 : zD prog_9_method_10_code 1 (.bipush 97) 2 3 := ⟨by decide +kernel, rfl⟩
theorem d_7_isLetter_3 : zD prog_9_method_10_code 3 (.if_icmp .lt 13) 3 6 := ⟨by decide +kernel, rfl⟩
theorem d_7_isLetter_6 : zD prog_9_method_10_code 6 (.iload_n 0) 1 7 := ⟨by decide +kernel, rfl⟩
theorem d_7_isLetter_7 : zD prog_9_method_10_code 7 (.bipush 122) 2 9 := ⟨by decide +kernel, rfl⟩
theorem d_7_isLetter_9 : zD prog_9_method_10_code 9 (.if_icmp .gt 7) 3 12 := ⟨by decide +kernel, rfl⟩
theorem d_7_isLetter_12 : zD prog_9_method_10_code 12 (.iconst 1) 1 13 := ⟨by decide +kernel, rfl⟩
theorem d_7_isLetter_13 : zD prog_9_method_10_code 13 (.goto 4) 3 16 := ⟨by decide +kernel, rfl⟩
theorem d_7_isLetter_16 : zD prog_9_method_10_code 16 (.iconst 0) 1 17 := ⟨by decide +kernel, rfl⟩
theorem d_7_isLetter_17 : zD prog_9_method_10_code 17 (.ireturn) 1 18 := ⟨by decide +kernel, rfl⟩
theorem d_j0_coder_7d493_0 : zD prog_15_method_152_code 0 (.getstatic 38) 3 3 := ⟨by decide +kernel, rfl⟩
theorem d_j0_coder_7d493_3 : zD prog_15_method_152_code 3 (.ifCond .eq 10) 3 6 := ⟨by decide +kernel, rfl⟩
theorem d_j0_coder_7d493_6 : zD prog_15_method_152_code 6 (.aload_n 0) 1 7 := ⟨by decide +kernel, rfl⟩
theorem d_j0_coder_7d493_7 : zD prog_15_method_152_code 7 (.getfield 15) 3 10 := ⟨by decide +kernel, rfl⟩
theorem d_j0_coder_7d493_10 : zD prog_15_method_152_code 10 (.goto 4) 3 13 := ⟨by decide +kernel, rfl⟩
theorem d_j0_coder_7d493_13 : zD prog_15_method_152_code 13 (.iconst 1) 1 14 := ⟨by decide +kernel, rfl⟩
theorem d_j0_coder_7d493_14 : zD prog_15_method_152_code 14 (.ireturn) 1 15 := ⟨by decide +kernel, rfl⟩
theorem d_j0_length_8abf5_0 : zD prog_15_method_54_code 0 (.aload_n 0) 1 1 := ⟨by decide +kernel, rfl⟩
theorem d_j0_length_8abf5_1 : zD prog_15_method_54_code 1 (.getfield 9) 3 4 := ⟨by decide +kernel, rfl⟩
theorem d_j0_length_8abf5_4 : zD prog_15_method_54_code 4 (.arraylength) 1 5 := ⟨by decide +kernel, rfl⟩
theorem d_j0_length_8abf5_5 : zD prog_15_method_54_code 5 (.aload_n 0) 1 6 := ⟨by decide +kernel, rfl⟩
theorem d_j0_length_8abf5_6 : zD prog_15_method_54_code 6 (.invokevirtual 335) 3 9 := ⟨by decide +kernel, rfl⟩
theorem d_j0_length_8abf5_9 : zD prog_15_method_54_code 9 (.ishr) 1 10 := ⟨by decide +kernel, rfl⟩
theorem d_j0_length_8abf5_10 : zD prog_15_method_54_code 10 (.ireturn) 1 11 := ⟨by decide +kernel, rfl⟩
theorem d_j0_isLatin1_aae02_0 : zD prog_15_method_154_code 0 (.getstatic 38) 3 3 := ⟨by decide +kernel, rfl⟩
theorem d_j0_isLatin1_aae02_3 : zD prog_15_method_154_code 3 (.ifCond .eq 14) 3 6 := ⟨by decide +kernel, rfl⟩
theorem d_j0_isLatin1_aae02_6 : zD prog_15_method_154_code 6 (.aload_n 0) 1 7 := ⟨by decide +kernel, rfl⟩
theorem d_j0_isLatin1_aae02_7 : zD prog_15_method_154_code 7 (.getfield 15) 3 10 := ⟨by decide +kernel, rfl⟩
theorem d_j0_isLatin1_aae02_10 : zD prog_15_method_154_code 10 (.ifCond .ne 7) 3 13 := ⟨by decide +kernel, rfl⟩
theorem d_j0_isLatin1_aae02_13 : zD prog_15_method_154_code 13 (.iconst 1) 1 14 := ⟨by decide +kernel, rfl⟩
theorem d_j0_isLatin1_aae02_14 : zD prog_15_method_154_code 14 (.goto 4) 3 17 := ⟨by decide +kernel, rfl⟩
theorem d_j0_isLatin1_aae02_17 : zD prog_15_method_154_code 17 (.iconst 0) 1 18 := ⟨by decide +kernel, rfl⟩
theorem d_j0_isLatin1_aae02_18 : zD prog_15_method_154_code 18 (.ireturn) 1 19 := ⟨by decide +kernel, rfl⟩
theorem d_j3_checkIndex_8e157_0 : zD prog_19_method_11_code 0 (.iload_n 0) 1 1 := ⟨by decide +kernel, rfl⟩
theorem d_j3_checkIndex_8e157_1 : zD prog_19_method_11_code 1 (.ifCond .lt 8) 3 4 := ⟨by decide +kernel, rfl⟩
theorem d_j3_checkIndex_8e157_4 : zD prog_19_method_11_code 4 (.iload_n 0) 1 5 := ⟨by decide +kernel, rfl⟩
theorem d_j3_checkIndex_8e157_5 : zD prog_19_method_11_code 5 (.iload_n 1) 1 6 := ⟨by decide +kernel, rfl⟩
theorem d_j3_checkIndex_8e157_6 : zD prog_19_method_11_code 6 (.if_icmp .lt 10) 3 9 := ⟨by decide +kernel, rfl⟩
theorem d_j3_checkIndex_8e157_9 : zD prog_19_method_11_code 9 (.aload_n 2) 1 10 := ⟨by decide +kernel, rfl⟩
theorem d_j3_checkIndex_8e157_16 : zD prog_19_method_11_code 16 (.iload_n 0) 1 17 := ⟨by decide +kernel, rfl⟩
theorem d_j3_checkIndex_8e157_17 : zD prog_19_method_11_code 17 (.ireturn) 1 18 := ⟨by decide +kernel, rfl⟩
theorem d_j0_checkIndex_df160_0 : zD prog_15_method_155_code 0 (.iload_n 0) 1 1 := ⟨by decide +kernel, rfl⟩
theorem d_j0_checkIndex_df160_1 : zD prog_15_method_155_code 1 (.iload_n 1) 1 2 := ⟨by decide +kernel, rfl⟩
theorem d_j0_checkIndex_df160_2 : zD prog_15_method_155_code 2 (.getstatic 1053) 3 5 := ⟨by decide +kernel, rfl⟩
theorem d_j0_checkIndex_df160_5 : zD prog_15_method_155_code 5 (.invokestatic 1059) 3 8 := ⟨by decide +kernel, rfl⟩
theorem d_j0_checkIndex_df160_8 : zD prog_15_method_155_code 8 (.pop) 1 9 := ⟨by decide +kernel, rfl⟩
theorem d_j0_checkIndex_df160_9 : zD prog_15_method_155_code 9 (.return_) 1 10 := ⟨by decide +kernel, rfl⟩
theorem d_j1_charAt_3b067_0 : zD prog_16_method_2_code 0 (.iload_n 1) 1 1 := ⟨by decide +kernel, rfl⟩
theorem d_j1_charAt_3b067_1 : zD prog_16_method_2_code 1 (.aload_n 0) 1 2 := ⟨by decide +kernel, rfl⟩
theorem d_j1_charAt_3b067_2 : zD prog_16_method_2_code 2 (.arraylength) 1 3 := ⟨by decide +kernel, rfl⟩
theorem d_j1_charAt_3b067_3 : zD prog_16_method_2_code 3 (.invokestatic 9) 3 6 := ⟨by decide +kernel, rfl⟩
theorem d_j1_charAt_3b067_6 : zD prog_16_method_2_code 6 (.aload_n 0) 1 7 := ⟨by decide +kernel, rfl⟩
theorem d_j1_charAt_3b067_7 : zD prog_16_method_2_code 7 (.iload_n 1) 1 8 := ⟨by decide +kernel, rfl⟩
theorem d_j1_charAt_3b067_8 : zD prog_16_method_2_code 8 (.baload) 1 9 := ⟨by decide +kernel, rfl⟩
theorem d_j1_charAt_3b067_9 : zD prog_16_method_2_code 9 (.sipush 255) 3 12 := ⟨by decide +kernel, rfl⟩
theorem d_j1_charAt_3b067_12 : zD prog_16_method_2_code 12 (.iand) 1 13 := ⟨by decide +kernel, rfl⟩
theorem d_j1_charAt_3b067_13 : zD prog_16_method_2_code 13 (.i2c) 1 14 := ⟨by decide +kernel, rfl⟩
theorem d_j1_charAt_3b067_14 : zD prog_16_method_2_code 14 (.ireturn) 1 15 := ⟨by decide +kernel, rfl⟩
theorem d_j0_charAt_5068e_0 : zD prog_15_method_56_code 0 (.aload_n 0) 1 1 := ⟨by decide +kernel, rfl⟩
theorem d_j0_charAt_5068e_1 : zD prog_15_method_56_code 1 (.invokevirtual 492) 3 4 := ⟨by decide +kernel, rfl⟩
theorem d_j0_charAt_5068e_4 : zD prog_15_method_56_code 4 (.ifCond .eq 12) 3 7 := ⟨by decide +kernel, rfl⟩
theorem d_j0_charAt_5068e_7 : zD prog_15_method_56_code 7 (.aload_n 0) 1 8 := ⟨by decide +kernel, rfl⟩
theorem d_j0_charAt_5068e_8 : zD prog_15_method_56_code 8 (.getfield 9) 3 11 := ⟨by decide +kernel, rfl⟩
theorem d_j0_charAt_5068e_11 : zD prog_15_method_56_code 11 (.iload_n 1) 1 12 := ⟨by decide +kernel, rfl⟩
theorem d_j0_charAt_5068e_12 : zD prog_15_method_56_code 12 (.invokestatic 495) 3 15 := ⟨by decide +kernel, rfl⟩
theorem d_j0_charAt_5068e_15 : zD prog_15_method_56_code 15 (.ireturn) 1 16 := ⟨by decide +kernel, rfl⟩
theorem d_j0_charAt_5068e_16 : zD prog_15_method_56_code 16 (.aload_n 0) 1 17 := ⟨by decide +kernel, rfl⟩
theorem d_j0_charAt_5068e_17 : zD prog_15_method_56_code 17 (.getfield 9) 3 20 := ⟨by decide +kernel, rfl⟩
theorem d_j0_charAt_5068e_20 : zD prog_15_method_56_code 20 (.iload_n 1) 1 21 := ⟨by decide +kernel, rfl⟩
theorem d_j0_charAt_5068e_21 : zD prog_15_method_56_code 21 (.invokestatic 498) 3 24 := ⟨by decide +kernel, rfl⟩
theorem d_7_isWord_0 : zD prog_9_method_8_code 0 (.iload_n 3) 1 1 := ⟨by decide +kernel, rfl⟩
theorem d_7_isWord_1 : zD prog_9_method_8_code 1 (.bipush 7) 2 3 := ⟨by decide +kernel, rfl⟩
theorem d_7_isWord_3 : zD prog_9_method_8_code 3 (.if_icmp .ge 27) 3 6 := ⟨by decide +kernel, rfl⟩
theorem d_7_isWord_6 : zD prog_9_method_8_code 6 (.iload_n 1) 1 7 := ⟨by decide +kernel, rfl⟩
theorem d_7_isWord_7 : zD prog_9_method_8_code 7 (.iload_n 3) 1 8 := ⟨by decide +kernel, rfl⟩
theorem d_7_isWord_8 : zD prog_9_method_8_code 8 (.iadd) 1 9 := ⟨by decide +kernel, rfl⟩
theorem d_7_isWord_9 : zD prog_9_method_8_code 9 (.ldc 74) 2 11 := ⟨by decide +kernel, rfl⟩
theorem d_7_isWord_11 : zD prog_9_method_8_code 11 (.invokevirtual 76) 3 14 := ⟨by decide +kernel, rfl⟩
theorem d_7_isWord_14 : zD prog_9_method_8_code 14 (.if_icmp .ge 16) 3 17 := ⟨by decide +kernel, rfl⟩
theorem d_7_isWord_17 : zD prog_9_method_8_code 17 (.ldc 74) 2 19 := ⟨by decide +kernel, rfl⟩
theorem d_7_isWord_19 : zD prog_9_method_8_code 19 (.iload_n 1) 1 20 := ⟨by decide +kernel, rfl⟩
theorem d_7_isWord_20 : zD prog_9_method_8_code 20 (.iload_n 3) 1 21 := ⟨by decide +kernel, rfl⟩
theorem d_7_isWord_21 : zD prog_9_method_8_code 21 (.iadd) 1 22 := ⟨by decide +kernel, rfl⟩
theorem d_7_isWord_22 : zD prog_9_method_8_code 22 (.invokevirtual 83) 3 25 := ⟨by decide +kernel, rfl⟩
theorem d_7_isWord_25 : zD prog_9_method_8_code 25 (.bipush 32) 2 27 := ⟨by decide +kernel, rfl⟩
theorem d_7_isWord_27 : zD prog_9_method_8_code 27 (.if_icmp .eq 5) 3 30 := ⟨by decide +kernel, rfl⟩
theorem d_7_isWord_30 : zD prog_9_method_8_code 30 (.iconst 0) 1 31 := ⟨by decide +kernel, rfl⟩
theorem d_7_isWord_31 : zD prog_9_method_8_code 31 (.ireturn) 1 32 := ⟨by decide +kernel, rfl⟩
theorem d_7_isWord_32 : zD prog_9_method_8_code 32 (.iconst 0) 1 33 := ⟨by decide +kernel, rfl⟩
theorem d_7_isWord_33 : zD prog_9_method_8_code 33 (.istore 4) 2 35 := ⟨by decide +kernel, rfl⟩
theorem d_7_isWord_35 : zD prog_9_method_8_code 35 (.iload 4) 2 37 := ⟨by decide +kernel, rfl⟩
theorem d_7_isWord_37 : zD prog_9_method_8_code 37 (.iload_n 3) 1 38 := ⟨by decide +kernel, rfl⟩
theorem d_7_isWord_38 : zD prog_9_method_8_code 38 (.if_icmp .ge 32) 3 41 := ⟨by decide +kernel, rfl⟩
theorem d_7_isWord_41 : zD prog_9_method_8_code 41 (.ldc 74) 2 43 := ⟨by decide +kernel, rfl⟩
theorem d_7_isWord_43 : zD prog_9_method_8_code 43 (.iload_n 1) 1 44 := ⟨by decide +kernel, rfl⟩
theorem d_7_isWord_44 : zD prog_9_method_8_code 44 (.iload 4) 2 46 := ⟨by decide +kernel, rfl⟩
theorem d_7_isWord_46 : zD prog_9_method_8_code 46 (.iadd) 1 47 := ⟨by decide +kernel, rfl⟩
theorem d_7_isWord_47 : zD prog_9_method_8_code 47 (.invokevirtual 83) 3 50 := ⟨by decide +kernel, rfl⟩
theorem d_7_isWord_50 : zD prog_9_method_8_code 50 (.aload_n 0) 1 51 := ⟨by decide +kernel, rfl⟩
theorem d_7_isWord_51 : zD prog_9_method_8_code 51 (.getfield 20) 3 54 := ⟨by decide +kernel, rfl⟩
theorem d_7_isWord_54 : zD prog_9_method_8_code 54 (.iload_n 2) 1 55 := ⟨by decide +kernel, rfl⟩
theorem d_7_isWord_55 : zD prog_9_method_8_code 55 (.iload 4) 2 57 := ⟨by decide +kernel, rfl⟩
theorem d_7_isWord_57 : zD prog_9_method_8_code 57 (.iadd) 1 58 := ⟨by decide +kernel, rfl⟩
theorem d_7_isWord_58 : zD prog_9_method_8_code 58 (.baload) 1 59 := ⟨by decide +kernel, rfl⟩
theorem d_7_isWord_59 : zD prog_9_method_8_code 59 (.if_icmp .eq 5) 3 62 := ⟨by decide +kernel, rfl⟩
theorem d_7_isWord_62 : zD prog_9_method_8_code 62 (.iconst 0) 1 63 := ⟨by decide +kernel, rfl⟩
theorem d_7_isWord_63 : zD prog_9_method_8_code 63 (.ireturn) 1 64 := ⟨by decide +kernel, rfl⟩
theorem d_7_isWord_64 : zD prog_9_method_8_code 64 (.iinc 4 1) 3 67 := ⟨by decide +kernel, rfl⟩
theorem d_7_isWord_67 : zD prog_9_method_8_code 67 (.goto (-32)) 3 70 := ⟨by decide +kernel, rfl⟩
theorem d_7_isWord_70 : zD prog_9_method_8_code 70 (.iconst 1) 1 71 := ⟨by decide +kernel, rfl⟩
theorem d_7_isWord_71 : zD prog_9_method_8_code 71 (.ireturn) 1 72 := ⟨by decide +kernel, rfl⟩
theorem d_7_wordOrName_0 : zD prog_9_method_7_code 0 (.iconst 0) 1 1 := ⟨by decide +kernel, rfl⟩
theorem d_7_wordOrName_1 : zD prog_9_method_7_code 1 (.istore_n 2) 1 2 := ⟨by decide +kernel, rfl⟩
theorem d_7_wordOrName_2 : zD prog_9_method_7_code 2 (.iload_n 2) 1 3 := ⟨by decide +kernel, rfl⟩
theorem d_7_wordOrName_3 : zD prog_9_method_7_code 3 (.ldc 74) 2 5 := ⟨by decide +kernel, rfl⟩
theorem d_7_wordOrName_5 : zD prog_9_method_7_code 5 (.invokevirtual 76) 3 8 := ⟨by decide +kernel, rfl⟩
theorem d_7_wordOrName_8 : zD prog_9_method_7_code 8 (.if_icmp .ge 33) 3 11 := ⟨by decide +kernel, rfl⟩
theorem d_7_wordOrName_11 : zD prog_9_method_7_code 11 (.aload_n 0) 1 12 := ⟨by decide +kernel, rfl⟩
theorem d_7_wordOrName_12 : zD prog_9_method_7_code 12 (.iload_n 2) 1 13 := ⟨by decide +kernel, rfl⟩
theorem d_7_wordOrName_13 : zD prog_9_method_7_code 13 (.iload_n 1) 1 14 := ⟨by decide +kernel, rfl⟩
theorem d_7_wordOrName_14 : zD prog_9_method_7_code 14 (.aload_n 0) 1 15 := ⟨by decide +kernel, rfl⟩
theorem d_7_wordOrName_15 : zD prog_9_method_7_code 15 (.getfield 28) 3 18 := ⟨by decide +kernel, rfl⟩
theorem d_7_wordOrName_18 : zD prog_9_method_7_code 18 (.iload_n 1) 1 19 := ⟨by decide +kernel, rfl⟩
theorem d_7_wordOrName_19 : zD prog_9_method_7_code 19 (.isub) 1 20 := ⟨by decide +kernel, rfl⟩
theorem d_7_wordOrName_20 : zD prog_9_method_7_code 20 (.invokevirtual 79) 3 23 := ⟨by decide +kernel, rfl⟩
theorem d_7_wordOrName_23 : zD prog_9_method_7_code 23 (.ifCond .eq 12) 3 26 := ⟨by decide +kernel, rfl⟩
theorem d_7_wordOrName_26 : zD prog_9_method_7_code 26 (.sipush 128) 3 29 := ⟨by decide +kernel, rfl⟩
theorem d_7_wordOrName_29 : zD prog_9_method_7_code 29 (.iload_n 2) 1 30 := ⟨by decide +kernel, rfl⟩
theorem d_7_wordOrName_30 : zD prog_9_method_7_code 30 (.bipush 7) 2 32 := ⟨by decide +kernel, rfl⟩
theorem d_7_wordOrName_32 : zD prog_9_method_7_code 32 (.idiv) 1 33 := ⟨by decide +kernel, rfl⟩
theorem d_7_wordOrName_33 : zD prog_9_method_7_code 33 (.iadd) 1 34 := ⟨by decide +kernel, rfl⟩
theorem d_7_wordOrName_34 : zD prog_9_method_7_code 34 (.ireturn) 1 35 := ⟨by decide +kernel, rfl⟩
theorem d_7_wordOrName_35 : zD prog_9_method_7_code 35 (.iinc 2 7) 3 38 := ⟨by decide +kernel, rfl⟩
theorem d_7_wordOrName_38 : zD prog_9_method_7_code 38 (.goto (-36)) 3 41 := ⟨by decide +kernel, rfl⟩
theorem d_7_wordOrName_41 : zD prog_9_method_7_code 41 (.iconst 2) 1 42 := ⟨by decide +kernel, rfl⟩
theorem d_7_wordOrName_42 : zD prog_9_method_7_code 42 (.ireturn) 1 43 := ⟨by decide +kernel, rfl⟩
theorem d_7_scanLetters_0 : zD prog_9_method_5_code 0 (.aload_n 0) 1 1 := ⟨by decide +kernel, rfl⟩
theorem d_7_scanLetters_1 : zD prog_9_method_5_code 1 (.getfield 28) 3 4 := ⟨by decide +kernel, rfl⟩
theorem d_7_scanLetters_4 : zD prog_9_method_5_code 4 (.istore_n 2) 1 5 := ⟨by decide +kernel, rfl⟩
theorem d_7_scanLetters_5 : zD prog_9_method_5_code 5 (.lconst 0) 1 6 := ⟨by decide +kernel, rfl⟩
theorem d_7_scanLetters_6 : zD prog_9_method_5_code 6 (.lstore_n 3) 1 7 := ⟨by decide +kernel, rfl⟩
theorem d_7_scanLetters_7 : zD prog_9_method_5_code 7 (.aload_n 0) 1 8 := ⟨by decide +kernel, rfl⟩
theorem d_7_scanLetters_8 : zD prog_9_method_5_code 8 (.getfield 28) 3 11 := ⟨by decide +kernel, rfl⟩
theorem d_7_scanLetters_11 : zD prog_9_method_5_code 11 (.aload_n 0) 1 12 := ⟨by decide +kernel, rfl⟩
theorem d_7_scanLetters_12 : zD prog_9_method_5_code 12 (.getfield 24) 3 15 := ⟨by decide +kernel, rfl⟩
theorem d_7_scanLetters_15 : zD prog_9_method_5_code 15 (.if_icmp .ge 53) 3 18 := ⟨by decide +kernel, rfl⟩
theorem d_7_scanLetters_18 : zD prog_9_method_5_code 18 (.aload_n 0) 1 19 := ⟨by decide +kernel, rfl⟩
theorem d_7_scanLetters_19 : zD prog_9_method_5_code 19 (.getfield 20) 3 22 := ⟨by decide +kernel, rfl⟩
theorem d_7_scanLetters_22 : zD prog_9_method_5_code 22 (.aload_n 0) 1 23 := ⟨by decide +kernel, rfl⟩
theorem d_7_scanLetters_23 : zD prog_9_method_5_code 23 (.getfield 28) 3 26 := ⟨by decide +kernel, rfl⟩
theorem d_7_scanLetters_26 : zD prog_9_method_5_code 26 (.baload) 1 27 := ⟨by decide +kernel, rfl⟩
theorem d_7_scanLetters_27 : zD prog_9_method_5_code 27 (.invokestatic 48) 3 30 := ⟨by decide +kernel, rfl⟩
theorem d_7_scanLetters_30 : zD prog_9_method_5_code 30 (.ifCond .eq 38) 3 33 := ⟨by decide +kernel, rfl⟩
theorem d_7_scanLetters_33 : zD prog_9_method_5_code 33 (.lload_n 3) 1 34 := ⟨by decide +kernel, rfl⟩
theorem d_7_scanLetters_34 : zD prog_9_method_5_code 34 (.ldc2_w 67) 3 37 := ⟨by decide +kernel, rfl⟩
theorem d_7_scanLetters_37 : zD prog_9_method_5_code 37 (.lmul) 1 38 := ⟨by decide +kernel, rfl⟩
theorem d_7_scanLetters_38 : zD prog_9_method_5_code 38 (.aload_n 0) 1 39 := ⟨by decide +kernel, rfl⟩
theorem d_7_scanLetters_39 : zD prog_9_method_5_code 39 (.getfield 20) 3 42 := ⟨by decide +kernel, rfl⟩
theorem d_7_scanLetters_42 : zD prog_9_method_5_code 42 (.aload_n 0) 1 43 := ⟨by decide +kernel, rfl⟩
theorem d_7_scanLetters_43 : zD prog_9_method_5_code 43 (.getfield 28) 3 46 := ⟨by decide +kernel, rfl⟩
theorem d_7_scanLetters_46 : zD prog_9_method_5_code 46 (.baload) 1 47 := ⟨by decide +kernel, rfl⟩
theorem d_7_scanLetters_47 : zD prog_9_method_5_code 47 (.bipush 97) 2 49 := ⟨by decide +kernel, rfl⟩
theorem d_7_scanLetters_49 : zD prog_9_method_5_code 49 (.isub) 1 50 := ⟨by decide +kernel, rfl⟩
theorem d_7_scanLetters_50 : zD prog_9_method_5_code 50 (.iconst 1) 1 51 := ⟨by decide +kernel, rfl⟩
theorem d_7_scanLetters_51 : zD prog_9_method_5_code 51 (.iadd) 1 52 := ⟨by decide +kernel, rfl⟩
theorem d_7_scanLetters_52 : zD prog_9_method_5_code 52 (.i2l) 1 53 := ⟨by decide +kernel, rfl⟩
theorem d_7_scanLetters_53 : zD prog_9_method_5_code 53 (.ladd) 1 54 := ⟨by decide +kernel, rfl⟩
theorem d_7_scanLetters_54 : zD prog_9_method_5_code 54 (.lstore_n 3) 1 55 := ⟨by decide +kernel, rfl⟩
theorem d_7_scanLetters_55 : zD prog_9_method_5_code 55 (.aload_n 0) 1 56 := ⟨by decide +kernel, rfl⟩
theorem d_7_scanLetters_56 : zD prog_9_method_5_code 56 (.dup) 1 57 := ⟨by decide +kernel, rfl⟩
theorem d_7_scanLetters_57 : zD prog_9_method_5_code 57 (.getfield 28) 3 60 := ⟨by decide +kernel, rfl⟩
theorem d_7_scanLetters_60 : zD prog_9_method_5_code 60 (.iconst 1) 1 61 := ⟨by decide +kernel, rfl⟩
theorem d_7_scanLetters_61 : zD prog_9_method_5_code 61 (.iadd) 1 62 := ⟨by decide +kernel, rfl⟩
theorem d_7_scanLetters_62 : zD prog_9_method_5_code 62 (.putfield 28) 3 65 := ⟨by decide +kernel, rfl⟩
theorem d_7_scanLetters_65 : zD prog_9_method_5_code 65 (.goto (-58)) 3 68 := ⟨by decide +kernel, rfl⟩
theorem d_7_scanLetters_68 : zD prog_9_method_5_code 68 (.aload_n 0) 1 69 := ⟨by decide +kernel, rfl⟩
theorem d_7_scanLetters_69 : zD prog_9_method_5_code 69 (.getfield 16) 3 72 := ⟨by decide +kernel, rfl⟩
theorem d_7_scanLetters_72 : zD prog_9_method_5_code 72 (.iload_n 1) 1 73 := ⟨by decide +kernel, rfl⟩
theorem d_7_scanLetters_73 : zD prog_9_method_5_code 73 (.lload_n 3) 1 74 := ⟨by decide +kernel, rfl⟩
theorem d_7_scanLetters_74 : zD prog_9_method_5_code 74 (.lastore) 1 75 := ⟨by decide +kernel, rfl⟩
theorem d_7_scanLetters_75 : zD prog_9_method_5_code 75 (.aload_n 0) 1 76 := ⟨by decide +kernel, rfl⟩
theorem d_7_scanLetters_76 : zD prog_9_method_5_code 76 (.getfield 28) 3 79 := ⟨by decide +kernel, rfl⟩
theorem d_7_scanLetters_79 : zD prog_9_method_5_code 79 (.iload_n 2) 1 80 := ⟨by decide +kernel, rfl⟩
theorem d_7_scanLetters_80 : zD prog_9_method_5_code 80 (.isub) 1 81 := ⟨by decide +kernel, rfl⟩
theorem d_7_scanLetters_81 : zD prog_9_method_5_code 81 (.bipush 8) 2 83 := ⟨by decide +kernel, rfl⟩
theorem d_7_scanLetters_83 : zD prog_9_method_5_code 83 (.if_icmp .le 7) 3 86 := ⟨by decide +kernel, rfl⟩
theorem d_7_scanLetters_86 : zD prog_9_method_5_code 86 (.iconst 1) 1 87 := ⟨by decide +kernel, rfl⟩
theorem d_7_scanLetters_87 : zD prog_9_method_5_code 87 (.goto 8) 3 90 := ⟨by decide +kernel, rfl⟩
theorem d_7_scanLetters_90 : zD prog_9_method_5_code 90 (.aload_n 0) 1 91 := ⟨by decide +kernel, rfl⟩
theorem d_7_scanLetters_91 : zD prog_9_method_5_code 91 (.iload_n 2) 1 92 := ⟨by decide +kernel, rfl⟩
theorem d_7_scanLetters_92 : zD prog_9_method_5_code 92 (.invokevirtual 69) 3 95 := ⟨by decide +kernel, rfl⟩
theorem d_7_scanLetters_95 : zD prog_9_method_5_code 95 (.ireturn) 1 96 := ⟨by decide +kernel, rfl⟩
theorem d_7_isDigit_0 : zD prog_9_method_11_code 0 (.iload_n 0) 1 1 := ⟨by decide +kernel, rfl⟩
theorem d_7_isDigit_1 : zD prog_9_method_11_code 1 (.bipush 48) 2 3 := ⟨by decide +kernel, rfl⟩
theorem d_7_isDigit_3 : zD prog_9_method_11_code 3 (.if_icmp .lt 13) 3 6 := ⟨by decide +kernel, rfl⟩
theorem d_7_isDigit_6 : zD prog_9_method_11_code 6 (.iload_n 0) 1 7 := ⟨by decide +kernel, rfl⟩
theorem d_7_isDigit_7 : zD prog_9_method_11_code 7 (.bipush 57) 2 9 := ⟨by decide +kernel, rfl⟩
theorem d_7_isDigit_9 : zD prog_9_method_11_code 9 (.if_icmp .gt 7) 3 12 := ⟨by decide +kernel, rfl⟩
theorem d_7_isDigit_12 : zD prog_9_method_11_code 12 (.iconst 1) 1 13 := ⟨by decide +kernel, rfl⟩
theorem d_7_isDigit_13 : zD prog_9_method_11_code 13 (.goto 4) 3 16 := ⟨by decide +kernel, rfl⟩
theorem d_7_isDigit_16 : zD prog_9_method_11_code 16 (.iconst 0) 1 17 := ⟨by decide +kernel, rfl⟩
theorem d_7_isDigit_17 : zD prog_9_method_11_code 17 (.ireturn) 1 18 := ⟨by decide +kernel, rfl⟩
theorem d_7_scanDigits_0 : zD prog_9_method_6_code 0 (.aload_n 0) 1 1 := ⟨by decide +kernel, rfl⟩
theorem d_7_scanDigits_1 : zD prog_9_method_6_code 1 (.getfield 28) 3 4 := ⟨by decide +kernel, rfl⟩
theorem d_7_scanDigits_4 : zD prog_9_method_6_code 4 (.istore_n 2) 1 5 := ⟨by decide +kernel, rfl⟩
theorem d_7_scanDigits_5 : zD prog_9_method_6_code 5 (.lconst 0) 1 6 := ⟨by decide +kernel, rfl⟩
theorem d_7_scanDigits_6 : zD prog_9_method_6_code 6 (.lstore_n 3) 1 7 := ⟨by decide +kernel, rfl⟩
theorem d_7_scanDigits_7 : zD prog_9_method_6_code 7 (.aload_n 0) 1 8 := ⟨by decide +kernel, rfl⟩
theorem d_7_scanDigits_8 : zD prog_9_method_6_code 8 (.getfield 28) 3 11 := ⟨by decide +kernel, rfl⟩
theorem d_7_scanDigits_11 : zD prog_9_method_6_code 11 (.aload_n 0) 1 12 := ⟨by decide +kernel, rfl⟩
theorem d_7_scanDigits_12 : zD prog_9_method_6_code 12 (.getfield 24) 3 15 := ⟨by decide +kernel, rfl⟩
theorem d_7_scanDigits_15 : zD prog_9_method_6_code 15 (.if_icmp .ge 51) 3 18 := ⟨by decide +kernel, rfl⟩
theorem d_7_scanDigits_18 : zD prog_9_method_6_code 18 (.aload_n 0) 1 19 := ⟨by decide +kernel, rfl⟩
theorem d_7_scanDigits_19 : zD prog_9_method_6_code 19 (.getfield 20) 3 22 := ⟨by decide +kernel, rfl⟩
theorem d_7_scanDigits_22 : zD prog_9_method_6_code 22 (.aload_n 0) 1 23 := ⟨by decide +kernel, rfl⟩
theorem d_7_scanDigits_23 : zD prog_9_method_6_code 23 (.getfield 28) 3 26 := ⟨by decide +kernel, rfl⟩
theorem d_7_scanDigits_26 : zD prog_9_method_6_code 26 (.baload) 1 27 := ⟨by decide +kernel, rfl⟩
theorem d_7_scanDigits_27 : zD prog_9_method_6_code 27 (.invokestatic 54) 3 30 := ⟨by decide +kernel, rfl⟩
theorem d_7_scanDigits_30 : zD prog_9_method_6_code 30 (.ifCond .eq 36) 3 33 := ⟨by decide +kernel, rfl⟩
theorem d_7_scanDigits_33 : zD prog_9_method_6_code 33 (.lload_n 3) 1 34 := ⟨by decide +kernel, rfl⟩
theorem d_7_scanDigits_34 : zD prog_9_method_6_code 34 (.ldc2_w 72) 3 37 := ⟨by decide +kernel, rfl⟩
theorem d_7_scanDigits_37 : zD prog_9_method_6_code 37 (.lmul) 1 38 := ⟨by decide +kernel, rfl⟩
theorem d_7_scanDigits_38 : zD prog_9_method_6_code 38 (.aload_n 0) 1 39 := ⟨by decide +kernel, rfl⟩
theorem d_7_scanDigits_39 : zD prog_9_method_6_code 39 (.getfield 20) 3 42 := ⟨by decide +kernel, rfl⟩
theorem d_7_scanDigits_42 : zD prog_9_method_6_code 42 (.aload_n 0) 1 43 := ⟨by decide +kernel, rfl⟩
theorem d_7_scanDigits_43 : zD prog_9_method_6_code 43 (.getfield 28) 3 46 := ⟨by decide +kernel, rfl⟩
theorem d_7_scanDigits_46 : zD prog_9_method_6_code 46 (.baload) 1 47 := ⟨by decide +kernel, rfl⟩
theorem d_7_scanDigits_47 : zD prog_9_method_6_code 47 (.bipush 48) 2 49 := ⟨by decide +kernel, rfl⟩
theorem d_7_scanDigits_49 : zD prog_9_method_6_code 49 (.isub) 1 50 := ⟨by decide +kernel, rfl⟩
theorem d_7_scanDigits_50 : zD prog_9_method_6_code 50 (.i2l) 1 51 := ⟨by decide +kernel, rfl⟩
theorem d_7_scanDigits_51 : zD prog_9_method_6_code 51 (.ladd) 1 52 := ⟨by decide +kernel, rfl⟩
theorem d_7_scanDigits_52 : zD prog_9_method_6_code 52 (.lstore_n 3) 1 53 := ⟨by decide +kernel, rfl⟩
theorem d_7_scanDigits_53 : zD prog_9_method_6_code 53 (.aload_n 0) 1 54 := ⟨by decide +kernel, rfl⟩
theorem d_7_scanDigits_54 : zD prog_9_method_6_code 54 (.dup) 1 55 := ⟨by decide +kernel, rfl⟩
theorem d_7_scanDigits_55 : zD prog_9_method_6_code 55 (.getfield 28) 3 58 := ⟨by decide +kernel, rfl⟩
theorem d_7_scanDigits_58 : zD prog_9_method_6_code 58 (.iconst 1) 1 59 := ⟨by decide +kernel, rfl⟩
theorem d_7_scanDigits_59 : zD prog_9_method_6_code 59 (.iadd) 1 60 := ⟨by decide +kernel, rfl⟩
theorem d_7_scanDigits_60 : zD prog_9_method_6_code 60 (.putfield 28) 3 63 := ⟨by decide +kernel, rfl⟩
theorem d_7_scanDigits_63 : zD prog_9_method_6_code 63 (.goto (-56)) 3 66 := ⟨by decide +kernel, rfl⟩
theorem d_7_scanDigits_66 : zD prog_9_method_6_code 66 (.aload_n 0) 1 67 := ⟨by decide +kernel, rfl⟩
theorem d_7_scanDigits_67 : zD prog_9_method_6_code 67 (.getfield 16) 3 70 := ⟨by decide +kernel, rfl⟩
theorem d_7_scanDigits_70 : zD prog_9_method_6_code 70 (.iload_n 1) 1 71 := ⟨by decide +kernel, rfl⟩
theorem d_7_scanDigits_71 : zD prog_9_method_6_code 71 (.lload_n 3) 1 72 := ⟨by decide +kernel, rfl⟩
theorem d_7_scanDigits_72 : zD prog_9_method_6_code 72 (.lastore) 1 73 := ⟨by decide +kernel, rfl⟩
theorem d_7_scanDigits_73 : zD prog_9_method_6_code 73 (.aload_n 0) 1 74 := ⟨by decide +kernel, rfl⟩
theorem d_7_scanDigits_74 : zD prog_9_method_6_code 74 (.getfield 28) 3 77 := ⟨by decide +kernel, rfl⟩
theorem d_7_scanDigits_77 : zD prog_9_method_6_code 77 (.iload_n 2) 1 78 := ⟨by decide +kernel, rfl⟩
theorem d_7_scanDigits_78 : zD prog_9_method_6_code 78 (.isub) 1 79 := ⟨by decide +kernel, rfl⟩
theorem d_7_scanDigits_79 : zD prog_9_method_6_code 79 (.iconst 4) 1 80 := ⟨by decide +kernel, rfl⟩
theorem d_7_scanDigits_80 : zD prog_9_method_6_code 80 (.if_icmp .le 7) 3 83 := ⟨by decide +kernel, rfl⟩
theorem d_7_scanDigits_83 : zD prog_9_method_6_code 83 (.iconst 1) 1 84 := ⟨by decide +kernel, rfl⟩
theorem d_7_scanDigits_84 : zD prog_9_method_6_code 84 (.goto 4) 3 87 := ⟨by decide +kernel, rfl⟩
theorem d_7_scanDigits_87 : zD prog_9_method_6_code 87 (.iconst 3) 1 88 := ⟨by decide +kernel, rfl⟩
theorem d_7_scanDigits_88 : zD prog_9_method_6_code 88 (.ireturn) 1 89 := ⟨by decide +kernel, rfl⟩
theorem d_j1_canEncode_9a6ad_0 : zD prog_16_method_4_code 0 (.iload_n 0) 1 1 := ⟨by decide +kernel, rfl⟩
theorem d_j1_canEncode_9a6ad_1 : zD prog_16_method_4_code 1 (.ifCond .lt 14) 3 4 := ⟨by decide +kernel, rfl⟩
theorem d_j1_canEncode_9a6ad_4 : zD prog_16_method_4_code 4 (.iload_n 0) 1 5 := ⟨by decide +kernel, rfl⟩
theorem d_j1_canEncode_9a6ad_5 : zD prog_16_method_4_code 5 (.sipush 255) 3 8 := ⟨by decide +kernel, rfl⟩
theorem d_j1_canEncode_9a6ad_8 : zD prog_16_method_4_code 8 (.if_icmp .gt 7) 3 11 := ⟨by decide +kernel, rfl⟩
theorem d_j1_canEncode_9a6ad_11 : zD prog_16_method_4_code 11 (.iconst 1) 1 12 := ⟨by decide +kernel, rfl⟩
theorem d_j1_canEncode_9a6ad_12 : zD prog_16_method_4_code 12 (.goto 4) 3 15 := ⟨by decide +kernel, rfl⟩
theorem d_j1_canEncode_9a6ad_15 : zD prog_16_method_4_code 15 (.iconst 0) 1 16 := ⟨by decide +kernel, rfl⟩
theorem d_j1_canEncode_9a6ad_16 : zD prog_16_method_4_code 16 (.ireturn) 1 17 := ⟨by decide +kernel, rfl⟩
theorem d_j1_indexOfChar_4cfef_0 : zD prog_16_method_23_code 0 (.iload_n 1) 1 1 := ⟨by decide +kernel, rfl⟩
theorem d_j1_indexOfChar_4cfef_1 : zD prog_16_method_23_code 1 (.i2b) 1 2 := ⟨by decide +kernel, rfl⟩
theorem d_j1_indexOfChar_4cfef_2 : zD prog_16_method_23_code 2 (.istore 4) 2 4 := ⟨by decide +kernel, rfl⟩
theorem d_j1_indexOfChar_4cfef_4 : zD prog_16_method_23_code 4 (.iload_n 2) 1 5 := ⟨by decide +kernel, rfl⟩
theorem d_j1_indexOfChar_4cfef_5 : zD prog_16_method_23_code 5 (.istore 5) 2 7 := ⟨by decide +kernel, rfl⟩
theorem d_j1_indexOfChar_4cfef_7 : zD prog_16_method_23_code 7 (.iload 5) 2 9 := ⟨by decide +kernel, rfl⟩
theorem d_j1_indexOfChar_4cfef_9 : zD prog_16_method_23_code 9 (.iload_n 3) 1 10 := ⟨by decide +kernel, rfl⟩
theorem d_j1_indexOfChar_4cfef_10 : zD prog_16_method_23_code 10 (.if_icmp .ge 21) 3 13 := ⟨by decide +kernel, rfl⟩
theorem d_j1_indexOfChar_4cfef_13 : zD prog_16_method_23_code 13 (.aload_n 0) 1 14 := ⟨by decide +kernel, rfl⟩
theorem d_j1_indexOfChar_4cfef_14 : zD prog_16_method_23_code 14 (.iload 5) 2 16 := ⟨by decide +kernel, rfl⟩
theorem d_j1_indexOfChar_4cfef_16 : zD prog_16_method_23_code 16 (.baload) 1 17 := ⟨by decide +kernel, rfl⟩
theorem d_j1_indexOfChar_4cfef_17 : zD prog_16_method_23_code 17 (.iload 4) 2 19 := ⟨by decide +kernel, rfl⟩
theorem d_j1_indexOfChar_4cfef_19 : zD prog_16_method_23_code 19 (.if_icmp .ne 6) 3 22 := ⟨by decide +kernel, rfl⟩
theorem d_j1_indexOfChar_4cfef_22 : zD prog_16_method_23_code 22 (.iload 5) 2 24 := ⟨by decide +kernel, rfl⟩
theorem d_j1_indexOfChar_4cfef_24 : zD prog_16_method_23_code 24 (.ireturn) 1 25 := ⟨by decide +kernel, rfl⟩
theorem d_j1_indexOfChar_4cfef_25 : zD prog_16_method_23_code 25 (.iinc 5 1) 3 28 := ⟨by decide +kernel, rfl⟩
theorem d_j1_indexOfChar_4cfef_28 : zD prog_16_method_23_code 28 (.goto (-21)) 3 31 := ⟨by decide +kernel, rfl⟩
theorem d_j1_indexOfChar_4cfef_31 : zD prog_16_method_23_code 31 (.iconst (-1)) 1 32 := ⟨by decide +kernel, rfl⟩
theorem d_j1_indexOfChar_4cfef_32 : zD prog_16_method_23_code 32 (.ireturn) 1 33 := ⟨by decide +kernel, rfl⟩
theorem d_j1_indexOf_4cfef_0 : zD prog_16_method_22_code 0 (.iload_n 1) 1 1 := ⟨by decide +kernel, rfl⟩
theorem d_j1_indexOf_4cfef_1 : zD prog_16_method_22_code 1 (.invokestatic 88) 3 4 := ⟨by decide +kernel, rfl⟩
theorem d_j1_indexOf_4cfef_4 : zD prog_16_method_22_code 4 (.ifCond .ne 5) 3 7 := ⟨by decide +kernel, rfl⟩
theorem d_j1_indexOf_4cfef_7 : zD prog_16_method_22_code 7 (.iconst (-1)) 1 8 := ⟨by decide +kernel, rfl⟩
theorem d_j1_indexOf_4cfef_8 : zD prog_16_method_22_code 8 (.ireturn) 1 9 := ⟨by decide +kernel, rfl⟩
theorem d_j1_indexOf_4cfef_9 : zD prog_16_method_22_code 9 (.iload_n 2) 1 10 := ⟨by decide +kernel, rfl⟩
theorem d_j1_indexOf_4cfef_10 : zD prog_16_method_22_code 10 (.iconst 0) 1 11 := ⟨by decide +kernel, rfl⟩
theorem d_j1_indexOf_4cfef_11 : zD prog_16_method_22_code 11 (.invokestatic 92) 3 14 := ⟨by decide +kernel, rfl⟩
theorem d_j1_indexOf_4cfef_14 : zD prog_16_method_22_code 14 (.istore_n 2) 1 15 := ⟨by decide +kernel, rfl⟩
theorem d_j1_indexOf_4cfef_15 : zD prog_16_method_22_code 15 (.iload_n 3) 1 16 := ⟨by decide +kernel, rfl⟩
theorem d_j1_indexOf_4cfef_16 : zD prog_16_method_22_code 16 (.aload_n 0) 1 17 := ⟨by decide +kernel, rfl⟩
theorem d_j1_indexOf_4cfef_17 : zD prog_16_method_22_code 17 (.arraylength) 1 18 := ⟨by decide +kernel, rfl⟩
theorem d_j1_indexOf_4cfef_18 : zD prog_16_method_22_code 18 (.invokestatic 38) 3 21 := ⟨by decide +kernel, rfl⟩
theorem d_j1_indexOf_4cfef_21 : zD prog_16_method_22_code 21 (.istore_n 3) 1 22 := ⟨by decide +kernel, rfl⟩
theorem d_j1_indexOf_4cfef_22 : zD prog_16_method_22_code 22 (.iload_n 2) 1 23 := ⟨by decide +kernel, rfl⟩
theorem d_j1_indexOf_4cfef_23 : zD prog_16_method_22_code 23 (.iload_n 3) 1 24 := ⟨by decide +kernel, rfl⟩
theorem d_j1_indexOf_4cfef_24 : zD prog_16_method_22_code 24 (.if_icmp .lt 5) 3 27 := ⟨by decide +kernel, rfl⟩
theorem d_j1_indexOf_4cfef_27 : zD prog_16_method_22_code 27 (.iconst (-1)) 1 28 := ⟨by decide +kernel, rfl⟩
theorem d_j1_indexOf_4cfef_28 : zD prog_16_method_22_code 28 (.ireturn) 1 29 := ⟨by decide +kernel, rfl⟩
theorem d_j1_indexOf_4cfef_29 : zD prog_16_method_22_code 29 (.aload_n 0) 1 30 := ⟨by decide +kernel, rfl⟩
theorem d_j1_indexOf_4cfef_30 : zD prog_16_method_22_code 30 (.iload_n 1) 1 31 := ⟨by decide +kernel, rfl⟩
theorem d_j1_indexOf_4cfef_31 : zD prog_16_method_22_code 31 (.iload_n 2) 1 32 := ⟨by decide +kernel, rfl⟩
theorem d_j1_indexOf_4cfef_32 : zD prog_16_method_22_code 32 (.iload_n 3) 1 33 := ⟨by decide +kernel, rfl⟩
theorem d_j1_indexOf_4cfef_33 : zD prog_16_method_22_code 33 (.invokestatic 95) 3 36 := ⟨by decide +kernel, rfl⟩
theorem d_j1_indexOf_4cfef_36 : zD prog_16_method_22_code 36 (.ireturn) 1 37 := ⟨by decide +kernel, rfl⟩
theorem d_j0_indexOf_7cf53_0 : zD prog_15_method_80_code 0 (.aload_n 0) 1 1 := ⟨by decide +kernel, rfl⟩
theorem d_j0_indexOf_7cf53_1 : zD prog_15_method_80_code 1 (.invokevirtual 492) 3 4 := ⟨by decide +kernel, rfl⟩
theorem d_j0_indexOf_7cf53_4 : zD prog_15_method_80_code 4 (.ifCond .eq 19) 3 7 := ⟨by decide +kernel, rfl⟩
theorem d_j0_indexOf_7cf53_7 : zD prog_15_method_80_code 7 (.aload_n 0) 1 8 := ⟨by decide +kernel, rfl⟩
theorem d_j0_indexOf_7cf53_8 : zD prog_15_method_80_code 8 (.getfield 9) 3 11 := ⟨by decide +kernel, rfl⟩
theorem d_j0_indexOf_7cf53_11 : zD prog_15_method_80_code 11 (.iload_n 1) 1 12 := ⟨by decide +kernel, rfl⟩
theorem d_j0_indexOf_7cf53_12 : zD prog_15_method_80_code 12 (.iload_n 2) 1 13 := ⟨by decide +kernel, rfl⟩
theorem d_j0_indexOf_7cf53_13 : zD prog_15_method_80_code 13 (.aload_n 0) 1 14 := ⟨by decide +kernel, rfl⟩
theorem d_j0_indexOf_7cf53_14 : zD prog_15_method_80_code 14 (.invokevirtual 505) 3 17 := ⟨by decide +kernel, rfl⟩
theorem d_j0_indexOf_7cf53_17 : zD prog_15_method_80_code 17 (.invokestatic 637) 3 20 := ⟨by decide +kernel, rfl⟩
theorem d_j0_indexOf_7cf53_20 : zD prog_15_method_80_code 20 (.goto 16) 3 23 := ⟨by decide +kernel, rfl⟩
theorem d_j0_indexOf_7cf53_23 : zD prog_15_method_80_code 23 (.aload_n 0) 1 24 := ⟨by decide +kernel, rfl⟩
theorem d_j0_indexOf_7cf53_24 : zD prog_15_method_80_code 24 (.getfield 9) 3 27 := ⟨by decide +kernel, rfl⟩
theorem d_j0_indexOf_7cf53_27 : zD prog_15_method_80_code 27 (.iload_n 1) 1 28 := ⟨by decide +kernel, rfl⟩
theorem d_j0_indexOf_7cf53_28 : zD prog_15_method_80_code 28 (.iload_n 2) 1 29 := ⟨by decide +kernel, rfl⟩
theorem d_j0_indexOf_7cf53_29 : zD prog_15_method_80_code 29 (.aload_n 0) 1 30 := ⟨by decide +kernel, rfl⟩
theorem d_j0_indexOf_7cf53_30 : zD prog_15_method_80_code 30 (.invokevirtual 505) 3 33 := ⟨by decide +kernel, rfl⟩
theorem d_j0_indexOf_7cf53_33 : zD prog_15_method_80_code 33 (.invokestatic 640) 3 36 := ⟨by decide +kernel, rfl⟩
theorem d_j0_indexOf_7cf53_36 : zD prog_15_method_80_code 36 (.ireturn) 1 37 := ⟨by decide +kernel, rfl⟩
theorem d_j0_indexOf_0f7a4_0 : zD prog_15_method_79_code 0 (.aload_n 0) 1 1 := ⟨by decide +kernel, rfl⟩
theorem d_j0_indexOf_0f7a4_1 : zD prog_15_method_79_code 1 (.iload_n 1) 1 2 := ⟨by decide +kernel, rfl⟩
theorem d_j0_indexOf_0f7a4_2 : zD prog_15_method_79_code 2 (.iconst 0) 1 3 := ⟨by decide +kernel, rfl⟩
theorem d_j0_indexOf_0f7a4_3 : zD prog_15_method_79_code 3 (.invokevirtual 633) 3 6 := ⟨by decide +kernel, rfl⟩
theorem d_j0_indexOf_0f7a4_6 : zD prog_15_method_79_code 6 (.ireturn) 1 7 := ⟨by decide +kernel, rfl⟩
theorem d_7_scanToken_0 : zD prog_9_method_4_code 0 (.aload_n 0) 1 1 := ⟨by decide +kernel, rfl⟩
theorem d_7_scanToken_1 : zD prog_9_method_4_code 1 (.getfield 20) 3 4 := ⟨by decide +kernel, rfl⟩
theorem d_7_scanToken_4 : zD prog_9_method_4_code 4 (.aload_n 0) 1 5 := ⟨by decide +kernel, rfl⟩
theorem d_7_scanToken_5 : zD prog_9_method_4_code 5 (.getfield 28) 3 8 := ⟨by decide +kernel, rfl⟩
theorem d_7_scanToken_8 : zD prog_9_method_4_code 8 (.baload) 1 9 := ⟨by decide +kernel, rfl⟩
theorem d_7_scanToken_9 : zD prog_9_method_4_code 9 (.istore_n 2) 1 10 := ⟨by decide +kernel, rfl⟩
theorem d_7_scanToken_10 : zD prog_9_method_4_code 10 (.iload_n 2) 1 11 := ⟨by decide +kernel, rfl⟩
theorem d_7_scanToken_11 : zD prog_9_method_4_code 11 (.invokestatic 48) 3 14 := ⟨by decide +kernel, rfl⟩
theorem d_7_scanToken_14 : zD prog_9_method_4_code 14 (.ifCond .eq 9) 3 17 := ⟨by decide +kernel, rfl⟩
theorem d_7_scanToken_17 : zD prog_9_method_4_code 17 (.aload_n 0) 1 18 := ⟨by decide +kernel, rfl⟩
theorem d_7_scanToken_18 : zD prog_9_method_4_code 18 (.iload_n 1) 1 19 := ⟨by decide +kernel, rfl⟩
theorem d_7_scanToken_19 : zD prog_9_method_4_code 19 (.invokevirtual 51) 3 22 := ⟨by decide +kernel, rfl⟩
theorem d_7_scanToken_22 : zD prog_9_method_4_code 22 (.ireturn) 1 23 := ⟨by decide +kernel, rfl⟩
theorem d_7_scanToken_23 : zD prog_9_method_4_code 23 (.iload_n 2) 1 24 := ⟨by decide +kernel, rfl⟩
theorem d_7_scanToken_24 : zD prog_9_method_4_code 24 (.invokestatic 54) 3 27 := ⟨by decide +kernel, rfl⟩
theorem d_7_scanToken_27 : zD prog_9_method_4_code 27 (.ifCond .eq 9) 3 30 := ⟨by decide +kernel, rfl⟩
theorem d_7_scanToken_30 : zD prog_9_method_4_code 30 (.aload_n 0) 1 31 := ⟨by decide +kernel, rfl⟩
theorem d_7_scanToken_31 : zD prog_9_method_4_code 31 (.iload_n 1) 1 32 := ⟨by decide +kernel, rfl⟩
theorem d_7_scanToken_32 : zD prog_9_method_4_code 32 (.invokevirtual 57) 3 35 := ⟨by decide +kernel, rfl⟩
theorem d_7_scanToken_35 : zD prog_9_method_4_code 35 (.ireturn) 1 36 := ⟨by decide +kernel, rfl⟩
theorem d_7_scanToken_36 : zD prog_9_method_4_code 36 (.aload_n 0) 1 37 := ⟨by decide +kernel, rfl⟩
theorem d_7_scanToken_37 : zD prog_9_method_4_code 37 (.dup) 1 38 := ⟨by decide +kernel, rfl⟩
theorem d_7_scanToken_38 : zD prog_9_method_4_code 38 (.getfield 28) 3 41 := ⟨by decide +kernel, rfl⟩
theorem d_7_scanToken_41 : zD prog_9_method_4_code 41 (.iconst 1) 1 42 := ⟨by decide +kernel, rfl⟩
theorem d_7_scanToken_42 : zD prog_9_method_4_code 42 (.iadd) 1 43 := ⟨by decide +kernel, rfl⟩
theorem d_7_scanToken_43 : zD prog_9_method_4_code 43 (.putfield 28) 3 46 := ⟨by decide +kernel, rfl⟩
theorem d_7_scanToken_46 : zD prog_9_method_4_code 46 (.ldc 60) 2 48 := ⟨by decide +kernel, rfl⟩
theorem d_7_scanToken_48 : zD prog_9_method_4_code 48 (.iload_n 2) 1 49 := ⟨by decide +kernel, rfl⟩
theorem d_7_scanToken_49 : zD prog_9_method_4_code 49 (.sipush 255) 3 52 := ⟨by decide +kernel, rfl⟩
theorem d_7_scanToken_52 : zD prog_9_method_4_code 52 (.iand) 1 53 := ⟨by decide +kernel, rfl⟩
theorem d_7_scanToken_53 : zD prog_9_method_4_code 53 (.i2c) 1 54 := ⟨by decide +kernel, rfl⟩
theorem d_7_scanToken_54 : zD prog_9_method_4_code 54 (.invokevirtual 62) 3 57 := ⟨by decide +kernel, rfl⟩
theorem d_7_scanToken_57 : zD prog_9_method_4_code 57 (.ifCond .lt 7) 3 60 := ⟨by decide +kernel, rfl⟩
theorem d_7_scanToken_60 : zD prog_9_method_4_code 60 (.iload_n 2) 1 61 := ⟨by decide +kernel, rfl⟩
theorem d_7_scanToken_61 : zD prog_9_method_4_code 61 (.goto 4) 3 64 := ⟨by decide +kernel, rfl⟩
theorem d_7_scanToken_64 : zD prog_9_method_4_code 64 (.iconst 1) 1 65 := ⟨by decide +kernel, rfl⟩
theorem d_7_scanToken_65 : zD prog_9_method_4_code 65 (.ireturn) 1 66 := ⟨by decide +kernel, rfl⟩
theorem d_7_scan_0 : zD prog_9_method_2_code 0 (.aload_n 0) 1 1 := ⟨by decide +kernel, rfl⟩
theorem d_7_scan_1 : zD prog_9_method_2_code 1 (.aload_n 1) 1 2 := ⟨by decide +kernel, rfl⟩
theorem d_7_scan_2 : zD prog_9_method_2_code 2 (.putfield 20) 3 5 := ⟨by decide +kernel, rfl⟩
theorem d_7_scan_5 : zD prog_9_method_2_code 5 (.aload_n 0) 1 6 := ⟨by decide +kernel, rfl⟩
theorem d_7_scan_6 : zD prog_9_method_2_code 6 (.iload_n 2) 1 7 := ⟨by decide +kernel, rfl⟩
theorem d_7_scan_7 : zD prog_9_method_2_code 7 (.aload_n 0) 1 8 := ⟨by decide +kernel, rfl⟩
theorem d_7_scan_8 : zD prog_9_method_2_code 8 (.getfield 20) 3 11 := ⟨by decide +kernel, rfl⟩
theorem d_7_scan_11 : zD prog_9_method_2_code 11 (.arraylength) 1 12 := ⟨by decide +kernel, rfl⟩
theorem d_7_scan_12 : zD prog_9_method_2_code 12 (.invokestatic 31) 3 15 := ⟨by decide +kernel, rfl⟩
theorem d_7_scan_15 : zD prog_9_method_2_code 15 (.putfield 24) 3 18 := ⟨by decide +kernel, rfl⟩
theorem d_7_scan_18 : zD prog_9_method_2_code 18 (.aload_n 0) 1 19 := ⟨by decide +kernel, rfl⟩
theorem d_7_scan_19 : zD prog_9_method_2_code 19 (.iconst 0) 1 20 := ⟨by decide +kernel, rfl⟩
theorem d_7_scan_20 : zD prog_9_method_2_code 20 (.putfield 28) 3 23 := ⟨by decide +kernel, rfl⟩
theorem d_7_scan_23 : zD prog_9_method_2_code 23 (.iconst 0) 1 24 := ⟨by decide +kernel, rfl⟩
theorem d_7_scan_24 : zD prog_9_method_2_code 24 (.istore_n 3) 1 25 := ⟨by decide +kernel, rfl⟩
theorem d_7_scan_25 : zD prog_9_method_2_code 25 (.iload_n 3) 1 26 := ⟨by decide +kernel, rfl⟩
theorem d_7_scan_26 : zD prog_9_method_2_code 26 (.sipush 400) 3 29 := ⟨by decide +kernel, rfl⟩
theorem d_7_scan_29 : zD prog_9_method_2_code 29 (.if_icmp .gt 49) 3 32 := ⟨by decide +kernel, rfl⟩
theorem d_7_scan_32 : zD prog_9_method_2_code 32 (.aload_n 0) 1 33 := ⟨by decide +kernel, rfl⟩
theorem d_7_scan_33 : zD prog_9_method_2_code 33 (.invokevirtual 37) 3 36 := ⟨by decide +kernel, rfl⟩
theorem d_7_scan_36 : zD prog_9_method_2_code 36 (.aload_n 0) 1 37 := ⟨by decide +kernel, rfl⟩
theorem d_7_scan_37 : zD prog_9_method_2_code 37 (.getfield 13) 3 40 := ⟨by decide +kernel, rfl⟩
theorem d_7_scan_40 : zD prog_9_method_2_code 40 (.iload_n 3) 1 41 := ⟨by decide +kernel, rfl⟩
theorem d_7_scan_41 : zD prog_9_method_2_code 41 (.aload_n 0) 1 42 := ⟨by decide +kernel, rfl⟩
theorem d_7_scan_42 : zD prog_9_method_2_code 42 (.getfield 28) 3 45 := ⟨by decide +kernel, rfl⟩
theorem d_7_scan_45 : zD prog_9_method_2_code 45 (.iastore) 1 46 := ⟨by decide +kernel, rfl⟩
theorem d_7_scan_46 : zD prog_9_method_2_code 46 (.aload_n 0) 1 47 := ⟨by decide +kernel, rfl⟩
theorem d_7_scan_47 : zD prog_9_method_2_code 47 (.getfield 9) 3 50 := ⟨by decide +kernel, rfl⟩
theorem d_7_scan_50 : zD prog_9_method_2_code 50 (.iload_n 3) 1 51 := ⟨by decide +kernel, rfl⟩
theorem d_7_scan_51 : zD prog_9_method_2_code 51 (.aload_n 0) 1 52 := ⟨by decide +kernel, rfl⟩
theorem d_7_scan_52 : zD prog_9_method_2_code 52 (.getfield 28) 3 55 := ⟨by decide +kernel, rfl⟩
theorem d_7_scan_55 : zD prog_9_method_2_code 55 (.aload_n 0) 1 56 := ⟨by decide +kernel, rfl⟩
theorem d_7_scan_56 : zD prog_9_method_2_code 56 (.getfield 24) 3 59 := ⟨by decide +kernel, rfl⟩
theorem d_7_scan_59 : zD prog_9_method_2_code 59 (.if_icmp .ge 11) 3 62 := ⟨by decide +kernel, rfl⟩
theorem d_7_scan_62 : zD prog_9_method_2_code 62 (.aload_n 0) 1 63 := ⟨by decide +kernel, rfl⟩
theorem d_7_scan_63 : zD prog_9_method_2_code 63 (.iload_n 3) 1 64 := ⟨by decide +kernel, rfl⟩
theorem d_7_scan_64 : zD prog_9_method_2_code 64 (.invokevirtual 40) 3 67 := ⟨by decide +kernel, rfl⟩
theorem d_7_scan_67 : zD prog_9_method_2_code 67 (.goto 4) 3 70 := ⟨by decide +kernel, rfl⟩
theorem d_7_scan_70 : zD prog_9_method_2_code 70 (.iconst 0) 1 71 := ⟨by decide +kernel, rfl⟩
theorem d_7_scan_71 : zD prog_9_method_2_code 71 (.iastore) 1 72 := ⟨by decide +kernel, rfl⟩
theorem d_7_scan_72 : zD prog_9_method_2_code 72 (.iinc 3 1) 3 75 := ⟨by decide +kernel, rfl⟩
theorem d_7_scan_75 : zD prog_9_method_2_code 75 (.goto (-50)) 3 78 := ⟨by decide +kernel, rfl⟩
theorem d_7_scan_78 : zD prog_9_method_2_code 78 (.return_) 1 79 := ⟨by decide +kernel, rfl⟩
theorem d_4_begin_0 : zD prog_6_method_4_code 0 (.aload_n 0) 1 1 := ⟨by decide +kernel, rfl⟩
theorem d_4_begin_1 : zD prog_6_method_4_code 1 (.getfield 28) 3 4 := ⟨by decide +kernel, rfl⟩
theorem d_4_begin_4 : zD prog_6_method_4_code 4 (.invokevirtual 89) 3 7 := ⟨by decide +kernel, rfl⟩
theorem d_4_begin_7 : zD prog_6_method_4_code 7 (.aload_n 0) 1 8 := ⟨by decide +kernel, rfl⟩
theorem d_4_begin_8 : zD prog_6_method_4_code 8 (.iconst 0) 1 9 := ⟨by decide +kernel, rfl⟩
theorem d_4_begin_9 : zD prog_6_method_4_code 9 (.putfield 32) 3 12 := ⟨by decide +kernel, rfl⟩
theorem d_4_begin_12 : zD prog_6_method_4_code 12 (.aload_n 0) 1 13 := ⟨by decide +kernel, rfl⟩
theorem d_4_begin_13 : zD prog_6_method_4_code 13 (.iconst 0) 1 14 := ⟨by decide +kernel, rfl⟩
theorem d_4_begin_14 : zD prog_6_method_4_code 14 (.putfield 36) 3 17 := ⟨by decide +kernel, rfl⟩
theorem d_4_begin_17 : zD prog_6_method_4_code 17 (.aload_n 0) 1 18 := ⟨by decide +kernel, rfl⟩
theorem d_4_begin_18 : zD prog_6_method_4_code 18 (.iconst 0) 1 19 := ⟨by decide +kernel, rfl⟩
theorem d_4_begin_19 : zD prog_6_method_4_code 19 (.putfield 39) 3 22 := ⟨by decide +kernel, rfl⟩
theorem d_4_begin_22 : zD prog_6_method_4_code 22 (.aload_n 0) 1 23 := ⟨by decide +kernel, rfl⟩
theorem d_4_begin_23 : zD prog_6_method_4_code 23 (.iconst 0) 1 24 := ⟨by decide +kernel, rfl⟩
theorem d_4_begin_24 : zD prog_6_method_4_code 24 (.putfield 42) 3 27 := ⟨by decide +kernel, rfl⟩
theorem d_4_begin_27 : zD prog_6_method_4_code 27 (.aload_n 0) 1 28 := ⟨by decide +kernel, rfl⟩
theorem d_4_begin_28 : zD prog_6_method_4_code 28 (.iconst 0) 1 29 := ⟨by decide +kernel, rfl⟩
theorem d_4_begin_29 : zD prog_6_method_4_code 29 (.putfield 48) 3 32 := ⟨by decide +kernel, rfl⟩
theorem d_4_begin_32 : zD prog_6_method_4_code 32 (.aload_n 0) 1 33 := ⟨by decide +kernel, rfl⟩
theorem d_4_begin_33 : zD prog_6_method_4_code 33 (.iconst (-1)) 1 34 := ⟨by decide +kernel, rfl⟩
theorem d_4_begin_34 : zD prog_6_method_4_code 34 (.putfield 51) 3 37 := ⟨by decide +kernel, rfl⟩
theorem d_4_begin_37 : zD prog_6_method_4_code 37 (.return_) 1 38 := ⟨by decide +kernel, rfl⟩
theorem d_4_kind_0 : zD prog_6_method_16_code 0 (.aload_n 0) 1 1 := ⟨by decide +kernel, rfl⟩
theorem d_4_kind_1 : zD prog_6_method_16_code 1 (.getfield 12) 3 4 := ⟨by decide +kernel, rfl⟩
theorem d_4_kind_4 : zD prog_6_method_16_code 4 (.getfield 169) 3 7 := ⟨by decide +kernel, rfl⟩
theorem d_4_kind_7 : zD prog_6_method_16_code 7 (.aload_n 0) 1 8 := ⟨by decide +kernel, rfl⟩
theorem d_4_kind_8 : zD prog_6_method_16_code 8 (.getfield 32) 3 11 := ⟨by decide +kernel, rfl⟩
theorem d_4_kind_11 : zD prog_6_method_16_code 11 (.iaload) 1 12 := ⟨by decide +kernel, rfl⟩
theorem d_4_kind_12 : zD prog_6_method_16_code 12 (.ireturn) 1 13 := ⟨by decide +kernel, rfl⟩
theorem d_4_refuse_0 : zD prog_6_method_19_code 0 (.aload_n 0) 1 1 := ⟨by decide +kernel, rfl⟩
theorem d_4_refuse_1 : zD prog_6_method_19_code 1 (.iload_n 1) 1 2 := ⟨by decide +kernel, rfl⟩
theorem d_4_refuse_2 : zD prog_6_method_19_code 2 (.putfield 42) 3 5 := ⟨by decide +kernel, rfl⟩
theorem d_4_refuse_5 : zD prog_6_method_19_code 5 (.iconst 0) 1 6 := ⟨by decide +kernel, rfl⟩
theorem d_4_refuse_6 : zD prog_6_method_19_code 6 (.ireturn) 1 7 := ⟨by decide +kernel, rfl⟩
theorem d_4_take_0 : zD prog_6_method_18_code 0 (.aload_n 0) 1 1 := ⟨by decide +kernel, rfl⟩
theorem d_4_take_1 : zD prog_6_method_18_code 1 (.getfield 12) 3 4 := ⟨by decide +kernel, rfl⟩
theorem d_4_take_4 : zD prog_6_method_18_code 4 (.getfield 169) 3 7 := ⟨by decide +kernel, rfl⟩
theorem d_4_take_7 : zD prog_6_method_18_code 7 (.aload_n 0) 1 8 := ⟨by decide +kernel, rfl⟩
theorem d_4_take_8 : zD prog_6_method_18_code 8 (.getfield 32) 3 11 := ⟨by decide +kernel, rfl⟩
theorem d_4_take_11 : zD prog_6_method_18_code 11 (.iaload) 1 12 := ⟨by decide +kernel, rfl⟩
theorem d_4_take_12 : zD prog_6_method_18_code 12 (.iload_n 1) 1 13 := ⟨by decide +kernel, rfl⟩
theorem d_4_take_13 : zD prog_6_method_18_code 13 (.if_icmp .eq 11) 3 16 := ⟨by decide +kernel, rfl⟩
theorem d_4_take_16 : zD prog_6_method_18_code 16 (.aload_n 0) 1 17 := ⟨by decide +kernel, rfl⟩
theorem d_4_take_17 : zD prog_6_method_18_code 17 (.iconst 1) 1 18 := ⟨by decide +kernel, rfl⟩
theorem d_4_take_18 : zD prog_6_method_18_code 18 (.putfield 42) 3 21 := ⟨by decide +kernel, rfl⟩
theorem d_4_take_21 : zD prog_6_method_18_code 21 (.goto 31) 3 24 := ⟨by decide +kernel, rfl⟩
theorem d_4_take_24 : zD prog_6_method_18_code 24 (.aload_n 0) 1 25 := ⟨by decide +kernel, rfl⟩
theorem d_4_take_25 : zD prog_6_method_18_code 25 (.getfield 32) 3 28 := ⟨by decide +kernel, rfl⟩
theorem d_4_take_28 : zD prog_6_method_18_code 28 (.sipush 400) 3 31 := ⟨by decide +kernel, rfl⟩
theorem d_4_take_31 : zD prog_6_method_18_code 31 (.if_icmp .lt 11) 3 34 := ⟨by decide +kernel, rfl⟩
theorem d_4_take_34 : zD prog_6_method_18_code 34 (.aload_n 0) 1 35 := ⟨by decide +kernel, rfl⟩
theorem d_4_take_35 : zD prog_6_method_18_code 35 (.iconst 2) 1 36 := ⟨by decide +kernel, rfl⟩
theorem d_4_take_36 : zD prog_6_method_18_code 36 (.putfield 42) 3 39 := ⟨by decide +kernel, rfl⟩
theorem d_4_take_39 : zD prog_6_method_18_code 39 (.goto 13) 3 42 := ⟨by decide +kernel, rfl⟩
theorem d_4_take_42 : zD prog_6_method_18_code 42 (.aload_n 0) 1 43 := ⟨by decide +kernel, rfl⟩
theorem d_4_take_43 : zD prog_6_method_18_code 43 (.dup) 1 44 := ⟨by decide +kernel, rfl⟩
theorem d_4_take_44 : zD prog_6_method_18_code 44 (.getfield 32) 3 47 := ⟨by decide +kernel, rfl⟩
theorem d_4_take_47 : zD prog_6_method_18_code 47 (.iconst 1) 1 48 := ⟨by decide +kernel, rfl⟩
theorem d_4_take_48 : zD prog_6_method_18_code 48 (.iadd) 1 49 := ⟨by decide +kernel, rfl⟩
theorem d_4_take_49 : zD prog_6_method_18_code 49 (.putfield 32) 3 52 := ⟨by decide +kernel, rfl⟩
theorem d_4_take_52 : zD prog_6_method_18_code 52 (.aload_n 0) 1 53 := ⟨by decide +kernel, rfl⟩
theorem d_4_take_53 : zD prog_6_method_18_code 53 (.getfield 42) 3 56 := ⟨by decide +kernel, rfl⟩
theorem d_4_take_56 : zD prog_6_method_18_code 56 (.ifCond .ne 7) 3 59 := ⟨by decide +kernel, rfl⟩
theorem d_4_take_59 : zD prog_6_method_18_code 59 (.iconst 1) 1 60 := ⟨by decide +kernel, rfl⟩
theorem d_4_take_60 : zD prog_6_method_18_code 60 (.goto 4) 3 63 := ⟨by decide +kernel, rfl⟩
theorem d_4_take_63 : zD prog_6_method_18_code 63 (.iconst 0) 1 64 := ⟨by decide +kernel, rfl⟩
theorem d_4_take_64 : zD prog_6_method_18_code 64 (.ireturn) 1 65 := ⟨by decide +kernel, rfl⟩
theorem d_4_value_0 : zD prog_6_method_17_code 0 (.aload_n 0) 1 1 := ⟨by decide +kernel, rfl⟩
theorem d_4_value_1 : zD prog_6_method_17_code 1 (.getfield 12) 3 4 := ⟨by decide +kernel, rfl⟩
theorem d_4_value_4 : zD prog_6_method_17_code 4 (.getfield 172) 3 7 := ⟨by decide +kernel, rfl⟩
theorem d_4_value_7 : zD prog_6_method_17_code 7 (.aload_n 0) 1 8 := ⟨by decide +kernel, rfl⟩
theorem d_4_value_8 : zD prog_6_method_17_code 8 (.getfield 32) 3 11 := ⟨by decide +kernel, rfl⟩
theorem d_4_value_11 : zD prog_6_method_17_code 11 (.laload) 1 12 := ⟨by decide +kernel, rfl⟩
theorem d_4_value_12 : zD prog_6_method_17_code 12 (.lreturn) 1 13 := ⟨by decide +kernel, rfl⟩
theorem d_4_findName_0 : zD prog_6_method_21_code 0 (.iconst 0) 1 1 := ⟨by decide +kernel, rfl⟩
theorem d_4_findName_1 : zD prog_6_method_21_code 1 (.istore_n 3) 1 2 := ⟨by decide +kernel, rfl⟩
theorem d_4_findName_2 : zD prog_6_method_21_code 2 (.iload_n 3) 1 3 := ⟨by decide +kernel, rfl⟩
theorem d_4_findName_3 : zD prog_6_method_21_code 3 (.iload_n 2) 1 4 := ⟨by decide +kernel, rfl⟩
theorem d_4_findName_4 : zD prog_6_method_21_code 4 (.if_icmp .ge 28) 3 7 := ⟨by decide +kernel, rfl⟩
theorem d_4_findName_7 : zD prog_6_method_21_code 7 (.iload_n 3) 1 8 := ⟨by decide +kernel, rfl⟩
theorem d_4_findName_8 : zD prog_6_method_21_code 8 (.aload_n 1) 1 9 := ⟨by decide +kernel, rfl⟩
theorem d_4_findName_9 : zD prog_6_method_21_code 9 (.arraylength) 1 10 := ⟨by decide +kernel, rfl⟩
theorem d_4_findName_10 : zD prog_6_method_21_code 10 (.if_icmp .ge 22) 3 13 := ⟨by decide +kernel, rfl⟩
theorem d_4_findName_13 : zD prog_6_method_21_code 13 (.aload_n 1) 1 14 := ⟨by decide +kernel, rfl⟩
theorem d_4_findName_14 : zD prog_6_method_21_code 14 (.iload_n 3) 1 15 := ⟨by decide +kernel, rfl⟩
theorem d_4_findName_15 : zD prog_6_method_21_code 15 (.laload) 1 16 := ⟨by decide +kernel, rfl⟩
theorem d_4_findName_16 : zD prog_6_method_21_code 16 (.aload_n 0) 1 17 := ⟨by decide +kernel, rfl⟩
theorem d_4_findName_17 : zD prog_6_method_21_code 17 (.invokevirtual 117) 3 20 := ⟨by decide +kernel, rfl⟩
theorem d_4_findName_20 : zD prog_6_method_21_code 20 (.lcmp) 1 21 := ⟨by decide +kernel, rfl⟩
theorem d_4_findName_21 : zD prog_6_method_21_code 21 (.ifCond .ne 5) 3 24 := ⟨by decide +kernel, rfl⟩
theorem d_4_findName_24 : zD prog_6_method_21_code 24 (.iload_n 3) 1 25 := ⟨by decide +kernel, rfl⟩
theorem d_4_findName_25 : zD prog_6_method_21_code 25 (.ireturn) 1 26 := ⟨by decide +kernel, rfl⟩
theorem d_4_findName_26 : zD prog_6_method_21_code 26 (.iinc 3 1) 3 29 := ⟨by decide +kernel, rfl⟩
theorem d_4_findName_29 : zD prog_6_method_21_code 29 (.goto (-27)) 3 32 := ⟨by decide +kernel, rfl⟩
theorem d_4_findName_32 : zD prog_6_method_21_code 32 (.iconst (-1)) 1 33 := ⟨by decide +kernel, rfl⟩
theorem d_4_findName_33 : zD prog_6_method_21_code 33 (.ireturn) 1 34 := ⟨by decide +kernel, rfl⟩
theorem d_4_suspect_0 : zD prog_6_method_25_code 0 (.aload_n 0) 1 1 := ⟨by decide +kernel, rfl⟩
theorem d_4_suspect_1 : zD prog_6_method_25_code 1 (.getfield 48) 3 4 := ⟨by decide +kernel, rfl⟩
theorem d_4_suspect_4 : zD prog_6_method_25_code 4 (.ifCond .ne 24) 3 7 := ⟨by decide +kernel, rfl⟩
theorem d_4_suspect_7 : zD prog_6_method_25_code 7 (.aload_n 0) 1 8 := ⟨by decide +kernel, rfl⟩
theorem d_4_suspect_8 : zD prog_6_method_25_code 8 (.iload_n 1) 1 9 := ⟨by decide +kernel, rfl⟩
theorem d_4_suspect_9 : zD prog_6_method_25_code 9 (.putfield 48) 3 12 := ⟨by decide +kernel, rfl⟩
theorem d_4_suspect_12 : zD prog_6_method_25_code 12 (.aload_n 0) 1 13 := ⟨by decide +kernel, rfl⟩
theorem d_4_suspect_13 : zD prog_6_method_25_code 13 (.aload_n 0) 1 14 := ⟨by decide +kernel, rfl⟩
theorem d_4_suspect_14 : zD prog_6_method_25_code 14 (.getfield 12) 3 17 := ⟨by decide +kernel, rfl⟩
theorem d_4_suspect_17 : zD prog_6_method_25_code 17 (.getfield 85) 3 20 := ⟨by decide +kernel, rfl⟩
theorem d_4_suspect_20 : zD prog_6_method_25_code 20 (.aload_n 0) 1 21 := ⟨by decide +kernel, rfl⟩
theorem d_4_suspect_21 : zD prog_6_method_25_code 21 (.getfield 32) 3 24 := ⟨by decide +kernel, rfl⟩
theorem d_4_suspect_24 : zD prog_6_method_25_code 24 (.iaload) 1 25 := ⟨by decide +kernel, rfl⟩
theorem d_4_suspect_25 : zD prog_6_method_25_code 25 (.putfield 51) 3 28 := ⟨by decide +kernel, rfl⟩
theorem d_4_suspect_28 : zD prog_6_method_25_code 28 (.return_) 1 29 := ⟨by decide +kernel, rfl⟩
theorem d_4_suspectOldName_0 : zD prog_6_method_22_code 0 (.aload_n 0) 1 1 := ⟨by decide +kernel, rfl⟩
theorem d_4_suspectOldName_1 : zD prog_6_method_22_code 1 (.aload_n 0) 1 2 := ⟨by decide +kernel, rfl⟩
theorem d_4_suspectOldName_2 : zD prog_6_method_22_code 2 (.getfield 18) 3 5 := ⟨by decide +kernel, rfl⟩
theorem d_4_suspectOldName_5 : zD prog_6_method_22_code 5 (.aload_n 0) 1 6 := ⟨by decide +kernel, rfl⟩
theorem d_4_suspectOldName_6 : zD prog_6_method_22_code 6 (.getfield 28) 3 9 := ⟨by decide +kernel, rfl⟩
theorem d_4_suspectOldName_9 : zD prog_6_method_22_code 9 (.getfield 92) 3 12 := ⟨by decide +kernel, rfl⟩
theorem d_4_suspectOldName_12 : zD prog_6_method_22_code 12 (.invokevirtual 127) 3 15 := ⟨by decide +kernel, rfl⟩
theorem d_4_suspectOldName_15 : zD prog_6_method_22_code 15 (.iconst (-1)) 1 16 := ⟨by decide +kernel, rfl⟩
theorem d_4_suspectOldName_16 : zD prog_6_method_22_code 16 (.if_icmp .ne 22) 3 19 := ⟨by decide +kernel, rfl⟩
theorem d_4_suspectOldName_19 : zD prog_6_method_22_code 19 (.aload_n 0) 1 20 := ⟨by decide +kernel, rfl⟩
theorem d_4_suspectOldName_20 : zD prog_6_method_22_code 20 (.aload_n 0) 1 21 := ⟨by decide +kernel, rfl⟩
theorem d_4_suspectOldName_21 : zD prog_6_method_22_code 21 (.getfield 22) 3 24 := ⟨by decide +kernel, rfl⟩
theorem d_4_suspectOldName_24 : zD prog_6_method_22_code 24 (.aload_n 0) 1 25 := ⟨by decide +kernel, rfl⟩
theorem d_4_suspectOldName_25 : zD prog_6_method_22_code 25 (.getfield 28) 3 28 := ⟨by decide +kernel, rfl⟩
theorem d_4_suspectOldName_28 : zD prog_6_method_22_code 28 (.getfield 105) 3 31 := ⟨by decide +kernel, rfl⟩
theorem d_4_suspectOldName_31 : zD prog_6_method_22_code 31 (.invokevirtual 127) 3 34 := ⟨by decide +kernel, rfl⟩
theorem d_4_suspectOldName_34 : zD prog_6_method_22_code 34 (.iconst (-1)) 1 35 := ⟨by decide +kernel, rfl⟩
theorem d_4_suspectOldName_35 : zD prog_6_method_22_code 35 (.if_icmp .eq 8) 3 38 := ⟨by decide +kernel, rfl⟩
theorem d_4_suspectOldName_38 : zD prog_6_method_22_code 38 (.aload_n 0) 1 39 := ⟨by decide +kernel, rfl⟩
theorem d_4_suspectOldName_39 : zD prog_6_method_22_code 39 (.iconst 3) 1 40 := ⟨by decide +kernel, rfl⟩
theorem d_4_suspectOldName_40 : zD prog_6_method_22_code 40 (.invokevirtual 131) 3 43 := ⟨by decide +kernel, rfl⟩
theorem d_4_suspectOldName_43 : zD prog_6_method_22_code 43 (.return_) 1 44 := ⟨by decide +kernel, rfl⟩
theorem d_4_suspectNumber_0 : zD prog_6_method_24_code 0 (.aload_n 0) 1 1 := ⟨by decide +kernel, rfl⟩
theorem d_4_suspectNumber_1 : zD prog_6_method_24_code 1 (.invokevirtual 117) 3 4 := ⟨by decide +kernel, rfl⟩
theorem d_4_suspectNumber_4 : zD prog_6_method_24_code 4 (.ldc2_w 179) 3 7 := ⟨by decide +kernel, rfl⟩
theorem d_4_suspectNumber_7 : zD prog_6_method_24_code 7 (.lcmp) 1 8 := ⟨by decide +kernel, rfl⟩
theorem d_4_suspectNumber_8 : zD prog_6_method_24_code 8 (.ifCond .le 8) 3 11 := ⟨by decide +kernel, rfl⟩
theorem d_4_suspectNumber_11 : zD prog_6_method_24_code 11 (.aload_n 0) 1 12 := ⟨by decide +kernel, rfl⟩
theorem d_4_suspectNumber_12 : zD prog_6_method_24_code 12 (.iconst 5) 1 13 := ⟨by decide +kernel, rfl⟩
theorem d_4_suspectNumber_13 : zD prog_6_method_24_code 13 (.invokevirtual 131) 3 16 := ⟨by decide +kernel, rfl⟩
theorem d_4_suspectNumber_16 : zD prog_6_method_24_code 16 (.return_) 1 17 := ⟨by decide +kernel, rfl⟩
theorem d_4_readNamed_0 : zD prog_6_method_7_code 0 (.aload_n 0) 1 1 := ⟨by decide +kernel, rfl⟩
theorem d_4_readNamed_1 : zD prog_6_method_7_code 1 (.iload_n 1) 1 2 := ⟨by decide +kernel, rfl⟩
theorem d_4_readNamed_2 : zD prog_6_method_7_code 2 (.invokevirtual 111) 3 5 := ⟨by decide +kernel, rfl⟩
theorem d_4_readNamed_5 : zD prog_6_method_7_code 5 (.ifCond .ne 5) 3 8 := ⟨by decide +kernel, rfl⟩
theorem d_4_readNamed_8 : zD prog_6_method_7_code 8 (.iconst 0) 1 9 := ⟨by decide +kernel, rfl⟩
theorem d_4_readNamed_9 : zD prog_6_method_7_code 9 (.ireturn) 1 10 := ⟨by decide +kernel, rfl⟩
theorem d_4_readNamed_10 : zD prog_6_method_7_code 10 (.aload_n 0) 1 11 := ⟨by decide +kernel, rfl⟩
theorem d_4_readNamed_11 : zD prog_6_method_7_code 11 (.invokevirtual 114) 3 14 := ⟨by decide +kernel, rfl⟩
theorem d_4_readNamed_14 : zD prog_6_method_7_code 14 (.aload_n 2) 1 15 := ⟨by decide +kernel, rfl⟩
theorem d_4_readNamed_15 : zD prog_6_method_7_code 15 (.iload 4) 2 17 := ⟨by decide +kernel, rfl⟩
theorem d_4_readNamed_17 : zD prog_6_method_7_code 17 (.aload_n 0) 1 18 := ⟨by decide +kernel, rfl⟩
theorem d_4_readNamed_18 : zD prog_6_method_7_code 18 (.invokevirtual 117) 3 21 := ⟨by decide +kernel, rfl⟩
theorem d_4_readNamed_21 : zD prog_6_method_7_code 21 (.lastore) 1 22 := ⟨by decide +kernel, rfl⟩
theorem d_4_readNamed_22 : zD prog_6_method_7_code 22 (.aload_n 0) 1 23 := ⟨by decide +kernel, rfl⟩
theorem d_4_readNamed_23 : zD prog_6_method_7_code 23 (.iconst 2) 1 24 := ⟨by decide +kernel, rfl⟩
theorem d_4_readNamed_24 : zD prog_6_method_7_code 24 (.invokevirtual 111) 3 27 := ⟨by decide +kernel, rfl⟩
theorem d_4_readNamed_27 : zD prog_6_method_7_code 27 (.ifCond .ne 5) 3 30 := ⟨by decide +kernel, rfl⟩
theorem d_4_readNamed_30 : zD prog_6_method_7_code 30 (.iconst 0) 1 31 := ⟨by decide +kernel, rfl⟩
theorem d_4_readNamed_31 : zD prog_6_method_7_code 31 (.ireturn) 1 32 := ⟨by decide +kernel, rfl⟩
theorem d_4_readNamed_32 : zD prog_6_method_7_code 32 (.aload_n 0) 1 33 := ⟨by decide +kernel, rfl⟩
theorem d_4_readNamed_33 : zD prog_6_method_7_code 33 (.invokevirtual 121) 3 36 := ⟨by decide +kernel, rfl⟩
theorem d_4_readNamed_36 : zD prog_6_method_7_code 36 (.aload_n 3) 1 37 := ⟨by decide +kernel, rfl⟩
theorem d_4_readNamed_37 : zD prog_6_method_7_code 37 (.iload 4) 2 39 := ⟨by decide +kernel, rfl⟩
theorem d_4_readNamed_39 : zD prog_6_method_7_code 39 (.aload_n 0) 1 40 := ⟨by decide +kernel, rfl⟩
theorem d_4_readNamed_40 : zD prog_6_method_7_code 40 (.invokevirtual 117) 3 43 := ⟨by decide +kernel, rfl⟩
theorem d_4_readNamed_43 : zD prog_6_method_7_code 43 (.l2i) 1 44 := ⟨by decide +kernel, rfl⟩
theorem d_4_readNamed_44 : zD prog_6_method_7_code 44 (.iastore) 1 45 := ⟨by decide +kernel, rfl⟩
theorem d_4_readNamed_45 : zD prog_6_method_7_code 45 (.aload_n 0) 1 46 := ⟨by decide +kernel, rfl⟩
theorem d_4_readNamed_46 : zD prog_6_method_7_code 46 (.iconst 3) 1 47 := ⟨by decide +kernel, rfl⟩
theorem d_4_readNamed_47 : zD prog_6_method_7_code 47 (.invokevirtual 111) 3 50 := ⟨by decide +kernel, rfl⟩
theorem d_4_readNamed_50 : zD prog_6_method_7_code 50 (.ifCond .eq 16) 3 53 := ⟨by decide +kernel, rfl⟩
theorem d_4_readNamed_53 : zD prog_6_method_7_code 53 (.aload_n 0) 1 54 := ⟨by decide +kernel, rfl⟩
theorem d_4_readNamed_54 : zD prog_6_method_7_code 54 (.bipush 59) 2 56 := ⟨by decide +kernel, rfl⟩
theorem d_4_readNamed_56 : zD prog_6_method_7_code 56 (.invokevirtual 111) 3 59 := ⟨by decide +kernel, rfl⟩
theorem d_4_readNamed_59 : zD prog_6_method_7_code 59 (.ifCond .eq 7) 3 62 := ⟨by decide +kernel, rfl⟩
theorem d_4_readNamed_62 : zD prog_6_method_7_code 62 (.iconst 1) 1 63 := ⟨by decide +kernel, rfl⟩
theorem d_4_readNamed_63 : zD prog_6_method_7_code 63 (.goto 4) 3 66 := ⟨by decide +kernel, rfl⟩
theorem d_4_readNamed_66 : zD prog_6_method_7_code 66 (.iconst 0) 1 67 := ⟨by decide +kernel, rfl⟩
theorem d_4_readNamed_67 : zD prog_6_method_7_code 67 (.ireturn) 1 68 := ⟨by decide +kernel, rfl⟩
theorem d_4_readHouse_0 : zD prog_6_method_5_code 0 (.aload_n 0) 1 1 := ⟨by decide +kernel, rfl⟩
theorem d_4_readHouse_1 : zD prog_6_method_5_code 1 (.getfield 28) 3 4 := ⟨by decide +kernel, rfl⟩
theorem d_4_readHouse_4 : zD prog_6_method_5_code 4 (.getfield 92) 3 7 := ⟨by decide +kernel, rfl⟩
theorem d_4_readHouse_7 : zD prog_6_method_5_code 7 (.iconst 5) 1 8 := ⟨by decide +kernel, rfl⟩
theorem d_4_readHouse_8 : zD prog_6_method_5_code 8 (.if_icmp .lt 9) 3 11 := ⟨by decide +kernel, rfl⟩
theorem d_4_readHouse_11 : zD prog_6_method_5_code 11 (.aload_n 0) 1 12 := ⟨by decide +kernel, rfl⟩
theorem d_4_readHouse_12 : zD prog_6_method_5_code 12 (.iconst 2) 1 13 := ⟨by decide +kernel, rfl⟩
theorem d_4_readHouse_13 : zD prog_6_method_5_code 13 (.invokevirtual 95) 3 16 := ⟨by decide +kernel, rfl⟩
theorem d_4_readHouse_16 : zD prog_6_method_5_code 16 (.ireturn) 1 17 := ⟨by decide +kernel, rfl⟩
theorem d_4_readHouse_17 : zD prog_6_method_5_code 17 (.aload_n 0) 1 18 := ⟨by decide +kernel, rfl⟩
theorem d_4_readHouse_18 : zD prog_6_method_5_code 18 (.sipush 128) 3 21 := ⟨by decide +kernel, rfl⟩
theorem d_4_readHouse_21 : zD prog_6_method_5_code 21 (.aload_n 0) 1 22 := ⟨by decide +kernel, rfl⟩
theorem d_4_readHouse_22 : zD prog_6_method_5_code 22 (.getfield 18) 3 25 := ⟨by decide +kernel, rfl⟩
theorem d_4_readHouse_25 : zD prog_6_method_5_code 25 (.aload_n 0) 1 26 := ⟨by decide +kernel, rfl⟩
theorem d_4_readHouse_26 : zD prog_6_method_5_code 26 (.getfield 28) 3 29 := ⟨by decide +kernel, rfl⟩
theorem d_4_readHouse_29 : zD prog_6_method_5_code 29 (.getfield 98) 3 32 := ⟨by decide +kernel, rfl⟩
theorem d_4_readHouse_32 : zD prog_6_method_5_code 32 (.aload_n 0) 1 33 := ⟨by decide +kernel, rfl⟩
theorem d_4_readHouse_33 : zD prog_6_method_5_code 33 (.getfield 28) 3 36 := ⟨by decide +kernel, rfl⟩
theorem d_4_readHouse_36 : zD prog_6_method_5_code 36 (.getfield 92) 3 39 := ⟨by decide +kernel, rfl⟩
theorem d_4_readHouse_39 : zD prog_6_method_5_code 39 (.invokevirtual 101) 3 42 := ⟨by decide +kernel, rfl⟩
theorem d_4_readHouse_42 : zD prog_6_method_5_code 42 (.istore_n 1) 1 43 := ⟨by decide +kernel, rfl⟩
theorem d_4_readHouse_43 : zD prog_6_method_5_code 43 (.aload_n 0) 1 44 := ⟨by decide +kernel, rfl⟩
theorem d_4_readHouse_44 : zD prog_6_method_5_code 44 (.getfield 28) 3 47 := ⟨by decide +kernel, rfl⟩
theorem d_4_readHouse_47 : zD prog_6_method_5_code 47 (.dup) 1 48 := ⟨by decide +kernel, rfl⟩
theorem d_4_readHouse_48 : zD prog_6_method_5_code 48 (.getfield 92) 3 51 := ⟨by decide +kernel, rfl⟩
theorem d_4_readHouse_51 : zD prog_6_method_5_code 51 (.iconst 1) 1 52 := ⟨by decide +kernel, rfl⟩
theorem d_4_readHouse_52 : zD prog_6_method_5_code 52 (.iadd) 1 53 := ⟨by decide +kernel, rfl⟩
theorem d_4_readHouse_53 : zD prog_6_method_5_code 53 (.putfield 92) 3 56 := ⟨by decide +kernel, rfl⟩
theorem d_4_readHouse_56 : zD prog_6_method_5_code 56 (.iload_n 1) 1 57 := ⟨by decide +kernel, rfl⟩
theorem d_4_readHouse_57 : zD prog_6_method_5_code 57 (.ireturn) 1 58 := ⟨by decide +kernel, rfl⟩
theorem d_4_readPerson_0 : zD prog_6_method_6_code 0 (.aload_n 0) 1 1 := ⟨by decide +kernel, rfl⟩
theorem d_4_readPerson_1 : zD prog_6_method_6_code 1 (.getfield 28) 3 4 := ⟨by decide +kernel, rfl⟩
theorem d_4_readPerson_4 : zD prog_6_method_6_code 4 (.getfield 105) 3 7 := ⟨by decide +kernel, rfl⟩
theorem d_4_readPerson_7 : zD prog_6_method_6_code 7 (.bipush 7) 2 9 := ⟨by decide +kernel, rfl⟩
theorem d_4_readPerson_9 : zD prog_6_method_6_code 9 (.if_icmp .lt 9) 3 12 := ⟨by decide +kernel, rfl⟩
theorem d_4_readPerson_12 : zD prog_6_method_6_code 12 (.aload_n 0) 1 13 := ⟨by decide +kernel, rfl⟩
theorem d_4_readPerson_13 : zD prog_6_method_6_code 13 (.iconst 2) 1 14 := ⟨by decide +kernel, rfl⟩
theorem d_4_readPerson_14 : zD prog_6_method_6_code 14 (.invokevirtual 95) 3 17 := ⟨by decide +kernel, rfl⟩
theorem d_4_readPerson_17 : zD prog_6_method_6_code 17 (.ireturn) 1 18 := ⟨by decide +kernel, rfl⟩
theorem d_4_readPerson_18 : zD prog_6_method_6_code 18 (.aload_n 0) 1 19 := ⟨by decide +kernel, rfl⟩
theorem d_4_readPerson_19 : zD prog_6_method_6_code 19 (.sipush 129) 3 22 := ⟨by decide +kernel, rfl⟩
theorem d_4_readPerson_22 : zD prog_6_method_6_code 22 (.aload_n 0) 1 23 := ⟨by decide +kernel, rfl⟩
theorem d_4_readPerson_23 : zD prog_6_method_6_code 23 (.getfield 22) 3 26 := ⟨by decide +kernel, rfl⟩
theorem d_4_readPerson_26 : zD prog_6_method_6_code 26 (.aload_n 0) 1 27 := ⟨by decide +kernel, rfl⟩
theorem d_4_readPerson_27 : zD prog_6_method_6_code 27 (.getfield 28) 3 30 := ⟨by decide +kernel, rfl⟩
theorem d_4_readPerson_30 : zD prog_6_method_6_code 30 (.getfield 108) 3 33 := ⟨by decide +kernel, rfl⟩
theorem d_4_readPerson_33 : zD prog_6_method_6_code 33 (.aload_n 0) 1 34 := ⟨by decide +kernel, rfl⟩
theorem d_4_readPerson_34 : zD prog_6_method_6_code 34 (.getfield 28) 3 37 := ⟨by decide +kernel, rfl⟩
theorem d_4_readPerson_37 : zD prog_6_method_6_code 37 (.getfield 105) 3 40 := ⟨by decide +kernel, rfl⟩
theorem d_4_readPerson_40 : zD prog_6_method_6_code 40 (.invokevirtual 101) 3 43 := ⟨by decide +kernel, rfl⟩
theorem d_4_readPerson_43 : zD prog_6_method_6_code 43 (.istore_n 1) 1 44 := ⟨by decide +kernel, rfl⟩
theorem d_4_readPerson_44 : zD prog_6_method_6_code 44 (.aload_n 0) 1 45 := ⟨by decide +kernel, rfl⟩
theorem d_4_readPerson_45 : zD prog_6_method_6_code 45 (.getfield 28) 3 48 := ⟨by decide +kernel, rfl⟩
theorem d_4_readPerson_48 : zD prog_6_method_6_code 48 (.dup) 1 49 := ⟨by decide +kernel, rfl⟩
theorem d_4_readPerson_49 : zD prog_6_method_6_code 49 (.getfield 105) 3 52 := ⟨by decide +kernel, rfl⟩
theorem d_4_readPerson_52 : zD prog_6_method_6_code 52 (.iconst 1) 1 53 := ⟨by decide +kernel, rfl⟩
theorem d_4_readPerson_53 : zD prog_6_method_6_code 53 (.iadd) 1 54 := ⟨by decide +kernel, rfl⟩
theorem d_4_readPerson_54 : zD prog_6_method_6_code 54 (.putfield 105) 3 57 := ⟨by decide +kernel, rfl⟩
theorem d_4_readPerson_57 : zD prog_6_method_6_code 57 (.iload_n 1) 1 58 := ⟨by decide +kernel, rfl⟩
theorem d_4_readPerson_58 : zD prog_6_method_6_code 58 (.ireturn) 1 59 := ⟨by decide +kernel, rfl⟩
theorem d_4_findPerson_0 : zD prog_6_method_20_code 0 (.aload_n 0) 1 1 := ⟨by decide +kernel, rfl⟩
theorem d_4_findPerson_1 : zD prog_6_method_20_code 1 (.aload_n 0) 1 2 := ⟨by decide +kernel, rfl⟩
theorem d_4_findPerson_2 : zD prog_6_method_20_code 2 (.getfield 22) 3 5 := ⟨by decide +kernel, rfl⟩
theorem d_4_findPerson_5 : zD prog_6_method_20_code 5 (.aload_n 0) 1 6 := ⟨by decide +kernel, rfl⟩
theorem d_4_findPerson_6 : zD prog_6_method_20_code 6 (.getfield 28) 3 9 := ⟨by decide +kernel, rfl⟩
theorem d_4_findPerson_9 : zD prog_6_method_20_code 9 (.getfield 105) 3 12 := ⟨by decide +kernel, rfl⟩
theorem d_4_findPerson_12 : zD prog_6_method_20_code 12 (.invokevirtual 127) 3 15 := ⟨by decide +kernel, rfl⟩
theorem d_4_findPerson_15 : zD prog_6_method_20_code 15 (.istore_n 1) 1 16 := ⟨by decide +kernel, rfl⟩
theorem d_4_findPerson_16 : zD prog_6_method_20_code 16 (.iload_n 1) 1 17 := ⟨by decide +kernel, rfl⟩
theorem d_4_findPerson_17 : zD prog_6_method_20_code 17 (.iconst (-1)) 1 18 := ⟨by decide +kernel, rfl⟩
theorem d_4_findPerson_18 : zD prog_6_method_20_code 18 (.if_icmp .ne 8) 3 21 := ⟨by decide +kernel, rfl⟩
theorem d_4_findPerson_21 : zD prog_6_method_20_code 21 (.aload_n 0) 1 22 := ⟨by decide +kernel, rfl⟩
theorem d_4_findPerson_22 : zD prog_6_method_20_code 22 (.iconst 4) 1 23 := ⟨by decide +kernel, rfl⟩
theorem d_4_findPerson_23 : zD prog_6_method_20_code 23 (.invokevirtual 131) 3 26 := ⟨by decide +kernel, rfl⟩
theorem d_4_findPerson_26 : zD prog_6_method_20_code 26 (.iload_n 1) 1 27 := ⟨by decide +kernel, rfl⟩
theorem d_4_findPerson_27 : zD prog_6_method_20_code 27 (.ireturn) 1 28 := ⟨by decide +kernel, rfl⟩
theorem d_4_suspectOldRight_0 : zD prog_6_method_23_code 0 (.aload_n 0) 1 1 := ⟨by decide +kernel, rfl⟩
theorem d_4_suspectOldRight_1 : zD prog_6_method_23_code 1 (.getfield 28) 3 4 := ⟨by decide +kernel, rfl⟩
theorem d_4_suspectOldRight_4 : zD prog_6_method_23_code 4 (.getfield 139) 3 7 := ⟨by decide +kernel, rfl⟩
theorem d_4_suspectOldRight_7 : zD prog_6_method_23_code 7 (.iload_n 2) 1 8 := ⟨by decide +kernel, rfl⟩
theorem d_4_suspectOldRight_8 : zD prog_6_method_23_code 8 (.iaload) 1 9 := ⟨by decide +kernel, rfl⟩
theorem d_4_suspectOldRight_9 : zD prog_6_method_23_code 9 (.iload_n 1) 1 10 := ⟨by decide +kernel, rfl⟩
theorem d_4_suspectOldRight_10 : zD prog_6_method_23_code 10 (.invokestatic 175) 3 13 := ⟨by decide +kernel, rfl⟩
theorem d_4_suspectOldRight_13 : zD prog_6_method_23_code 13 (.ifCond .eq 8) 3 16 := ⟨by decide +kernel, rfl⟩
theorem d_4_suspectOldRight_16 : zD prog_6_method_23_code 16 (.aload_n 0) 1 17 := ⟨by decide +kernel, rfl⟩
theorem d_4_suspectOldRight_17 : zD prog_6_method_23_code 17 (.iconst 3) 1 18 := ⟨by decide +kernel, rfl⟩
theorem d_4_suspectOldRight_18 : zD prog_6_method_23_code 18 (.invokevirtual 131) 3 21 := ⟨by decide +kernel, rfl⟩
theorem d_4_suspectOldRight_21 : zD prog_6_method_23_code 21 (.return_) 1 22 := ⟨by decide +kernel, rfl⟩
theorem d_4_readRight_0 : zD prog_6_method_8_code 0 (.aload_n 0) 1 1 := ⟨by decide +kernel, rfl⟩
theorem d_4_readRight_1 : zD prog_6_method_8_code 1 (.getfield 36) 3 4 := ⟨by decide +kernel, rfl⟩
theorem d_4_readRight_4 : zD prog_6_method_8_code 4 (.bipush 20) 2 6 := ⟨by decide +kernel, rfl⟩
theorem d_4_readRight_6 : zD prog_6_method_8_code 6 (.if_icmp .lt 9) 3 9 := ⟨by decide +kernel, rfl⟩
theorem d_4_readRight_9 : zD prog_6_method_8_code 9 (.aload_n 0) 1 10 := ⟨by decide +kernel, rfl⟩
theorem d_4_readRight_10 : zD prog_6_method_8_code 10 (.iconst 2) 1 11 := ⟨by decide +kernel, rfl⟩
theorem d_4_readRight_11 : zD prog_6_method_8_code 11 (.invokevirtual 95) 3 14 := ⟨by decide +kernel, rfl⟩
theorem d_4_readRight_14 : zD prog_6_method_8_code 14 (.ireturn) 1 15 := ⟨by decide +kernel, rfl⟩
theorem d_4_readRight_15 : zD prog_6_method_8_code 15 (.aload_n 0) 1 16 := ⟨by decide +kernel, rfl⟩
theorem d_4_readRight_16 : zD prog_6_method_8_code 16 (.dup) 1 17 := ⟨by decide +kernel, rfl⟩
theorem d_4_readRight_17 : zD prog_6_method_8_code 17 (.getfield 36) 3 20 := ⟨by decide +kernel, rfl⟩
theorem d_4_readRight_20 : zD prog_6_method_8_code 20 (.iconst 1) 1 21 := ⟨by decide +kernel, rfl⟩
theorem d_4_readRight_21 : zD prog_6_method_8_code 21 (.iadd) 1 22 := ⟨by decide +kernel, rfl⟩
theorem d_4_readRight_22 : zD prog_6_method_8_code 22 (.putfield 36) 3 25 := ⟨by decide +kernel, rfl⟩
theorem d_4_readRight_25 : zD prog_6_method_8_code 25 (.aload_n 0) 1 26 := ⟨by decide +kernel, rfl⟩
theorem d_4_readRight_26 : zD prog_6_method_8_code 26 (.sipush 130) 3 29 := ⟨by decide +kernel, rfl⟩
theorem d_4_readRight_29 : zD prog_6_method_8_code 29 (.invokevirtual 111) 3 32 := ⟨by decide +kernel, rfl⟩
theorem d_4_readRight_32 : zD prog_6_method_8_code 32 (.ifCond .ne 5) 3 35 := ⟨by decide +kernel, rfl⟩
theorem d_4_readRight_35 : zD prog_6_method_8_code 35 (.iconst 0) 1 36 := ⟨by decide +kernel, rfl⟩
theorem d_4_readRight_36 : zD prog_6_method_8_code 36 (.ireturn) 1 37 := ⟨by decide +kernel, rfl⟩
theorem d_4_readRight_37 : zD prog_6_method_8_code 37 (.aload_n 0) 1 38 := ⟨by decide +kernel, rfl⟩
theorem d_4_readRight_38 : zD prog_6_method_8_code 38 (.invokevirtual 124) 3 41 := ⟨by decide +kernel, rfl⟩
theorem d_4_readRight_41 : zD prog_6_method_8_code 41 (.istore_n 1) 1 42 := ⟨by decide +kernel, rfl⟩
theorem d_4_readRight_42 : zD prog_6_method_8_code 42 (.aload_n 0) 1 43 := ⟨by decide +kernel, rfl⟩
theorem d_4_readRight_43 : zD prog_6_method_8_code 43 (.iconst 2) 1 44 := ⟨by decide +kernel, rfl⟩
theorem d_4_readRight_44 : zD prog_6_method_8_code 44 (.invokevirtual 111) 3 47 := ⟨by decide +kernel, rfl⟩
theorem d_4_readRight_47 : zD prog_6_method_8_code 47 (.ifCond .ne 5) 3 50 := ⟨by decide +kernel, rfl⟩
theorem d_4_readRight_50 : zD prog_6_method_8_code 50 (.iconst 0) 1 51 := ⟨by decide +kernel, rfl⟩
theorem d_4_readRight_51 : zD prog_6_method_8_code 51 (.ireturn) 1 52 := ⟨by decide +kernel, rfl⟩
theorem d_4_readRight_52 : zD prog_6_method_8_code 52 (.aload_n 0) 1 53 := ⟨by decide +kernel, rfl⟩
theorem d_4_readRight_53 : zD prog_6_method_8_code 53 (.aload_n 0) 1 54 := ⟨by decide +kernel, rfl⟩
theorem d_4_readRight_54 : zD prog_6_method_8_code 54 (.getfield 18) 3 57 := ⟨by decide +kernel, rfl⟩
theorem d_4_readRight_57 : zD prog_6_method_8_code 57 (.aload_n 0) 1 58 := ⟨by decide +kernel, rfl⟩
theorem d_4_readRight_58 : zD prog_6_method_8_code 58 (.getfield 28) 3 61 := ⟨by decide +kernel, rfl⟩
theorem d_4_readRight_61 : zD prog_6_method_8_code 61 (.getfield 92) 3 64 := ⟨by decide +kernel, rfl⟩
theorem d_4_readRight_64 : zD prog_6_method_8_code 64 (.invokevirtual 127) 3 67 := ⟨by decide +kernel, rfl⟩
theorem d_4_readRight_67 : zD prog_6_method_8_code 67 (.istore_n 2) 1 68 := ⟨by decide +kernel, rfl⟩
theorem d_4_readRight_68 : zD prog_6_method_8_code 68 (.iload_n 2) 1 69 := ⟨by decide +kernel, rfl⟩
theorem d_4_readRight_69 : zD prog_6_method_8_code 69 (.iconst (-1)) 1 70 := ⟨by decide +kernel, rfl⟩
theorem d_4_readRight_70 : zD prog_6_method_8_code 70 (.if_icmp .ne 11) 3 73 := ⟨by decide +kernel, rfl⟩
theorem d_4_readRight_73 : zD prog_6_method_8_code 73 (.aload_n 0) 1 74 := ⟨by decide +kernel, rfl⟩
theorem d_4_readRight_74 : zD prog_6_method_8_code 74 (.iconst 4) 1 75 := ⟨by decide +kernel, rfl⟩
theorem d_4_readRight_75 : zD prog_6_method_8_code 75 (.invokevirtual 131) 3 78 := ⟨by decide +kernel, rfl⟩
theorem d_4_readRight_78 : zD prog_6_method_8_code 78 (.goto 29) 3 81 := ⟨by decide +kernel, rfl⟩
theorem d_4_readRight_81 : zD prog_6_method_8_code 81 (.iload_n 1) 1 82 := ⟨by decide +kernel, rfl⟩
theorem d_4_readRight_82 : zD prog_6_method_8_code 82 (.iconst (-1)) 1 83 := ⟨by decide +kernel, rfl⟩
theorem d_4_readRight_83 : zD prog_6_method_8_code 83 (.if_icmp .eq 24) 3 86 := ⟨by decide +kernel, rfl⟩
theorem d_4_readRight_86 : zD prog_6_method_8_code 86 (.aload_n 0) 1 87 := ⟨by decide +kernel, rfl⟩
theorem d_4_readRight_87 : zD prog_6_method_8_code 87 (.iload_n 1) 1 88 := ⟨by decide +kernel, rfl⟩
theorem d_4_readRight_88 : zD prog_6_method_8_code 88 (.iload_n 2) 1 89 := ⟨by decide +kernel, rfl⟩
theorem d_4_readRight_89 : zD prog_6_method_8_code 89 (.invokevirtual 135) 3 92 := ⟨by decide +kernel, rfl⟩
theorem d_4_readRight_92 : zD prog_6_method_8_code 92 (.aload_n 0) 1 93 := ⟨by decide +kernel, rfl⟩
theorem d_4_readRight_93 : zD prog_6_method_8_code 93 (.getfield 28) 3 96 := ⟨by decide +kernel, rfl⟩
theorem d_4_readRight_96 : zD prog_6_method_8_code 96 (.getfield 139) 3 99 := ⟨by decide +kernel, rfl⟩
theorem d_4_readRight_99 : zD prog_6_method_8_code 99 (.iload_n 2) 1 100 := ⟨by decide +kernel, rfl⟩
theorem d_4_readRight_100 : zD prog_6_method_8_code 100 (.dup2) 1 101 := ⟨by decide +kernel, rfl⟩
theorem d_4_readRight_101 : zD prog_6_method_8_code 101 (.iaload) 1 102 := ⟨by decide +kernel, rfl⟩
theorem d_4_readRight_102 : zD prog_6_method_8_code 102 (.iconst 1) 1 103 := ⟨by decide +kernel, rfl⟩
theorem d_4_readRight_103 : zD prog_6_method_8_code 103 (.iload_n 1) 1 104 := ⟨by decide +kernel, rfl⟩
theorem d_4_readRight_104 : zD prog_6_method_8_code 104 (.ishl) 1 105 := ⟨by decide +kernel, rfl⟩
theorem d_4_readRight_105 : zD prog_6_method_8_code 105 (.ior) 1 106 := ⟨by decide +kernel, rfl⟩
theorem d_4_readRight_106 : zD prog_6_method_8_code 106 (.iastore) 1 107 := ⟨by decide +kernel, rfl⟩
theorem d_4_readRight_107 : zD prog_6_method_8_code 107 (.aload_n 0) 1 108 := ⟨by decide +kernel, rfl⟩
theorem d_4_readRight_108 : zD prog_6_method_8_code 108 (.iconst 2) 1 109 := ⟨by decide +kernel, rfl⟩
theorem d_4_readRight_109 : zD prog_6_method_8_code 109 (.invokevirtual 111) 3 112 := ⟨by decide +kernel, rfl⟩
theorem d_4_readRight_112 : zD prog_6_method_8_code 112 (.ifCond .eq 16) 3 115 := ⟨by decide +kernel, rfl⟩
theorem d_4_readRight_115 : zD prog_6_method_8_code 115 (.aload_n 0) 1 116 := ⟨by decide +kernel, rfl⟩
theorem d_4_readRight_116 : zD prog_6_method_8_code 116 (.bipush 59) 2 118 := ⟨by decide +kernel, rfl⟩
theorem d_4_readRight_118 : zD prog_6_method_8_code 118 (.invokevirtual 111) 3 121 := ⟨by decide +kernel, rfl⟩
theorem d_4_readRight_121 : zD prog_6_method_8_code 121 (.ifCond .eq 7) 3 124 := ⟨by decide +kernel, rfl⟩
theorem d_4_readRight_124 : zD prog_6_method_8_code 124 (.iconst 1) 1 125 := ⟨by decide +kernel, rfl⟩
theorem d_4_readRight_125 : zD prog_6_method_8_code 125 (.goto 4) 3 128 := ⟨by decide +kernel, rfl⟩
theorem d_4_readRight_128 : zD prog_6_method_8_code 128 (.iconst 0) 1 129 := ⟨by decide +kernel, rfl⟩
theorem d_4_readRight_129 : zD prog_6_method_8_code 129 (.ireturn) 1 130 := ⟨by decide +kernel, rfl⟩
theorem d_4_readAbsence_0 : zD prog_6_method_9_code 0 (.aload_n 0) 1 1 := ⟨by decide +kernel, rfl⟩
theorem d_4_readAbsence_1 : zD prog_6_method_9_code 1 (.getfield 39) 3 4 := ⟨by decide +kernel, rfl⟩
theorem d_4_readAbsence_4 : zD prog_6_method_9_code 4 (.bipush 7) 2 6 := ⟨by decide +kernel, rfl⟩
theorem d_4_readAbsence_6 : zD prog_6_method_9_code 6 (.if_icmp .lt 9) 3 9 := ⟨by decide +kernel, rfl⟩
theorem d_4_readAbsence_9 : zD prog_6_method_9_code 9 (.aload_n 0) 1 10 := ⟨by decide +kernel, rfl⟩
theorem d_4_readAbsence_10 : zD prog_6_method_9_code 10 (.iconst 2) 1 11 := ⟨by decide +kernel, rfl⟩
theorem d_4_readAbsence_11 : zD prog_6_method_9_code 11 (.invokevirtual 95) 3 14 := ⟨by decide +kernel, rfl⟩
theorem d_4_readAbsence_14 : zD prog_6_method_9_code 14 (.ireturn) 1 15 := ⟨by decide +kernel, rfl⟩
theorem d_4_readAbsence_15 : zD prog_6_method_9_code 15 (.aload_n 0) 1 16 := ⟨by decide +kernel, rfl⟩
theorem d_4_readAbsence_16 : zD prog_6_method_9_code 16 (.dup) 1 17 := ⟨by decide +kernel, rfl⟩
theorem d_4_readAbsence_17 : zD prog_6_method_9_code 17 (.getfield 39) 3 20 := ⟨by decide +kernel, rfl⟩
theorem d_4_readAbsence_20 : zD prog_6_method_9_code 20 (.iconst 1) 1 21 := ⟨by decide +kernel, rfl⟩
theorem d_4_readAbsence_21 : zD prog_6_method_9_code 21 (.iadd) 1 22 := ⟨by decide +kernel, rfl⟩
theorem d_4_readAbsence_22 : zD prog_6_method_9_code 22 (.putfield 39) 3 25 := ⟨by decide +kernel, rfl⟩
theorem d_4_readAbsence_25 : zD prog_6_method_9_code 25 (.aload_n 0) 1 26 := ⟨by decide +kernel, rfl⟩
theorem d_4_readAbsence_26 : zD prog_6_method_9_code 26 (.sipush 131) 3 29 := ⟨by decide +kernel, rfl⟩
theorem d_4_readAbsence_29 : zD prog_6_method_9_code 29 (.invokevirtual 111) 3 32 := ⟨by decide +kernel, rfl⟩
theorem d_4_readAbsence_32 : zD prog_6_method_9_code 32 (.ifCond .ne 5) 3 35 := ⟨by decide +kernel, rfl⟩
theorem d_4_readAbsence_35 : zD prog_6_method_9_code 35 (.iconst 0) 1 36 := ⟨by decide +kernel, rfl⟩
theorem d_4_readAbsence_36 : zD prog_6_method_9_code 36 (.ireturn) 1 37 := ⟨by decide +kernel, rfl⟩
theorem d_4_readAbsence_37 : zD prog_6_method_9_code 37 (.aload_n 0) 1 38 := ⟨by decide +kernel, rfl⟩
theorem d_4_readAbsence_38 : zD prog_6_method_9_code 38 (.invokevirtual 124) 3 41 := ⟨by decide +kernel, rfl⟩
theorem d_4_readAbsence_41 : zD prog_6_method_9_code 41 (.istore_n 1) 1 42 := ⟨by decide +kernel, rfl⟩
theorem d_4_readAbsence_42 : zD prog_6_method_9_code 42 (.aload_n 0) 1 43 := ⟨by decide +kernel, rfl⟩
theorem d_4_readAbsence_43 : zD prog_6_method_9_code 43 (.iconst 2) 1 44 := ⟨by decide +kernel, rfl⟩
theorem d_4_readAbsence_44 : zD prog_6_method_9_code 44 (.invokevirtual 111) 3 47 := ⟨by decide +kernel, rfl⟩
theorem d_4_readAbsence_47 : zD prog_6_method_9_code 47 (.ifCond .ne 5) 3 50 := ⟨by decide +kernel, rfl⟩
theorem d_4_readAbsence_50 : zD prog_6_method_9_code 50 (.iconst 0) 1 51 := ⟨by decide +kernel, rfl⟩
theorem d_4_readAbsence_51 : zD prog_6_method_9_code 51 (.ireturn) 1 52 := ⟨by decide +kernel, rfl⟩
theorem d_4_readAbsence_52 : zD prog_6_method_9_code 52 (.aload_n 0) 1 53 := ⟨by decide +kernel, rfl⟩
theorem d_4_readAbsence_53 : zD prog_6_method_9_code 53 (.invokevirtual 121) 3 56 := ⟨by decide +kernel, rfl⟩
theorem d_4_readAbsence_56 : zD prog_6_method_9_code 56 (.iload_n 1) 1 57 := ⟨by decide +kernel, rfl⟩
theorem d_4_readAbsence_57 : zD prog_6_method_9_code 57 (.iconst (-1)) 1 58 := ⟨by decide +kernel, rfl⟩
theorem d_4_readAbsence_58 : zD prog_6_method_9_code 58 (.if_icmp .eq 17) 3 61 := ⟨by decide +kernel, rfl⟩
theorem d_4_readAbsence_61 : zD prog_6_method_9_code 61 (.aload_n 0) 1 62 := ⟨by decide +kernel, rfl⟩
theorem d_4_readAbsence_62 : zD prog_6_method_9_code 62 (.getfield 28) 3 65 := ⟨by decide +kernel, rfl⟩
theorem d_4_readAbsence_65 : zD prog_6_method_9_code 65 (.getfield 142) 3 68 := ⟨by decide +kernel, rfl⟩
theorem d_4_readAbsence_68 : zD prog_6_method_9_code 68 (.iload_n 1) 1 69 := ⟨by decide +kernel, rfl⟩
theorem d_4_readAbsence_69 : zD prog_6_method_9_code 69 (.aload_n 0) 1 70 := ⟨by decide +kernel, rfl⟩
theorem d_4_readAbsence_70 : zD prog_6_method_9_code 70 (.invokevirtual 117) 3 73 := ⟨by decide +kernel, rfl⟩
theorem d_4_readAbsence_73 : zD prog_6_method_9_code 73 (.l2i) 1 74 := ⟨by decide +kernel, rfl⟩
theorem d_4_readAbsence_74 : zD prog_6_method_9_code 74 (.iastore) 1 75 := ⟨by decide +kernel, rfl⟩
theorem d_4_readAbsence_75 : zD prog_6_method_9_code 75 (.aload_n 0) 1 76 := ⟨by decide +kernel, rfl⟩
theorem d_4_readAbsence_76 : zD prog_6_method_9_code 76 (.iconst 3) 1 77 := ⟨by decide +kernel, rfl⟩
theorem d_4_readAbsence_77 : zD prog_6_method_9_code 77 (.invokevirtual 111) 3 80 := ⟨by decide +kernel, rfl⟩
theorem d_4_readAbsence_80 : zD prog_6_method_9_code 80 (.ifCond .eq 16) 3 83 := ⟨by decide +kernel, rfl⟩
theorem d_4_readAbsence_83 : zD prog_6_method_9_code 83 (.aload_n 0) 1 84 := ⟨by decide +kernel, rfl⟩
theorem d_4_readAbsence_84 : zD prog_6_method_9_code 84 (.bipush 59) 2 86 := ⟨by decide +kernel, rfl⟩
theorem d_4_readAbsence_86 : zD prog_6_method_9_code 86 (.invokevirtual 111) 3 89 := ⟨by decide +kernel, rfl⟩
theorem d_4_readAbsence_89 : zD prog_6_method_9_code 89 (.ifCond .eq 7) 3 92 := ⟨by decide +kernel, rfl⟩
theorem d_4_readAbsence_92 : zD prog_6_method_9_code 92 (.iconst 1) 1 93 := ⟨by decide +kernel, rfl⟩
theorem d_4_readAbsence_93 : zD prog_6_method_9_code 93 (.goto 4) 3 96 := ⟨by decide +kernel, rfl⟩
theorem d_4_readAbsence_96 : zD prog_6_method_9_code 96 (.iconst 0) 1 97 := ⟨by decide +kernel, rfl⟩
theorem d_4_readAbsence_97 : zD prog_6_method_9_code 97 (.ireturn) 1 98 := ⟨by decide +kernel, rfl⟩
theorem d_4_readSeed_0 : zD prog_6_method_10_code 0 (.aload_n 0) 1 1 := ⟨by decide +kernel, rfl⟩
theorem d_4_readSeed_1 : zD prog_6_method_10_code 1 (.sipush 136) 3 4 := ⟨by decide +kernel, rfl⟩
theorem d_4_readSeed_4 : zD prog_6_method_10_code 4 (.invokevirtual 111) 3 7 := ⟨by decide +kernel, rfl⟩
theorem d_4_readSeed_7 : zD prog_6_method_10_code 7 (.ifCond .ne 5) 3 10 := ⟨by decide +kernel, rfl⟩
theorem d_4_readSeed_10 : zD prog_6_method_10_code 10 (.iconst 0) 1 11 := ⟨by decide +kernel, rfl⟩
theorem d_4_readSeed_11 : zD prog_6_method_10_code 11 (.ireturn) 1 12 := ⟨by decide +kernel, rfl⟩
theorem d_4_readSeed_12 : zD prog_6_method_10_code 12 (.aload_n 0) 1 13 := ⟨by decide +kernel, rfl⟩
theorem d_4_readSeed_13 : zD prog_6_method_10_code 13 (.getfield 28) 3 16 := ⟨by decide +kernel, rfl⟩
theorem d_4_readSeed_16 : zD prog_6_method_10_code 16 (.aload_n 0) 1 17 := ⟨by decide +kernel, rfl⟩
theorem d_4_readSeed_17 : zD prog_6_method_10_code 17 (.invokevirtual 117) 3 20 := ⟨by decide +kernel, rfl⟩
theorem d_4_readSeed_20 : zD prog_6_method_10_code 20 (.l2i) 1 21 := ⟨by decide +kernel, rfl⟩
theorem d_4_readSeed_21 : zD prog_6_method_10_code 21 (.putfield 144) 3 24 := ⟨by decide +kernel, rfl⟩
theorem d_4_readSeed_24 : zD prog_6_method_10_code 24 (.aload_n 0) 1 25 := ⟨by decide +kernel, rfl⟩
theorem d_4_readSeed_25 : zD prog_6_method_10_code 25 (.iconst 3) 1 26 := ⟨by decide +kernel, rfl⟩
theorem d_4_readSeed_26 : zD prog_6_method_10_code 26 (.invokevirtual 111) 3 29 := ⟨by decide +kernel, rfl⟩
theorem d_4_readSeed_29 : zD prog_6_method_10_code 29 (.ifCond .eq 16) 3 32 := ⟨by decide +kernel, rfl⟩
theorem d_4_readSeed_32 : zD prog_6_method_10_code 32 (.aload_n 0) 1 33 := ⟨by decide +kernel, rfl⟩
theorem d_4_readSeed_33 : zD prog_6_method_10_code 33 (.bipush 59) 2 35 := ⟨by decide +kernel, rfl⟩
theorem d_4_readSeed_35 : zD prog_6_method_10_code 35 (.invokevirtual 111) 3 38 := ⟨by decide +kernel, rfl⟩
theorem d_4_readSeed_38 : zD prog_6_method_10_code 38 (.ifCond .eq 7) 3 41 := ⟨by decide +kernel, rfl⟩
theorem d_4_readSeed_41 : zD prog_6_method_10_code 41 (.iconst 1) 1 42 := ⟨by decide +kernel, rfl⟩
theorem d_4_readSeed_42 : zD prog_6_method_10_code 42 (.goto 4) 3 45 := ⟨by decide +kernel, rfl⟩
theorem d_4_readSeed_45 : zD prog_6_method_10_code 45 (.iconst 0) 1 46 := ⟨by decide +kernel, rfl⟩
theorem d_4_readSeed_46 : zD prog_6_method_10_code 46 (.ireturn) 1 47 := ⟨by decide +kernel, rfl⟩
theorem d_4_readUnit_0 : zD prog_6_method_15_code 0 (.aload_n 0) 1 1 := ⟨by decide +kernel, rfl⟩
theorem d_4_readUnit_1 : zD prog_6_method_15_code 1 (.invokevirtual 61) 3 4 := ⟨by decide +kernel, rfl⟩
theorem d_4_readUnit_4 : zD prog_6_method_15_code 4 (.sipush 140) 3 7 := ⟨by decide +kernel, rfl⟩
theorem d_4_readUnit_7 : zD prog_6_method_15_code 7 (.isub) 1 8 := ⟨by decide +kernel, rfl⟩
theorem d_4_readUnit_8 : zD prog_6_method_15_code 8 (.istore_n 2) 1 9 := ⟨by decide +kernel, rfl⟩
theorem d_4_readUnit_9 : zD prog_6_method_15_code 9 (.aload_n 0) 1 10 := ⟨by decide +kernel, rfl⟩
theorem d_4_readUnit_10 : zD prog_6_method_15_code 10 (.invokevirtual 61) 3 13 := ⟨by decide +kernel, rfl⟩
theorem d_4_readUnit_13 : zD prog_6_method_15_code 13 (.bipush 40) 2 15 := ⟨by decide +kernel, rfl⟩
theorem d_4_readUnit_15 : zD prog_6_method_15_code 15 (.if_icmp .ne 49) 3 18 := ⟨by decide +kernel, rfl⟩
theorem d_4_readUnit_18 : zD prog_6_method_15_code 18 (.iload_n 1) 1 19 := ⟨by decide +kernel, rfl⟩
theorem d_4_readUnit_19 : zD prog_6_method_15_code 19 (.bipush 6) 2 21 := ⟨by decide +kernel, rfl⟩
theorem d_4_readUnit_21 : zD prog_6_method_15_code 21 (.if_icmp .lt 9) 3 24 := ⟨by decide +kernel, rfl⟩
theorem d_4_readUnit_24 : zD prog_6_method_15_code 24 (.aload_n 0) 1 25 := ⟨by decide +kernel, rfl⟩
theorem d_4_readUnit_25 : zD prog_6_method_15_code 25 (.iconst 2) 1 26 := ⟨by decide +kernel, rfl⟩
theorem d_4_readUnit_26 : zD prog_6_method_15_code 26 (.invokevirtual 95) 3 29 := ⟨by decide +kernel, rfl⟩
theorem d_4_readUnit_29 : zD prog_6_method_15_code 29 (.ireturn) 1 30 := ⟨by decide +kernel, rfl⟩
theorem d_4_readUnit_30 : zD prog_6_method_15_code 30 (.aload_n 0) 1 31 := ⟨by decide +kernel, rfl⟩
theorem d_4_readUnit_31 : zD prog_6_method_15_code 31 (.bipush 40) 2 33 := ⟨by decide +kernel, rfl⟩
theorem d_4_readUnit_33 : zD prog_6_method_15_code 33 (.invokevirtual 111) 3 36 := ⟨by decide +kernel, rfl⟩
theorem d_4_readUnit_36 : zD prog_6_method_15_code 36 (.ifCond .eq 26) 3 39 := ⟨by decide +kernel, rfl⟩
theorem d_4_readUnit_39 : zD prog_6_method_15_code 39 (.aload_n 0) 1 40 := ⟨by decide +kernel, rfl⟩
theorem d_4_readUnit_40 : zD prog_6_method_15_code 40 (.iload_n 1) 1 41 := ⟨by decide +kernel, rfl⟩
theorem d_4_readUnit_41 : zD prog_6_method_15_code 41 (.iconst 1) 1 42 := ⟨by decide +kernel, rfl⟩
theorem d_4_readUnit_42 : zD prog_6_method_15_code 42 (.iadd) 1 43 := ⟨by decide +kernel, rfl⟩
theorem d_4_readUnit_43 : zD prog_6_method_15_code 43 (.invokevirtual 154) 3 46 := ⟨by decide +kernel, rfl⟩
theorem d_4_readUnit_46 : zD prog_6_method_15_code 46 (.ifCond .eq 16) 3 49 := ⟨by decide +kernel, rfl⟩
theorem d_4_readUnit_49 : zD prog_6_method_15_code 49 (.aload_n 0) 1 50 := ⟨by decide +kernel, rfl⟩
theorem d_4_readUnit_50 : zD prog_6_method_15_code 50 (.bipush 41) 2 52 := ⟨by decide +kernel, rfl⟩
theorem d_4_readUnit_52 : zD prog_6_method_15_code 52 (.invokevirtual 111) 3 55 := ⟨by decide +kernel, rfl⟩
theorem d_4_readUnit_55 : zD prog_6_method_15_code 55 (.ifCond .eq 7) 3 58 := ⟨by decide +kernel, rfl⟩
theorem d_4_readUnit_58 : zD prog_6_method_15_code 58 (.iconst 1) 1 59 := ⟨by decide +kernel, rfl⟩
theorem d_4_readUnit_59 : zD prog_6_method_15_code 59 (.goto 4) 3 62 := ⟨by decide +kernel, rfl⟩
theorem d_4_readUnit_62 : zD prog_6_method_15_code 62 (.iconst 0) 1 63 := ⟨by decide +kernel, rfl⟩
theorem d_4_readUnit_63 : zD prog_6_method_15_code 63 (.ireturn) 1 64 := ⟨by decide +kernel, rfl⟩
theorem d_4_readUnit_64 : zD prog_6_method_15_code 64 (.iload_n 2) 1 65 := ⟨by decide +kernel, rfl⟩
theorem d_4_readUnit_65 : zD prog_6_method_15_code 65 (.ifCond .lt 28) 3 68 := ⟨by decide +kernel, rfl⟩
theorem d_4_readUnit_68 : zD prog_6_method_15_code 68 (.iload_n 2) 1 69 := ⟨by decide +kernel, rfl⟩
theorem d_4_readUnit_69 : zD prog_6_method_15_code 69 (.bipush 9) 2 71 := ⟨by decide +kernel, rfl⟩
theorem d_4_readUnit_71 : zD prog_6_method_15_code 71 (.if_icmp .ge 22) 3 74 := ⟨by decide +kernel, rfl⟩
theorem d_4_readUnit_74 : zD prog_6_method_15_code 74 (.aload_n 0) 1 75 := ⟨by decide +kernel, rfl⟩
theorem d_4_readUnit_75 : zD prog_6_method_15_code 75 (.getfield 28) 3 78 := ⟨by decide +kernel, rfl⟩
theorem d_4_readUnit_78 : zD prog_6_method_15_code 78 (.iconst (-1)) 1 79 := ⟨by decide +kernel, rfl⟩
theorem d_4_readUnit_79 : zD prog_6_method_15_code 79 (.iload_n 2) 1 80 := ⟨by decide +kernel, rfl⟩
theorem d_4_readUnit_80 : zD prog_6_method_15_code 80 (.isub) 1 81 := ⟨by decide +kernel, rfl⟩
theorem d_4_readUnit_81 : zD prog_6_method_15_code 81 (.invokevirtual 157) 3 84 := ⟨by decide +kernel, rfl⟩
theorem d_4_readUnit_84 : zD prog_6_method_15_code 84 (.aload_n 0) 1 85 := ⟨by decide +kernel, rfl⟩
theorem d_4_readUnit_85 : zD prog_6_method_15_code 85 (.aload_n 0) 1 86 := ⟨by decide +kernel, rfl⟩
theorem d_4_readUnit_86 : zD prog_6_method_15_code 86 (.invokevirtual 61) 3 89 := ⟨by decide +kernel, rfl⟩
theorem d_4_readUnit_89 : zD prog_6_method_15_code 89 (.invokevirtual 111) 3 92 := ⟨by decide +kernel, rfl⟩
theorem d_4_readUnit_92 : zD prog_6_method_15_code 92 (.ireturn) 1 93 := ⟨by decide +kernel, rfl⟩
theorem d_4_readUnit_93 : zD prog_6_method_15_code 93 (.aload_n 0) 1 94 := ⟨by decide +kernel, rfl⟩
theorem d_4_readUnit_94 : zD prog_6_method_15_code 94 (.getfield 28) 3 97 := ⟨by decide +kernel, rfl⟩
theorem d_4_readUnit_97 : zD prog_6_method_15_code 97 (.aload_n 0) 1 98 := ⟨by decide +kernel, rfl⟩
theorem d_4_readUnit_98 : zD prog_6_method_15_code 98 (.invokevirtual 117) 3 101 := ⟨by decide +kernel, rfl⟩
theorem d_4_readUnit_101 : zD prog_6_method_15_code 101 (.l2i) 1 102 := ⟨by decide +kernel, rfl⟩
theorem d_4_readUnit_102 : zD prog_6_method_15_code 102 (.invokevirtual 157) 3 105 := ⟨by decide +kernel, rfl⟩
theorem d_4_readUnit_105 : zD prog_6_method_15_code 105 (.aload_n 0) 1 106 := ⟨by decide +kernel, rfl⟩
theorem d_4_readUnit_106 : zD prog_6_method_15_code 106 (.iconst 3) 1 107 := ⟨by decide +kernel, rfl⟩
theorem d_4_readUnit_107 : zD prog_6_method_15_code 107 (.invokevirtual 111) 3 110 := ⟨by decide +kernel, rfl⟩
theorem d_4_readUnit_110 : zD prog_6_method_15_code 110 (.ireturn) 1 111 := ⟨by decide +kernel, rfl⟩
theorem d_4_readProduct_0 : zD prog_6_method_14_code 0 (.aload_n 0) 1 1 := ⟨by decide +kernel, rfl⟩
theorem d_4_readProduct_1 : zD prog_6_method_14_code 1 (.iload_n 1) 1 2 := ⟨by decide +kernel, rfl⟩
theorem d_4_readProduct_2 : zD prog_6_method_14_code 2 (.invokevirtual 166) 3 5 := ⟨by decide +kernel, rfl⟩
theorem d_4_readProduct_5 : zD prog_6_method_14_code 5 (.ifCond .ne 5) 3 8 := ⟨by decide +kernel, rfl⟩
theorem d_4_readProduct_8 : zD prog_6_method_14_code 8 (.iconst 0) 1 9 := ⟨by decide +kernel, rfl⟩
theorem d_4_readProduct_9 : zD prog_6_method_14_code 9 (.ireturn) 1 10 := ⟨by decide +kernel, rfl⟩
theorem d_4_readProduct_10 : zD prog_6_method_14_code 10 (.iconst 0) 1 11 := ⟨by decide +kernel, rfl⟩
theorem d_4_readProduct_11 : zD prog_6_method_14_code 11 (.istore_n 2) 1 12 := ⟨by decide +kernel, rfl⟩
theorem d_4_readProduct_12 : zD prog_6_method_14_code 12 (.iload_n 2) 1 13 := ⟨by decide +kernel, rfl⟩
theorem d_4_readProduct_13 : zD prog_6_method_14_code 13 (.sipush 400) 3 16 := ⟨by decide +kernel, rfl⟩
theorem d_4_readProduct_16 : zD prog_6_method_14_code 16 (.if_icmp .ge 73) 3 19 := ⟨by decide +kernel, rfl⟩
theorem d_4_readProduct_19 : zD prog_6_method_14_code 19 (.aload_n 0) 1 20 := ⟨by decide +kernel, rfl⟩
theorem d_4_readProduct_20 : zD prog_6_method_14_code 20 (.invokevirtual 61) 3 23 := ⟨by decide +kernel, rfl⟩
theorem d_4_readProduct_23 : zD prog_6_method_14_code 23 (.bipush 42) 2 25 := ⟨by decide +kernel, rfl⟩
theorem d_4_readProduct_25 : zD prog_6_method_14_code 25 (.if_icmp .eq 12) 3 28 := ⟨by decide +kernel, rfl⟩
theorem d_4_readProduct_28 : zD prog_6_method_14_code 28 (.aload_n 0) 1 29 := ⟨by decide +kernel, rfl⟩
theorem d_4_readProduct_29 : zD prog_6_method_14_code 29 (.invokevirtual 61) 3 32 := ⟨by decide +kernel, rfl⟩
theorem d_4_readProduct_32 : zD prog_6_method_14_code 32 (.bipush 47) 2 34 := ⟨by decide +kernel, rfl⟩
theorem d_4_readProduct_34 : zD prog_6_method_14_code 34 (.if_icmp .ne 55) 3 37 := ⟨by decide +kernel, rfl⟩
theorem d_4_readProduct_37 : zD prog_6_method_14_code 37 (.aload_n 0) 1 38 := ⟨by decide +kernel, rfl⟩
theorem d_4_readProduct_38 : zD prog_6_method_14_code 38 (.invokevirtual 61) 3 41 := ⟨by decide +kernel, rfl⟩
theorem d_4_readProduct_41 : zD prog_6_method_14_code 41 (.bipush 42) 2 43 := ⟨by decide +kernel, rfl⟩
theorem d_4_readProduct_43 : zD prog_6_method_14_code 43 (.if_icmp .ne 8) 3 46 := ⟨by decide +kernel, rfl⟩
theorem d_4_readProduct_46 : zD prog_6_method_14_code 46 (.bipush (-13)) 2 48 := ⟨by decide +kernel, rfl⟩
theorem d_4_readProduct_48 : zD prog_6_method_14_code 48 (.goto 5) 3 51 := ⟨by decide +kernel, rfl⟩
theorem d_4_readProduct_51 : zD prog_6_method_14_code 51 (.bipush (-14)) 2 53 := ⟨by decide +kernel, rfl⟩
theorem d_4_readProduct_53 : zD prog_6_method_14_code 53 (.istore_n 3) 1 54 := ⟨by decide +kernel, rfl⟩
theorem d_4_readProduct_54 : zD prog_6_method_14_code 54 (.aload_n 0) 1 55 := ⟨by decide +kernel, rfl⟩
theorem d_4_readProduct_55 : zD prog_6_method_14_code 55 (.aload_n 0) 1 56 := ⟨by decide +kernel, rfl⟩
theorem d_4_readProduct_56 : zD prog_6_method_14_code 56 (.invokevirtual 61) 3 59 := ⟨by decide +kernel, rfl⟩
theorem d_4_readProduct_59 : zD prog_6_method_14_code 59 (.invokevirtual 111) 3 62 := ⟨by decide +kernel, rfl⟩
theorem d_4_readProduct_62 : zD prog_6_method_14_code 62 (.ifCond .eq 11) 3 65 := ⟨by decide +kernel, rfl⟩
theorem d_4_readProduct_65 : zD prog_6_method_14_code 65 (.aload_n 0) 1 66 := ⟨by decide +kernel, rfl⟩
theorem d_4_readProduct_66 : zD prog_6_method_14_code 66 (.iload_n 1) 1 67 := ⟨by decide +kernel, rfl⟩
theorem d_4_readProduct_67 : zD prog_6_method_14_code 67 (.invokevirtual 166) 3 70 := ⟨by decide +kernel, rfl⟩
theorem d_4_readProduct_70 : zD prog_6_method_14_code 70 (.ifCond .ne 5) 3 73 := ⟨by decide +kernel, rfl⟩
theorem d_4_readProduct_73 : zD prog_6_method_14_code 73 (.iconst 0) 1 74 := ⟨by decide +kernel, rfl⟩
theorem d_4_readProduct_74 : zD prog_6_method_14_code 74 (.ireturn) 1 75 := ⟨by decide +kernel, rfl⟩
theorem d_4_readProduct_75 : zD prog_6_method_14_code 75 (.aload_n 0) 1 76 := ⟨by decide +kernel, rfl⟩
theorem d_4_readProduct_76 : zD prog_6_method_14_code 76 (.getfield 28) 3 79 := ⟨by decide +kernel, rfl⟩
theorem d_4_readProduct_79 : zD prog_6_method_14_code 79 (.iload_n 3) 1 80 := ⟨by decide +kernel, rfl⟩
theorem d_4_readProduct_80 : zD prog_6_method_14_code 80 (.invokevirtual 157) 3 83 := ⟨by decide +kernel, rfl⟩
theorem d_4_readProduct_83 : zD prog_6_method_14_code 83 (.iinc 2 1) 3 86 := ⟨by decide +kernel, rfl⟩
theorem d_4_readProduct_86 : zD prog_6_method_14_code 86 (.goto (-74)) 3 89 := ⟨by decide +kernel, rfl⟩
theorem d_4_readProduct_89 : zD prog_6_method_14_code 89 (.iconst 1) 1 90 := ⟨by decide +kernel, rfl⟩
theorem d_4_readProduct_90 : zD prog_6_method_14_code 90 (.ireturn) 1 91 := ⟨by decide +kernel, rfl⟩
theorem d_4_readSum_0 : zD prog_6_method_13_code 0 (.aload_n 0) 1 1 := ⟨by decide +kernel, rfl⟩
theorem d_4_readSum_1 : zD prog_6_method_13_code 1 (.iload_n 1) 1 2 := ⟨by decide +kernel, rfl⟩
theorem d_4_readSum_2 : zD prog_6_method_13_code 2 (.invokevirtual 163) 3 5 := ⟨by decide +kernel, rfl⟩
theorem d_4_readSum_5 : zD prog_6_method_13_code 5 (.ifCond .ne 5) 3 8 := ⟨by decide +kernel, rfl⟩
theorem d_4_readSum_8 : zD prog_6_method_13_code 8 (.iconst 0) 1 9 := ⟨by decide +kernel, rfl⟩
theorem d_4_readSum_9 : zD prog_6_method_13_code 9 (.ireturn) 1 10 := ⟨by decide +kernel, rfl⟩
theorem d_4_readSum_10 : zD prog_6_method_13_code 10 (.iconst 0) 1 11 := ⟨by decide +kernel, rfl⟩
theorem d_4_readSum_11 : zD prog_6_method_13_code 11 (.istore_n 2) 1 12 := ⟨by decide +kernel, rfl⟩
theorem d_4_readSum_12 : zD prog_6_method_13_code 12 (.iload_n 2) 1 13 := ⟨by decide +kernel, rfl⟩
theorem d_4_readSum_13 : zD prog_6_method_13_code 13 (.sipush 400) 3 16 := ⟨by decide +kernel, rfl⟩
theorem d_4_readSum_16 : zD prog_6_method_13_code 16 (.if_icmp .ge 73) 3 19 := ⟨by decide +kernel, rfl⟩
theorem d_4_readSum_19 : zD prog_6_method_13_code 19 (.aload_n 0) 1 20 := ⟨by decide +kernel, rfl⟩
theorem d_4_readSum_20 : zD prog_6_method_13_code 20 (.invokevirtual 61) 3 23 := ⟨by decide +kernel, rfl⟩
theorem d_4_readSum_23 : zD prog_6_method_13_code 23 (.bipush 43) 2 25 := ⟨by decide +kernel, rfl⟩
theorem d_4_readSum_25 : zD prog_6_method_13_code 25 (.if_icmp .eq 12) 3 28 := ⟨by decide +kernel, rfl⟩
theorem d_4_readSum_28 : zD prog_6_method_13_code 28 (.aload_n 0) 1 29 := ⟨by decide +kernel, rfl⟩
theorem d_4_readSum_29 : zD prog_6_method_13_code 29 (.invokevirtual 61) 3 32 := ⟨by decide +kernel, rfl⟩
theorem d_4_readSum_32 : zD prog_6_method_13_code 32 (.bipush 45) 2 34 := ⟨by decide +kernel, rfl⟩
theorem d_4_readSum_34 : zD prog_6_method_13_code 34 (.if_icmp .ne 55) 3 37 := ⟨by decide +kernel, rfl⟩
theorem d_4_readSum_37 : zD prog_6_method_13_code 37 (.aload_n 0) 1 38 := ⟨by decide +kernel, rfl⟩
theorem d_4_readSum_38 : zD prog_6_method_13_code 38 (.invokevirtual 61) 3 41 := ⟨by decide +kernel, rfl⟩
theorem d_4_readSum_41 : zD prog_6_method_13_code 41 (.bipush 43) 2 43 := ⟨by decide +kernel, rfl⟩
theorem d_4_readSum_43 : zD prog_6_method_13_code 43 (.if_icmp .ne 8) 3 46 := ⟨by decide +kernel, rfl⟩
theorem d_4_readSum_46 : zD prog_6_method_13_code 46 (.bipush (-11)) 2 48 := ⟨by decide +kernel, rfl⟩
theorem d_4_readSum_48 : zD prog_6_method_13_code 48 (.goto 5) 3 51 := ⟨by decide +kernel, rfl⟩
theorem d_4_readSum_51 : zD prog_6_method_13_code 51 (.bipush (-12)) 2 53 := ⟨by decide +kernel, rfl⟩
theorem d_4_readSum_53 : zD prog_6_method_13_code 53 (.istore_n 3) 1 54 := ⟨by decide +kernel, rfl⟩
theorem d_4_readSum_54 : zD prog_6_method_13_code 54 (.aload_n 0) 1 55 := ⟨by decide +kernel, rfl⟩
theorem d_4_readSum_55 : zD prog_6_method_13_code 55 (.aload_n 0) 1 56 := ⟨by decide +kernel, rfl⟩
theorem d_4_readSum_56 : zD prog_6_method_13_code 56 (.invokevirtual 61) 3 59 := ⟨by decide +kernel, rfl⟩
theorem d_4_readSum_59 : zD prog_6_method_13_code 59 (.invokevirtual 111) 3 62 := ⟨by decide +kernel, rfl⟩
theorem d_4_readSum_62 : zD prog_6_method_13_code 62 (.ifCond .eq 11) 3 65 := ⟨by decide +kernel, rfl⟩
theorem d_4_readSum_65 : zD prog_6_method_13_code 65 (.aload_n 0) 1 66 := ⟨by decide +kernel, rfl⟩
theorem d_4_readSum_66 : zD prog_6_method_13_code 66 (.iload_n 1) 1 67 := ⟨by decide +kernel, rfl⟩
theorem d_4_readSum_67 : zD prog_6_method_13_code 67 (.invokevirtual 163) 3 70 := ⟨by decide +kernel, rfl⟩
theorem d_4_readSum_70 : zD prog_6_method_13_code 70 (.ifCond .ne 5) 3 73 := ⟨by decide +kernel, rfl⟩
theorem d_4_readSum_73 : zD prog_6_method_13_code 73 (.iconst 0) 1 74 := ⟨by decide +kernel, rfl⟩
theorem d_4_readSum_74 : zD prog_6_method_13_code 74 (.ireturn) 1 75 := ⟨by decide +kernel, rfl⟩
theorem d_4_readSum_75 : zD prog_6_method_13_code 75 (.aload_n 0) 1 76 := ⟨by decide +kernel, rfl⟩
theorem d_4_readSum_76 : zD prog_6_method_13_code 76 (.getfield 28) 3 79 := ⟨by decide +kernel, rfl⟩
theorem d_4_readSum_79 : zD prog_6_method_13_code 79 (.iload_n 3) 1 80 := ⟨by decide +kernel, rfl⟩
theorem d_4_readSum_80 : zD prog_6_method_13_code 80 (.invokevirtual 157) 3 83 := ⟨by decide +kernel, rfl⟩
theorem d_4_readSum_83 : zD prog_6_method_13_code 83 (.iinc 2 1) 3 86 := ⟨by decide +kernel, rfl⟩
theorem d_4_readSum_86 : zD prog_6_method_13_code 86 (.goto (-74)) 3 89 := ⟨by decide +kernel, rfl⟩
theorem d_4_readSum_89 : zD prog_6_method_13_code 89 (.iconst 1) 1 90 := ⟨by decide +kernel, rfl⟩
theorem d_4_readSum_90 : zD prog_6_method_13_code 90 (.ireturn) 1 91 := ⟨by decide +kernel, rfl⟩
theorem d_6_jumpHere_0 : zD prog_8_method_4_code 0 (.iload_n 1) 1 1 := ⟨by decide +kernel, rfl⟩
theorem d_6_jumpHere_1 : zD prog_8_method_4_code 1 (.ifCond .lt 24) 3 4 := ⟨by decide +kernel, rfl⟩
theorem d_6_jumpHere_4 : zD prog_8_method_4_code 4 (.iload_n 1) 1 5 := ⟨by decide +kernel, rfl⟩
theorem d_6_jumpHere_5 : zD prog_8_method_4_code 5 (.aload_n 0) 1 6 := ⟨by decide +kernel, rfl⟩
theorem d_6_jumpHere_6 : zD prog_8_method_4_code 6 (.getfield 40) 3 9 := ⟨by decide +kernel, rfl⟩
theorem d_6_jumpHere_9 : zD prog_8_method_4_code 9 (.if_icmp .ge 16) 3 12 := ⟨by decide +kernel, rfl⟩
theorem d_6_jumpHere_12 : zD prog_8_method_4_code 12 (.aload_n 0) 1 13 := ⟨by decide +kernel, rfl⟩
theorem d_6_jumpHere_13 : zD prog_8_method_4_code 13 (.getfield 34) 3 16 := ⟨by decide +kernel, rfl⟩
theorem d_6_jumpHere_16 : zD prog_8_method_4_code 16 (.iload_n 1) 1 17 := ⟨by decide +kernel, rfl⟩
theorem d_6_jumpHere_17 : zD prog_8_method_4_code 17 (.bipush (-100)) 2 19 := ⟨by decide +kernel, rfl⟩
theorem d_6_jumpHere_19 : zD prog_8_method_4_code 19 (.aload_n 0) 1 20 := ⟨by decide +kernel, rfl⟩
theorem d_6_jumpHere_20 : zD prog_8_method_4_code 20 (.getfield 40) 3 23 := ⟨by decide +kernel, rfl⟩
theorem d_6_jumpHere_23 : zD prog_8_method_4_code 23 (.isub) 1 24 := ⟨by decide +kernel, rfl⟩
theorem d_6_jumpHere_24 : zD prog_8_method_4_code 24 (.iastore) 1 25 := ⟨by decide +kernel, rfl⟩
theorem d_6_jumpHere_25 : zD prog_8_method_4_code 25 (.return_) 1 26 := ⟨by decide +kernel, rfl⟩
theorem d_4_readIf_0 : zD prog_6_method_12_code 0 (.aload_n 0) 1 1 := ⟨by decide +kernel, rfl⟩
theorem d_4_readIf_1 : zD prog_6_method_12_code 1 (.sipush 137) 3 4 := ⟨by decide +kernel, rfl⟩
theorem d_4_readIf_4 : zD prog_6_method_12_code 4 (.invokevirtual 111) 3 7 := ⟨by decide +kernel, rfl⟩
theorem d_4_readIf_7 : zD prog_6_method_12_code 7 (.ifCond .eq 38) 3 10 := ⟨by decide +kernel, rfl⟩
theorem d_4_readIf_10 : zD prog_6_method_12_code 10 (.aload_n 0) 1 11 := ⟨by decide +kernel, rfl⟩
theorem d_4_readIf_11 : zD prog_6_method_12_code 11 (.iconst 0) 1 12 := ⟨by decide +kernel, rfl⟩
theorem d_4_readIf_12 : zD prog_6_method_12_code 12 (.invokevirtual 154) 3 15 := ⟨by decide +kernel, rfl⟩
theorem d_4_readIf_15 : zD prog_6_method_12_code 15 (.ifCond .eq 30) 3 18 := ⟨by decide +kernel, rfl⟩
theorem d_4_readIf_18 : zD prog_6_method_12_code 18 (.aload_n 0) 1 19 := ⟨by decide +kernel, rfl⟩
theorem d_4_readIf_19 : zD prog_6_method_12_code 19 (.bipush 60) 2 21 := ⟨by decide +kernel, rfl⟩
theorem d_4_readIf_21 : zD prog_6_method_12_code 21 (.invokevirtual 111) 3 24 := ⟨by decide +kernel, rfl⟩
theorem d_4_readIf_24 : zD prog_6_method_12_code 24 (.ifCond .eq 21) 3 27 := ⟨by decide +kernel, rfl⟩
theorem d_4_readIf_27 : zD prog_6_method_12_code 27 (.aload_n 0) 1 28 := ⟨by decide +kernel, rfl⟩
theorem d_4_readIf_28 : zD prog_6_method_12_code 28 (.iconst 0) 1 29 := ⟨by decide +kernel, rfl⟩
theorem d_4_readIf_29 : zD prog_6_method_12_code 29 (.invokevirtual 154) 3 32 := ⟨by decide +kernel, rfl⟩
theorem d_4_readIf_32 : zD prog_6_method_12_code 32 (.ifCond .eq 13) 3 35 := ⟨by decide +kernel, rfl⟩
theorem d_4_readIf_35 : zD prog_6_method_12_code 35 (.aload_n 0) 1 36 := ⟨by decide +kernel, rfl⟩
theorem d_4_readIf_36 : zD prog_6_method_12_code 36 (.sipush 138) 3 39 := ⟨by decide +kernel, rfl⟩
theorem d_4_readIf_39 : zD prog_6_method_12_code 39 (.invokevirtual 111) 3 42 := ⟨by decide +kernel, rfl⟩
theorem d_4_readIf_42 : zD prog_6_method_12_code 42 (.ifCond .ne 5) 3 45 := ⟨by decide +kernel, rfl⟩
theorem d_4_readIf_45 : zD prog_6_method_12_code 45 (.iconst 0) 1 46 := ⟨by decide +kernel, rfl⟩
theorem d_4_readIf_46 : zD prog_6_method_12_code 46 (.ireturn) 1 47 := ⟨by decide +kernel, rfl⟩
theorem d_4_readIf_47 : zD prog_6_method_12_code 47 (.aload_n 0) 1 48 := ⟨by decide +kernel, rfl⟩
theorem d_4_readIf_48 : zD prog_6_method_12_code 48 (.getfield 28) 3 51 := ⟨by decide +kernel, rfl⟩
theorem d_4_readIf_51 : zD prog_6_method_12_code 51 (.getfield 148) 3 54 := ⟨by decide +kernel, rfl⟩
theorem d_4_readIf_54 : zD prog_6_method_12_code 54 (.istore_n 1) 1 55 := ⟨by decide +kernel, rfl⟩
theorem d_4_readIf_55 : zD prog_6_method_12_code 55 (.aload_n 0) 1 56 := ⟨by decide +kernel, rfl⟩
theorem d_4_readIf_56 : zD prog_6_method_12_code 56 (.getfield 28) 3 59 := ⟨by decide +kernel, rfl⟩
theorem d_4_readIf_59 : zD prog_6_method_12_code 59 (.bipush (-100)) 2 61 := ⟨by decide +kernel, rfl⟩
theorem d_4_readIf_61 : zD prog_6_method_12_code 61 (.invokevirtual 157) 3 64 := ⟨by decide +kernel, rfl⟩
theorem d_4_readIf_64 : zD prog_6_method_12_code 64 (.aload_n 0) 1 65 := ⟨by decide +kernel, rfl⟩
theorem d_4_readIf_65 : zD prog_6_method_12_code 65 (.iconst 0) 1 66 := ⟨by decide +kernel, rfl⟩
theorem d_4_readIf_66 : zD prog_6_method_12_code 66 (.invokevirtual 154) 3 69 := ⟨by decide +kernel, rfl⟩
theorem d_4_readIf_69 : zD prog_6_method_12_code 69 (.ifCond .eq 13) 3 72 := ⟨by decide +kernel, rfl⟩
theorem d_4_readIf_72 : zD prog_6_method_12_code 72 (.aload_n 0) 1 73 := ⟨by decide +kernel, rfl⟩
theorem d_4_readIf_73 : zD prog_6_method_12_code 73 (.sipush 139) 3 76 := ⟨by decide +kernel, rfl⟩
theorem d_4_readIf_76 : zD prog_6_method_12_code 76 (.invokevirtual 111) 3 79 := ⟨by decide +kernel, rfl⟩
theorem d_4_readIf_79 : zD prog_6_method_12_code 79 (.ifCond .ne 5) 3 82 := ⟨by decide +kernel, rfl⟩
theorem d_4_readIf_82 : zD prog_6_method_12_code 82 (.iconst 0) 1 83 := ⟨by decide +kernel, rfl⟩
theorem d_4_readIf_83 : zD prog_6_method_12_code 83 (.ireturn) 1 84 := ⟨by decide +kernel, rfl⟩
theorem d_4_readIf_84 : zD prog_6_method_12_code 84 (.aload_n 0) 1 85 := ⟨by decide +kernel, rfl⟩
theorem d_4_readIf_85 : zD prog_6_method_12_code 85 (.getfield 28) 3 88 := ⟨by decide +kernel, rfl⟩
theorem d_4_readIf_88 : zD prog_6_method_12_code 88 (.bipush (-15)) 2 90 := ⟨by decide +kernel, rfl⟩
theorem d_4_readIf_90 : zD prog_6_method_12_code 90 (.invokevirtual 157) 3 93 := ⟨by decide +kernel, rfl⟩
theorem d_4_readIf_93 : zD prog_6_method_12_code 93 (.aload_n 0) 1 94 := ⟨by decide +kernel, rfl⟩
theorem d_4_readIf_94 : zD prog_6_method_12_code 94 (.getfield 28) 3 97 := ⟨by decide +kernel, rfl⟩
theorem d_4_readIf_97 : zD prog_6_method_12_code 97 (.iload_n 1) 1 98 := ⟨by decide +kernel, rfl⟩
theorem d_4_readIf_98 : zD prog_6_method_12_code 98 (.invokevirtual 160) 3 101 := ⟨by decide +kernel, rfl⟩
theorem d_4_readIf_101 : zD prog_6_method_12_code 101 (.iconst 1) 1 102 := ⟨by decide +kernel, rfl⟩
theorem d_4_readIf_102 : zD prog_6_method_12_code 102 (.ireturn) 1 103 := ⟨by decide +kernel, rfl⟩
theorem d_4_readLaw_0 : zD prog_6_method_11_code 0 (.iload_n 1) 1 1 := ⟨by decide +kernel, rfl⟩
theorem d_4_readLaw_1 : zD prog_6_method_11_code 1 (.ifCond .lt 8) 3 4 := ⟨by decide +kernel, rfl⟩
theorem d_4_readLaw_4 : zD prog_6_method_11_code 4 (.iload_n 1) 1 5 := ⟨by decide +kernel, rfl⟩
theorem d_4_readLaw_5 : zD prog_6_method_11_code 5 (.iconst 4) 1 6 := ⟨by decide +kernel, rfl⟩
theorem d_4_readLaw_6 : zD prog_6_method_11_code 6 (.if_icmp .lt 9) 3 9 := ⟨by decide +kernel, rfl⟩
theorem d_4_readLaw_9 : zD prog_6_method_11_code 9 (.aload_n 0) 1 10 := ⟨by decide +kernel, rfl⟩
theorem d_4_readLaw_10 : zD prog_6_method_11_code 10 (.iconst 1) 1 11 := ⟨by decide +kernel, rfl⟩
theorem d_4_readLaw_11 : zD prog_6_method_11_code 11 (.invokevirtual 95) 3 14 := ⟨by decide +kernel, rfl⟩
theorem d_4_readLaw_14 : zD prog_6_method_11_code 14 (.ireturn) 1 15 := ⟨by decide +kernel, rfl⟩
theorem d_4_readLaw_15 : zD prog_6_method_11_code 15 (.aload_n 0) 1 16 := ⟨by decide +kernel, rfl⟩
theorem d_4_readLaw_16 : zD prog_6_method_11_code 16 (.getfield 28) 3 19 := ⟨by decide +kernel, rfl⟩
theorem d_4_readLaw_19 : zD prog_6_method_11_code 19 (.getfield 147) 3 22 := ⟨by decide +kernel, rfl⟩
theorem d_4_readLaw_22 : zD prog_6_method_11_code 22 (.iload_n 1) 1 23 := ⟨by decide +kernel, rfl⟩
theorem d_4_readLaw_23 : zD prog_6_method_11_code 23 (.aload_n 0) 1 24 := ⟨by decide +kernel, rfl⟩
theorem d_4_readLaw_24 : zD prog_6_method_11_code 24 (.getfield 28) 3 27 := ⟨by decide +kernel, rfl⟩
theorem d_4_readLaw_27 : zD prog_6_method_11_code 27 (.getfield 148) 3 30 := ⟨by decide +kernel, rfl⟩
theorem d_4_readLaw_30 : zD prog_6_method_11_code 30 (.iastore) 1 31 := ⟨by decide +kernel, rfl⟩
theorem d_4_readLaw_31 : zD prog_6_method_11_code 31 (.aload_n 0) 1 32 := ⟨by decide +kernel, rfl⟩
theorem d_4_readLaw_32 : zD prog_6_method_11_code 32 (.sipush 132) 3 35 := ⟨by decide +kernel, rfl⟩
theorem d_4_readLaw_35 : zD prog_6_method_11_code 35 (.iload_n 1) 1 36 := ⟨by decide +kernel, rfl⟩
theorem d_4_readLaw_36 : zD prog_6_method_11_code 36 (.iadd) 1 37 := ⟨by decide +kernel, rfl⟩
theorem d_4_readLaw_37 : zD prog_6_method_11_code 37 (.invokevirtual 111) 3 40 := ⟨by decide +kernel, rfl⟩
theorem d_4_readLaw_40 : zD prog_6_method_11_code 40 (.ifCond .eq 12) 3 43 := ⟨by decide +kernel, rfl⟩
theorem d_4_readLaw_43 : zD prog_6_method_11_code 43 (.aload_n 0) 1 44 := ⟨by decide +kernel, rfl⟩
theorem d_4_readLaw_44 : zD prog_6_method_11_code 44 (.bipush 61) 2 46 := ⟨by decide +kernel, rfl⟩
theorem d_4_readLaw_46 : zD prog_6_method_11_code 46 (.invokevirtual 111) 3 49 := ⟨by decide +kernel, rfl⟩
theorem d_4_readLaw_49 : zD prog_6_method_11_code 49 (.ifCond .ne 5) 3 52 := ⟨by decide +kernel, rfl⟩
theorem d_4_readLaw_52 : zD prog_6_method_11_code 52 (.iconst 0) 1 53 := ⟨by decide +kernel, rfl⟩
theorem d_4_readLaw_53 : zD prog_6_method_11_code 53 (.ireturn) 1 54 := ⟨by decide +kernel, rfl⟩
theorem d_4_readLaw_54 : zD prog_6_method_11_code 54 (.iconst 0) 1 55 := ⟨by decide +kernel, rfl⟩
theorem d_4_readLaw_55 : zD prog_6_method_11_code 55 (.istore_n 2) 1 56 := ⟨by decide +kernel, rfl⟩
theorem d_4_readLaw_56 : zD prog_6_method_11_code 56 (.iload_n 2) 1 57 := ⟨by decide +kernel, rfl⟩
theorem d_4_readLaw_57 : zD prog_6_method_11_code 57 (.iconst 4) 1 58 := ⟨by decide +kernel, rfl⟩
theorem d_4_readLaw_58 : zD prog_6_method_11_code 58 (.if_icmp .ge 28) 3 61 := ⟨by decide +kernel, rfl⟩
theorem d_4_readLaw_61 : zD prog_6_method_11_code 61 (.aload_n 0) 1 62 := ⟨by decide +kernel, rfl⟩
theorem d_4_readLaw_62 : zD prog_6_method_11_code 62 (.invokevirtual 61) 3 65 := ⟨by decide +kernel, rfl⟩
theorem d_4_readLaw_65 : zD prog_6_method_11_code 65 (.sipush 137) 3 68 := ⟨by decide +kernel, rfl⟩
theorem d_4_readLaw_68 : zD prog_6_method_11_code 68 (.if_icmp .ne 18) 3 71 := ⟨by decide +kernel, rfl⟩
theorem d_4_readLaw_71 : zD prog_6_method_11_code 71 (.aload_n 0) 1 72 := ⟨by decide +kernel, rfl⟩
theorem d_4_readLaw_72 : zD prog_6_method_11_code 72 (.invokevirtual 151) 3 75 := ⟨by decide +kernel, rfl⟩
theorem d_4_readLaw_75 : zD prog_6_method_11_code 75 (.ifCond .ne 5) 3 78 := ⟨by decide +kernel, rfl⟩
theorem d_4_readLaw_78 : zD prog_6_method_11_code 78 (.iconst 0) 1 79 := ⟨by decide +kernel, rfl⟩
theorem d_4_readLaw_79 : zD prog_6_method_11_code 79 (.ireturn) 1 80 := ⟨by decide +kernel, rfl⟩
theorem d_4_readLaw_80 : zD prog_6_method_11_code 80 (.iinc 2 1) 3 83 := ⟨by decide +kernel, rfl⟩
theorem d_4_readLaw_83 : zD prog_6_method_11_code 83 (.goto (-27)) 3 86 := ⟨by decide +kernel, rfl⟩
theorem d_4_readLaw_86 : zD prog_6_method_11_code 86 (.aload_n 0) 1 87 := ⟨by decide +kernel, rfl⟩
theorem d_4_readLaw_87 : zD prog_6_method_11_code 87 (.invokevirtual 61) 3 90 := ⟨by decide +kernel, rfl⟩
theorem d_4_readLaw_90 : zD prog_6_method_11_code 90 (.sipush 137) 3 93 := ⟨by decide +kernel, rfl⟩
theorem d_4_readLaw_93 : zD prog_6_method_11_code 93 (.if_icmp .ne 9) 3 96 := ⟨by decide +kernel, rfl⟩
theorem d_4_readLaw_96 : zD prog_6_method_11_code 96 (.aload_n 0) 1 97 := ⟨by decide +kernel, rfl⟩
theorem d_4_readLaw_97 : zD prog_6_method_11_code 97 (.iconst 2) 1 98 := ⟨by decide +kernel, rfl⟩
theorem d_4_readLaw_98 : zD prog_6_method_11_code 98 (.invokevirtual 95) 3 101 := ⟨by decide +kernel, rfl⟩
theorem d_4_readLaw_101 : zD prog_6_method_11_code 101 (.ireturn) 1 102 := ⟨by decide +kernel, rfl⟩
theorem d_4_readLaw_102 : zD prog_6_method_11_code 102 (.aload_n 0) 1 103 := ⟨by decide +kernel, rfl⟩
theorem d_4_readLaw_103 : zD prog_6_method_11_code 103 (.iconst 0) 1 104 := ⟨by decide +kernel, rfl⟩
theorem d_4_readLaw_104 : zD prog_6_method_11_code 104 (.invokevirtual 154) 3 107 := ⟨by decide +kernel, rfl⟩
theorem d_4_readLaw_107 : zD prog_6_method_11_code 107 (.ifCond .ne 5) 3 110 := ⟨by decide +kernel, rfl⟩
theorem d_4_readLaw_110 : zD prog_6_method_11_code 110 (.iconst 0) 1 111 := ⟨by decide +kernel, rfl⟩
theorem d_4_readLaw_111 : zD prog_6_method_11_code 111 (.ireturn) 1 112 := ⟨by decide +kernel, rfl⟩
theorem d_4_readLaw_112 : zD prog_6_method_11_code 112 (.aload_n 0) 1 113 := ⟨by decide +kernel, rfl⟩
theorem d_4_readLaw_113 : zD prog_6_method_11_code 113 (.getfield 28) 3 116 := ⟨by decide +kernel, rfl⟩
theorem d_4_readLaw_116 : zD prog_6_method_11_code 116 (.bipush (-15)) 2 118 := ⟨by decide +kernel, rfl⟩
theorem d_4_readLaw_118 : zD prog_6_method_11_code 118 (.invokevirtual 157) 3 121 := ⟨by decide +kernel, rfl⟩
theorem d_4_readLaw_121 : zD prog_6_method_11_code 121 (.aload_n 0) 1 122 := ⟨by decide +kernel, rfl⟩
theorem d_4_readLaw_122 : zD prog_6_method_11_code 122 (.bipush 59) 2 124 := ⟨by decide +kernel, rfl⟩
theorem d_4_readLaw_124 : zD prog_6_method_11_code 124 (.invokevirtual 111) 3 127 := ⟨by decide +kernel, rfl⟩
theorem d_4_readLaw_127 : zD prog_6_method_11_code 127 (.ireturn) 1 128 := ⟨by decide +kernel, rfl⟩
theorem d_4_readTape_0 : zD prog_6_method_3_code 0 (.aload_n 0) 1 1 := ⟨by decide +kernel, rfl⟩
theorem d_4_readTape_1 : zD prog_6_method_3_code 1 (.getfield 12) 3 4 := ⟨by decide +kernel, rfl⟩
theorem d_4_readTape_4 : zD prog_6_method_3_code 4 (.aload_n 1) 1 5 := ⟨by decide +kernel, rfl⟩
theorem d_4_readTape_5 : zD prog_6_method_3_code 5 (.iload_n 2) 1 6 := ⟨by decide +kernel, rfl⟩
theorem d_4_readTape_6 : zD prog_6_method_3_code 6 (.invokevirtual 54) 3 9 := ⟨by decide +kernel, rfl⟩
theorem d_4_readTape_9 : zD prog_6_method_3_code 9 (.aload_n 0) 1 10 := ⟨by decide +kernel, rfl⟩
theorem d_4_readTape_10 : zD prog_6_method_3_code 10 (.invokevirtual 58) 3 13 := ⟨by decide +kernel, rfl⟩
theorem d_4_readTape_13 : zD prog_6_method_3_code 13 (.iconst 1) 1 14 := ⟨by decide +kernel, rfl⟩
theorem d_4_readTape_14 : zD prog_6_method_3_code 14 (.istore_n 3) 1 15 := ⟨by decide +kernel, rfl⟩
theorem d_4_readTape_15 : zD prog_6_method_3_code 15 (.iconst 0) 1 16 := ⟨by decide +kernel, rfl⟩
theorem d_4_readTape_16 : zD prog_6_method_3_code 16 (.istore 4) 2 18 := ⟨by decide +kernel, rfl⟩
theorem d_4_readTape_18 : zD prog_6_method_3_code 18 (.iload 4) 2 20 := ⟨by decide +kernel, rfl⟩
theorem d_4_readTape_20 : zD prog_6_method_3_code 20 (.sipush 400) 3 23 := ⟨by decide +kernel, rfl⟩
theorem d_4_readTape_23 : zD prog_6_method_3_code 23 (.if_icmp .gt 128) 3 26 := ⟨by decide +kernel, rfl⟩
theorem d_4_readTape_26 : zD prog_6_method_3_code 26 (.iload_n 3) 1 27 := ⟨by decide +kernel, rfl⟩
theorem d_4_readTape_27 : zD prog_6_method_3_code 27 (.ifCond .eq 124) 3 30 := ⟨by decide +kernel, rfl⟩
theorem d_4_readTape_30 : zD prog_6_method_3_code 30 (.aload_n 0) 1 31 := ⟨by decide +kernel, rfl⟩
theorem d_4_readTape_31 : zD prog_6_method_3_code 31 (.invokevirtual 61) 3 34 := ⟨by decide +kernel, rfl⟩
theorem d_4_readTape_34 : zD prog_6_method_3_code 34 (.ifCond .eq 117) 3 37 := ⟨by decide +kernel, rfl⟩
theorem d_4_readTape_37 : zD prog_6_method_3_code 37 (.aload_n 0) 1 38 := ⟨by decide +kernel, rfl⟩
theorem d_4_readTape_38 : zD prog_6_method_3_code 38 (.invokevirtual 61) 3 41 := ⟨by decide +kernel, rfl⟩
theorem d_4_readTape_41 : zD prog_6_method_3_code 41 (.tableswitch 91 128 136 #[51, 59, 67, 75, 91, 91, 91, 91, 83]) 51 92 := ⟨by decide +kernel, rfl⟩
theorem d_4_readTape_92 : zD prog_6_method_3_code 92 (.aload_n 0) 1 93 := ⟨by decide +kernel, rfl⟩
theorem d_4_readTape_93 : zD prog_6_method_3_code 93 (.invokevirtual 65) 3 96 := ⟨by decide +kernel, rfl⟩
theorem d_4_readTape_96 : zD prog_6_method_3_code 96 (.istore_n 3) 1 97 := ⟨by decide +kernel, rfl⟩
theorem d_4_readTape_97 : zD prog_6_method_3_code 97 (.goto 48) 3 100 := ⟨by decide +kernel, rfl⟩
theorem d_4_readTape_100 : zD prog_6_method_3_code 100 (.aload_n 0) 1 101 := ⟨by decide +kernel, rfl⟩
theorem d_4_readTape_101 : zD prog_6_method_3_code 101 (.invokevirtual 69) 3 104 := ⟨by decide +kernel, rfl⟩
theorem d_4_readTape_104 : zD prog_6_method_3_code 104 (.istore_n 3) 1 105 := ⟨by decide +kernel, rfl⟩
theorem d_4_readTape_105 : zD prog_6_method_3_code 105 (.goto 40) 3 108 := ⟨by decide +kernel, rfl⟩
theorem d_4_readTape_108 : zD prog_6_method_3_code 108 (.aload_n 0) 1 109 := ⟨by decide +kernel, rfl⟩
theorem d_4_readTape_109 : zD prog_6_method_3_code 109 (.invokevirtual 72) 3 112 := ⟨by decide +kernel, rfl⟩
theorem d_4_readTape_112 : zD prog_6_method_3_code 112 (.istore_n 3) 1 113 := ⟨by decide +kernel, rfl⟩
theorem d_4_readTape_113 : zD prog_6_method_3_code 113 (.goto 32) 3 116 := ⟨by decide +kernel, rfl⟩
theorem d_4_readTape_116 : zD prog_6_method_3_code 116 (.aload_n 0) 1 117 := ⟨by decide +kernel, rfl⟩
theorem d_4_readTape_117 : zD prog_6_method_3_code 117 (.invokevirtual 75) 3 120 := ⟨by decide +kernel, rfl⟩
theorem d_4_readTape_120 : zD prog_6_method_3_code 120 (.istore_n 3) 1 121 := ⟨by decide +kernel, rfl⟩
theorem d_4_readTape_121 : zD prog_6_method_3_code 121 (.goto 24) 3 124 := ⟨by decide +kernel, rfl⟩
theorem d_4_readTape_124 : zD prog_6_method_3_code 124 (.aload_n 0) 1 125 := ⟨by decide +kernel, rfl⟩
theorem d_4_readTape_125 : zD prog_6_method_3_code 125 (.invokevirtual 78) 3 128 := ⟨by decide +kernel, rfl⟩
theorem d_4_readTape_128 : zD prog_6_method_3_code 128 (.istore_n 3) 1 129 := ⟨by decide +kernel, rfl⟩
theorem d_4_readTape_129 : zD prog_6_method_3_code 129 (.goto 16) 3 132 := ⟨by decide +kernel, rfl⟩
theorem d_4_readTape_132 : zD prog_6_method_3_code 132 (.aload_n 0) 1 133 := ⟨by decide +kernel, rfl⟩
theorem d_4_readTape_133 : zD prog_6_method_3_code 133 (.aload_n 0) 1 134 := ⟨by decide +kernel, rfl⟩
theorem d_4_readTape_134 : zD prog_6_method_3_code 134 (.invokevirtual 61) 3 137 := ⟨by decide +kernel, rfl⟩
theorem d_4_readTape_137 : zD prog_6_method_3_code 137 (.sipush 132) 3 140 := ⟨by decide +kernel, rfl⟩
theorem d_4_readTape_140 : zD prog_6_method_3_code 140 (.isub) 1 141 := ⟨by decide +kernel, rfl⟩
theorem d_4_readTape_141 : zD prog_6_method_3_code 141 (.invokevirtual 81) 3 144 := ⟨by decide +kernel, rfl⟩
theorem d_4_readTape_144 : zD prog_6_method_3_code 144 (.istore_n 3) 1 145 := ⟨by decide +kernel, rfl⟩
theorem d_4_readTape_145 : zD prog_6_method_3_code 145 (.iinc 4 1) 3 148 := ⟨by decide +kernel, rfl⟩
theorem d_4_readTape_148 : zD prog_6_method_3_code 148 (.goto (-130)) 3 151 := ⟨by decide +kernel, rfl⟩
theorem d_4_readTape_151 : zD prog_6_method_3_code 151 (.aload_n 0) 1 152 := ⟨by decide +kernel, rfl⟩
theorem d_4_readTape_152 : zD prog_6_method_3_code 152 (.getfield 42) 3 155 := ⟨by decide +kernel, rfl⟩
theorem d_4_readTape_155 : zD prog_6_method_3_code 155 (.ifCond .ne 22) 3 158 := ⟨by decide +kernel, rfl⟩
theorem d_4_readTape_158 : zD prog_6_method_3_code 158 (.aload_n 0) 1 159 := ⟨by decide +kernel, rfl⟩
theorem d_4_readTape_159 : zD prog_6_method_3_code 159 (.aload_n 0) 1 160 := ⟨by decide +kernel, rfl⟩
theorem d_4_readTape_160 : zD prog_6_method_3_code 160 (.getfield 48) 3 163 := ⟨by decide +kernel, rfl⟩
theorem d_4_readTape_163 : zD prog_6_method_3_code 163 (.putfield 42) 3 166 := ⟨by decide +kernel, rfl⟩
theorem d_4_readTape_166 : zD prog_6_method_3_code 166 (.aload_n 0) 1 167 := ⟨by decide +kernel, rfl⟩
theorem d_4_readTape_167 : zD prog_6_method_3_code 167 (.aload_n 0) 1 168 := ⟨by decide +kernel, rfl⟩
theorem d_4_readTape_168 : zD prog_6_method_3_code 168 (.getfield 51) 3 171 := ⟨by decide +kernel, rfl⟩
theorem d_4_readTape_171 : zD prog_6_method_3_code 171 (.putfield 45) 3 174 := ⟨by decide +kernel, rfl⟩
theorem d_4_readTape_174 : zD prog_6_method_3_code 174 (.goto 19) 3 177 := ⟨by decide +kernel, rfl⟩
theorem d_4_readTape_177 : zD prog_6_method_3_code 177 (.aload_n 0) 1 178 := ⟨by decide +kernel, rfl⟩
theorem d_4_readTape_178 : zD prog_6_method_3_code 178 (.aload_n 0) 1 179 := ⟨by decide +kernel, rfl⟩
theorem d_4_readTape_179 : zD prog_6_method_3_code 179 (.getfield 12) 3 182 := ⟨by decide +kernel, rfl⟩
theorem d_4_readTape_182 : zD prog_6_method_3_code 182 (.getfield 85) 3 185 := ⟨by decide +kernel, rfl⟩
theorem d_4_readTape_185 : zD prog_6_method_3_code 185 (.aload_n 0) 1 186 := ⟨by decide +kernel, rfl⟩
theorem d_4_readTape_186 : zD prog_6_method_3_code 186 (.getfield 32) 3 189 := ⟨by decide +kernel, rfl⟩
theorem d_4_readTape_189 : zD prog_6_method_3_code 189 (.iaload) 1 190 := ⟨by decide +kernel, rfl⟩
theorem d_4_readTape_190 : zD prog_6_method_3_code 190 (.putfield 45) 3 193 := ⟨by decide +kernel, rfl⟩
theorem d_4_readTape_193 : zD prog_6_method_3_code 193 (.aload_n 0) 1 194 := ⟨by decide +kernel, rfl⟩
theorem d_4_readTape_194 : zD prog_6_method_3_code 194 (.getfield 42) 3 197 := ⟨by decide +kernel, rfl⟩
theorem d_4_readTape_197 : zD prog_6_method_3_code 197 (.ireturn) 1 198 := ⟨by decide +kernel, rfl⟩
theorem d_5_begin_0 : zD prog_7_method_2_code 0 (.aload_n 0) 1 1 := ⟨by decide +kernel, rfl⟩
theorem d_5_begin_1 : zD prog_7_method_2_code 1 (.iconst 0) 1 2 := ⟨by decide +kernel, rfl⟩
theorem d_5_begin_2 : zD prog_7_method_2_code 2 (.putfield 9) 3 5 := ⟨by decide +kernel, rfl⟩
theorem d_5_begin_5 : zD prog_7_method_2_code 5 (.aload_n 0) 1 6 := ⟨by decide +kernel, rfl⟩
theorem d_5_begin_6 : zD prog_7_method_2_code 6 (.aload_n 1) 1 7 := ⟨by decide +kernel, rfl⟩
theorem d_5_begin_7 : zD prog_7_method_2_code 7 (.getfield 34) 3 10 := ⟨by decide +kernel, rfl⟩
theorem d_5_begin_10 : zD prog_7_method_2_code 10 (.invokestatic 39) 3 13 := ⟨by decide +kernel, rfl⟩
theorem d_5_begin_13 : zD prog_7_method_2_code 13 (.putfield 15) 3 16 := ⟨by decide +kernel, rfl⟩
theorem d_5_begin_16 : zD prog_7_method_2_code 16 (.aload_n 0) 1 17 := ⟨by decide +kernel, rfl⟩
theorem d_5_begin_17 : zD prog_7_method_2_code 17 (.iconst 0) 1 18 := ⟨by decide +kernel, rfl⟩
theorem d_5_begin_18 : zD prog_7_method_2_code 18 (.putfield 18) 3 21 := ⟨by decide +kernel, rfl⟩
theorem d_5_begin_21 : zD prog_7_method_2_code 21 (.iconst 0) 1 22 := ⟨by decide +kernel, rfl⟩
theorem d_5_begin_22 : zD prog_7_method_2_code 22 (.istore_n 2) 1 23 := ⟨by decide +kernel, rfl⟩
theorem d_5_begin_23 : zD prog_7_method_2_code 23 (.iload_n 2) 1 24 := ⟨by decide +kernel, rfl⟩
theorem d_5_begin_24 : zD prog_7_method_2_code 24 (.bipush 7) 2 26 := ⟨by decide +kernel, rfl⟩
theorem d_5_begin_26 : zD prog_7_method_2_code 26 (.if_icmp .ge 35) 3 29 := ⟨by decide +kernel, rfl⟩
theorem d_5_begin_29 : zD prog_7_method_2_code 29 (.aload_n 0) 1 30 := ⟨by decide +kernel, rfl⟩
theorem d_5_begin_30 : zD prog_7_method_2_code 30 (.getfield 21) 3 33 := ⟨by decide +kernel, rfl⟩
theorem d_5_begin_33 : zD prog_7_method_2_code 33 (.iload_n 2) 1 34 := ⟨by decide +kernel, rfl⟩
theorem d_5_begin_34 : zD prog_7_method_2_code 34 (.iconst 0) 1 35 := ⟨by decide +kernel, rfl⟩
theorem d_5_begin_35 : zD prog_7_method_2_code 35 (.iastore) 1 36 := ⟨by decide +kernel, rfl⟩
theorem d_5_begin_36 : zD prog_7_method_2_code 36 (.aload_n 0) 1 37 := ⟨by decide +kernel, rfl⟩
theorem d_5_begin_37 : zD prog_7_method_2_code 37 (.getfield 25) 3 40 := ⟨by decide +kernel, rfl⟩
theorem d_5_begin_40 : zD prog_7_method_2_code 40 (.iload_n 2) 1 41 := ⟨by decide +kernel, rfl⟩
theorem d_5_begin_41 : zD prog_7_method_2_code 41 (.iconst 0) 1 42 := ⟨by decide +kernel, rfl⟩
theorem d_5_begin_42 : zD prog_7_method_2_code 42 (.iastore) 1 43 := ⟨by decide +kernel, rfl⟩
theorem d_5_begin_43 : zD prog_7_method_2_code 43 (.aload_n 0) 1 44 := ⟨by decide +kernel, rfl⟩
theorem d_5_begin_44 : zD prog_7_method_2_code 44 (.getfield 28) 3 47 := ⟨by decide +kernel, rfl⟩
theorem d_5_begin_47 : zD prog_7_method_2_code 47 (.iload_n 2) 1 48 := ⟨by decide +kernel, rfl⟩
theorem d_5_begin_48 : zD prog_7_method_2_code 48 (.aload_n 1) 1 49 := ⟨by decide +kernel, rfl⟩
theorem d_5_begin_49 : zD prog_7_method_2_code 49 (.getfield 43) 3 52 := ⟨by decide +kernel, rfl⟩
theorem d_5_begin_52 : zD prog_7_method_2_code 52 (.iload_n 2) 1 53 := ⟨by decide +kernel, rfl⟩
theorem d_5_begin_53 : zD prog_7_method_2_code 53 (.iaload) 1 54 := ⟨by decide +kernel, rfl⟩
theorem d_5_begin_54 : zD prog_7_method_2_code 54 (.iastore) 1 55 := ⟨by decide +kernel, rfl⟩
theorem d_5_begin_55 : zD prog_7_method_2_code 55 (.iinc 2 1) 3 58 := ⟨by decide +kernel, rfl⟩
theorem d_5_begin_58 : zD prog_7_method_2_code 58 (.goto (-35)) 3 61 := ⟨by decide +kernel, rfl⟩
theorem d_5_begin_61 : zD prog_7_method_2_code 61 (.iconst 0) 1 62 := ⟨by decide +kernel, rfl⟩
theorem d_5_begin_62 : zD prog_7_method_2_code 62 (.istore_n 2) 1 63 := ⟨by decide +kernel, rfl⟩
theorem d_5_begin_63 : zD prog_7_method_2_code 63 (.iload_n 2) 1 64 := ⟨by decide +kernel, rfl⟩
theorem d_5_begin_64 : zD prog_7_method_2_code 64 (.aload_n 1) 1 65 := ⟨by decide +kernel, rfl⟩
theorem d_5_begin_65 : zD prog_7_method_2_code 65 (.getfield 34) 3 68 := ⟨by decide +kernel, rfl⟩
theorem d_5_begin_68 : zD prog_7_method_2_code 68 (.if_icmp .ge 36) 3 71 := ⟨by decide +kernel, rfl⟩
theorem d_5_begin_71 : zD prog_7_method_2_code 71 (.aload_n 1) 1 72 := ⟨by decide +kernel, rfl⟩
theorem d_5_begin_72 : zD prog_7_method_2_code 72 (.getfield 44) 3 75 := ⟨by decide +kernel, rfl⟩
theorem d_5_begin_75 : zD prog_7_method_2_code 75 (.iload_n 2) 1 76 := ⟨by decide +kernel, rfl⟩
theorem d_5_begin_76 : zD prog_7_method_2_code 76 (.iaload) 1 77 := ⟨by decide +kernel, rfl⟩
theorem d_5_begin_77 : zD prog_7_method_2_code 77 (.iconst (-1)) 1 78 := ⟨by decide +kernel, rfl⟩
theorem d_5_begin_78 : zD prog_7_method_2_code 78 (.if_icmp .eq 20) 3 81 := ⟨by decide +kernel, rfl⟩
theorem d_5_begin_81 : zD prog_7_method_2_code 81 (.aload_n 0) 1 82 := ⟨by decide +kernel, rfl⟩
theorem d_5_begin_82 : zD prog_7_method_2_code 82 (.iload_n 2) 1 83 := ⟨by decide +kernel, rfl⟩
theorem d_5_begin_83 : zD prog_7_method_2_code 83 (.invokevirtual 47) 3 86 := ⟨by decide +kernel, rfl⟩
theorem d_5_begin_86 : zD prog_7_method_2_code 86 (.aload_n 0) 1 87 := ⟨by decide +kernel, rfl⟩
theorem d_5_begin_87 : zD prog_7_method_2_code 87 (.getfield 21) 3 90 := ⟨by decide +kernel, rfl⟩
theorem d_5_begin_90 : zD prog_7_method_2_code 90 (.iload_n 2) 1 91 := ⟨by decide +kernel, rfl⟩
theorem d_5_begin_91 : zD prog_7_method_2_code 91 (.aload_n 1) 1 92 := ⟨by decide +kernel, rfl⟩
theorem d_5_begin_92 : zD prog_7_method_2_code 92 (.getfield 44) 3 95 := ⟨by decide +kernel, rfl⟩
theorem d_5_begin_95 : zD prog_7_method_2_code 95 (.iload_n 2) 1 96 := ⟨by decide +kernel, rfl⟩
theorem d_5_begin_96 : zD prog_7_method_2_code 96 (.iaload) 1 97 := ⟨by decide +kernel, rfl⟩
theorem d_5_begin_97 : zD prog_7_method_2_code 97 (.iastore) 1 98 := ⟨by decide +kernel, rfl⟩
theorem d_5_begin_98 : zD prog_7_method_2_code 98 (.iinc 2 1) 3 101 := ⟨by decide +kernel, rfl⟩
theorem d_5_begin_101 : zD prog_7_method_2_code 101 (.goto (-38)) 3 104 := ⟨by decide +kernel, rfl⟩
theorem d_5_begin_104 : zD prog_7_method_2_code 104 (.iconst 0) 1 105 := ⟨by decide +kernel, rfl⟩
theorem d_5_begin_105 : zD prog_7_method_2_code 105 (.istore_n 2) 1 106 := ⟨by decide +kernel, rfl⟩
theorem d_5_begin_106 : zD prog_7_method_2_code 106 (.iload_n 2) 1 107 := ⟨by decide +kernel, rfl⟩
theorem d_5_begin_107 : zD prog_7_method_2_code 107 (.iconst 5) 1 108 := ⟨by decide +kernel, rfl⟩
theorem d_5_begin_108 : zD prog_7_method_2_code 108 (.if_icmp .ge 21) 3 111 := ⟨by decide +kernel, rfl⟩
theorem d_5_begin_111 : zD prog_7_method_2_code 111 (.aload_n 0) 1 112 := ⟨by decide +kernel, rfl⟩
theorem d_5_begin_112 : zD prog_7_method_2_code 112 (.getfield 31) 3 115 := ⟨by decide +kernel, rfl⟩
theorem d_5_begin_115 : zD prog_7_method_2_code 115 (.iload_n 2) 1 116 := ⟨by decide +kernel, rfl⟩
theorem d_5_begin_116 : zD prog_7_method_2_code 116 (.aload_n 1) 1 117 := ⟨by decide +kernel, rfl⟩
theorem d_5_begin_117 : zD prog_7_method_2_code 117 (.getfield 51) 3 120 := ⟨by decide +kernel, rfl⟩
theorem d_5_begin_120 : zD prog_7_method_2_code 120 (.iload_n 2) 1 121 := ⟨by decide +kernel, rfl⟩
theorem d_5_begin_121 : zD prog_7_method_2_code 121 (.iaload) 1 122 := ⟨by decide +kernel, rfl⟩
theorem d_5_begin_122 : zD prog_7_method_2_code 122 (.iastore) 1 123 := ⟨by decide +kernel, rfl⟩
theorem d_5_begin_123 : zD prog_7_method_2_code 123 (.iinc 2 1) 3 126 := ⟨by decide +kernel, rfl⟩
theorem d_5_begin_126 : zD prog_7_method_2_code 126 (.goto (-20)) 3 129 := ⟨by decide +kernel, rfl⟩
theorem d_5_begin_129 : zD prog_7_method_2_code 129 (.return_) 1 130 := ⟨by decide +kernel, rfl⟩
def f4_exchange (o1 : Nat) (μ : zMem) : Nat × zMem :=
  z_let (z_sR μ 4 0 3 o1) fun m1 => ((μ.2.2 4 0 3), m1)
theorem s4_exchange {P : zP} {μ : zMem} {o1 : Nat} {r : Nat} {μ' : zMem} (h : f4_exchange o1 μ = (r, μ')) : z_Sp P y_4_exchange M_4_exchange 1 [zA 4 0, zA 6 o1] μ (some (zA 6 r)) μ' := by
  refine z_Sp.of (plainFor_of_name (by decide)) rfl (l0 := [some (zA 4 0), some (zA 6 o1), none]) rfl (Nat.le_of_ble_eq_true rfl) ?_
  unfold f4_exchange at h
  refine zr_aload_n (i := 0) d_4_exchange_0 rfl rfl ?_
  refine zr_getd d_4_exchange_1 fw_4_28 ?_
  refine zr_astore_n (i := 2) (l' := [some (zA 4 0), some (zA 6 o1), some (zA 6 (μ.2.2 4 0 3))]) d_4_exchange_4 rfl (by decide) rfl ?_
  refine zr_aload_n (i := 0) d_4_exchange_5 rfl rfl ?_
  refine zr_aload_n (i := 1) d_4_exchange_6 rfl rfl ?_
  obtain ⟨m1, hm2, h⟩ := z_lt h
  refine zr_putd d_4_exchange_7 fw_4_28 pw_4_3 (fun _ => ⟨rfl, rfl⟩) (by decide) hm2 ?_
  refine zr_aload_n (i := 2) d_4_exchange_10 rfl rfl ?_
  obtain ⟨rfl, rfl⟩ := Prod.mk.inj h
  exact ze_a d_4_exchange_11 rfl
def f7_isBlank (a0 : Int32) : Int32 :=
  (if a0 = (9 : Int32) then (1 : Int32) else (if a0 = (10 : Int32) then (1 : Int32) else (if a0 = (13 : Int32) then (1 : Int32) else (if a0 = (32 : Int32) then (1 : Int32) else (0 : Int32)))))
theorem s7_isBlank {P : zP} {μ : zMem} {a0 : Int32} {r : Int32} (h : f7_isBlank a0 = r) : z_Sp P y_7_isBlank M_7_isBlank 1 [zI a0] μ (some (zI r)) μ := by
  refine z_Sp.of (plainFor_of_name (by decide)) rfl (l0 := [some (zI a0)]) rfl (Nat.le_of_ble_eq_true rfl) ?_
  unfold f7_isBlank at h
  refine zr_iload_n (i := 0) d_7_isBlank_0 rfl rfl ?_
  refine zr_bipush (v := (9 : Int32)) d_7_isBlank_1 rfl ?_
  refine zr_icmp_eq (tgt := 24) d_7_isBlank_3 rfl (fun hc1 => ?_) (fun hc1 => ?_)
  · replace h := z_ip h hc1
    refine zr_iconst (v := (1 : Int32)) d_7_isBlank_24 rfl ?_
    refine zr_goto (tgt := 29) d_7_isBlank_25 rfl ?_
    obtain rfl := h
    exact ze_z d_7_isBlank_29 rfl rfl
  · replace h := z_im h hc1
    refine zr_iload_n (i := 0) d_7_isBlank_6 rfl rfl ?_
    refine zr_bipush (v := (10 : Int32)) d_7_isBlank_7 rfl ?_
    refine zr_icmp_eq (tgt := 24) d_7_isBlank_9 rfl (fun hc2 => ?_) (fun hc2 => ?_)
    · replace h := z_ip h hc2
      refine zr_iconst (v := (1 : Int32)) d_7_isBlank_24 rfl ?_
      refine zr_goto (tgt := 29) d_7_isBlank_25 rfl ?_
      obtain rfl := h
      exact ze_z d_7_isBlank_29 rfl rfl
    · replace h := z_im h hc2
      refine zr_iload_n (i := 0) d_7_isBlank_12 rfl rfl ?_
      refine zr_bipush (v := (13 : Int32)) d_7_isBlank_13 rfl ?_
      refine zr_icmp_eq (tgt := 24) d_7_isBlank_15 rfl (fun hc3 => ?_) (fun hc3 => ?_)
      · replace h := z_ip h hc3
        refine zr_iconst (v := (1 : Int32)) d_7_isBlank_24 rfl ?_
        refine zr_goto (tgt := 29) d_7_isBlank_25 rfl ?_
        obtain rfl := h
        exact ze_z d_7_isBlank_29 rfl rfl
      · replace h := z_im h hc3
        refine zr_iload_n (i := 0) d_7_isBlank_18 rfl rfl ?_
        refine zr_bipush (v := (32 : Int32)) d_7_isBlank_19 rfl ?_
        refine zr_icmp_ne (tgt := 28) d_7_isBlank_21 rfl (fun hc4 => ?_) (fun hc4 => ?_)
        · replace h := z_ip h hc4
          refine zr_iconst (v := (1 : Int32)) d_7_isBlank_24 rfl ?_
          refine zr_goto (tgt := 29) d_7_isBlank_25 rfl ?_
          obtain rfl := h
          exact ze_z d_7_isBlank_29 rfl rfl
        · replace h := z_im h hc4
          refine zr_iconst (v := (0 : Int32)) d_7_isBlank_28 rfl ?_
          obtain rfl := h
          exact ze_z d_7_isBlank_29 rfl rfl
def f7_skipBlanks_L1  : (zMem) → Option ((zMem) ⊕ (zMem)) := (fun xm2 => 
  (if (xm2.1 7 0 5) < (xm2.1 7 0 4) then if z_in (xm2.1 7 0 5) (z_len 34 (xm2.2.2 7 0 3)) = true then (if (f7_isBlank (xm2.1 34 (xm2.2.2 7 0 3) (xm2.1 7 0 5).toNatClampNeg)) = 0 then some (.inr xm2) else z_let (z_sI xm2 7 0 5 ((xm2.1 7 0 5) + (1 : Int32))) fun m7 => some (.inl m7)) else none else some (.inr xm2)))
def f7_skipBlanks  (μ : zMem) : Option (zMem) :=
  (z_it (f7_skipBlanks_L1) z_fu μ).bind (fun e9 => some e9)
theorem s7_skipBlanks_L1 {P : zP} {ro : Option zV} {μo : zMem}  (xm2 : zMem) (K : (zMem) ⊕ (zMem)) (h : f7_skipBlanks_L1  xm2 = some K) (hI : ∀ (y0 : zMem), K = .inl y0 → z_RQ P M_7_skipBlanks (z_rm 2) (z_mq P ro μo) 0 0 0 [some (zA 7 0)] [] y0) (hE : ∀ (z0 : zMem), K = .inr z0 → z_RQ P M_7_skipBlanks (z_rm 2) (z_mq P ro μo) 0 0 39 [none] [] z0)  : z_RQ P M_7_skipBlanks (z_rm 2) (z_mq P ro μo) 0 0 0 [some (zA 7 0)] [] xm2 := by
  unfold f7_skipBlanks_L1 at h
  refine zr_aload_n (i := 0) d_7_skipBlanks_0 rfl rfl ?_
  refine zr_geti d_7_skipBlanks_1 fw_7_28 (by decide) ?_
  refine zr_aload_n (i := 0) d_7_skipBlanks_4 rfl rfl ?_
  refine zr_geti d_7_skipBlanks_5 fw_7_24 (by decide) ?_
  refine zr_icmp_ge (tgt := 39) d_7_skipBlanks_8 rfl (fun hc3 => ?_) (fun hc3 => ?_)
  · replace h := z_ip h hc3
    refine zr_aload_n (i := 0) d_7_skipBlanks_11 rfl rfl ?_
    refine zr_getd d_7_skipBlanks_12 fw_7_20 ?_
    refine zr_aload_n (i := 0) d_7_skipBlanks_15 rfl rfl ?_
    refine zr_geti d_7_skipBlanks_16 fw_7_28 (by decide) ?_
    obtain ⟨hb4, h⟩ := z_gd h
    refine zr_bald d_7_skipBlanks_19 sa_34 rfl hb4 ?_
    refine zr_callSi (av := [zI (xm2.1 34 (xm2.2.2 7 0 3) (xm2.1 7 0 5).toNatClampNeg)]) (st := []) d_7_skipBlanks_20 mw_7_isBlank ml_7_44 is_7_isBlank rfl rfl (Nat.le_of_ble_eq_true rfl) fit_1_1_2 (s7_isBlank rfl) ?_
    refine zr_if_eq (tgt := 39) d_7_skipBlanks_23 rfl (fun hc6 => ?_) (fun hc6 => ?_)
    · replace h := z_ip h hc6
      obtain rfl := Option.some.inj h
      exact zr_wk2 (hE xm2 rfl) trivial
    · replace h := z_im h hc6
      refine zr_aload_n (i := 0) d_7_skipBlanks_26 rfl rfl ?_
      refine zr_dupa d_7_skipBlanks_27 ?_
      refine zr_geti d_7_skipBlanks_28 fw_7_28 (by decide) ?_
      refine zr_iconst (v := (1 : Int32)) d_7_skipBlanks_31 rfl ?_
      refine zr_iadd d_7_skipBlanks_32 ?_
      obtain ⟨m7, hm8, h⟩ := z_lt h
      refine zr_puti d_7_skipBlanks_33 fw_7_28 pw_7_5 hm8 ?_
      refine zr_goto (tgt := 0) d_7_skipBlanks_36 rfl ?_
      obtain rfl := Option.some.inj h
      exact zr_wk2 (hI m7 rfl) ⟨rfl, trivial⟩
  · replace h := z_im h hc3
    obtain rfl := Option.some.inj h
    exact zr_wk2 (hE xm2 rfl) trivial
theorem s7_skipBlanks {P : zP} {μ : zMem} {μ' : zMem} (h : f7_skipBlanks μ = some μ') : z_Sp P y_7_skipBlanks M_7_skipBlanks 2 [zA 7 0] μ none μ' := by
  refine z_Sp.of (plainFor_of_name (by decide)) rfl (l0 := [some (zA 7 0)]) rfl (Nat.le_of_ble_eq_true rfl) ?_
  unfold f7_skipBlanks at h
  obtain ⟨e9, hl10, h⟩ := z_bd h
  refine zr_wk (l' := [some (zA 7 0)]) ⟨rfl, trivial⟩ ?_
  refine z_loop (Hd := (fun y0 => z_RQ P M_7_skipBlanks (z_rm 2) (z_mq P none μ') 0 0 0 [some (zA 7 0)] [] y0)) (Ex := (fun z0 => z_RQ P M_7_skipBlanks (z_rm 2) (z_mq P none μ') 0 0 39 [none] [] z0)) (fun xm2 K h hI hE => s7_skipBlanks_L1  xm2 K h (fun y0 e => hI y0 e) (fun z0 e => hE z0 e) ) _ _ _ hl10 ?_
  obtain rfl := Option.some.inj h
  exact ze_v d_7_skipBlanks_39 rfl
def f7_isLetter (a0 : Int32) : Int32 :=
  (if a0 < (97 : Int32) then (0 : Int32) else (if (122 : Int32) < a0 then (0 : Int32) else (1 : Int32)))
theorem s7_isLetter {P : zP} {μ : zMem} {a0 : Int32} {r : Int32} (h : f7_isLetter a0 = r) : z_Sp P y_7_isLetter M_7_isLetter 1 [zI a0] μ (some (zI r)) μ := by
  refine z_Sp.of (plainFor_of_name (by decide)) rfl (l0 := [some (zI a0)]) rfl (Nat.le_of_ble_eq_true rfl) ?_
  unfold f7_isLetter at h
  refine zr_iload_n (i := 0) d_7_isLetter_0 rfl rfl ?_
  refine zr_bipush (v := (97 : Int32)) d_7_isLetter_1 rfl ?_
  refine zr_icmp_lt (tgt := 16) d_7_isLetter_3 rfl (fun hc1 => ?_) (fun hc1 => ?_)
  · replace h := z_ip h hc1
    refine zr_iconst (v := (0 : Int32)) d_7_isLetter_16 rfl ?_
    obtain rfl := h
    exact ze_z d_7_isLetter_17 rfl rfl
  · replace h := z_im h hc1
    refine zr_iload_n (i := 0) d_7_isLetter_6 rfl rfl ?_
    refine zr_bipush (v := (122 : Int32)) d_7_isLetter_7 rfl ?_
    refine zr_icmp_gt (tgt := 16) d_7_isLetter_9 rfl (fun hc2 => ?_) (fun hc2 => ?_)
    · replace h := z_ip h hc2
      refine zr_iconst (v := (0 : Int32)) d_7_isLetter_16 rfl ?_
      obtain rfl := h
      exact ze_z d_7_isLetter_17 rfl rfl
    · replace h := z_im h hc2
      refine zr_iconst (v := (1 : Int32)) d_7_isLetter_12 rfl ?_
      refine zr_goto (tgt := 17) d_7_isLetter_13 rfl ?_
      obtain rfl := h
      exact ze_z d_7_isLetter_17 rfl rfl
def fj0_coder_7d493 (o0 : Nat) (μ : zMem) : Option (Int32) :=
  (if (1 : Int32) = 0 then some (1 : Int32) else if z_b2 o0 = true then some (0 : Int32) else none)
theorem sj0_coder_7d493 {P : zP} {μ : zMem} {o0 : Nat} {r : Int32} (h : fj0_coder_7d493 o0 μ = some r) : z_Sp P y_j0_coder_7d493 M_j0_coder_7d493 1 [zA 91 o0] μ (some (zI r)) μ := by
  refine z_Sp.of (by decide +kernel) rfl (l0 := [some (zA 91 o0)]) rfl (Nat.le_of_ble_eq_true rfl) ?_
  unfold fj0_coder_7d493 at h
  refine zr_cs d_j0_coder_7d493_0 fw_J0_38 ?_
  refine zr_if_eq (tgt := 13) d_j0_coder_7d493_3 rfl (fun hc1 => ?_) (fun hc1 => ?_)
  · replace h := z_ip h hc1
    refine zr_iconst (v := (1 : Int32)) d_j0_coder_7d493_13 rfl ?_
    obtain rfl := Option.some.inj h
    exact ze_z d_j0_coder_7d493_14 rfl rfl
  · replace h := z_im h hc1
    refine zr_aload_n (i := 0) d_j0_coder_7d493_6 rfl rfl ?_
    obtain ⟨hb2, h⟩ := z_gd h
    refine zr_gco d_j0_coder_7d493_7 fw_J0_15 hb2 ?_
    refine zr_goto (tgt := 14) d_j0_coder_7d493_10 rfl ?_
    obtain rfl := Option.some.inj h
    exact ze_z d_j0_coder_7d493_14 rfl rfl
def fj0_length_8abf5 (o0 : Nat) (μ : zMem) : Option (Int32) :=
  if z_b2 o0 = true then (fj0_coder_7d493 o0 μ).bind (fun q2 => some ((Int32.ofNat (z_sn o0)) >>> (q2 &&& 31))) else none
theorem sj0_length_8abf5 {P : zP} {μ : zMem} {o0 : Nat} {r : Int32} (h : fj0_length_8abf5 o0 μ = some r) : z_Sp P y_j0_length_8abf5 M_j0_length_8abf5 2 [zA 91 o0] μ (some (zI r)) μ := by
  refine z_Sp.of (by decide +kernel) rfl (l0 := [some (zA 91 o0)]) rfl (Nat.le_of_ble_eq_true rfl) ?_
  unfold fj0_length_8abf5 at h
  refine zr_aload_n (i := 0) d_j0_length_8abf5_0 rfl rfl ?_
  obtain ⟨hb1, h⟩ := z_gd h
  refine zr_gva d_j0_length_8abf5_1 fw_J0_9 hb1 ?_
  refine zr_al92 d_j0_length_8abf5_4 hb1 ?_
  refine zr_aload_n (i := 0) d_j0_length_8abf5_5 rfl rfl ?_
  obtain ⟨q2, hq3, h⟩ := z_bd h
  refine zr_callRi (av := []) (st := [zI (Int32.ofNat (z_sn o0))]) d_j0_length_8abf5_6 mw_j0_coder_7d493 ml_J0_335 im_j0_coder_7d493 se_j0_coder_7d493 rfl rfl (Nat.le_of_ble_eq_true rfl) fit_1_1_2 rfl hb1 (sj0_coder_7d493 hq3) ?_
  refine zr_ishr d_j0_length_8abf5_9 ?_
  obtain rfl := Option.some.inj h
  exact ze_i d_j0_length_8abf5_10 rfl
def fj0_isLatin1_aae02 (o0 : Nat) (μ : zMem) : Option (Int32) :=
  (if (1 : Int32) = 0 then some (0 : Int32) else if z_b2 o0 = true then (if (0 : Int32) = 0 then some (1 : Int32) else some (0 : Int32)) else none)
theorem sj0_isLatin1_aae02 {P : zP} {μ : zMem} {o0 : Nat} {r : Int32} (h : fj0_isLatin1_aae02 o0 μ = some r) : z_Sp P y_j0_isLatin1_aae02 M_j0_isLatin1_aae02 1 [zA 91 o0] μ (some (zI r)) μ := by
  refine z_Sp.of (by decide +kernel) rfl (l0 := [some (zA 91 o0)]) rfl (Nat.le_of_ble_eq_true rfl) ?_
  unfold fj0_isLatin1_aae02 at h
  refine zr_cs d_j0_isLatin1_aae02_0 fw_J0_38 ?_
  refine zr_if_eq (tgt := 17) d_j0_isLatin1_aae02_3 rfl (fun hc1 => ?_) (fun hc1 => ?_)
  · replace h := z_ip h hc1
    refine zr_iconst (v := (0 : Int32)) d_j0_isLatin1_aae02_17 rfl ?_
    obtain rfl := Option.some.inj h
    exact ze_z d_j0_isLatin1_aae02_18 rfl rfl
  · replace h := z_im h hc1
    refine zr_aload_n (i := 0) d_j0_isLatin1_aae02_6 rfl rfl ?_
    obtain ⟨hb2, h⟩ := z_gd h
    refine zr_gco d_j0_isLatin1_aae02_7 fw_J0_15 hb2 ?_
    refine zr_if_ne (tgt := 17) d_j0_isLatin1_aae02_10 rfl (fun hc3 => ?_) (fun hc3 => ?_)
    · replace h := z_ip h hc3
      refine zr_iconst (v := (1 : Int32)) d_j0_isLatin1_aae02_13 rfl ?_
      refine zr_goto (tgt := 18) d_j0_isLatin1_aae02_14 rfl ?_
      obtain rfl := Option.some.inj h
      exact ze_z d_j0_isLatin1_aae02_18 rfl rfl
    · replace h := z_im h hc3
      refine zr_iconst (v := (0 : Int32)) d_j0_isLatin1_aae02_17 rfl ?_
      obtain rfl := Option.some.inj h
      exact ze_z d_j0_isLatin1_aae02_18 rfl rfl
def fj3_checkIndex_8e157 (a0 : Int32) (a1 : Int32) : Option (Int32) :=
  (if a0 < 0 then none else (if a0 < a1 then some a0 else none))
theorem sj3_checkIndex_8e157 {P : zP} {μ : zMem} {a0 a1 r : Int32} (h : fj3_checkIndex_8e157 a0 a1 = some r) : z_SpF P y_j3_checkIndex_8e157 M_j3_checkIndex_8e157 1 a0 a1 μ r := by
  refine z_SpF.of (by decide +kernel) rfl rfl ?_
  unfold fj3_checkIndex_8e157 at h
  refine zr_iload_n (i := 0) d_j3_checkIndex_8e157_0 rfl rfl ?_
  refine zr_if_lt (tgt := 9) d_j3_checkIndex_8e157_1 rfl (fun hc1 => ?_) (fun hc1 => ?_)
  · replace h := z_ip h hc1
    cases h
  · replace h := z_im h hc1
    refine zr_iload_n (i := 0) d_j3_checkIndex_8e157_4 rfl rfl ?_
    refine zr_iload_n (i := 1) d_j3_checkIndex_8e157_5 rfl rfl ?_
    refine zr_icmp_lt (tgt := 16) d_j3_checkIndex_8e157_6 rfl (fun hc2 => ?_) (fun hc2 => ?_)
    · replace h := z_ip h hc2
      refine zr_iload_n (i := 0) d_j3_checkIndex_8e157_16 rfl rfl ?_
      obtain rfl := Option.some.inj h
      exact ze_i d_j3_checkIndex_8e157_17 rfl
    · replace h := z_im h hc2
      cases h
def fj0_checkIndex_df160 (a0 : Int32) (a1 : Int32) : Option (Unit) :=
  (fj3_checkIndex_8e157 a0 a1).bind (fun q1 => some ())
theorem sj0_checkIndex_df160 {P : zP} {μ : zMem} {a0 : Int32} {a1 : Int32} (h : fj0_checkIndex_df160 a0 a1 = some ()) : z_Sp P y_j0_checkIndex_df160 M_j0_checkIndex_df160 2 [zI a0, zI a1] μ none μ := by
  refine z_Sp.of (by decide +kernel) rfl (l0 := [some (zI a0), some (zI a1)]) rfl (Nat.le_of_ble_eq_true rfl) ?_
  unfold fj0_checkIndex_df160 at h
  refine zr_iload_n (i := 0) d_j0_checkIndex_df160_0 rfl rfl ?_
  refine zr_iload_n (i := 1) d_j0_checkIndex_df160_1 rfl rfl ?_
  obtain ⟨q1, hq2, h⟩ := z_bd h
  refine zr_fmcall d_j0_checkIndex_df160_2 fw_J0_1053 d_j0_checkIndex_df160_5 mw_j3_checkIndex_8e157 ml_J0_1059 is_j3_checkIndex_8e157 (Nat.le_of_ble_eq_true rfl) fit_1_3_2 (sj3_checkIndex_8e157 hq2) ?_
  refine zr_popi d_j0_checkIndex_df160_8 ?_
  skip
  exact ze_v d_j0_checkIndex_df160_9 rfl
def fj1_charAt_3b067 (o0 : Nat) (a1 : Int32) (μ : zMem) : Option (Int32) :=
  if z_b2 o0 = true then (fj0_checkIndex_df160 a1 (Int32.ofNat (z_sn o0))).bind (fun (_ : Unit) => if z_in a1 (z_sn o0) = true then some ((((z_sb o0 a1.toNatClampNeg) &&& (255 : Int32)).toUInt32 % 65536).toInt32) else none) else none
theorem sj1_charAt_3b067 {P : zP} {μ : zMem} {o0 : Nat} {a1 : Int32} {r : Int32} (h : fj1_charAt_3b067 o0 a1 μ = some r) : z_Sp P y_j1_charAt_3b067 M_j1_charAt_3b067 3 [zA 92 o0, zI a1] μ (some (zI r)) μ := by
  refine z_Sp.of (by decide +kernel) rfl (l0 := [some (zA 92 o0), some (zI a1)]) rfl (Nat.le_of_ble_eq_true rfl) ?_
  unfold fj1_charAt_3b067 at h
  refine zr_iload_n (i := 1) d_j1_charAt_3b067_0 rfl rfl ?_
  refine zr_aload_n (i := 0) d_j1_charAt_3b067_1 rfl rfl ?_
  obtain ⟨hb1, h⟩ := z_gd h
  refine zr_al92 d_j1_charAt_3b067_2 hb1 ?_
  obtain ⟨⟨⟩, hq2, h⟩ := z_bd h
  refine zr_callSv (av := [zI a1, zI (Int32.ofNat (z_sn o0))]) (st := []) d_j1_charAt_3b067_3 mw_j0_checkIndex_df160 ml_J1_9 is_j0_checkIndex_df160 rfl rfl (Nat.le_of_ble_eq_true rfl) fit_2_2_3 (sj0_checkIndex_df160 hq2) ?_
  refine zr_aload_n (i := 0) d_j1_charAt_3b067_6 rfl rfl ?_
  refine zr_iload_n (i := 1) d_j1_charAt_3b067_7 rfl rfl ?_
  obtain ⟨hb3, h⟩ := z_gd h
  refine zr_ld92 d_j1_charAt_3b067_8 hb1 hb3 ?_
  refine zr_sipush (v := (255 : Int32)) d_j1_charAt_3b067_9 rfl ?_
  refine zr_iand d_j1_charAt_3b067_12 ?_
  refine zr_i2c d_j1_charAt_3b067_13 ?_
  obtain rfl := Option.some.inj h
  exact ze_z d_j1_charAt_3b067_14 rfl (pk_nc _)
def fj0_charAt_5068e (o0 : Nat) (a1 : Int32) (μ : zMem) : Option (Int32) :=
  if z_b2 o0 = true then (fj0_isLatin1_aae02 o0 μ).bind (fun q1 => (if q1 = 0 then none else (fj1_charAt_3b067 o0 a1 μ).bind (fun q5 => if z_ch q5 = true then some q5 else none))) else none
theorem sj0_charAt_5068e {P : zP} {μ : zMem} {o0 : Nat} {a1 : Int32} {r : Int32} (h : fj0_charAt_5068e o0 a1 μ = some r) : z_Sp P y_j0_charAt_5068e M_j0_charAt_5068e 4 [zA 91 o0, zI a1] μ (some (zI r)) μ := by
  refine z_Sp.of (by decide +kernel) rfl (l0 := [some (zA 91 o0), some (zI a1)]) rfl (Nat.le_of_ble_eq_true rfl) ?_
  unfold fj0_charAt_5068e at h
  refine zr_aload_n (i := 0) d_j0_charAt_5068e_0 rfl rfl ?_
  obtain ⟨hb3, h⟩ := z_gd h
  obtain ⟨q1, hq2, h⟩ := z_bd h
  refine zr_callRi (av := []) (st := []) d_j0_charAt_5068e_1 mw_j0_isLatin1_aae02 ml_J0_492 im_j0_isLatin1_aae02 se_j0_isLatin1_aae02 rfl rfl (Nat.le_of_ble_eq_true rfl) fit_1_1_4 rfl hb3 (sj0_isLatin1_aae02 hq2) ?_
  refine zr_if_eq (tgt := 16) d_j0_charAt_5068e_4 rfl (fun hc4 => ?_) (fun hc4 => ?_)
  · replace h := z_ip h hc4
    refine zr_aload_n (i := 0) d_j0_charAt_5068e_16 rfl rfl ?_
    refine zr_gva d_j0_charAt_5068e_17 fw_J0_9 hb3 ?_
    refine zr_iload_n (i := 1) d_j0_charAt_5068e_20 rfl rfl ?_
    cases h
  · replace h := z_im h hc4
    refine zr_aload_n (i := 0) d_j0_charAt_5068e_7 rfl rfl ?_
    refine zr_gva d_j0_charAt_5068e_8 fw_J0_9 hb3 ?_
    refine zr_iload_n (i := 1) d_j0_charAt_5068e_11 rfl rfl ?_
    obtain ⟨q5, hq6, h⟩ := z_bd h
    refine zr_callSi (av := [zA 92 o0, zI a1]) (st := []) d_j0_charAt_5068e_12 mw_j1_charAt_3b067 ml_J0_495 is_j1_charAt_3b067 rfl rfl (Nat.le_of_ble_eq_true rfl) fit_3_2_4 (sj1_charAt_3b067 hq6) ?_
    obtain ⟨hzb, h⟩ := z_gd h
    obtain rfl := Option.some.inj h
    exact ze_z d_j0_charAt_5068e_15 rfl (z_ch_ok hzb)
def f7_isWord_L8 (a1 : Int32) (a2 : Int32) (a3 : Int32) (μ : zMem) : (Int32) → Option ((Int32) ⊕ ((Unit) ⊕ (Int32))) := (fun x9 => 
  (if x9 < a3 then (fj0_charAt_5068e 0 (a1 + x9) μ).bind (fun q11 => if z_in (a2 + x9) (z_len 34 (μ.2.2 7 0 3)) = true then (if q11 = (μ.1 34 (μ.2.2 7 0 3) (a2 + x9).toNatClampNeg) then some (.inl (x9 + (1 : Int32))) else some (.inr (.inr (0 : Int32)))) else none) else some (.inr (.inl ()))))
def f7_isWord (a1 : Int32) (a2 : Int32) (a3 : Int32) (μ : zMem) : Option (Int32) :=
  (if a3 < (7 : Int32) then (fj0_length_8abf5 0 μ).bind (fun q2 => (if (a1 + a3) < q2 then (fj0_charAt_5068e 0 (a1 + a3) μ).bind (fun q5 => (if q5 = (32 : Int32) then (z_it (f7_isWord_L8 a1 a2 a3 μ) z_fu (0 : Int32)).bind (Sum.elim (fun (_ : Unit) => some (1 : Int32)) (fun qr16 => some qr16)) else some (0 : Int32))) else some (0 : Int32))) else some (0 : Int32))
theorem s7_isWord_L8 {P : zP} {ro : Option zV} {μo : zMem} (a1 : Int32) (a2 : Int32) (a3 : Int32) (μ : zMem) (x9 : Int32) (K : (Int32) ⊕ ((Unit) ⊕ (Int32))) (h : f7_isWord_L8 a1 a2 a3 μ x9 = some K) (hI : ∀ (y0 : Int32), K = .inl y0 → z_RQ P M_7_isWord (z_rm 5) (z_mq P ro μo) 0 0 35 [some (zA 7 0), some (zI a1), some (zI a2), some (zI a3), some (zI y0)] [] μ) (hE : K = .inr (.inl ()) → z_RQ P M_7_isWord (z_rm 5) (z_mq P ro μo) 0 0 70 [none, none, none, none, none] [] μ) (hR : ∀ (qr : Int32), K = .inr (.inr qr) → ro = some (zI qr) ∧ μo = μ) : z_RQ P M_7_isWord (z_rm 5) (z_mq P ro μo) 0 0 35 [some (zA 7 0), some (zI a1), some (zI a2), some (zI a3), some (zI x9)] [] μ := by
  unfold f7_isWord_L8 at h
  refine zr_iload d_7_isWord_35 rfl ?_
  refine zr_iload_n (i := 3) d_7_isWord_37 rfl rfl ?_
  refine zr_icmp_ge (tgt := 70) d_7_isWord_38 rfl (fun hc10 => ?_) (fun hc10 => ?_)
  · replace h := z_ip h hc10
    refine zr_ldcW d_7_isWord_41 rfl ?_
    refine zr_iload_n (i := 1) d_7_isWord_43 rfl rfl ?_
    refine zr_iload d_7_isWord_44 rfl ?_
    refine zr_iadd d_7_isWord_46 ?_
    obtain ⟨q11, hq12, h⟩ := z_bd h
    refine zr_callRi (av := [zI (a1 + x9)]) (st := []) d_7_isWord_47 mw_j0_charAt_5068e ml_7_83 im_j0_charAt_5068e se_j0_charAt_5068e rfl rfl (Nat.le_of_ble_eq_true rfl) fit_4_2_5 rfl rfl (sj0_charAt_5068e hq12) ?_
    refine zr_aload_n (i := 0) d_7_isWord_50 rfl rfl ?_
    refine zr_getd d_7_isWord_51 fw_7_20 ?_
    refine zr_iload_n (i := 2) d_7_isWord_54 rfl rfl ?_
    refine zr_iload d_7_isWord_55 rfl ?_
    refine zr_iadd d_7_isWord_57 ?_
    obtain ⟨hb13, h⟩ := z_gd h
    refine zr_bald d_7_isWord_58 sa_34 rfl hb13 ?_
    refine zr_icmp_eq (tgt := 64) d_7_isWord_59 rfl (fun hc14 => ?_) (fun hc14 => ?_)
    · replace h := z_ip h hc14
      refine zr_iinc (v := (x9 + (1 : Int32))) (l' := [some (zA 7 0), some (zI a1), some (zI a2), some (zI a3), some (zI (x9 + (1 : Int32)))]) d_7_isWord_64 (by decide) rfl rfl rfl ?_
      refine zr_goto (tgt := 35) d_7_isWord_67 rfl ?_
      obtain rfl := Option.some.inj h
      exact zr_wk2 (hI (x9 + (1 : Int32)) rfl) ⟨rfl, ⟨rfl, ⟨rfl, ⟨rfl, ⟨rfl, trivial⟩⟩⟩⟩⟩
    · replace h := z_im h hc14
      refine zr_iconst (v := (0 : Int32)) d_7_isWord_62 rfl ?_
      obtain rfl := Option.some.inj h
      obtain ⟨rfl, rfl⟩ := hR (0 : Int32) rfl
      exact ze_z d_7_isWord_63 rfl rfl
  · replace h := z_im h hc10
    obtain rfl := Option.some.inj h
    exact zr_wk2 (hE  rfl) trivial
theorem s7_isWord {P : zP} {μ : zMem} {a1 : Int32} {a2 : Int32} {a3 : Int32} {r : Int32} (h : f7_isWord a1 a2 a3 μ = some r) : z_Sp P y_7_isWord M_7_isWord 5 [zA 7 0, zI a1, zI a2, zI a3] μ (some (zI r)) μ := by
  refine z_Sp.of (plainFor_of_name (by decide)) rfl (l0 := [some (zA 7 0), some (zI a1), some (zI a2), some (zI a3), none]) rfl (Nat.le_of_ble_eq_true rfl) ?_
  unfold f7_isWord at h
  refine zr_iload_n (i := 3) d_7_isWord_0 rfl rfl ?_
  refine zr_bipush (v := (7 : Int32)) d_7_isWord_1 rfl ?_
  refine zr_icmp_ge (tgt := 30) d_7_isWord_3 rfl (fun hc1 => ?_) (fun hc1 => ?_)
  · replace h := z_ip h hc1
    refine zr_iload_n (i := 1) d_7_isWord_6 rfl rfl ?_
    refine zr_iload_n (i := 3) d_7_isWord_7 rfl rfl ?_
    refine zr_iadd d_7_isWord_8 ?_
    refine zr_ldcW d_7_isWord_9 rfl ?_
    obtain ⟨q2, hq3, h⟩ := z_bd h
    refine zr_callRi (av := []) (st := [zI (a1 + a3)]) d_7_isWord_11 mw_j0_length_8abf5 ml_7_76 im_j0_length_8abf5 se_j0_length_8abf5 rfl rfl (Nat.le_of_ble_eq_true rfl) fit_2_1_5 rfl rfl (sj0_length_8abf5 hq3) ?_
    refine zr_icmp_ge (tgt := 30) d_7_isWord_14 rfl (fun hc4 => ?_) (fun hc4 => ?_)
    · replace h := z_ip h hc4
      refine zr_ldcW d_7_isWord_17 rfl ?_
      refine zr_iload_n (i := 1) d_7_isWord_19 rfl rfl ?_
      refine zr_iload_n (i := 3) d_7_isWord_20 rfl rfl ?_
      refine zr_iadd d_7_isWord_21 ?_
      obtain ⟨q5, hq6, h⟩ := z_bd h
      refine zr_callRi (av := [zI (a1 + a3)]) (st := []) d_7_isWord_22 mw_j0_charAt_5068e ml_7_83 im_j0_charAt_5068e se_j0_charAt_5068e rfl rfl (Nat.le_of_ble_eq_true rfl) fit_4_2_5 rfl rfl (sj0_charAt_5068e hq6) ?_
      refine zr_bipush (v := (32 : Int32)) d_7_isWord_25 rfl ?_
      refine zr_icmp_eq (tgt := 32) d_7_isWord_27 rfl (fun hc7 => ?_) (fun hc7 => ?_)
      · replace h := z_ip h hc7
        refine zr_iconst (v := (0 : Int32)) d_7_isWord_32 rfl ?_
        refine zr_istore (i := 4) (l' := [some (zA 7 0), some (zI a1), some (zI a2), some (zI a3), some (zI (0 : Int32))]) d_7_isWord_33 (by decide) rfl ?_
        rcases z_bs h with ⟨⟨⟩, hl15, h⟩ | ⟨qr16, hl15, h⟩
        · refine zr_wk (l' := [some (zA 7 0), some (zI a1), some (zI a2), some (zI a3), some (zI (0 : Int32))]) ⟨rfl, ⟨rfl, ⟨rfl, ⟨rfl, ⟨rfl, trivial⟩⟩⟩⟩⟩ ?_
          refine z_loop (Hd := (fun y0 => z_RQ P M_7_isWord (z_rm 5) (z_mq P (some (zI r)) μ) 0 0 35 [some (zA 7 0), some (zI a1), some (zI a2), some (zI a3), some (zI y0)] [] μ)) (Ex := (Sum.elim (fun (_ : Unit) => z_RQ P M_7_isWord (z_rm 5) (z_mq P (some (zI r)) μ) 0 0 70 [none, none, none, none, none] [] μ) (fun qr => (some (zI r)) = some (zI qr) ∧ μ = μ))) (fun x9 K h hI hE => s7_isWord_L8 a1 a2 a3 μ x9 K h (fun y0 e => hI y0 e) (fun  e => hE (.inl ()) e) (fun qr e => hE (.inr qr) e)) _ _ _ hl15 ?_
          refine zr_iconst (v := (1 : Int32)) d_7_isWord_70 rfl ?_
          obtain rfl := Option.some.inj h
          exact ze_z d_7_isWord_71 rfl rfl
        · refine zr_wk (l' := [some (zA 7 0), some (zI a1), some (zI a2), some (zI a3), some (zI (0 : Int32))]) ⟨rfl, ⟨rfl, ⟨rfl, ⟨rfl, ⟨rfl, trivial⟩⟩⟩⟩⟩ ?_
          refine z_loop (Hd := (fun y0 => z_RQ P M_7_isWord (z_rm 5) (z_mq P (some (zI r)) μ) 0 0 35 [some (zA 7 0), some (zI a1), some (zI a2), some (zI a3), some (zI y0)] [] μ)) (Ex := (Sum.elim (fun (_ : Unit) => z_RQ P M_7_isWord (z_rm 5) (z_mq P (some (zI r)) μ) 0 0 70 [none, none, none, none, none] [] μ) (fun qr => (some (zI r)) = some (zI qr) ∧ μ = μ))) (fun x9 K h hI hE => s7_isWord_L8 a1 a2 a3 μ x9 K h (fun y0 e => hI y0 e) (fun  e => hE (.inl ()) e) (fun qr e => hE (.inr qr) e)) _ _ _ hl15 ?_
          obtain rfl := Option.some.inj h
          exact ⟨rfl, rfl⟩
      · replace h := z_im h hc7
        refine zr_iconst (v := (0 : Int32)) d_7_isWord_30 rfl ?_
        obtain rfl := Option.some.inj h
        exact ze_z d_7_isWord_31 rfl rfl
    · replace h := z_im h hc4
      refine zr_iconst (v := (0 : Int32)) d_7_isWord_30 rfl ?_
      obtain rfl := Option.some.inj h
      exact ze_z d_7_isWord_31 rfl rfl
  · replace h := z_im h hc1
    refine zr_iconst (v := (0 : Int32)) d_7_isWord_30 rfl ?_
    obtain rfl := Option.some.inj h
    exact ze_z d_7_isWord_31 rfl rfl
def f7_wordOrName_L1 (a1 : Int32) (μ : zMem) : (Int32) → Option ((Int32) ⊕ ((Unit) ⊕ (Int32))) := (fun x2 => 
  (fj0_length_8abf5 0 μ).bind (fun q3 => (if x2 < q3 then (f7_isWord x2 a1 ((μ.1 7 0 5) - a1) μ).bind (fun q6 => (if q6 = 0 then some (.inl (x2 + (7 : Int32))) else some (.inr (.inr ((128 : Int32) + (x2 / (7 : Int32))))))) else some (.inr (.inl ())))))
def f7_wordOrName (a1 : Int32) (μ : zMem) : Option (Int32) :=
  (z_it (f7_wordOrName_L1 a1 μ) z_fu (0 : Int32)).bind (Sum.elim (fun (_ : Unit) => some (2 : Int32)) (fun qr10 => some qr10))
theorem s7_wordOrName_L1 {P : zP} {ro : Option zV} {μo : zMem} (a1 : Int32) (μ : zMem) (x2 : Int32) (K : (Int32) ⊕ ((Unit) ⊕ (Int32))) (h : f7_wordOrName_L1 a1 μ x2 = some K) (hI : ∀ (y0 : Int32), K = .inl y0 → z_RQ P M_7_wordOrName (z_rm 6) (z_mq P ro μo) 0 0 2 [some (zA 7 0), some (zI a1), some (zI y0)] [] μ) (hE : K = .inr (.inl ()) → z_RQ P M_7_wordOrName (z_rm 6) (z_mq P ro μo) 0 0 41 [none, none, none] [] μ) (hR : ∀ (qr : Int32), K = .inr (.inr qr) → ro = some (zI qr) ∧ μo = μ) : z_RQ P M_7_wordOrName (z_rm 6) (z_mq P ro μo) 0 0 2 [some (zA 7 0), some (zI a1), some (zI x2)] [] μ := by
  unfold f7_wordOrName_L1 at h
  refine zr_iload_n (i := 2) d_7_wordOrName_2 rfl rfl ?_
  refine zr_ldcW d_7_wordOrName_3 rfl ?_
  obtain ⟨q3, hq4, h⟩ := z_bd h
  refine zr_callRi (av := []) (st := [zI x2]) d_7_wordOrName_5 mw_j0_length_8abf5 ml_7_76 im_j0_length_8abf5 se_j0_length_8abf5 rfl rfl (Nat.le_of_ble_eq_true rfl) fit_2_1_6 rfl rfl (sj0_length_8abf5 hq4) ?_
  refine zr_icmp_ge (tgt := 41) d_7_wordOrName_8 rfl (fun hc5 => ?_) (fun hc5 => ?_)
  · replace h := z_ip h hc5
    refine zr_aload_n (i := 0) d_7_wordOrName_11 rfl rfl ?_
    refine zr_iload_n (i := 2) d_7_wordOrName_12 rfl rfl ?_
    refine zr_iload_n (i := 1) d_7_wordOrName_13 rfl rfl ?_
    refine zr_aload_n (i := 0) d_7_wordOrName_14 rfl rfl ?_
    refine zr_geti d_7_wordOrName_15 fw_7_28 (by decide) ?_
    refine zr_iload_n (i := 1) d_7_wordOrName_18 rfl rfl ?_
    refine zr_isub d_7_wordOrName_19 ?_
    obtain ⟨q6, hq7, h⟩ := z_bd h
    refine zr_callVi (av := [zI x2, zI a1, zI ((μ.1 7 0 5) - a1)]) (st := []) d_7_wordOrName_20 mw_7_isWord ml_7_79 im_7_isWord se_7_isWord rfl rfl (Nat.le_of_ble_eq_true rfl) fit_5_5_6 rfl rfl rfl (s7_isWord hq7) ?_
    refine zr_if_eq (tgt := 35) d_7_wordOrName_23 rfl (fun hc8 => ?_) (fun hc8 => ?_)
    · replace h := z_ip h hc8
      refine zr_iinc (v := (x2 + (7 : Int32))) (l' := [some (zA 7 0), some (zI a1), some (zI (x2 + (7 : Int32)))]) d_7_wordOrName_35 (by decide) rfl rfl rfl ?_
      refine zr_goto (tgt := 2) d_7_wordOrName_38 rfl ?_
      obtain rfl := Option.some.inj h
      exact zr_wk2 (hI (x2 + (7 : Int32)) rfl) ⟨rfl, ⟨rfl, ⟨rfl, trivial⟩⟩⟩
    · replace h := z_im h hc8
      refine zr_sipush (v := (128 : Int32)) d_7_wordOrName_26 rfl ?_
      refine zr_iload_n (i := 2) d_7_wordOrName_29 rfl rfl ?_
      refine zr_bipush (v := (7 : Int32)) d_7_wordOrName_30 rfl ?_
      refine zr_idiv d_7_wordOrName_32 (by decide) ?_
      refine zr_iadd d_7_wordOrName_33 ?_
      obtain rfl := Option.some.inj h
      obtain ⟨rfl, rfl⟩ := hR ((128 : Int32) + (x2 / (7 : Int32))) rfl
      exact ze_i d_7_wordOrName_34 rfl
  · replace h := z_im h hc5
    obtain rfl := Option.some.inj h
    exact zr_wk2 (hE  rfl) trivial
theorem s7_wordOrName {P : zP} {μ : zMem} {a1 : Int32} {r : Int32} (h : f7_wordOrName a1 μ = some r) : z_Sp P y_7_wordOrName M_7_wordOrName 6 [zA 7 0, zI a1] μ (some (zI r)) μ := by
  refine z_Sp.of (plainFor_of_name (by decide)) rfl (l0 := [some (zA 7 0), some (zI a1), none]) rfl (Nat.le_of_ble_eq_true rfl) ?_
  unfold f7_wordOrName at h
  refine zr_iconst (v := (0 : Int32)) d_7_wordOrName_0 rfl ?_
  refine zr_istore_n (i := 2) (l' := [some (zA 7 0), some (zI a1), some (zI (0 : Int32))]) d_7_wordOrName_1 rfl (by decide) rfl ?_
  rcases z_bs h with ⟨⟨⟩, hl9, h⟩ | ⟨qr10, hl9, h⟩
  · refine zr_wk (l' := [some (zA 7 0), some (zI a1), some (zI (0 : Int32))]) ⟨rfl, ⟨rfl, ⟨rfl, trivial⟩⟩⟩ ?_
    refine z_loop (Hd := (fun y0 => z_RQ P M_7_wordOrName (z_rm 6) (z_mq P (some (zI r)) μ) 0 0 2 [some (zA 7 0), some (zI a1), some (zI y0)] [] μ)) (Ex := (Sum.elim (fun (_ : Unit) => z_RQ P M_7_wordOrName (z_rm 6) (z_mq P (some (zI r)) μ) 0 0 41 [none, none, none] [] μ) (fun qr => (some (zI r)) = some (zI qr) ∧ μ = μ))) (fun x2 K h hI hE => s7_wordOrName_L1 a1 μ x2 K h (fun y0 e => hI y0 e) (fun  e => hE (.inl ()) e) (fun qr e => hE (.inr qr) e)) _ _ _ hl9 ?_
    refine zr_iconst (v := (2 : Int32)) d_7_wordOrName_41 rfl ?_
    obtain rfl := Option.some.inj h
    exact ze_i d_7_wordOrName_42 rfl
  · refine zr_wk (l' := [some (zA 7 0), some (zI a1), some (zI (0 : Int32))]) ⟨rfl, ⟨rfl, ⟨rfl, trivial⟩⟩⟩ ?_
    refine z_loop (Hd := (fun y0 => z_RQ P M_7_wordOrName (z_rm 6) (z_mq P (some (zI r)) μ) 0 0 2 [some (zA 7 0), some (zI a1), some (zI y0)] [] μ)) (Ex := (Sum.elim (fun (_ : Unit) => z_RQ P M_7_wordOrName (z_rm 6) (z_mq P (some (zI r)) μ) 0 0 41 [none, none, none] [] μ) (fun qr => (some (zI r)) = some (zI qr) ∧ μ = μ))) (fun x2 K h hI hE => s7_wordOrName_L1 a1 μ x2 K h (fun y0 e => hI y0 e) (fun  e => hE (.inl ()) e) (fun qr e => hE (.inr qr) e)) _ _ _ hl9 ?_
    obtain rfl := Option.some.inj h
    exact ⟨rfl, rfl⟩
def f7_scanLetters_L1  : (Int64 × zMem) → Option ((Int64 × zMem) ⊕ (Int64 × zMem)) := (z_u2 fun x2 xm3 => 
  (if (xm3.1 7 0 5) < (xm3.1 7 0 4) then if z_in (xm3.1 7 0 5) (z_len 34 (xm3.2.2 7 0 3)) = true then (if (f7_isLetter (xm3.1 34 (xm3.2.2 7 0 3) (xm3.1 7 0 5).toNatClampNeg)) = 0 then some (.inr (x2, xm3)) else z_let ((x2 * (32 : Int64)) + (((xm3.1 34 (xm3.2.2 7 0 3) (xm3.1 7 0 5).toNatClampNeg) - (97 : Int32)) + (1 : Int32)).toInt64) fun v8 => z_let (z_sI xm3 7 0 5 ((xm3.1 7 0 5) + (1 : Int32))) fun m10 => some (.inl (v8, m10))) else none else some (.inr (x2, xm3))))
def f7_scanLetters (a1 : Int32) (μ : zMem) : Option (Int32 × zMem) :=
  (z_it (f7_scanLetters_L1) z_fu ((0 : Int64), μ)).bind (z_u2 fun e12 e13 => if z_in a1 401 = true then z_let (z_sL e13 33 0 a1.toNatClampNeg e12) fun m15 => (if (8 : Int32) < ((m15.1 7 0 5) - (μ.1 7 0 5)) then some ((1 : Int32), m15) else (f7_wordOrName (μ.1 7 0 5) m15).bind (fun q19 => some (q19, m15))) else none)
theorem s7_scanLetters_L1 {P : zP} {ro : Option zV} {μo : zMem} (a1 : Int32) (μ : zMem) (x2 : Int64) (xm3 : zMem) (K : (Int64 × zMem) ⊕ (Int64 × zMem)) (h : f7_scanLetters_L1  (x2, xm3) = some K) (hI : ∀ (y0 : Int64) (y1 : zMem), K = .inl (y0, y1) → z_RQ P M_7_scanLetters (z_rm 7) (z_mq P ro μo) 0 0 7 [some (zA 7 0), some (zI a1), some (zI (μ.1 7 0 5)), some (zL y0), none] [] y1) (hE : ∀ (z0 : Int64) (z1 : zMem), K = .inr (z0, z1) → z_RQ P M_7_scanLetters (z_rm 7) (z_mq P ro μo) 0 0 68 [some (zA 7 0), some (zI a1), some (zI (μ.1 7 0 5)), some (zL z0), none] [] z1)  : z_RQ P M_7_scanLetters (z_rm 7) (z_mq P ro μo) 0 0 7 [some (zA 7 0), some (zI a1), some (zI (μ.1 7 0 5)), some (zL x2), none] [] xm3 := by
  unfold f7_scanLetters_L1 at h
  replace h := z_h2 h
  refine zr_aload_n (i := 0) d_7_scanLetters_7 rfl rfl ?_
  refine zr_geti d_7_scanLetters_8 fw_7_28 (by decide) ?_
  refine zr_aload_n (i := 0) d_7_scanLetters_11 rfl rfl ?_
  refine zr_geti d_7_scanLetters_12 fw_7_24 (by decide) ?_
  refine zr_icmp_ge (tgt := 68) d_7_scanLetters_15 rfl (fun hc4 => ?_) (fun hc4 => ?_)
  · replace h := z_ip h hc4
    refine zr_aload_n (i := 0) d_7_scanLetters_18 rfl rfl ?_
    refine zr_getd d_7_scanLetters_19 fw_7_20 ?_
    refine zr_aload_n (i := 0) d_7_scanLetters_22 rfl rfl ?_
    refine zr_geti d_7_scanLetters_23 fw_7_28 (by decide) ?_
    obtain ⟨hb5, h⟩ := z_gd h
    refine zr_bald d_7_scanLetters_26 sa_34 rfl hb5 ?_
    refine zr_callSi (av := [zI (xm3.1 34 (xm3.2.2 7 0 3) (xm3.1 7 0 5).toNatClampNeg)]) (st := []) d_7_scanLetters_27 mw_7_isLetter ml_7_48 is_7_isLetter rfl rfl (Nat.le_of_ble_eq_true rfl) fit_1_1_7 (s7_isLetter rfl) ?_
    refine zr_if_eq (tgt := 68) d_7_scanLetters_30 rfl (fun hc7 => ?_) (fun hc7 => ?_)
    · replace h := z_ip h hc7
      obtain rfl := Option.some.inj h
      exact zr_wk2 (hE x2 xm3 rfl) ⟨rfl, ⟨rfl, ⟨rfl, ⟨rfl, trivial⟩⟩⟩⟩
    · replace h := z_im h hc7
      refine zr_lload_n (i := 3) d_7_scanLetters_33 rfl rfl ?_
      refine zr_ldc2 (v := (32 : Int64)) d_7_scanLetters_34 kc_7_67 ?_
      refine zr_lmul d_7_scanLetters_37 ?_
      refine zr_aload_n (i := 0) d_7_scanLetters_38 rfl rfl ?_
      refine zr_getd d_7_scanLetters_39 fw_7_20 ?_
      refine zr_aload_n (i := 0) d_7_scanLetters_42 rfl rfl ?_
      refine zr_geti d_7_scanLetters_43 fw_7_28 (by decide) ?_
      refine zr_bald d_7_scanLetters_46 sa_34 rfl hb5 ?_
      refine zr_bipush (v := (97 : Int32)) d_7_scanLetters_47 rfl ?_
      refine zr_isub d_7_scanLetters_49 ?_
      refine zr_iconst (v := (1 : Int32)) d_7_scanLetters_50 rfl ?_
      refine zr_iadd d_7_scanLetters_51 ?_
      refine zr_i2l d_7_scanLetters_52 ?_
      refine zr_ladd d_7_scanLetters_53 ?_
      obtain ⟨v8, hv9, h⟩ := z_lt h
      refine zr_nmL hv9 ?_
      refine zr_lstore_n (i := 3) (l' := [some (zA 7 0), some (zI a1), some (zI (μ.1 7 0 5)), some (zL v8), none]) d_7_scanLetters_54 rfl (by decide) rfl ?_
      refine zr_aload_n (i := 0) d_7_scanLetters_55 rfl rfl ?_
      refine zr_dupa d_7_scanLetters_56 ?_
      refine zr_geti d_7_scanLetters_57 fw_7_28 (by decide) ?_
      refine zr_iconst (v := (1 : Int32)) d_7_scanLetters_60 rfl ?_
      refine zr_iadd d_7_scanLetters_61 ?_
      obtain ⟨m10, hm11, h⟩ := z_lt h
      refine zr_puti d_7_scanLetters_62 fw_7_28 pw_7_5 hm11 ?_
      refine zr_goto (tgt := 7) d_7_scanLetters_65 rfl ?_
      obtain rfl := Option.some.inj h
      exact zr_wk2 (hI v8 m10 rfl) ⟨rfl, ⟨rfl, ⟨rfl, ⟨rfl, trivial⟩⟩⟩⟩
  · replace h := z_im h hc4
    obtain rfl := Option.some.inj h
    exact zr_wk2 (hE x2 xm3 rfl) ⟨rfl, ⟨rfl, ⟨rfl, ⟨rfl, trivial⟩⟩⟩⟩
theorem s7_scanLetters {P : zP} {μ : zMem} {a1 : Int32} {r : Int32} {μ' : zMem} (h : f7_scanLetters a1 μ = some (r, μ')) : z_Sp P y_7_scanLetters M_7_scanLetters 7 [zA 7 0, zI a1] μ (some (zI r)) μ' := by
  refine z_Sp.of (plainFor_of_name (by decide)) rfl (l0 := [some (zA 7 0), some (zI a1), none, none, none]) rfl (Nat.le_of_ble_eq_true rfl) ?_
  unfold f7_scanLetters at h
  refine zr_aload_n (i := 0) d_7_scanLetters_0 rfl rfl ?_
  refine zr_geti d_7_scanLetters_1 fw_7_28 (by decide) ?_
  refine zr_istore_n (i := 2) (l' := [some (zA 7 0), some (zI a1), some (zI (μ.1 7 0 5)), none, none]) d_7_scanLetters_4 rfl (by decide) rfl ?_
  refine zr_lconst (v := (0 : Int64)) d_7_scanLetters_5 rfl ?_
  refine zr_lstore_n (i := 3) (l' := [some (zA 7 0), some (zI a1), some (zI (μ.1 7 0 5)), some (zL (0 : Int64)), none]) d_7_scanLetters_6 rfl (by decide) rfl ?_
  obtain ⟨⟨e12, e13⟩, hl14, h⟩ := z_bd h
  replace h := z_h2 h
  refine zr_wk (l' := [some (zA 7 0), some (zI a1), some (zI (μ.1 7 0 5)), some (zL (0 : Int64)), none]) ⟨rfl, ⟨rfl, ⟨rfl, ⟨rfl, trivial⟩⟩⟩⟩ ?_
  refine z_loop (Hd := (z_u2 fun y0 y1 => z_RQ P M_7_scanLetters (z_rm 7) (z_mq P (some (zI r)) μ') 0 0 7 [some (zA 7 0), some (zI a1), some (zI (μ.1 7 0 5)), some (zL y0), none] [] y1)) (Ex := (z_u2 fun z0 z1 => z_RQ P M_7_scanLetters (z_rm 7) (z_mq P (some (zI r)) μ') 0 0 68 [some (zA 7 0), some (zI a1), some (zI (μ.1 7 0 5)), some (zL z0), none] [] z1)) (fun ⟨x2, xm3⟩ K h hI hE => s7_scanLetters_L1 a1 μ x2 xm3 K h (fun y0 y1 e => hI (y0, y1) e) (fun z0 z1 e => hE (z0, z1) e) ) _ _ _ hl14 ?_
  refine zr_aload_n (i := 0) d_7_scanLetters_68 rfl rfl ?_
  refine zr_gets (i' := 0) d_7_scanLetters_69 fw_7_16 rfl ?_
  refine zr_iload_n (i := 1) d_7_scanLetters_72 rfl rfl ?_
  refine zr_lload_n (i := 3) d_7_scanLetters_73 rfl rfl ?_
  obtain ⟨hb17, h⟩ := z_gd h
  obtain ⟨m15, hm16, h⟩ := z_lt h
  refine zr_last d_7_scanLetters_74 sa_33 rfl hb17 hm16 ?_
  refine zr_aload_n (i := 0) d_7_scanLetters_75 rfl rfl ?_
  refine zr_geti d_7_scanLetters_76 fw_7_28 (by decide) ?_
  refine zr_iload_n (i := 2) d_7_scanLetters_79 rfl rfl ?_
  refine zr_isub d_7_scanLetters_80 ?_
  refine zr_bipush (v := (8 : Int32)) d_7_scanLetters_81 rfl ?_
  refine zr_icmp_le (tgt := 90) d_7_scanLetters_83 rfl (fun hc18 => ?_) (fun hc18 => ?_)
  · replace h := z_ip h hc18
    refine zr_iconst (v := (1 : Int32)) d_7_scanLetters_86 rfl ?_
    refine zr_goto (tgt := 95) d_7_scanLetters_87 rfl ?_
    obtain ⟨rfl, rfl⟩ := Prod.mk.inj (Option.some.inj h)
    exact ze_i d_7_scanLetters_95 rfl
  · replace h := z_im h hc18
    refine zr_aload_n (i := 0) d_7_scanLetters_90 rfl rfl ?_
    refine zr_iload_n (i := 2) d_7_scanLetters_91 rfl rfl ?_
    obtain ⟨q19, hq20, h⟩ := z_bd h
    refine zr_callVi (av := [zI (μ.1 7 0 5)]) (st := []) d_7_scanLetters_92 mw_7_wordOrName ml_7_69 im_7_wordOrName se_7_wordOrName rfl rfl (Nat.le_of_ble_eq_true rfl) fit_6_3_7 rfl rfl rfl (s7_wordOrName hq20) ?_
    obtain ⟨rfl, rfl⟩ := Prod.mk.inj (Option.some.inj h)
    exact ze_i d_7_scanLetters_95 rfl
def f7_isDigit (a0 : Int32) : Int32 :=
  (if a0 < (48 : Int32) then (0 : Int32) else (if (57 : Int32) < a0 then (0 : Int32) else (1 : Int32)))
theorem s7_isDigit {P : zP} {μ : zMem} {a0 : Int32} {r : Int32} (h : f7_isDigit a0 = r) : z_Sp P y_7_isDigit M_7_isDigit 1 [zI a0] μ (some (zI r)) μ := by
  refine z_Sp.of (plainFor_of_name (by decide)) rfl (l0 := [some (zI a0)]) rfl (Nat.le_of_ble_eq_true rfl) ?_
  unfold f7_isDigit at h
  refine zr_iload_n (i := 0) d_7_isDigit_0 rfl rfl ?_
  refine zr_bipush (v := (48 : Int32)) d_7_isDigit_1 rfl ?_
  refine zr_icmp_lt (tgt := 16) d_7_isDigit_3 rfl (fun hc1 => ?_) (fun hc1 => ?_)
  · replace h := z_ip h hc1
    refine zr_iconst (v := (0 : Int32)) d_7_isDigit_16 rfl ?_
    obtain rfl := h
    exact ze_z d_7_isDigit_17 rfl rfl
  · replace h := z_im h hc1
    refine zr_iload_n (i := 0) d_7_isDigit_6 rfl rfl ?_
    refine zr_bipush (v := (57 : Int32)) d_7_isDigit_7 rfl ?_
    refine zr_icmp_gt (tgt := 16) d_7_isDigit_9 rfl (fun hc2 => ?_) (fun hc2 => ?_)
    · replace h := z_ip h hc2
      refine zr_iconst (v := (0 : Int32)) d_7_isDigit_16 rfl ?_
      obtain rfl := h
      exact ze_z d_7_isDigit_17 rfl rfl
    · replace h := z_im h hc2
      refine zr_iconst (v := (1 : Int32)) d_7_isDigit_12 rfl ?_
      refine zr_goto (tgt := 17) d_7_isDigit_13 rfl ?_
      obtain rfl := h
      exact ze_z d_7_isDigit_17 rfl rfl
def f7_scanDigits_L1  : (Int64 × zMem) → Option ((Int64 × zMem) ⊕ (Int64 × zMem)) := (z_u2 fun x2 xm3 => 
  (if (xm3.1 7 0 5) < (xm3.1 7 0 4) then if z_in (xm3.1 7 0 5) (z_len 34 (xm3.2.2 7 0 3)) = true then (if (f7_isDigit (xm3.1 34 (xm3.2.2 7 0 3) (xm3.1 7 0 5).toNatClampNeg)) = 0 then some (.inr (x2, xm3)) else z_let ((x2 * (10 : Int64)) + ((xm3.1 34 (xm3.2.2 7 0 3) (xm3.1 7 0 5).toNatClampNeg) - (48 : Int32)).toInt64) fun v8 => z_let (z_sI xm3 7 0 5 ((xm3.1 7 0 5) + (1 : Int32))) fun m10 => some (.inl (v8, m10))) else none else some (.inr (x2, xm3))))
def f7_scanDigits (a1 : Int32) (μ : zMem) : Option (Int32 × zMem) :=
  (z_it (f7_scanDigits_L1) z_fu ((0 : Int64), μ)).bind (z_u2 fun e12 e13 => if z_in a1 401 = true then z_let (z_sL e13 33 0 a1.toNatClampNeg e12) fun m15 => (if (4 : Int32) < ((m15.1 7 0 5) - (μ.1 7 0 5)) then some ((1 : Int32), m15) else some ((3 : Int32), m15)) else none)
theorem s7_scanDigits_L1 {P : zP} {ro : Option zV} {μo : zMem} (a1 : Int32) (μ : zMem) (x2 : Int64) (xm3 : zMem) (K : (Int64 × zMem) ⊕ (Int64 × zMem)) (h : f7_scanDigits_L1  (x2, xm3) = some K) (hI : ∀ (y0 : Int64) (y1 : zMem), K = .inl (y0, y1) → z_RQ P M_7_scanDigits (z_rm 2) (z_mq P ro μo) 0 0 7 [some (zA 7 0), some (zI a1), some (zI (μ.1 7 0 5)), some (zL y0), none] [] y1) (hE : ∀ (z0 : Int64) (z1 : zMem), K = .inr (z0, z1) → z_RQ P M_7_scanDigits (z_rm 2) (z_mq P ro μo) 0 0 66 [some (zA 7 0), some (zI a1), some (zI (μ.1 7 0 5)), some (zL z0), none] [] z1)  : z_RQ P M_7_scanDigits (z_rm 2) (z_mq P ro μo) 0 0 7 [some (zA 7 0), some (zI a1), some (zI (μ.1 7 0 5)), some (zL x2), none] [] xm3 := by
  unfold f7_scanDigits_L1 at h
  replace h := z_h2 h
  refine zr_aload_n (i := 0) d_7_scanDigits_7 rfl rfl ?_
  refine zr_geti d_7_scanDigits_8 fw_7_28 (by decide) ?_
  refine zr_aload_n (i := 0) d_7_scanDigits_11 rfl rfl ?_
  refine zr_geti d_7_scanDigits_12 fw_7_24 (by decide) ?_
  refine zr_icmp_ge (tgt := 66) d_7_scanDigits_15 rfl (fun hc4 => ?_) (fun hc4 => ?_)
  · replace h := z_ip h hc4
    refine zr_aload_n (i := 0) d_7_scanDigits_18 rfl rfl ?_
    refine zr_getd d_7_scanDigits_19 fw_7_20 ?_
    refine zr_aload_n (i := 0) d_7_scanDigits_22 rfl rfl ?_
    refine zr_geti d_7_scanDigits_23 fw_7_28 (by decide) ?_
    obtain ⟨hb5, h⟩ := z_gd h
    refine zr_bald d_7_scanDigits_26 sa_34 rfl hb5 ?_
    refine zr_callSi (av := [zI (xm3.1 34 (xm3.2.2 7 0 3) (xm3.1 7 0 5).toNatClampNeg)]) (st := []) d_7_scanDigits_27 mw_7_isDigit ml_7_54 is_7_isDigit rfl rfl (Nat.le_of_ble_eq_true rfl) fit_1_1_2 (s7_isDigit rfl) ?_
    refine zr_if_eq (tgt := 66) d_7_scanDigits_30 rfl (fun hc7 => ?_) (fun hc7 => ?_)
    · replace h := z_ip h hc7
      obtain rfl := Option.some.inj h
      exact zr_wk2 (hE x2 xm3 rfl) ⟨rfl, ⟨rfl, ⟨rfl, ⟨rfl, trivial⟩⟩⟩⟩
    · replace h := z_im h hc7
      refine zr_lload_n (i := 3) d_7_scanDigits_33 rfl rfl ?_
      refine zr_ldc2 (v := (10 : Int64)) d_7_scanDigits_34 kc_7_72 ?_
      refine zr_lmul d_7_scanDigits_37 ?_
      refine zr_aload_n (i := 0) d_7_scanDigits_38 rfl rfl ?_
      refine zr_getd d_7_scanDigits_39 fw_7_20 ?_
      refine zr_aload_n (i := 0) d_7_scanDigits_42 rfl rfl ?_
      refine zr_geti d_7_scanDigits_43 fw_7_28 (by decide) ?_
      refine zr_bald d_7_scanDigits_46 sa_34 rfl hb5 ?_
      refine zr_bipush (v := (48 : Int32)) d_7_scanDigits_47 rfl ?_
      refine zr_isub d_7_scanDigits_49 ?_
      refine zr_i2l d_7_scanDigits_50 ?_
      refine zr_ladd d_7_scanDigits_51 ?_
      obtain ⟨v8, hv9, h⟩ := z_lt h
      refine zr_nmL hv9 ?_
      refine zr_lstore_n (i := 3) (l' := [some (zA 7 0), some (zI a1), some (zI (μ.1 7 0 5)), some (zL v8), none]) d_7_scanDigits_52 rfl (by decide) rfl ?_
      refine zr_aload_n (i := 0) d_7_scanDigits_53 rfl rfl ?_
      refine zr_dupa d_7_scanDigits_54 ?_
      refine zr_geti d_7_scanDigits_55 fw_7_28 (by decide) ?_
      refine zr_iconst (v := (1 : Int32)) d_7_scanDigits_58 rfl ?_
      refine zr_iadd d_7_scanDigits_59 ?_
      obtain ⟨m10, hm11, h⟩ := z_lt h
      refine zr_puti d_7_scanDigits_60 fw_7_28 pw_7_5 hm11 ?_
      refine zr_goto (tgt := 7) d_7_scanDigits_63 rfl ?_
      obtain rfl := Option.some.inj h
      exact zr_wk2 (hI v8 m10 rfl) ⟨rfl, ⟨rfl, ⟨rfl, ⟨rfl, trivial⟩⟩⟩⟩
  · replace h := z_im h hc4
    obtain rfl := Option.some.inj h
    exact zr_wk2 (hE x2 xm3 rfl) ⟨rfl, ⟨rfl, ⟨rfl, ⟨rfl, trivial⟩⟩⟩⟩
theorem s7_scanDigits {P : zP} {μ : zMem} {a1 : Int32} {r : Int32} {μ' : zMem} (h : f7_scanDigits a1 μ = some (r, μ')) : z_Sp P y_7_scanDigits M_7_scanDigits 2 [zA 7 0, zI a1] μ (some (zI r)) μ' := by
  refine z_Sp.of (plainFor_of_name (by decide)) rfl (l0 := [some (zA 7 0), some (zI a1), none, none, none]) rfl (Nat.le_of_ble_eq_true rfl) ?_
  unfold f7_scanDigits at h
  refine zr_aload_n (i := 0) d_7_scanDigits_0 rfl rfl ?_
  refine zr_geti d_7_scanDigits_1 fw_7_28 (by decide) ?_
  refine zr_istore_n (i := 2) (l' := [some (zA 7 0), some (zI a1), some (zI (μ.1 7 0 5)), none, none]) d_7_scanDigits_4 rfl (by decide) rfl ?_
  refine zr_lconst (v := (0 : Int64)) d_7_scanDigits_5 rfl ?_
  refine zr_lstore_n (i := 3) (l' := [some (zA 7 0), some (zI a1), some (zI (μ.1 7 0 5)), some (zL (0 : Int64)), none]) d_7_scanDigits_6 rfl (by decide) rfl ?_
  obtain ⟨⟨e12, e13⟩, hl14, h⟩ := z_bd h
  replace h := z_h2 h
  refine zr_wk (l' := [some (zA 7 0), some (zI a1), some (zI (μ.1 7 0 5)), some (zL (0 : Int64)), none]) ⟨rfl, ⟨rfl, ⟨rfl, ⟨rfl, trivial⟩⟩⟩⟩ ?_
  refine z_loop (Hd := (z_u2 fun y0 y1 => z_RQ P M_7_scanDigits (z_rm 2) (z_mq P (some (zI r)) μ') 0 0 7 [some (zA 7 0), some (zI a1), some (zI (μ.1 7 0 5)), some (zL y0), none] [] y1)) (Ex := (z_u2 fun z0 z1 => z_RQ P M_7_scanDigits (z_rm 2) (z_mq P (some (zI r)) μ') 0 0 66 [some (zA 7 0), some (zI a1), some (zI (μ.1 7 0 5)), some (zL z0), none] [] z1)) (fun ⟨x2, xm3⟩ K h hI hE => s7_scanDigits_L1 a1 μ x2 xm3 K h (fun y0 y1 e => hI (y0, y1) e) (fun z0 z1 e => hE (z0, z1) e) ) _ _ _ hl14 ?_
  refine zr_aload_n (i := 0) d_7_scanDigits_66 rfl rfl ?_
  refine zr_gets (i' := 0) d_7_scanDigits_67 fw_7_16 rfl ?_
  refine zr_iload_n (i := 1) d_7_scanDigits_70 rfl rfl ?_
  refine zr_lload_n (i := 3) d_7_scanDigits_71 rfl rfl ?_
  obtain ⟨hb17, h⟩ := z_gd h
  obtain ⟨m15, hm16, h⟩ := z_lt h
  refine zr_last d_7_scanDigits_72 sa_33 rfl hb17 hm16 ?_
  refine zr_aload_n (i := 0) d_7_scanDigits_73 rfl rfl ?_
  refine zr_geti d_7_scanDigits_74 fw_7_28 (by decide) ?_
  refine zr_iload_n (i := 2) d_7_scanDigits_77 rfl rfl ?_
  refine zr_isub d_7_scanDigits_78 ?_
  refine zr_iconst (v := (4 : Int32)) d_7_scanDigits_79 rfl ?_
  refine zr_icmp_le (tgt := 87) d_7_scanDigits_80 rfl (fun hc18 => ?_) (fun hc18 => ?_)
  · replace h := z_ip h hc18
    refine zr_iconst (v := (1 : Int32)) d_7_scanDigits_83 rfl ?_
    refine zr_goto (tgt := 88) d_7_scanDigits_84 rfl ?_
    obtain ⟨rfl, rfl⟩ := Prod.mk.inj (Option.some.inj h)
    exact ze_i d_7_scanDigits_88 rfl
  · replace h := z_im h hc18
    refine zr_iconst (v := (3 : Int32)) d_7_scanDigits_87 rfl ?_
    obtain ⟨rfl, rfl⟩ := Prod.mk.inj (Option.some.inj h)
    exact ze_i d_7_scanDigits_88 rfl
def fj1_canEncode_9a6ad (a0 : Int32) : Int32 :=
  (if a0 < 0 then (0 : Int32) else (if (255 : Int32) < a0 then (0 : Int32) else (1 : Int32)))
theorem sj1_canEncode_9a6ad {P : zP} {μ : zMem} {a0 : Int32} {r : Int32} (h : fj1_canEncode_9a6ad a0 = r) : z_Sp P y_j1_canEncode_9a6ad M_j1_canEncode_9a6ad 1 [zI a0] μ (some (zI r)) μ := by
  refine z_Sp.of (by decide +kernel) rfl (l0 := [some (zI a0)]) rfl (Nat.le_of_ble_eq_true rfl) ?_
  unfold fj1_canEncode_9a6ad at h
  refine zr_iload_n (i := 0) d_j1_canEncode_9a6ad_0 rfl rfl ?_
  refine zr_if_lt (tgt := 15) d_j1_canEncode_9a6ad_1 rfl (fun hc1 => ?_) (fun hc1 => ?_)
  · replace h := z_ip h hc1
    refine zr_iconst (v := (0 : Int32)) d_j1_canEncode_9a6ad_15 rfl ?_
    obtain rfl := h
    exact ze_z d_j1_canEncode_9a6ad_16 rfl rfl
  · replace h := z_im h hc1
    refine zr_iload_n (i := 0) d_j1_canEncode_9a6ad_4 rfl rfl ?_
    refine zr_sipush (v := (255 : Int32)) d_j1_canEncode_9a6ad_5 rfl ?_
    refine zr_icmp_gt (tgt := 15) d_j1_canEncode_9a6ad_8 rfl (fun hc2 => ?_) (fun hc2 => ?_)
    · replace h := z_ip h hc2
      refine zr_iconst (v := (0 : Int32)) d_j1_canEncode_9a6ad_15 rfl ?_
      obtain rfl := h
      exact ze_z d_j1_canEncode_9a6ad_16 rfl rfl
    · replace h := z_im h hc2
      refine zr_iconst (v := (1 : Int32)) d_j1_canEncode_9a6ad_11 rfl ?_
      refine zr_goto (tgt := 16) d_j1_canEncode_9a6ad_12 rfl ?_
      obtain rfl := h
      exact ze_z d_j1_canEncode_9a6ad_16 rfl rfl
def fj1_indexOfChar_4cfef_L1 (o0 : Nat) (a1 : Int32) (a3 : Int32) : (Int32) → Option ((Int32) ⊕ ((Unit) ⊕ (Int32))) := (fun x2 => 
  (if x2 < a3 then if z_b2 o0 = true then if z_in x2 (z_sn o0) = true then (if (z_sb o0 x2.toNatClampNeg) = a1.toInt8.toInt32 then some (.inr (.inr x2)) else some (.inl (x2 + (1 : Int32)))) else none else none else some (.inr (.inl ()))))
def fj1_indexOfChar_4cfef (o0 : Nat) (a1 : Int32) (a2 : Int32) (a3 : Int32) (μ : zMem) : Option (Int32) :=
  (z_it (fj1_indexOfChar_4cfef_L1 o0 a1 a3) z_fu a2).bind (Sum.elim (fun (_ : Unit) => some (-1 : Int32)) (fun qr8 => some qr8))
theorem sj1_indexOfChar_4cfef_L1 {P : zP} {ro : Option zV} {μo : zMem} (o0 : Nat) (a1 : Int32) (a3 : Int32) (μ : zMem) (x2 : Int32) (K : (Int32) ⊕ ((Unit) ⊕ (Int32))) (h : fj1_indexOfChar_4cfef_L1 o0 a1 a3 x2 = some K) (hI : ∀ (y0 : Int32), K = .inl y0 → z_RQ P M_j1_indexOfChar_4cfef (z_rm 1) (z_mq P ro μo) 0 0 7 [some (zA 92 o0), none, none, some (zI a3), some (zI a1.toInt8.toInt32), some (zI y0)] [] μ) (hE : K = .inr (.inl ()) → z_RQ P M_j1_indexOfChar_4cfef (z_rm 1) (z_mq P ro μo) 0 0 31 [none, none, none, none, none, none] [] μ) (hR : ∀ (qr : Int32), K = .inr (.inr qr) → ro = some (zI qr) ∧ μo = μ) : z_RQ P M_j1_indexOfChar_4cfef (z_rm 1) (z_mq P ro μo) 0 0 7 [some (zA 92 o0), none, none, some (zI a3), some (zI a1.toInt8.toInt32), some (zI x2)] [] μ := by
  unfold fj1_indexOfChar_4cfef_L1 at h
  refine zr_iload d_j1_indexOfChar_4cfef_7 rfl ?_
  refine zr_iload_n (i := 3) d_j1_indexOfChar_4cfef_9 rfl rfl ?_
  refine zr_icmp_ge (tgt := 31) d_j1_indexOfChar_4cfef_10 rfl (fun hc3 => ?_) (fun hc3 => ?_)
  · replace h := z_ip h hc3
    refine zr_aload_n (i := 0) d_j1_indexOfChar_4cfef_13 rfl rfl ?_
    refine zr_iload d_j1_indexOfChar_4cfef_14 rfl ?_
    obtain ⟨hb4, h⟩ := z_gd h
    obtain ⟨hb5, h⟩ := z_gd h
    refine zr_ld92 d_j1_indexOfChar_4cfef_16 hb4 hb5 ?_
    refine zr_iload d_j1_indexOfChar_4cfef_17 rfl ?_
    refine zr_icmp_ne (tgt := 25) d_j1_indexOfChar_4cfef_19 rfl (fun hc6 => ?_) (fun hc6 => ?_)
    · replace h := z_ip h hc6
      refine zr_iload d_j1_indexOfChar_4cfef_22 rfl ?_
      obtain rfl := Option.some.inj h
      obtain ⟨rfl, rfl⟩ := hR x2 rfl
      exact ze_i d_j1_indexOfChar_4cfef_24 rfl
    · replace h := z_im h hc6
      refine zr_iinc (v := (x2 + (1 : Int32))) (l' := [some (zA 92 o0), none, none, some (zI a3), some (zI a1.toInt8.toInt32), some (zI (x2 + (1 : Int32)))]) d_j1_indexOfChar_4cfef_25 (by decide) rfl rfl rfl ?_
      refine zr_goto (tgt := 7) d_j1_indexOfChar_4cfef_28 rfl ?_
      obtain rfl := Option.some.inj h
      exact zr_wk2 (hI (x2 + (1 : Int32)) rfl) ⟨rfl, ⟨rfl, ⟨rfl, ⟨rfl, trivial⟩⟩⟩⟩
  · replace h := z_im h hc3
    obtain rfl := Option.some.inj h
    exact zr_wk2 (hE  rfl) trivial
theorem sj1_indexOfChar_4cfef {P : zP} {μ : zMem} {o0 : Nat} {a1 : Int32} {a2 : Int32} {a3 : Int32} {r : Int32} (h : fj1_indexOfChar_4cfef o0 a1 a2 a3 μ = some r) : z_Sp P y_j1_indexOfChar_4cfef M_j1_indexOfChar_4cfef 1 [zA 92 o0, zI a1, zI a2, zI a3] μ (some (zI r)) μ := by
  refine z_Sp.of (by decide +kernel) rfl (l0 := [some (zA 92 o0), some (zI a1), some (zI a2), some (zI a3), none, none]) rfl (Nat.le_of_ble_eq_true rfl) ?_
  unfold fj1_indexOfChar_4cfef at h
  refine zr_iload_n (i := 1) d_j1_indexOfChar_4cfef_0 rfl rfl ?_
  refine zr_i2b d_j1_indexOfChar_4cfef_1 ?_
  refine zr_istore (i := 4) (l' := [some (zA 92 o0), some (zI a1), some (zI a2), some (zI a3), some (zI a1.toInt8.toInt32), none]) d_j1_indexOfChar_4cfef_2 (by decide) rfl ?_
  refine zr_iload_n (i := 2) d_j1_indexOfChar_4cfef_4 rfl rfl ?_
  refine zr_istore (i := 5) (l' := [some (zA 92 o0), some (zI a1), some (zI a2), some (zI a3), some (zI a1.toInt8.toInt32), some (zI a2)]) d_j1_indexOfChar_4cfef_5 (by decide) rfl ?_
  rcases z_bs h with ⟨⟨⟩, hl7, h⟩ | ⟨qr8, hl7, h⟩
  · refine zr_wk (l' := [some (zA 92 o0), none, none, some (zI a3), some (zI a1.toInt8.toInt32), some (zI a2)]) ⟨rfl, ⟨rfl, ⟨rfl, ⟨rfl, trivial⟩⟩⟩⟩ ?_
    refine z_loop (Hd := (fun y0 => z_RQ P M_j1_indexOfChar_4cfef (z_rm 1) (z_mq P (some (zI r)) μ) 0 0 7 [some (zA 92 o0), none, none, some (zI a3), some (zI a1.toInt8.toInt32), some (zI y0)] [] μ)) (Ex := (Sum.elim (fun (_ : Unit) => z_RQ P M_j1_indexOfChar_4cfef (z_rm 1) (z_mq P (some (zI r)) μ) 0 0 31 [none, none, none, none, none, none] [] μ) (fun qr => (some (zI r)) = some (zI qr) ∧ μ = μ))) (fun x2 K h hI hE => sj1_indexOfChar_4cfef_L1 o0 a1 a3 μ x2 K h (fun y0 e => hI y0 e) (fun  e => hE (.inl ()) e) (fun qr e => hE (.inr qr) e)) _ _ _ hl7 ?_
    refine zr_iconst (v := (-1 : Int32)) d_j1_indexOfChar_4cfef_31 rfl ?_
    obtain rfl := Option.some.inj h
    exact ze_i d_j1_indexOfChar_4cfef_32 rfl
  · refine zr_wk (l' := [some (zA 92 o0), none, none, some (zI a3), some (zI a1.toInt8.toInt32), some (zI a2)]) ⟨rfl, ⟨rfl, ⟨rfl, ⟨rfl, trivial⟩⟩⟩⟩ ?_
    refine z_loop (Hd := (fun y0 => z_RQ P M_j1_indexOfChar_4cfef (z_rm 1) (z_mq P (some (zI r)) μ) 0 0 7 [some (zA 92 o0), none, none, some (zI a3), some (zI a1.toInt8.toInt32), some (zI y0)] [] μ)) (Ex := (Sum.elim (fun (_ : Unit) => z_RQ P M_j1_indexOfChar_4cfef (z_rm 1) (z_mq P (some (zI r)) μ) 0 0 31 [none, none, none, none, none, none] [] μ) (fun qr => (some (zI r)) = some (zI qr) ∧ μ = μ))) (fun x2 K h hI hE => sj1_indexOfChar_4cfef_L1 o0 a1 a3 μ x2 K h (fun y0 e => hI y0 e) (fun  e => hE (.inl ()) e) (fun qr e => hE (.inr qr) e)) _ _ _ hl7 ?_
    obtain rfl := Option.some.inj h
    exact ⟨rfl, rfl⟩
def fj1_indexOf_4cfef (o0 : Nat) (a1 : Int32) (a2 : Int32) (a3 : Int32) (μ : zMem) : Option (Int32) :=
  (if (fj1_canEncode_9a6ad a1) = 0 then some (-1 : Int32) else z_let (fj9_max_7cf53 a2 (0 : Int32)) fun v4 => if z_b2 o0 = true then z_let (fj9_min_7cf53 a3 (Int32.ofNat (z_sn o0))) fun v8 => (if v4 < v8 then (fj1_indexOfChar_4cfef o0 a1 v4 v8 μ).bind (fun q11 => some q11) else some (-1 : Int32)) else none)
theorem sj1_indexOf_4cfef {P : zP} {μ : zMem} {o0 : Nat} {a1 : Int32} {a2 : Int32} {a3 : Int32} {r : Int32} (h : fj1_indexOf_4cfef o0 a1 a2 a3 μ = some r) : z_Sp P y_j1_indexOf_4cfef M_j1_indexOf_4cfef 2 [zA 92 o0, zI a1, zI a2, zI a3] μ (some (zI r)) μ := by
  refine z_Sp.of (by decide +kernel) rfl (l0 := [some (zA 92 o0), some (zI a1), some (zI a2), some (zI a3)]) rfl (Nat.le_of_ble_eq_true rfl) ?_
  unfold fj1_indexOf_4cfef at h
  refine zr_iload_n (i := 1) d_j1_indexOf_4cfef_0 rfl rfl ?_
  refine zr_callSi (av := [zI a1]) (st := []) d_j1_indexOf_4cfef_1 mw_j1_canEncode_9a6ad ml_J1_88 is_j1_canEncode_9a6ad rfl rfl (Nat.le_of_ble_eq_true rfl) fit_1_1_2 (sj1_canEncode_9a6ad rfl) ?_
  refine zr_if_ne (tgt := 9) d_j1_indexOf_4cfef_4 rfl (fun hc2 => ?_) (fun hc2 => ?_)
  · replace h := z_ip h hc2
    refine zr_iconst (v := (-1 : Int32)) d_j1_indexOf_4cfef_7 rfl ?_
    obtain rfl := Option.some.inj h
    exact ze_i d_j1_indexOf_4cfef_8 rfl
  · replace h := z_im h hc2
    refine zr_iload_n (i := 2) d_j1_indexOf_4cfef_9 rfl rfl ?_
    refine zr_iconst (v := (0 : Int32)) d_j1_indexOf_4cfef_10 rfl ?_
    refine zr_callSi (av := [zI a2, zI (0 : Int32)]) (st := []) d_j1_indexOf_4cfef_11 mw_j9_max_7cf53 ml_J1_92 is_j9_max_7cf53 rfl rfl (Nat.le_of_ble_eq_true rfl) fit_1_2_2 (sj9_max_7cf53 rfl) ?_
    obtain ⟨v4, hv5, h⟩ := z_lt h
    refine zr_nm hv5 ?_
    refine zr_istore_n (i := 2) (l' := [some (zA 92 o0), some (zI a1), some (zI v4), some (zI a3)]) d_j1_indexOf_4cfef_14 rfl (by decide) rfl ?_
    refine zr_iload_n (i := 3) d_j1_indexOf_4cfef_15 rfl rfl ?_
    refine zr_aload_n (i := 0) d_j1_indexOf_4cfef_16 rfl rfl ?_
    obtain ⟨hb6, h⟩ := z_gd h
    refine zr_al92 d_j1_indexOf_4cfef_17 hb6 ?_
    refine zr_callSi (av := [zI a3, zI (Int32.ofNat (z_sn o0))]) (st := []) d_j1_indexOf_4cfef_18 mw_j9_min_7cf53 ml_J1_38 is_j9_min_7cf53 rfl rfl (Nat.le_of_ble_eq_true rfl) fit_1_2_2 (sj9_min_7cf53 rfl) ?_
    obtain ⟨v8, hv9, h⟩ := z_lt h
    refine zr_nm hv9 ?_
    refine zr_istore_n (i := 3) (l' := [some (zA 92 o0), some (zI a1), some (zI v4), some (zI v8)]) d_j1_indexOf_4cfef_21 rfl (by decide) rfl ?_
    refine zr_iload_n (i := 2) d_j1_indexOf_4cfef_22 rfl rfl ?_
    refine zr_iload_n (i := 3) d_j1_indexOf_4cfef_23 rfl rfl ?_
    refine zr_icmp_lt (tgt := 29) d_j1_indexOf_4cfef_24 rfl (fun hc10 => ?_) (fun hc10 => ?_)
    · replace h := z_ip h hc10
      refine zr_aload_n (i := 0) d_j1_indexOf_4cfef_29 rfl rfl ?_
      refine zr_iload_n (i := 1) d_j1_indexOf_4cfef_30 rfl rfl ?_
      refine zr_iload_n (i := 2) d_j1_indexOf_4cfef_31 rfl rfl ?_
      refine zr_iload_n (i := 3) d_j1_indexOf_4cfef_32 rfl rfl ?_
      obtain ⟨q11, hq12, h⟩ := z_bd h
      refine zr_callSi (av := [zA 92 o0, zI a1, zI v4, zI v8]) (st := []) d_j1_indexOf_4cfef_33 mw_j1_indexOfChar_4cfef ml_J1_95 is_j1_indexOfChar_4cfef rfl rfl (Nat.le_of_ble_eq_true rfl) fit_1_6_2 (sj1_indexOfChar_4cfef hq12) ?_
      obtain rfl := Option.some.inj h
      exact ze_i d_j1_indexOf_4cfef_36 rfl
    · replace h := z_im h hc10
      refine zr_iconst (v := (-1 : Int32)) d_j1_indexOf_4cfef_27 rfl ?_
      obtain rfl := Option.some.inj h
      exact ze_i d_j1_indexOf_4cfef_28 rfl
def fj0_indexOf_7cf53 (o0 : Nat) (a1 : Int32) (a2 : Int32) (μ : zMem) : Option (Int32) :=
  if z_b2 o0 = true then (fj0_isLatin1_aae02 o0 μ).bind (fun q1 => (if q1 = 0 then (fj0_length_8abf5 o0 μ).bind (fun q5 => none) else (fj0_length_8abf5 o0 μ).bind (fun q7 => (fj1_indexOf_4cfef o0 a1 a2 q7 μ).bind (fun q9 => some q9)))) else none
theorem sj0_indexOf_7cf53 {P : zP} {μ : zMem} {o0 : Nat} {a1 : Int32} {a2 : Int32} {r : Int32} (h : fj0_indexOf_7cf53 o0 a1 a2 μ = some r) : z_Sp P y_j0_indexOf_7cf53 M_j0_indexOf_7cf53 3 [zA 91 o0, zI a1, zI a2] μ (some (zI r)) μ := by
  refine z_Sp.of (by decide +kernel) rfl (l0 := [some (zA 91 o0), some (zI a1), some (zI a2)]) rfl (Nat.le_of_ble_eq_true rfl) ?_
  unfold fj0_indexOf_7cf53 at h
  refine zr_aload_n (i := 0) d_j0_indexOf_7cf53_0 rfl rfl ?_
  obtain ⟨hb3, h⟩ := z_gd h
  obtain ⟨q1, hq2, h⟩ := z_bd h
  refine zr_callRi (av := []) (st := []) d_j0_indexOf_7cf53_1 mw_j0_isLatin1_aae02 ml_J0_492 im_j0_isLatin1_aae02 se_j0_isLatin1_aae02 rfl rfl (Nat.le_of_ble_eq_true rfl) fit_1_1_3 rfl hb3 (sj0_isLatin1_aae02 hq2) ?_
  refine zr_if_eq (tgt := 23) d_j0_indexOf_7cf53_4 rfl (fun hc4 => ?_) (fun hc4 => ?_)
  · replace h := z_ip h hc4
    refine zr_aload_n (i := 0) d_j0_indexOf_7cf53_23 rfl rfl ?_
    refine zr_gva d_j0_indexOf_7cf53_24 fw_J0_9 hb3 ?_
    refine zr_iload_n (i := 1) d_j0_indexOf_7cf53_27 rfl rfl ?_
    refine zr_iload_n (i := 2) d_j0_indexOf_7cf53_28 rfl rfl ?_
    refine zr_aload_n (i := 0) d_j0_indexOf_7cf53_29 rfl rfl ?_
    obtain ⟨q5, hq6, h⟩ := z_bd h
    refine zr_callRi (av := []) (st := [zI a2, zI a1, zA 92 o0]) d_j0_indexOf_7cf53_30 mw_j0_length_8abf5 ml_J0_505 im_j0_length_8abf5 se_j0_length_8abf5 rfl rfl (Nat.le_of_ble_eq_true rfl) fit_2_1_3 rfl hb3 (sj0_length_8abf5 hq6) ?_
    cases h
  · replace h := z_im h hc4
    refine zr_aload_n (i := 0) d_j0_indexOf_7cf53_7 rfl rfl ?_
    refine zr_gva d_j0_indexOf_7cf53_8 fw_J0_9 hb3 ?_
    refine zr_iload_n (i := 1) d_j0_indexOf_7cf53_11 rfl rfl ?_
    refine zr_iload_n (i := 2) d_j0_indexOf_7cf53_12 rfl rfl ?_
    refine zr_aload_n (i := 0) d_j0_indexOf_7cf53_13 rfl rfl ?_
    obtain ⟨q7, hq8, h⟩ := z_bd h
    refine zr_callRi (av := []) (st := [zI a2, zI a1, zA 92 o0]) d_j0_indexOf_7cf53_14 mw_j0_length_8abf5 ml_J0_505 im_j0_length_8abf5 se_j0_length_8abf5 rfl rfl (Nat.le_of_ble_eq_true rfl) fit_2_1_3 rfl hb3 (sj0_length_8abf5 hq8) ?_
    obtain ⟨q9, hq10, h⟩ := z_bd h
    refine zr_callSi (av := [zA 92 o0, zI a1, zI a2, zI q7]) (st := []) d_j0_indexOf_7cf53_17 mw_j1_indexOf_4cfef ml_J0_637 is_j1_indexOf_4cfef rfl rfl (Nat.le_of_ble_eq_true rfl) fit_2_4_3 (sj1_indexOf_4cfef hq10) ?_
    refine zr_goto (tgt := 36) d_j0_indexOf_7cf53_20 rfl ?_
    obtain rfl := Option.some.inj h
    exact ze_i d_j0_indexOf_7cf53_36 rfl
def fj0_indexOf_0f7a4 (o0 : Nat) (a1 : Int32) (μ : zMem) : Option (Int32) :=
  if z_b2 o0 = true then (fj0_indexOf_7cf53 o0 a1 (0 : Int32) μ).bind (fun q1 => some q1) else none
theorem sj0_indexOf_0f7a4 {P : zP} {μ : zMem} {o0 : Nat} {a1 : Int32} {r : Int32} (h : fj0_indexOf_0f7a4 o0 a1 μ = some r) : z_Sp P y_j0_indexOf_0f7a4 M_j0_indexOf_0f7a4 4 [zA 91 o0, zI a1] μ (some (zI r)) μ := by
  refine z_Sp.of (by decide +kernel) rfl (l0 := [some (zA 91 o0), some (zI a1)]) rfl (Nat.le_of_ble_eq_true rfl) ?_
  unfold fj0_indexOf_0f7a4 at h
  refine zr_aload_n (i := 0) d_j0_indexOf_0f7a4_0 rfl rfl ?_
  refine zr_iload_n (i := 1) d_j0_indexOf_0f7a4_1 rfl rfl ?_
  refine zr_iconst (v := (0 : Int32)) d_j0_indexOf_0f7a4_2 rfl ?_
  obtain ⟨hb3, h⟩ := z_gd h
  obtain ⟨q1, hq2, h⟩ := z_bd h
  refine zr_callRi (av := [zI a1, zI (0 : Int32)]) (st := []) d_j0_indexOf_0f7a4_3 mw_j0_indexOf_7cf53 ml_J0_633 im_j0_indexOf_7cf53 se_j0_indexOf_7cf53 rfl rfl (Nat.le_of_ble_eq_true rfl) fit_3_3_4 rfl hb3 (sj0_indexOf_7cf53 hq2) ?_
  obtain rfl := Option.some.inj h
  exact ze_i d_j0_indexOf_0f7a4_6 rfl
def f7_scanToken (a1 : Int32) (μ : zMem) : Option (Int32 × zMem) :=
  if z_in (μ.1 7 0 5) (z_len 34 (μ.2.2 7 0 3)) = true then z_let (μ.1 34 (μ.2.2 7 0 3) (μ.1 7 0 5).toNatClampNeg) fun v2 => (if (f7_isLetter v2) = 0 then (if (f7_isDigit v2) = 0 then z_let (z_sI μ 7 0 5 ((μ.1 7 0 5) + (1 : Int32))) fun m8 => (fj0_indexOf_0f7a4 1 (((v2 &&& (255 : Int32)).toUInt32 % 65536).toInt32) m8).bind (fun q10 => (if q10 < 0 then some ((1 : Int32), m8) else some (v2, m8))) else (f7_scanDigits a1 μ).bind (z_u2 fun q13 qm14 => some (q13, qm14))) else (f7_scanLetters a1 μ).bind (z_u2 fun q16 qm17 => some (q16, qm17))) else none
theorem s7_scanToken {P : zP} {μ : zMem} {a1 : Int32} {r : Int32} {μ' : zMem} (h : f7_scanToken a1 μ = some (r, μ')) : z_Sp P y_7_scanToken M_7_scanToken 8 [zA 7 0, zI a1] μ (some (zI r)) μ' := by
  refine z_Sp.of (plainFor_of_name (by decide)) rfl (l0 := [some (zA 7 0), some (zI a1), none]) rfl (Nat.le_of_ble_eq_true rfl) ?_
  unfold f7_scanToken at h
  refine zr_aload_n (i := 0) d_7_scanToken_0 rfl rfl ?_
  refine zr_getd d_7_scanToken_1 fw_7_20 ?_
  refine zr_aload_n (i := 0) d_7_scanToken_4 rfl rfl ?_
  refine zr_geti d_7_scanToken_5 fw_7_28 (by decide) ?_
  obtain ⟨hb1, h⟩ := z_gd h
  refine zr_bald d_7_scanToken_8 sa_34 rfl hb1 ?_
  obtain ⟨v2, hv3, h⟩ := z_lt h
  refine zr_nm hv3 ?_
  refine zr_istore_n (i := 2) (l' := [some (zA 7 0), some (zI a1), some (zI v2)]) d_7_scanToken_9 rfl (by decide) rfl ?_
  refine zr_iload_n (i := 2) d_7_scanToken_10 rfl rfl ?_
  refine zr_callSi (av := [zI v2]) (st := []) d_7_scanToken_11 mw_7_isLetter ml_7_48 is_7_isLetter rfl rfl (Nat.le_of_ble_eq_true rfl) fit_1_1_8 (s7_isLetter rfl) ?_
  refine zr_if_eq (tgt := 23) d_7_scanToken_14 rfl (fun hc5 => ?_) (fun hc5 => ?_)
  · replace h := z_ip h hc5
    refine zr_iload_n (i := 2) d_7_scanToken_23 rfl rfl ?_
    refine zr_callSi (av := [zI v2]) (st := []) d_7_scanToken_24 mw_7_isDigit ml_7_54 is_7_isDigit rfl rfl (Nat.le_of_ble_eq_true rfl) fit_1_1_8 (s7_isDigit rfl) ?_
    refine zr_if_eq (tgt := 36) d_7_scanToken_27 rfl (fun hc7 => ?_) (fun hc7 => ?_)
    · replace h := z_ip h hc7
      refine zr_aload_n (i := 0) d_7_scanToken_36 rfl rfl ?_
      refine zr_dupa d_7_scanToken_37 ?_
      refine zr_geti d_7_scanToken_38 fw_7_28 (by decide) ?_
      refine zr_iconst (v := (1 : Int32)) d_7_scanToken_41 rfl ?_
      refine zr_iadd d_7_scanToken_42 ?_
      obtain ⟨m8, hm9, h⟩ := z_lt h
      refine zr_puti d_7_scanToken_43 fw_7_28 pw_7_5 hm9 ?_
      refine zr_ldcG d_7_scanToken_46 rfl ?_
      refine zr_iload_n (i := 2) d_7_scanToken_48 rfl rfl ?_
      refine zr_sipush (v := (255 : Int32)) d_7_scanToken_49 rfl ?_
      refine zr_iand d_7_scanToken_52 ?_
      refine zr_i2c d_7_scanToken_53 ?_
      obtain ⟨q10, hq11, h⟩ := z_bd h
      refine zr_callRi (av := [zI ((v2 &&& (255 : Int32)).toUInt32 % 65536).toInt32]) (st := []) d_7_scanToken_54 mw_j0_indexOf_0f7a4 ml_7_62 im_j0_indexOf_0f7a4 se_j0_indexOf_0f7a4 rfl rfl (Nat.le_of_ble_eq_true rfl) fit_4_2_8 rfl rfl (sj0_indexOf_0f7a4 hq11) ?_
      refine zr_if_lt (tgt := 64) d_7_scanToken_57 rfl (fun hc12 => ?_) (fun hc12 => ?_)
      · replace h := z_ip h hc12
        refine zr_iconst (v := (1 : Int32)) d_7_scanToken_64 rfl ?_
        obtain ⟨rfl, rfl⟩ := Prod.mk.inj (Option.some.inj h)
        exact ze_i d_7_scanToken_65 rfl
      · replace h := z_im h hc12
        refine zr_iload_n (i := 2) d_7_scanToken_60 rfl rfl ?_
        refine zr_goto (tgt := 65) d_7_scanToken_61 rfl ?_
        obtain ⟨rfl, rfl⟩ := Prod.mk.inj (Option.some.inj h)
        exact ze_i d_7_scanToken_65 rfl
    · replace h := z_im h hc7
      refine zr_aload_n (i := 0) d_7_scanToken_30 rfl rfl ?_
      refine zr_iload_n (i := 1) d_7_scanToken_31 rfl rfl ?_
      obtain ⟨⟨q13, qm14⟩, hq15, h⟩ := z_bd h
      replace h := z_h2 h
      refine zr_callVi (av := [zI a1]) (st := []) d_7_scanToken_32 mw_7_scanDigits ml_7_57 im_7_scanDigits se_7_scanDigits rfl rfl (Nat.le_of_ble_eq_true rfl) fit_2_5_8 rfl rfl rfl (s7_scanDigits hq15) ?_
      obtain ⟨rfl, rfl⟩ := Prod.mk.inj (Option.some.inj h)
      exact ze_i d_7_scanToken_35 rfl
  · replace h := z_im h hc5
    refine zr_aload_n (i := 0) d_7_scanToken_17 rfl rfl ?_
    refine zr_iload_n (i := 1) d_7_scanToken_18 rfl rfl ?_
    obtain ⟨⟨q16, qm17⟩, hq18, h⟩ := z_bd h
    replace h := z_h2 h
    refine zr_callVi (av := [zI a1]) (st := []) d_7_scanToken_19 mw_7_scanLetters ml_7_51 im_7_scanLetters se_7_scanLetters rfl rfl (Nat.le_of_ble_eq_true rfl) fit_7_5_8 rfl rfl rfl (s7_scanLetters hq18) ?_
    obtain ⟨rfl, rfl⟩ := Prod.mk.inj (Option.some.inj h)
    exact ze_i d_7_scanToken_22 rfl
def f7_scan_L8  : (Int32 × zMem) → Option ((Int32 × zMem) ⊕ (zMem)) := (z_u2 fun x9 xm10 => 
  (if (400 : Int32) < x9 then some (.inr xm10) else (f7_skipBlanks xm10).bind (fun qm12 => if z_in x9 401 = true then z_let (z_sI qm12 32 0 x9.toNatClampNeg (qm12.1 7 0 5)) fun m14 => ((if (m14.1 7 0 5) < (m14.1 7 0 4) then (f7_scanToken x9 m14).bind (z_u2 fun q20 qm21 => some (q20, qm21)) else some ((0 : Int32), m14)) : Option (Int32 × zMem)).bind (z_u2 fun j23 jm24 => z_let (z_sI jm24 31 0 x9.toNatClampNeg j23) fun m25 => some (.inl ((x9 + (1 : Int32)), m25))) else none)))
def f7_scan (o1 : Nat) (a2 : Int32) (μ : zMem) : Option (zMem) :=
  z_let (z_sR μ 7 0 3 o1) fun m1 => z_let (z_sI m1 7 0 4 (fj9_min_7cf53 a2 (Int32.ofNat (z_len 34 (m1.2.2 7 0 3))))) fun m4 => z_let (z_sI m4 7 0 5 (0 : Int32)) fun m6 => (z_it (f7_scan_L8) z_fu ((0 : Int32), m6)).bind (fun e27 => some e27)
theorem s7_scan_L8 {P : zP} {ro : Option zV} {μo : zMem}  (x9 : Int32) (xm10 : zMem) (K : (Int32 × zMem) ⊕ (zMem)) (h : f7_scan_L8  (x9, xm10) = some K) (hI : ∀ (y0 : Int32) (y1 : zMem), K = .inl (y0, y1) → z_RQ P M_7_scan (z_rm 9) (z_mq P ro μo) 0 0 25 [some (zA 7 0), none, none, some (zI y0)] [] y1) (hE : ∀ (z0 : zMem), K = .inr z0 → z_RQ P M_7_scan (z_rm 9) (z_mq P ro μo) 0 0 78 [none, none, none, none] [] z0)  : z_RQ P M_7_scan (z_rm 9) (z_mq P ro μo) 0 0 25 [some (zA 7 0), none, none, some (zI x9)] [] xm10 := by
  unfold f7_scan_L8 at h
  replace h := z_h2 h
  refine zr_iload_n (i := 3) d_7_scan_25 rfl rfl ?_
  refine zr_sipush (v := (400 : Int32)) d_7_scan_26 rfl ?_
  refine zr_icmp_gt (tgt := 78) d_7_scan_29 rfl (fun hc11 => ?_) (fun hc11 => ?_)
  · replace h := z_ip h hc11
    obtain rfl := Option.some.inj h
    exact zr_wk2 (hE xm10 rfl) trivial
  · replace h := z_im h hc11
    refine zr_aload_n (i := 0) d_7_scan_32 rfl rfl ?_
    obtain ⟨qm12, hq13, h⟩ := z_bd h
    refine zr_callVv (av := []) (st := []) d_7_scan_33 mw_7_skipBlanks ml_7_37 im_7_skipBlanks se_7_skipBlanks rfl rfl (Nat.le_of_ble_eq_true rfl) fit_2_1_9 rfl rfl rfl (s7_skipBlanks hq13) ?_
    refine zr_aload_n (i := 0) d_7_scan_36 rfl rfl ?_
    refine zr_gets (i' := 0) d_7_scan_37 fw_7_13 rfl ?_
    refine zr_iload_n (i := 3) d_7_scan_40 rfl rfl ?_
    refine zr_aload_n (i := 0) d_7_scan_41 rfl rfl ?_
    refine zr_geti d_7_scan_42 fw_7_28 (by decide) ?_
    obtain ⟨hb16, h⟩ := z_gd h
    obtain ⟨m14, hm15, h⟩ := z_lt h
    refine zr_iast d_7_scan_45 sa_32 rfl hb16 hm15 ?_
    refine zr_aload_n (i := 0) d_7_scan_46 rfl rfl ?_
    refine zr_gets (i' := 0) d_7_scan_47 fw_7_9 rfl ?_
    refine zr_iload_n (i := 3) d_7_scan_50 rfl rfl ?_
    refine zr_aload_n (i := 0) d_7_scan_51 rfl rfl ?_
    refine zr_geti d_7_scan_52 fw_7_28 (by decide) ?_
    refine zr_aload_n (i := 0) d_7_scan_55 rfl rfl ?_
    refine zr_geti d_7_scan_56 fw_7_24 (by decide) ?_
    obtain ⟨⟨j23, jm24⟩, hT17, h⟩ := z_bd h
    replace h := z_h2 h
    have hJ18 : z_RQ P M_7_scan (z_rm 9) (z_mq P ro μo) 0 0 71 [some (zA 7 0), none, none, some (zI x9)] [zI j23, zI x9, zA 31 0] jm24 := by
      obtain ⟨m25, hm26, h⟩ := z_lt h
      refine zr_iast d_7_scan_71 sa_31 rfl hb16 hm26 ?_
      refine zr_iinc (v := (x9 + (1 : Int32))) (l' := [some (zA 7 0), none, none, some (zI (x9 + (1 : Int32)))]) d_7_scan_72 (by decide) rfl rfl rfl ?_
      refine zr_goto (tgt := 25) d_7_scan_75 rfl ?_
      obtain rfl := Option.some.inj h
      exact zr_wk2 (hI (x9 + (1 : Int32)) m25 rfl) ⟨rfl, ⟨rfl, trivial⟩⟩
    refine zr_icmp_ge (tgt := 70) d_7_scan_59 rfl (fun hc19 => ?_) (fun hc19 => ?_)
    · replace hT17 := z_ip hT17 hc19
      refine zr_aload_n (i := 0) d_7_scan_62 rfl rfl ?_
      refine zr_iload_n (i := 3) d_7_scan_63 rfl rfl ?_
      obtain ⟨⟨q20, qm21⟩, hq22, hT17⟩ := z_bd hT17
      replace hT17 := z_h2 hT17
      refine zr_callVi (av := [zI x9]) (st := [zI x9, zA 31 0]) d_7_scan_64 mw_7_scanToken ml_7_40 im_7_scanToken se_7_scanToken rfl rfl (Nat.le_of_ble_eq_true rfl) fit_8_3_9 rfl rfl rfl (s7_scanToken hq22) ?_
      refine zr_goto (tgt := 71) d_7_scan_67 rfl ?_
      obtain ⟨rfl, rfl⟩ := z_i2 (Option.some.inj hT17)
      exact zr_wk2 hJ18 ⟨rfl, ⟨rfl, trivial⟩⟩
    · replace hT17 := z_im hT17 hc19
      refine zr_iconst (v := (0 : Int32)) d_7_scan_70 rfl ?_
      obtain ⟨rfl, rfl⟩ := z_i2 (Option.some.inj hT17)
      exact zr_wk2 hJ18 ⟨rfl, ⟨rfl, trivial⟩⟩
theorem s7_scan {P : zP} {μ : zMem} {o1 : Nat} {a2 : Int32} {μ' : zMem} (h : f7_scan o1 a2 μ = some μ') : z_Sp P y_7_scan M_7_scan 9 [zA 7 0, zA 34 o1, zI a2] μ none μ' := by
  refine z_Sp.of (plainFor_of_name (by decide)) rfl (l0 := [some (zA 7 0), some (zA 34 o1), some (zI a2), none]) rfl (Nat.le_of_ble_eq_true rfl) ?_
  unfold f7_scan at h
  refine zr_aload_n (i := 0) d_7_scan_0 rfl rfl ?_
  refine zr_aload_n (i := 1) d_7_scan_1 rfl rfl ?_
  obtain ⟨m1, hm2, h⟩ := z_lt h
  refine zr_putd d_7_scan_2 fw_7_20 pw_7_3 (fun _ => ⟨rfl, rfl⟩) (by decide) hm2 ?_
  refine zr_aload_n (i := 0) d_7_scan_5 rfl rfl ?_
  refine zr_iload_n (i := 2) d_7_scan_6 rfl rfl ?_
  refine zr_aload_n (i := 0) d_7_scan_7 rfl rfl ?_
  refine zr_getd d_7_scan_8 fw_7_20 ?_
  refine zr_alen (n := (z_len 34 (m1.2.2 7 0 3))) d_7_scan_11 sa_34 (by decide) rfl ?_
  refine zr_callSi (av := [zI a2, zI (Int32.ofNat (z_len 34 (m1.2.2 7 0 3)))]) (st := [zA 7 0]) d_7_scan_12 mw_j9_min_7cf53 ml_7_31 is_j9_min_7cf53 rfl rfl (Nat.le_of_ble_eq_true rfl) fit_1_2_9 (sj9_min_7cf53 rfl) ?_
  obtain ⟨m4, hm5, h⟩ := z_lt h
  refine zr_puti d_7_scan_15 fw_7_24 pw_7_4 hm5 ?_
  refine zr_aload_n (i := 0) d_7_scan_18 rfl rfl ?_
  refine zr_iconst (v := (0 : Int32)) d_7_scan_19 rfl ?_
  obtain ⟨m6, hm7, h⟩ := z_lt h
  refine zr_puti d_7_scan_20 fw_7_28 pw_7_5 hm7 ?_
  refine zr_iconst (v := (0 : Int32)) d_7_scan_23 rfl ?_
  refine zr_istore_n (i := 3) (l' := [some (zA 7 0), some (zA 34 o1), some (zI a2), some (zI (0 : Int32))]) d_7_scan_24 rfl (by decide) rfl ?_
  obtain ⟨e27, hl28, h⟩ := z_bd h
  refine zr_wk (l' := [some (zA 7 0), none, none, some (zI (0 : Int32))]) ⟨rfl, ⟨rfl, trivial⟩⟩ ?_
  refine z_loop (Hd := (z_u2 fun y0 y1 => z_RQ P M_7_scan (z_rm 9) (z_mq P none μ') 0 0 25 [some (zA 7 0), none, none, some (zI y0)] [] y1)) (Ex := (fun z0 => z_RQ P M_7_scan (z_rm 9) (z_mq P none μ') 0 0 78 [none, none, none, none] [] z0)) (fun ⟨x9, xm10⟩ K h hI hE => s7_scan_L8  x9 xm10 K h (fun y0 y1 e => hI (y0, y1) e) (fun z0 e => hE z0 e) ) _ _ _ hl28 ?_
  obtain rfl := Option.some.inj h
  exact ze_v d_7_scan_78 rfl
def f4_begin  (μ : zMem) : Option (zMem) :=
  (f6_empty (μ.2.2 4 0 3) μ).bind (fun qm1 => z_let (z_sI qm1 4 0 4 (0 : Int32)) fun m3 => z_let (z_sI m3 4 0 5 (0 : Int32)) fun m5 => z_let (z_sI m5 4 0 6 (0 : Int32)) fun m7 => z_let (z_sI m7 4 0 7 (0 : Int32)) fun m9 => z_let (z_sI m9 4 0 9 (0 : Int32)) fun m11 => z_let (z_sI m11 4 0 10 (-1 : Int32)) fun m13 => some m13)
theorem s4_begin {P : zP} {μ : zMem} {μ' : zMem} (h : f4_begin μ = some μ') : z_Sp P y_4_begin M_4_begin 3 [zA 4 0] μ none μ' := by
  refine z_Sp.of (plainFor_of_name (by decide)) rfl (l0 := [some (zA 4 0)]) rfl (Nat.le_of_ble_eq_true rfl) ?_
  unfold f4_begin at h
  refine zr_aload_n (i := 0) d_4_begin_0 rfl rfl ?_
  refine zr_getd d_4_begin_1 fw_4_28 ?_
  obtain ⟨qm1, hq2, h⟩ := z_bd h
  refine zr_callVv (av := []) (st := []) d_4_begin_4 mw_6_empty ml_4_89 im_6_empty se_6_empty rfl rfl (Nat.le_of_ble_eq_true rfl) fit_2_2_3 rfl rfl rfl (s6_empty hq2) ?_
  refine zr_aload_n (i := 0) d_4_begin_7 rfl rfl ?_
  refine zr_iconst (v := (0 : Int32)) d_4_begin_8 rfl ?_
  obtain ⟨m3, hm4, h⟩ := z_lt h
  refine zr_puti d_4_begin_9 fw_4_32 pw_4_4 hm4 ?_
  refine zr_aload_n (i := 0) d_4_begin_12 rfl rfl ?_
  refine zr_iconst (v := (0 : Int32)) d_4_begin_13 rfl ?_
  obtain ⟨m5, hm6, h⟩ := z_lt h
  refine zr_puti d_4_begin_14 fw_4_36 pw_4_5 hm6 ?_
  refine zr_aload_n (i := 0) d_4_begin_17 rfl rfl ?_
  refine zr_iconst (v := (0 : Int32)) d_4_begin_18 rfl ?_
  obtain ⟨m7, hm8, h⟩ := z_lt h
  refine zr_puti d_4_begin_19 fw_4_39 pw_4_6 hm8 ?_
  refine zr_aload_n (i := 0) d_4_begin_22 rfl rfl ?_
  refine zr_iconst (v := (0 : Int32)) d_4_begin_23 rfl ?_
  obtain ⟨m9, hm10, h⟩ := z_lt h
  refine zr_puti d_4_begin_24 fw_4_42 pw_4_7 hm10 ?_
  refine zr_aload_n (i := 0) d_4_begin_27 rfl rfl ?_
  refine zr_iconst (v := (0 : Int32)) d_4_begin_28 rfl ?_
  obtain ⟨m11, hm12, h⟩ := z_lt h
  refine zr_puti d_4_begin_29 fw_4_48 pw_4_9 hm12 ?_
  refine zr_aload_n (i := 0) d_4_begin_32 rfl rfl ?_
  refine zr_iconst (v := (-1 : Int32)) d_4_begin_33 rfl ?_
  obtain ⟨m13, hm14, h⟩ := z_lt h
  refine zr_puti d_4_begin_34 fw_4_51 pw_4_10 hm14 ?_
  obtain rfl := Option.some.inj h
  exact ze_v d_4_begin_37 rfl
def f4_kind  (μ : zMem) : Option (Int32) :=
  if z_in (μ.1 4 0 4) 401 = true then some (μ.1 31 0 (μ.1 4 0 4).toNatClampNeg) else none
theorem s4_kind {P : zP} {μ : zMem} {r : Int32} (h : f4_kind μ = some r) : z_Sp P y_4_kind M_4_kind 1 [zA 4 0] μ (some (zI r)) μ := by
  refine z_Sp.of (plainFor_of_name (by decide)) rfl (l0 := [some (zA 4 0)]) rfl (Nat.le_of_ble_eq_true rfl) ?_
  unfold f4_kind at h
  refine zr_aload_n (i := 0) d_4_kind_0 rfl rfl ?_
  refine zr_gets (i' := 0) d_4_kind_1 fw_4_12 rfl ?_
  refine zr_gets (i' := 0) d_4_kind_4 fw_4_169 rfl ?_
  refine zr_aload_n (i := 0) d_4_kind_7 rfl rfl ?_
  refine zr_geti d_4_kind_8 fw_4_32 (by decide) ?_
  obtain ⟨hb1, h⟩ := z_gd h
  refine zr_iald d_4_kind_11 sa_31 rfl hb1 ?_
  obtain rfl := Option.some.inj h
  exact ze_i d_4_kind_12 rfl
def f4_refuse (a1 : Int32) (μ : zMem) : Int32 × zMem :=
  z_let (z_sI μ 4 0 7 a1) fun m1 => ((0 : Int32), m1)
theorem s4_refuse {P : zP} {μ : zMem} {a1 : Int32} {r : Int32} {μ' : zMem} (h : f4_refuse a1 μ = (r, μ')) : z_Sp P y_4_refuse M_4_refuse 1 [zA 4 0, zI a1] μ (some (zI r)) μ' := by
  refine z_Sp.of (plainFor_of_name (by decide)) rfl (l0 := [some (zA 4 0), some (zI a1)]) rfl (Nat.le_of_ble_eq_true rfl) ?_
  unfold f4_refuse at h
  refine zr_aload_n (i := 0) d_4_refuse_0 rfl rfl ?_
  refine zr_iload_n (i := 1) d_4_refuse_1 rfl rfl ?_
  obtain ⟨m1, hm2, h⟩ := z_lt h
  refine zr_puti d_4_refuse_2 fw_4_42 pw_4_7 hm2 ?_
  refine zr_iconst (v := (0 : Int32)) d_4_refuse_5 rfl ?_
  obtain ⟨rfl, rfl⟩ := Prod.mk.inj h
  exact ze_z d_4_refuse_6 rfl rfl
def f4_take (a1 : Int32) (μ : zMem) : Option (Int32 × zMem) :=
  if z_in (μ.1 4 0 4) 401 = true then ((if (μ.1 31 0 (μ.1 4 0 4).toNatClampNeg) = a1 then (if (μ.1 4 0 4) < (400 : Int32) then z_let (z_sI μ 4 0 4 ((μ.1 4 0 4) + (1 : Int32))) fun m6 => some m6 else z_let (z_sI μ 4 0 7 (2 : Int32)) fun m8 => some m8) else z_let (z_sI μ 4 0 7 (1 : Int32)) fun m10 => some m10) : Option (zMem)).bind (fun jm12 => (if (jm12.1 4 0 7) = 0 then some ((1 : Int32), jm12) else some ((0 : Int32), jm12))) else none
theorem s4_take {P : zP} {μ : zMem} {a1 : Int32} {r : Int32} {μ' : zMem} (h : f4_take a1 μ = some (r, μ')) : z_Sp P y_4_take M_4_take 1 [zA 4 0, zI a1] μ (some (zI r)) μ' := by
  refine z_Sp.of (plainFor_of_name (by decide)) rfl (l0 := [some (zA 4 0), some (zI a1)]) rfl (Nat.le_of_ble_eq_true rfl) ?_
  unfold f4_take at h
  refine zr_aload_n (i := 0) d_4_take_0 rfl rfl ?_
  refine zr_gets (i' := 0) d_4_take_1 fw_4_12 rfl ?_
  refine zr_gets (i' := 0) d_4_take_4 fw_4_169 rfl ?_
  refine zr_aload_n (i := 0) d_4_take_7 rfl rfl ?_
  refine zr_geti d_4_take_8 fw_4_32 (by decide) ?_
  obtain ⟨hb1, h⟩ := z_gd h
  refine zr_iald d_4_take_11 sa_31 rfl hb1 ?_
  refine zr_iload_n (i := 1) d_4_take_12 rfl rfl ?_
  obtain ⟨jm12, hT2, h⟩ := z_bd h
  have hJ3 : z_RQ P M_4_take (z_rm 1) (z_mq P (some (zI r)) μ') 0 0 52 [some (zA 4 0), none] [] jm12 := by
    refine zr_aload_n (i := 0) d_4_take_52 rfl rfl ?_
    refine zr_geti d_4_take_53 fw_4_42 (by decide) ?_
    refine zr_if_ne (tgt := 63) d_4_take_56 rfl (fun hc13 => ?_) (fun hc13 => ?_)
    · replace h := z_ip h hc13
      refine zr_iconst (v := (1 : Int32)) d_4_take_59 rfl ?_
      refine zr_goto (tgt := 64) d_4_take_60 rfl ?_
      obtain ⟨rfl, rfl⟩ := Prod.mk.inj (Option.some.inj h)
      exact ze_z d_4_take_64 rfl rfl
    · replace h := z_im h hc13
      refine zr_iconst (v := (0 : Int32)) d_4_take_63 rfl ?_
      obtain ⟨rfl, rfl⟩ := Prod.mk.inj (Option.some.inj h)
      exact ze_z d_4_take_64 rfl rfl
  refine zr_icmp_eq (tgt := 24) d_4_take_13 rfl (fun hc4 => ?_) (fun hc4 => ?_)
  · replace hT2 := z_ip hT2 hc4
    refine zr_aload_n (i := 0) d_4_take_24 rfl rfl ?_
    refine zr_geti d_4_take_25 fw_4_32 (by decide) ?_
    refine zr_sipush (v := (400 : Int32)) d_4_take_28 rfl ?_
    refine zr_icmp_lt (tgt := 42) d_4_take_31 rfl (fun hc5 => ?_) (fun hc5 => ?_)
    · replace hT2 := z_ip hT2 hc5
      refine zr_aload_n (i := 0) d_4_take_42 rfl rfl ?_
      refine zr_dupa d_4_take_43 ?_
      refine zr_geti d_4_take_44 fw_4_32 (by decide) ?_
      refine zr_iconst (v := (1 : Int32)) d_4_take_47 rfl ?_
      refine zr_iadd d_4_take_48 ?_
      obtain ⟨m6, hm7, hT2⟩ := z_lt hT2
      refine zr_puti d_4_take_49 fw_4_32 pw_4_4 hm7 ?_
      obtain rfl := Option.some.inj hT2
      exact zr_wk2 hJ3 ⟨rfl, trivial⟩
    · replace hT2 := z_im hT2 hc5
      refine zr_aload_n (i := 0) d_4_take_34 rfl rfl ?_
      refine zr_iconst (v := (2 : Int32)) d_4_take_35 rfl ?_
      obtain ⟨m8, hm9, hT2⟩ := z_lt hT2
      refine zr_puti d_4_take_36 fw_4_42 pw_4_7 hm9 ?_
      refine zr_goto (tgt := 52) d_4_take_39 rfl ?_
      obtain rfl := Option.some.inj hT2
      exact zr_wk2 hJ3 ⟨rfl, trivial⟩
  · replace hT2 := z_im hT2 hc4
    refine zr_aload_n (i := 0) d_4_take_16 rfl rfl ?_
    refine zr_iconst (v := (1 : Int32)) d_4_take_17 rfl ?_
    obtain ⟨m10, hm11, hT2⟩ := z_lt hT2
    refine zr_puti d_4_take_18 fw_4_42 pw_4_7 hm11 ?_
    refine zr_goto (tgt := 52) d_4_take_21 rfl ?_
    obtain rfl := Option.some.inj hT2
    exact zr_wk2 hJ3 ⟨rfl, trivial⟩
def f4_value  (μ : zMem) : Option (Int64) :=
  if z_in (μ.1 4 0 4) 401 = true then some (μ.2.1 33 0 (μ.1 4 0 4).toNatClampNeg) else none
theorem s4_value {P : zP} {μ : zMem} {r : Int64} (h : f4_value μ = some r) : z_Sp P y_4_value M_4_value 1 [zA 4 0] μ (some (zL r)) μ := by
  refine z_Sp.of (plainFor_of_name (by decide)) rfl (l0 := [some (zA 4 0)]) rfl (Nat.le_of_ble_eq_true rfl) ?_
  unfold f4_value at h
  refine zr_aload_n (i := 0) d_4_value_0 rfl rfl ?_
  refine zr_gets (i' := 0) d_4_value_1 fw_4_12 rfl ?_
  refine zr_gets (i' := 0) d_4_value_4 fw_4_172 rfl ?_
  refine zr_aload_n (i := 0) d_4_value_7 rfl rfl ?_
  refine zr_geti d_4_value_8 fw_4_32 (by decide) ?_
  obtain ⟨hb1, h⟩ := z_gd h
  refine zr_lald d_4_value_11 sa_33 rfl hb1 ?_
  obtain rfl := Option.some.inj h
  exact ze_l d_4_value_12 rfl
def f4_findName_L1 (o1 : Nat) (a2 : Int32) (μ : zMem) : (Int32) → Option ((Int32) ⊕ ((Unit) ⊕ (Int32))) := (fun x2 => 
  (if x2 < a2 then (if x2 < (Int32.ofNat (z_len 21 o1)) then if z_in x2 (z_len 21 o1) = true then (f4_value μ).bind (fun q6 => (if (lg_cmp (μ.2.1 21 o1 x2.toNatClampNeg) q6) = 0 then some (.inr (.inr x2)) else some (.inl (x2 + (1 : Int32))))) else none else some (.inr (.inl ()))) else some (.inr (.inl ()))))
def f4_findName (o1 : Nat) (a2 : Int32) (μ : zMem) : Option (Int32) :=
  (z_it (f4_findName_L1 o1 a2 μ) z_fu (0 : Int32)).bind (Sum.elim (fun (_ : Unit) => some (-1 : Int32)) (fun qr10 => some qr10))
theorem s4_findName_L1 {P : zP} {ro : Option zV} {μo : zMem} (o1 : Nat) (a2 : Int32) (μ : zMem) (x2 : Int32) (K : (Int32) ⊕ ((Unit) ⊕ (Int32))) (h : f4_findName_L1 o1 a2 μ x2 = some K) (hI : ∀ (y0 : Int32), K = .inl y0 → z_RQ P M_4_findName (z_rm 2) (z_mq P ro μo) 0 0 2 [some (zA 4 0), some (zA 21 o1), some (zI a2), some (zI y0)] [] μ) (hE : K = .inr (.inl ()) → z_RQ P M_4_findName (z_rm 2) (z_mq P ro μo) 0 0 32 [none, none, none, none] [] μ) (hR : ∀ (qr : Int32), K = .inr (.inr qr) → ro = some (zI qr) ∧ μo = μ) : z_RQ P M_4_findName (z_rm 2) (z_mq P ro μo) 0 0 2 [some (zA 4 0), some (zA 21 o1), some (zI a2), some (zI x2)] [] μ := by
  unfold f4_findName_L1 at h
  refine zr_iload_n (i := 3) d_4_findName_2 rfl rfl ?_
  refine zr_iload_n (i := 2) d_4_findName_3 rfl rfl ?_
  refine zr_icmp_ge (tgt := 32) d_4_findName_4 rfl (fun hc3 => ?_) (fun hc3 => ?_)
  · replace h := z_ip h hc3
    refine zr_iload_n (i := 3) d_4_findName_7 rfl rfl ?_
    refine zr_aload_n (i := 1) d_4_findName_8 rfl rfl ?_
    refine zr_alen (n := (z_len 21 o1)) d_4_findName_9 sa_21 (by decide) rfl ?_
    refine zr_icmp_ge (tgt := 32) d_4_findName_10 rfl (fun hc4 => ?_) (fun hc4 => ?_)
    · replace h := z_ip h hc4
      refine zr_aload_n (i := 1) d_4_findName_13 rfl rfl ?_
      refine zr_iload_n (i := 3) d_4_findName_14 rfl rfl ?_
      obtain ⟨hb5, h⟩ := z_gd h
      refine zr_lald d_4_findName_15 sa_21 rfl hb5 ?_
      refine zr_aload_n (i := 0) d_4_findName_16 rfl rfl ?_
      obtain ⟨q6, hq7, h⟩ := z_bd h
      refine zr_callVl (av := []) (st := [zL (μ.2.1 21 o1 x2.toNatClampNeg)]) d_4_findName_17 mw_4_value ml_4_117 im_4_value se_4_value rfl rfl (Nat.le_of_ble_eq_true rfl) fit_1_1_2 rfl rfl rfl (s4_value hq7) ?_
      refine zr_lcmp d_4_findName_20 ?_
      refine zr_if_ne (tgt := 26) d_4_findName_21 rfl (fun hc8 => ?_) (fun hc8 => ?_)
      · replace h := z_ip h hc8
        refine zr_iload_n (i := 3) d_4_findName_24 rfl rfl ?_
        obtain rfl := Option.some.inj h
        obtain ⟨rfl, rfl⟩ := hR x2 rfl
        exact ze_i d_4_findName_25 rfl
      · replace h := z_im h hc8
        refine zr_iinc (v := (x2 + (1 : Int32))) (l' := [some (zA 4 0), some (zA 21 o1), some (zI a2), some (zI (x2 + (1 : Int32)))]) d_4_findName_26 (by decide) rfl rfl rfl ?_
        refine zr_goto (tgt := 2) d_4_findName_29 rfl ?_
        obtain rfl := Option.some.inj h
        exact zr_wk2 (hI (x2 + (1 : Int32)) rfl) ⟨rfl, ⟨rfl, ⟨rfl, ⟨rfl, trivial⟩⟩⟩⟩
    · replace h := z_im h hc4
      obtain rfl := Option.some.inj h
      exact zr_wk2 (hE  rfl) trivial
  · replace h := z_im h hc3
    obtain rfl := Option.some.inj h
    exact zr_wk2 (hE  rfl) trivial
theorem s4_findName {P : zP} {μ : zMem} {o1 : Nat} {a2 : Int32} {r : Int32} (h : f4_findName o1 a2 μ = some r) : z_Sp P y_4_findName M_4_findName 2 [zA 4 0, zA 21 o1, zI a2] μ (some (zI r)) μ := by
  refine z_Sp.of (plainFor_of_name (by decide)) rfl (l0 := [some (zA 4 0), some (zA 21 o1), some (zI a2), none]) rfl (Nat.le_of_ble_eq_true rfl) ?_
  unfold f4_findName at h
  refine zr_iconst (v := (0 : Int32)) d_4_findName_0 rfl ?_
  refine zr_istore_n (i := 3) (l' := [some (zA 4 0), some (zA 21 o1), some (zI a2), some (zI (0 : Int32))]) d_4_findName_1 rfl (by decide) rfl ?_
  rcases z_bs h with ⟨⟨⟩, hl9, h⟩ | ⟨qr10, hl9, h⟩
  · refine zr_wk (l' := [some (zA 4 0), some (zA 21 o1), some (zI a2), some (zI (0 : Int32))]) ⟨rfl, ⟨rfl, ⟨rfl, ⟨rfl, trivial⟩⟩⟩⟩ ?_
    refine z_loop (Hd := (fun y0 => z_RQ P M_4_findName (z_rm 2) (z_mq P (some (zI r)) μ) 0 0 2 [some (zA 4 0), some (zA 21 o1), some (zI a2), some (zI y0)] [] μ)) (Ex := (Sum.elim (fun (_ : Unit) => z_RQ P M_4_findName (z_rm 2) (z_mq P (some (zI r)) μ) 0 0 32 [none, none, none, none] [] μ) (fun qr => (some (zI r)) = some (zI qr) ∧ μ = μ))) (fun x2 K h hI hE => s4_findName_L1 o1 a2 μ x2 K h (fun y0 e => hI y0 e) (fun  e => hE (.inl ()) e) (fun qr e => hE (.inr qr) e)) _ _ _ hl9 ?_
    refine zr_iconst (v := (-1 : Int32)) d_4_findName_32 rfl ?_
    obtain rfl := Option.some.inj h
    exact ze_i d_4_findName_33 rfl
  · refine zr_wk (l' := [some (zA 4 0), some (zA 21 o1), some (zI a2), some (zI (0 : Int32))]) ⟨rfl, ⟨rfl, ⟨rfl, ⟨rfl, trivial⟩⟩⟩⟩ ?_
    refine z_loop (Hd := (fun y0 => z_RQ P M_4_findName (z_rm 2) (z_mq P (some (zI r)) μ) 0 0 2 [some (zA 4 0), some (zA 21 o1), some (zI a2), some (zI y0)] [] μ)) (Ex := (Sum.elim (fun (_ : Unit) => z_RQ P M_4_findName (z_rm 2) (z_mq P (some (zI r)) μ) 0 0 32 [none, none, none, none] [] μ) (fun qr => (some (zI r)) = some (zI qr) ∧ μ = μ))) (fun x2 K h hI hE => s4_findName_L1 o1 a2 μ x2 K h (fun y0 e => hI y0 e) (fun  e => hE (.inl ()) e) (fun qr e => hE (.inr qr) e)) _ _ _ hl9 ?_
    obtain rfl := Option.some.inj h
    exact ⟨rfl, rfl⟩
def f4_suspect (a1 : Int32) (μ : zMem) : Option (zMem) :=
  (if (μ.1 4 0 9) = 0 then z_let (z_sI μ 4 0 9 a1) fun m2 => if z_in (m2.1 4 0 4) 401 = true then z_let (z_sI m2 4 0 10 (m2.1 32 0 (m2.1 4 0 4).toNatClampNeg)) fun m5 => some m5 else none else some μ)
theorem s4_suspect {P : zP} {μ : zMem} {a1 : Int32} {μ' : zMem} (h : f4_suspect a1 μ = some μ') : z_Sp P y_4_suspect M_4_suspect 1 [zA 4 0, zI a1] μ none μ' := by
  refine z_Sp.of (plainFor_of_name (by decide)) rfl (l0 := [some (zA 4 0), some (zI a1)]) rfl (Nat.le_of_ble_eq_true rfl) ?_
  unfold f4_suspect at h
  refine zr_aload_n (i := 0) d_4_suspect_0 rfl rfl ?_
  refine zr_geti d_4_suspect_1 fw_4_48 (by decide) ?_
  refine zr_if_ne (tgt := 28) d_4_suspect_4 rfl (fun hc1 => ?_) (fun hc1 => ?_)
  · replace h := z_ip h hc1
    refine zr_aload_n (i := 0) d_4_suspect_7 rfl rfl ?_
    refine zr_iload_n (i := 1) d_4_suspect_8 rfl rfl ?_
    obtain ⟨m2, hm3, h⟩ := z_lt h
    refine zr_puti d_4_suspect_9 fw_4_48 pw_4_9 hm3 ?_
    refine zr_aload_n (i := 0) d_4_suspect_12 rfl rfl ?_
    refine zr_aload_n (i := 0) d_4_suspect_13 rfl rfl ?_
    refine zr_gets (i' := 0) d_4_suspect_14 fw_4_12 rfl ?_
    refine zr_gets (i' := 0) d_4_suspect_17 fw_4_85 rfl ?_
    refine zr_aload_n (i := 0) d_4_suspect_20 rfl rfl ?_
    refine zr_geti d_4_suspect_21 fw_4_32 (by decide) ?_
    obtain ⟨hb4, h⟩ := z_gd h
    refine zr_iald d_4_suspect_24 sa_32 rfl hb4 ?_
    obtain ⟨m5, hm6, h⟩ := z_lt h
    refine zr_puti d_4_suspect_25 fw_4_51 pw_4_10 hm6 ?_
    obtain rfl := Option.some.inj h
    exact ze_v d_4_suspect_28 rfl
  · replace h := z_im h hc1
    obtain rfl := Option.some.inj h
    exact ze_v d_4_suspect_28 rfl
def f4_suspectOldName  (μ : zMem) : Option (zMem) :=
  (f4_findName 0 (μ.1 6 (μ.2.2 4 0 3) 0) μ).bind (fun q1 => (if q1 = (-1 : Int32) then (f4_findName 1 (μ.1 6 (μ.2.2 4 0 3) 1) μ).bind (fun q4 => (if q4 = (-1 : Int32) then some μ else (f4_suspect (3 : Int32) μ).bind (fun qm7 => some qm7))) else (f4_suspect (3 : Int32) μ).bind (fun qm9 => some qm9)))
theorem s4_suspectOldName {P : zP} {μ : zMem} {μ' : zMem} (h : f4_suspectOldName μ = some μ') : z_Sp P y_4_suspectOldName M_4_suspectOldName 3 [zA 4 0] μ none μ' := by
  refine z_Sp.of (plainFor_of_name (by decide)) rfl (l0 := [some (zA 4 0)]) rfl (Nat.le_of_ble_eq_true rfl) ?_
  unfold f4_suspectOldName at h
  refine zr_aload_n (i := 0) d_4_suspectOldName_0 rfl rfl ?_
  refine zr_aload_n (i := 0) d_4_suspectOldName_1 rfl rfl ?_
  refine zr_gets (i' := 0) d_4_suspectOldName_2 fw_4_18 rfl ?_
  refine zr_aload_n (i := 0) d_4_suspectOldName_5 rfl rfl ?_
  refine zr_getd d_4_suspectOldName_6 fw_4_28 ?_
  refine zr_geti d_4_suspectOldName_9 fw_4_92 (by decide) ?_
  obtain ⟨q1, hq2, h⟩ := z_bd h
  refine zr_callVi (av := [zA 21 0, zI (μ.1 6 (μ.2.2 4 0 3) 0)]) (st := []) d_4_suspectOldName_12 mw_4_findName ml_4_127 im_4_findName se_4_findName rfl rfl (Nat.le_of_ble_eq_true rfl) fit_2_4_3 rfl rfl rfl (s4_findName hq2) ?_
  refine zr_iconst (v := (-1 : Int32)) d_4_suspectOldName_15 rfl ?_
  refine zr_icmp_ne (tgt := 38) d_4_suspectOldName_16 rfl (fun hc3 => ?_) (fun hc3 => ?_)
  · replace h := z_ip h hc3
    refine zr_aload_n (i := 0) d_4_suspectOldName_19 rfl rfl ?_
    refine zr_aload_n (i := 0) d_4_suspectOldName_20 rfl rfl ?_
    refine zr_gets (i' := 1) d_4_suspectOldName_21 fw_4_22 rfl ?_
    refine zr_aload_n (i := 0) d_4_suspectOldName_24 rfl rfl ?_
    refine zr_getd d_4_suspectOldName_25 fw_4_28 ?_
    refine zr_geti d_4_suspectOldName_28 fw_4_105 (by decide) ?_
    obtain ⟨q4, hq5, h⟩ := z_bd h
    refine zr_callVi (av := [zA 21 1, zI (μ.1 6 (μ.2.2 4 0 3) 1)]) (st := []) d_4_suspectOldName_31 mw_4_findName ml_4_127 im_4_findName se_4_findName rfl rfl (Nat.le_of_ble_eq_true rfl) fit_2_4_3 rfl rfl rfl (s4_findName hq5) ?_
    refine zr_iconst (v := (-1 : Int32)) d_4_suspectOldName_34 rfl ?_
    refine zr_icmp_eq (tgt := 43) d_4_suspectOldName_35 rfl (fun hc6 => ?_) (fun hc6 => ?_)
    · replace h := z_ip h hc6
      obtain rfl := Option.some.inj h
      exact ze_v d_4_suspectOldName_43 rfl
    · replace h := z_im h hc6
      refine zr_aload_n (i := 0) d_4_suspectOldName_38 rfl rfl ?_
      refine zr_iconst (v := (3 : Int32)) d_4_suspectOldName_39 rfl ?_
      obtain ⟨qm7, hq8, h⟩ := z_bd h
      refine zr_callVv (av := [zI (3 : Int32)]) (st := []) d_4_suspectOldName_40 mw_4_suspect ml_4_131 im_4_suspect se_4_suspect rfl rfl (Nat.le_of_ble_eq_true rfl) fit_1_2_3 rfl rfl rfl (s4_suspect hq8) ?_
      obtain rfl := Option.some.inj h
      exact ze_v d_4_suspectOldName_43 rfl
  · replace h := z_im h hc3
    refine zr_aload_n (i := 0) d_4_suspectOldName_38 rfl rfl ?_
    refine zr_iconst (v := (3 : Int32)) d_4_suspectOldName_39 rfl ?_
    obtain ⟨qm9, hq10, h⟩ := z_bd h
    refine zr_callVv (av := [zI (3 : Int32)]) (st := []) d_4_suspectOldName_40 mw_4_suspect ml_4_131 im_4_suspect se_4_suspect rfl rfl (Nat.le_of_ble_eq_true rfl) fit_1_2_3 rfl rfl rfl (s4_suspect hq10) ?_
    obtain rfl := Option.some.inj h
    exact ze_v d_4_suspectOldName_43 rfl
def f4_suspectNumber  (μ : zMem) : Option (zMem) :=
  (f4_value μ).bind (fun q1 => (if 0 < (lg_cmp q1 (99 : Int64)) then (f4_suspect (5 : Int32) μ).bind (fun qm4 => some qm4) else some μ))
theorem s4_suspectNumber {P : zP} {μ : zMem} {μ' : zMem} (h : f4_suspectNumber μ = some μ') : z_Sp P y_4_suspectNumber M_4_suspectNumber 2 [zA 4 0] μ none μ' := by
  refine z_Sp.of (plainFor_of_name (by decide)) rfl (l0 := [some (zA 4 0)]) rfl (Nat.le_of_ble_eq_true rfl) ?_
  unfold f4_suspectNumber at h
  refine zr_aload_n (i := 0) d_4_suspectNumber_0 rfl rfl ?_
  obtain ⟨q1, hq2, h⟩ := z_bd h
  refine zr_callVl (av := []) (st := []) d_4_suspectNumber_1 mw_4_value ml_4_117 im_4_value se_4_value rfl rfl (Nat.le_of_ble_eq_true rfl) fit_1_1_2 rfl rfl rfl (s4_value hq2) ?_
  refine zr_ldc2 (v := (99 : Int64)) d_4_suspectNumber_4 kc_4_179 ?_
  refine zr_lcmp d_4_suspectNumber_7 ?_
  refine zr_if_le (tgt := 16) d_4_suspectNumber_8 rfl (fun hc3 => ?_) (fun hc3 => ?_)
  · replace h := z_ip h hc3
    refine zr_aload_n (i := 0) d_4_suspectNumber_11 rfl rfl ?_
    refine zr_iconst (v := (5 : Int32)) d_4_suspectNumber_12 rfl ?_
    obtain ⟨qm4, hq5, h⟩ := z_bd h
    refine zr_callVv (av := [zI (5 : Int32)]) (st := []) d_4_suspectNumber_13 mw_4_suspect ml_4_131 im_4_suspect se_4_suspect rfl rfl (Nat.le_of_ble_eq_true rfl) fit_1_2_2 rfl rfl rfl (s4_suspect hq5) ?_
    obtain rfl := Option.some.inj h
    exact ze_v d_4_suspectNumber_16 rfl
  · replace h := z_im h hc3
    obtain rfl := Option.some.inj h
    exact ze_v d_4_suspectNumber_16 rfl
def f4_readNamed (a1 : Int32) (o2 : Nat) (o3 : Nat) (a4 : Int32) (μ : zMem) : Option (Int32 × zMem) :=
  (f4_take a1 μ).bind (z_u2 fun q1 qm2 => (if q1 = 0 then some ((0 : Int32), qm2) else (f4_suspectOldName qm2).bind (fun qm5 => (f4_value qm5).bind (fun q7 => if z_in a4 (z_len 21 o2) = true then z_let (z_sL qm5 21 o2 a4.toNatClampNeg q7) fun m9 => (f4_take (2 : Int32) m9).bind (z_u2 fun q12 qm13 => (if q12 = 0 then some ((0 : Int32), qm13) else (f4_suspectNumber qm13).bind (fun qm16 => (f4_value qm16).bind (fun q18 => if z_in a4 (z_len 26 o3) = true then z_let (z_sI qm16 26 o3 a4.toNatClampNeg q18.toInt32) fun m20 => (f4_take (3 : Int32) m20).bind (z_u2 fun q23 qm24 => (if q23 = 0 then some ((0 : Int32), qm24) else (f4_take (59 : Int32) qm24).bind (z_u2 fun q27 qm28 => (if q27 = 0 then some ((0 : Int32), qm28) else some ((1 : Int32), qm28))))) else none)))) else none))))
theorem s4_readNamed {P : zP} {μ : zMem} {a1 : Int32} {o2 : Nat} {o3 : Nat} {a4 : Int32} {r : Int32} {μ' : zMem} (h : f4_readNamed a1 o2 o3 a4 μ = some (r, μ')) : z_Sp P y_4_readNamed M_4_readNamed 4 [zA 4 0, zI a1, zA 21 o2, zA 26 o3, zI a4] μ (some (zI r)) μ' := by
  refine z_Sp.of (plainFor_of_name (by decide)) rfl (l0 := [some (zA 4 0), some (zI a1), some (zA 21 o2), some (zA 26 o3), some (zI a4)]) rfl (Nat.le_of_ble_eq_true rfl) ?_
  unfold f4_readNamed at h
  refine zr_aload_n (i := 0) d_4_readNamed_0 rfl rfl ?_
  refine zr_iload_n (i := 1) d_4_readNamed_1 rfl rfl ?_
  obtain ⟨⟨q1, qm2⟩, hq3, h⟩ := z_bd h
  replace h := z_h2 h
  refine zr_callVi (av := [zI a1]) (st := []) d_4_readNamed_2 mw_4_take ml_4_111 im_4_take se_4_take rfl rfl (Nat.le_of_ble_eq_true rfl) fit_1_2_4 rfl rfl rfl (s4_take hq3) ?_
  refine zr_if_ne (tgt := 10) d_4_readNamed_5 rfl (fun hc4 => ?_) (fun hc4 => ?_)
  · replace h := z_ip h hc4
    refine zr_iconst (v := (0 : Int32)) d_4_readNamed_8 rfl ?_
    obtain ⟨rfl, rfl⟩ := Prod.mk.inj (Option.some.inj h)
    exact ze_z d_4_readNamed_9 rfl rfl
  · replace h := z_im h hc4
    refine zr_aload_n (i := 0) d_4_readNamed_10 rfl rfl ?_
    obtain ⟨qm5, hq6, h⟩ := z_bd h
    refine zr_callVv (av := []) (st := []) d_4_readNamed_11 mw_4_suspectOldName ml_4_114 im_4_suspectOldName se_4_suspectOldName rfl rfl (Nat.le_of_ble_eq_true rfl) fit_3_1_4 rfl rfl rfl (s4_suspectOldName hq6) ?_
    refine zr_aload_n (i := 2) d_4_readNamed_14 rfl rfl ?_
    refine zr_iload d_4_readNamed_15 rfl ?_
    refine zr_aload_n (i := 0) d_4_readNamed_17 rfl rfl ?_
    obtain ⟨q7, hq8, h⟩ := z_bd h
    refine zr_callVl (av := []) (st := [zI a4, zA 21 o2]) d_4_readNamed_18 mw_4_value ml_4_117 im_4_value se_4_value rfl rfl (Nat.le_of_ble_eq_true rfl) fit_1_1_4 rfl rfl rfl (s4_value hq8) ?_
    obtain ⟨hb11, h⟩ := z_gd h
    obtain ⟨m9, hm10, h⟩ := z_lt h
    refine zr_last d_4_readNamed_21 sa_21 rfl hb11 hm10 ?_
    refine zr_aload_n (i := 0) d_4_readNamed_22 rfl rfl ?_
    refine zr_iconst (v := (2 : Int32)) d_4_readNamed_23 rfl ?_
    obtain ⟨⟨q12, qm13⟩, hq14, h⟩ := z_bd h
    replace h := z_h2 h
    refine zr_callVi (av := [zI (2 : Int32)]) (st := []) d_4_readNamed_24 mw_4_take ml_4_111 im_4_take se_4_take rfl rfl (Nat.le_of_ble_eq_true rfl) fit_1_2_4 rfl rfl rfl (s4_take hq14) ?_
    refine zr_if_ne (tgt := 32) d_4_readNamed_27 rfl (fun hc15 => ?_) (fun hc15 => ?_)
    · replace h := z_ip h hc15
      refine zr_iconst (v := (0 : Int32)) d_4_readNamed_30 rfl ?_
      obtain ⟨rfl, rfl⟩ := Prod.mk.inj (Option.some.inj h)
      exact ze_z d_4_readNamed_31 rfl rfl
    · replace h := z_im h hc15
      refine zr_aload_n (i := 0) d_4_readNamed_32 rfl rfl ?_
      obtain ⟨qm16, hq17, h⟩ := z_bd h
      refine zr_callVv (av := []) (st := []) d_4_readNamed_33 mw_4_suspectNumber ml_4_121 im_4_suspectNumber se_4_suspectNumber rfl rfl (Nat.le_of_ble_eq_true rfl) fit_2_1_4 rfl rfl rfl (s4_suspectNumber hq17) ?_
      refine zr_aload_n (i := 3) d_4_readNamed_36 rfl rfl ?_
      refine zr_iload d_4_readNamed_37 rfl ?_
      refine zr_aload_n (i := 0) d_4_readNamed_39 rfl rfl ?_
      obtain ⟨q18, hq19, h⟩ := z_bd h
      refine zr_callVl (av := []) (st := [zI a4, zA 26 o3]) d_4_readNamed_40 mw_4_value ml_4_117 im_4_value se_4_value rfl rfl (Nat.le_of_ble_eq_true rfl) fit_1_1_4 rfl rfl rfl (s4_value hq19) ?_
      refine zr_l2i d_4_readNamed_43 ?_
      obtain ⟨hb22, h⟩ := z_gd h
      obtain ⟨m20, hm21, h⟩ := z_lt h
      refine zr_iast d_4_readNamed_44 sa_26 rfl hb22 hm21 ?_
      refine zr_aload_n (i := 0) d_4_readNamed_45 rfl rfl ?_
      refine zr_iconst (v := (3 : Int32)) d_4_readNamed_46 rfl ?_
      obtain ⟨⟨q23, qm24⟩, hq25, h⟩ := z_bd h
      replace h := z_h2 h
      refine zr_callVi (av := [zI (3 : Int32)]) (st := []) d_4_readNamed_47 mw_4_take ml_4_111 im_4_take se_4_take rfl rfl (Nat.le_of_ble_eq_true rfl) fit_1_2_4 rfl rfl rfl (s4_take hq25) ?_
      refine zr_if_eq (tgt := 66) d_4_readNamed_50 rfl (fun hc26 => ?_) (fun hc26 => ?_)
      · replace h := z_ip h hc26
        refine zr_iconst (v := (0 : Int32)) d_4_readNamed_66 rfl ?_
        obtain ⟨rfl, rfl⟩ := Prod.mk.inj (Option.some.inj h)
        exact ze_z d_4_readNamed_67 rfl rfl
      · replace h := z_im h hc26
        refine zr_aload_n (i := 0) d_4_readNamed_53 rfl rfl ?_
        refine zr_bipush (v := (59 : Int32)) d_4_readNamed_54 rfl ?_
        obtain ⟨⟨q27, qm28⟩, hq29, h⟩ := z_bd h
        replace h := z_h2 h
        refine zr_callVi (av := [zI (59 : Int32)]) (st := []) d_4_readNamed_56 mw_4_take ml_4_111 im_4_take se_4_take rfl rfl (Nat.le_of_ble_eq_true rfl) fit_1_2_4 rfl rfl rfl (s4_take hq29) ?_
        refine zr_if_eq (tgt := 66) d_4_readNamed_59 rfl (fun hc30 => ?_) (fun hc30 => ?_)
        · replace h := z_ip h hc30
          refine zr_iconst (v := (0 : Int32)) d_4_readNamed_66 rfl ?_
          obtain ⟨rfl, rfl⟩ := Prod.mk.inj (Option.some.inj h)
          exact ze_z d_4_readNamed_67 rfl rfl
        · replace h := z_im h hc30
          refine zr_iconst (v := (1 : Int32)) d_4_readNamed_62 rfl ?_
          refine zr_goto (tgt := 67) d_4_readNamed_63 rfl ?_
          obtain ⟨rfl, rfl⟩ := Prod.mk.inj (Option.some.inj h)
          exact ze_z d_4_readNamed_67 rfl rfl
def f4_readHouse  (μ : zMem) : Option (Int32 × zMem) :=
  (if (μ.1 6 (μ.2.2 4 0 3) 0) < (5 : Int32) then (f4_readNamed (128 : Int32) 0 (2 * (μ.2.2 4 0 3)) (μ.1 6 (μ.2.2 4 0 3) 0) μ).bind (z_u2 fun q2 qm3 => z_let (z_sI qm3 6 (qm3.2.2 4 0 3) 0 ((qm3.1 6 (qm3.2.2 4 0 3) 0) + (1 : Int32))) fun m5 => if z_b q2 = true then some (q2, m5) else none) else z_let (f4_refuse (2 : Int32) μ) (z_u2 fun q7 qm8 => if z_b q7 = true then some (q7, qm8) else none))
theorem s4_readHouse {P : zP} {μ : zMem} {r : Int32} {μ' : zMem} (h : f4_readHouse μ = some (r, μ')) : z_Sp P y_4_readHouse M_4_readHouse 5 [zA 4 0] μ (some (zI r)) μ' := by
  refine z_Sp.of (plainFor_of_name (by decide)) rfl (l0 := [some (zA 4 0), none]) rfl (Nat.le_of_ble_eq_true rfl) ?_
  unfold f4_readHouse at h
  refine zr_aload_n (i := 0) d_4_readHouse_0 rfl rfl ?_
  refine zr_getd d_4_readHouse_1 fw_4_28 ?_
  refine zr_geti d_4_readHouse_4 fw_4_92 (by decide) ?_
  refine zr_iconst (v := (5 : Int32)) d_4_readHouse_7 rfl ?_
  refine zr_icmp_lt (tgt := 17) d_4_readHouse_8 rfl (fun hc1 => ?_) (fun hc1 => ?_)
  · replace h := z_ip h hc1
    refine zr_aload_n (i := 0) d_4_readHouse_17 rfl rfl ?_
    refine zr_sipush (v := (128 : Int32)) d_4_readHouse_18 rfl ?_
    refine zr_aload_n (i := 0) d_4_readHouse_21 rfl rfl ?_
    refine zr_gets (i' := 0) d_4_readHouse_22 fw_4_18 rfl ?_
    refine zr_aload_n (i := 0) d_4_readHouse_25 rfl rfl ?_
    refine zr_getd d_4_readHouse_26 fw_4_28 ?_
    refine zr_gets (i' := (2 * (μ.2.2 4 0 3))) d_4_readHouse_29 fw_4_98 rfl ?_
    refine zr_aload_n (i := 0) d_4_readHouse_32 rfl rfl ?_
    refine zr_getd d_4_readHouse_33 fw_4_28 ?_
    refine zr_geti d_4_readHouse_36 fw_4_92 (by decide) ?_
    obtain ⟨⟨q2, qm3⟩, hq4, h⟩ := z_bd h
    replace h := z_h2 h
    refine zr_callVi (av := [zI (128 : Int32), zA 21 0, zA 26 (2 * (μ.2.2 4 0 3)), zI (μ.1 6 (μ.2.2 4 0 3) 0)]) (st := []) d_4_readHouse_39 mw_4_readNamed ml_4_101 im_4_readNamed se_4_readNamed rfl rfl (Nat.le_of_ble_eq_true rfl) fit_4_5_5 rfl rfl rfl (s4_readNamed hq4) ?_
    refine zr_istore_n (i := 1) (l' := [some (zA 4 0), some (zI q2)]) d_4_readHouse_42 rfl (by decide) rfl ?_
    refine zr_aload_n (i := 0) d_4_readHouse_43 rfl rfl ?_
    refine zr_getd d_4_readHouse_44 fw_4_28 ?_
    refine zr_dupa d_4_readHouse_47 ?_
    refine zr_geti d_4_readHouse_48 fw_4_92 (by decide) ?_
    refine zr_iconst (v := (1 : Int32)) d_4_readHouse_51 rfl ?_
    refine zr_iadd d_4_readHouse_52 ?_
    obtain ⟨m5, hm6, h⟩ := z_lt h
    refine zr_puti d_4_readHouse_53 fw_4_92 pw_6_0 hm6 ?_
    refine zr_iload_n (i := 1) d_4_readHouse_56 rfl rfl ?_
    obtain ⟨hzb, h⟩ := z_gd h
    obtain ⟨rfl, rfl⟩ := Prod.mk.inj (Option.some.inj h)
    exact ze_z d_4_readHouse_57 rfl (z_b_ok hzb)
  · replace h := z_im h hc1
    refine zr_aload_n (i := 0) d_4_readHouse_11 rfl rfl ?_
    refine zr_iconst (v := (2 : Int32)) d_4_readHouse_12 rfl ?_
    obtain ⟨⟨q7, qm8⟩, hq9, h⟩ := z_lt h
    replace h := z_h2 h
    refine zr_callVi (av := [zI (2 : Int32)]) (st := []) d_4_readHouse_13 mw_4_refuse ml_4_95 im_4_refuse se_4_refuse rfl rfl (Nat.le_of_ble_eq_true rfl) fit_1_2_5 rfl rfl rfl (s4_refuse hq9.symm) ?_
    obtain ⟨hzb, h⟩ := z_gd h
    obtain ⟨rfl, rfl⟩ := Prod.mk.inj (Option.some.inj h)
    exact ze_z d_4_readHouse_16 rfl (z_b_ok hzb)
def f4_readPerson  (μ : zMem) : Option (Int32 × zMem) :=
  (if (μ.1 6 (μ.2.2 4 0 3) 1) < (7 : Int32) then (f4_readNamed (129 : Int32) 1 (2 * (μ.2.2 4 0 3) + 1) (μ.1 6 (μ.2.2 4 0 3) 1) μ).bind (z_u2 fun q2 qm3 => z_let (z_sI qm3 6 (qm3.2.2 4 0 3) 1 ((qm3.1 6 (qm3.2.2 4 0 3) 1) + (1 : Int32))) fun m5 => if z_b q2 = true then some (q2, m5) else none) else z_let (f4_refuse (2 : Int32) μ) (z_u2 fun q7 qm8 => if z_b q7 = true then some (q7, qm8) else none))
theorem s4_readPerson {P : zP} {μ : zMem} {r : Int32} {μ' : zMem} (h : f4_readPerson μ = some (r, μ')) : z_Sp P y_4_readPerson M_4_readPerson 5 [zA 4 0] μ (some (zI r)) μ' := by
  refine z_Sp.of (plainFor_of_name (by decide)) rfl (l0 := [some (zA 4 0), none]) rfl (Nat.le_of_ble_eq_true rfl) ?_
  unfold f4_readPerson at h
  refine zr_aload_n (i := 0) d_4_readPerson_0 rfl rfl ?_
  refine zr_getd d_4_readPerson_1 fw_4_28 ?_
  refine zr_geti d_4_readPerson_4 fw_4_105 (by decide) ?_
  refine zr_bipush (v := (7 : Int32)) d_4_readPerson_7 rfl ?_
  refine zr_icmp_lt (tgt := 18) d_4_readPerson_9 rfl (fun hc1 => ?_) (fun hc1 => ?_)
  · replace h := z_ip h hc1
    refine zr_aload_n (i := 0) d_4_readPerson_18 rfl rfl ?_
    refine zr_sipush (v := (129 : Int32)) d_4_readPerson_19 rfl ?_
    refine zr_aload_n (i := 0) d_4_readPerson_22 rfl rfl ?_
    refine zr_gets (i' := 1) d_4_readPerson_23 fw_4_22 rfl ?_
    refine zr_aload_n (i := 0) d_4_readPerson_26 rfl rfl ?_
    refine zr_getd d_4_readPerson_27 fw_4_28 ?_
    refine zr_gets (i' := (2 * (μ.2.2 4 0 3) + 1)) d_4_readPerson_30 fw_4_108 rfl ?_
    refine zr_aload_n (i := 0) d_4_readPerson_33 rfl rfl ?_
    refine zr_getd d_4_readPerson_34 fw_4_28 ?_
    refine zr_geti d_4_readPerson_37 fw_4_105 (by decide) ?_
    obtain ⟨⟨q2, qm3⟩, hq4, h⟩ := z_bd h
    replace h := z_h2 h
    refine zr_callVi (av := [zI (129 : Int32), zA 21 1, zA 26 (2 * (μ.2.2 4 0 3) + 1), zI (μ.1 6 (μ.2.2 4 0 3) 1)]) (st := []) d_4_readPerson_40 mw_4_readNamed ml_4_101 im_4_readNamed se_4_readNamed rfl rfl (Nat.le_of_ble_eq_true rfl) fit_4_5_5 rfl rfl rfl (s4_readNamed hq4) ?_
    refine zr_istore_n (i := 1) (l' := [some (zA 4 0), some (zI q2)]) d_4_readPerson_43 rfl (by decide) rfl ?_
    refine zr_aload_n (i := 0) d_4_readPerson_44 rfl rfl ?_
    refine zr_getd d_4_readPerson_45 fw_4_28 ?_
    refine zr_dupa d_4_readPerson_48 ?_
    refine zr_geti d_4_readPerson_49 fw_4_105 (by decide) ?_
    refine zr_iconst (v := (1 : Int32)) d_4_readPerson_52 rfl ?_
    refine zr_iadd d_4_readPerson_53 ?_
    obtain ⟨m5, hm6, h⟩ := z_lt h
    refine zr_puti d_4_readPerson_54 fw_4_105 pw_6_1 hm6 ?_
    refine zr_iload_n (i := 1) d_4_readPerson_57 rfl rfl ?_
    obtain ⟨hzb, h⟩ := z_gd h
    obtain ⟨rfl, rfl⟩ := Prod.mk.inj (Option.some.inj h)
    exact ze_z d_4_readPerson_58 rfl (z_b_ok hzb)
  · replace h := z_im h hc1
    refine zr_aload_n (i := 0) d_4_readPerson_12 rfl rfl ?_
    refine zr_iconst (v := (2 : Int32)) d_4_readPerson_13 rfl ?_
    obtain ⟨⟨q7, qm8⟩, hq9, h⟩ := z_lt h
    replace h := z_h2 h
    refine zr_callVi (av := [zI (2 : Int32)]) (st := []) d_4_readPerson_14 mw_4_refuse ml_4_95 im_4_refuse se_4_refuse rfl rfl (Nat.le_of_ble_eq_true rfl) fit_1_2_5 rfl rfl rfl (s4_refuse hq9.symm) ?_
    obtain ⟨hzb, h⟩ := z_gd h
    obtain ⟨rfl, rfl⟩ := Prod.mk.inj (Option.some.inj h)
    exact ze_z d_4_readPerson_17 rfl (z_b_ok hzb)
def f4_findPerson  (μ : zMem) : Option (Int32 × zMem) :=
  (f4_findName 1 (μ.1 6 (μ.2.2 4 0 3) 1) μ).bind (fun q1 => (if q1 = (-1 : Int32) then (f4_suspect (4 : Int32) μ).bind (fun qm4 => some (q1, qm4)) else some (q1, μ)))
theorem s4_findPerson {P : zP} {μ : zMem} {r : Int32} {μ' : zMem} (h : f4_findPerson μ = some (r, μ')) : z_Sp P y_4_findPerson M_4_findPerson 3 [zA 4 0] μ (some (zI r)) μ' := by
  refine z_Sp.of (plainFor_of_name (by decide)) rfl (l0 := [some (zA 4 0), none]) rfl (Nat.le_of_ble_eq_true rfl) ?_
  unfold f4_findPerson at h
  refine zr_aload_n (i := 0) d_4_findPerson_0 rfl rfl ?_
  refine zr_aload_n (i := 0) d_4_findPerson_1 rfl rfl ?_
  refine zr_gets (i' := 1) d_4_findPerson_2 fw_4_22 rfl ?_
  refine zr_aload_n (i := 0) d_4_findPerson_5 rfl rfl ?_
  refine zr_getd d_4_findPerson_6 fw_4_28 ?_
  refine zr_geti d_4_findPerson_9 fw_4_105 (by decide) ?_
  obtain ⟨q1, hq2, h⟩ := z_bd h
  refine zr_callVi (av := [zA 21 1, zI (μ.1 6 (μ.2.2 4 0 3) 1)]) (st := []) d_4_findPerson_12 mw_4_findName ml_4_127 im_4_findName se_4_findName rfl rfl (Nat.le_of_ble_eq_true rfl) fit_2_4_3 rfl rfl rfl (s4_findName hq2) ?_
  refine zr_istore_n (i := 1) (l' := [some (zA 4 0), some (zI q1)]) d_4_findPerson_15 rfl (by decide) rfl ?_
  refine zr_iload_n (i := 1) d_4_findPerson_16 rfl rfl ?_
  refine zr_iconst (v := (-1 : Int32)) d_4_findPerson_17 rfl ?_
  refine zr_icmp_ne (tgt := 26) d_4_findPerson_18 rfl (fun hc3 => ?_) (fun hc3 => ?_)
  · replace h := z_ip h hc3
    refine zr_aload_n (i := 0) d_4_findPerson_21 rfl rfl ?_
    refine zr_iconst (v := (4 : Int32)) d_4_findPerson_22 rfl ?_
    obtain ⟨qm4, hq5, h⟩ := z_bd h
    refine zr_callVv (av := [zI (4 : Int32)]) (st := []) d_4_findPerson_23 mw_4_suspect ml_4_131 im_4_suspect se_4_suspect rfl rfl (Nat.le_of_ble_eq_true rfl) fit_1_2_3 rfl rfl rfl (s4_suspect hq5) ?_
    refine zr_iload_n (i := 1) d_4_findPerson_26 rfl rfl ?_
    obtain ⟨rfl, rfl⟩ := Prod.mk.inj (Option.some.inj h)
    exact ze_i d_4_findPerson_27 rfl
  · replace h := z_im h hc3
    refine zr_iload_n (i := 1) d_4_findPerson_26 rfl rfl ?_
    obtain ⟨rfl, rfl⟩ := Prod.mk.inj (Option.some.inj h)
    exact ze_i d_4_findPerson_27 rfl
def f4_suspectOldRight (a1 : Int32) (a2 : Int32) (μ : zMem) : Option (zMem) :=
  if z_in a2 5 = true then (if (f8_has (μ.1 27 ((μ.2.2 4 0 3)) a2.toNatClampNeg) a1) = 0 then some μ else (f4_suspect (3 : Int32) μ).bind (fun qm4 => some qm4)) else none
theorem s4_suspectOldRight {P : zP} {μ : zMem} {a1 : Int32} {a2 : Int32} {μ' : zMem} (h : f4_suspectOldRight a1 a2 μ = some μ') : z_Sp P y_4_suspectOldRight M_4_suspectOldRight 2 [zA 4 0, zI a1, zI a2] μ none μ' := by
  refine z_Sp.of (plainFor_of_name (by decide)) rfl (l0 := [some (zA 4 0), some (zI a1), some (zI a2)]) rfl (Nat.le_of_ble_eq_true rfl) ?_
  unfold f4_suspectOldRight at h
  refine zr_aload_n (i := 0) d_4_suspectOldRight_0 rfl rfl ?_
  refine zr_getd d_4_suspectOldRight_1 fw_4_28 ?_
  refine zr_gets (i' := ((μ.2.2 4 0 3))) d_4_suspectOldRight_4 fw_4_139 rfl ?_
  refine zr_iload_n (i := 2) d_4_suspectOldRight_7 rfl rfl ?_
  obtain ⟨hb1, h⟩ := z_gd h
  refine zr_iald d_4_suspectOldRight_8 sa_27 rfl hb1 ?_
  refine zr_iload_n (i := 1) d_4_suspectOldRight_9 rfl rfl ?_
  refine zr_callSNi (av := [zI (μ.1 27 ((μ.2.2 4 0 3)) a2.toNatClampNeg), zI a1]) (st := []) d_4_suspectOldRight_10 mw_8_has nl_4_175 is_8_has rfl rfl (Nat.le_of_ble_eq_true rfl) fit_1_2_2 (s8_has rfl) ?_
  refine zr_if_eq (tgt := 21) d_4_suspectOldRight_13 rfl (fun hc3 => ?_) (fun hc3 => ?_)
  · replace h := z_ip h hc3
    obtain rfl := Option.some.inj h
    exact ze_v d_4_suspectOldRight_21 rfl
  · replace h := z_im h hc3
    refine zr_aload_n (i := 0) d_4_suspectOldRight_16 rfl rfl ?_
    refine zr_iconst (v := (3 : Int32)) d_4_suspectOldRight_17 rfl ?_
    obtain ⟨qm4, hq5, h⟩ := z_bd h
    refine zr_callVv (av := [zI (3 : Int32)]) (st := []) d_4_suspectOldRight_18 mw_4_suspect ml_4_131 im_4_suspect se_4_suspect rfl rfl (Nat.le_of_ble_eq_true rfl) fit_1_2_2 rfl rfl rfl (s4_suspect hq5) ?_
    obtain rfl := Option.some.inj h
    exact ze_v d_4_suspectOldRight_21 rfl
def f4_readRight  (μ : zMem) : Option (Int32 × zMem) :=
  (if (μ.1 4 0 5) < (20 : Int32) then z_let (z_sI μ 4 0 5 ((μ.1 4 0 5) + (1 : Int32))) fun m2 => (f4_take (130 : Int32) m2).bind (z_u2 fun q4 qm5 => (if q4 = 0 then some ((0 : Int32), qm5) else (f4_findPerson qm5).bind (z_u2 fun q8 qm9 => (f4_take (2 : Int32) qm9).bind (z_u2 fun q11 qm12 => (if q11 = 0 then some ((0 : Int32), qm12) else (f4_findName 0 (qm12.1 6 (qm12.2.2 4 0 3) 0) qm12).bind (fun q15 => ((if q15 = (-1 : Int32) then (f4_suspect (4 : Int32) qm12).bind (fun qm20 => some qm20) else (if q8 = (-1 : Int32) then some qm12 else (f4_suspectOldRight q8 q15 qm12).bind (fun qm23 => if z_in q15 5 = true then z_let (z_sI qm23 27 ((qm23.2.2 4 0 3)) q15.toNatClampNeg ((qm23.1 27 ((qm23.2.2 4 0 3)) q15.toNatClampNeg) ||| ((1 : Int32) <<< (q8 &&& 31)))) fun m26 => some m26 else none))) : Option (zMem)).bind (fun jm28 => (f4_take (2 : Int32) jm28).bind (z_u2 fun q29 qm30 => (if q29 = 0 then some ((0 : Int32), qm30) else (f4_take (59 : Int32) qm30).bind (z_u2 fun q33 qm34 => (if q33 = 0 then some ((0 : Int32), qm34) else some ((1 : Int32), qm34)))))))))))) else z_let (f4_refuse (2 : Int32) μ) (z_u2 fun q37 qm38 => if z_b q37 = true then some (q37, qm38) else none))
theorem s4_readRight {P : zP} {μ : zMem} {r : Int32} {μ' : zMem} (h : f4_readRight μ = some (r, μ')) : z_Sp P y_4_readRight M_4_readRight 4 [zA 4 0] μ (some (zI r)) μ' := by
  refine z_Sp.of (plainFor_of_name (by decide)) rfl (l0 := [some (zA 4 0), none, none]) rfl (Nat.le_of_ble_eq_true rfl) ?_
  unfold f4_readRight at h
  refine zr_aload_n (i := 0) d_4_readRight_0 rfl rfl ?_
  refine zr_geti d_4_readRight_1 fw_4_36 (by decide) ?_
  refine zr_bipush (v := (20 : Int32)) d_4_readRight_4 rfl ?_
  refine zr_icmp_lt (tgt := 15) d_4_readRight_6 rfl (fun hc1 => ?_) (fun hc1 => ?_)
  · replace h := z_ip h hc1
    refine zr_aload_n (i := 0) d_4_readRight_15 rfl rfl ?_
    refine zr_dupa d_4_readRight_16 ?_
    refine zr_geti d_4_readRight_17 fw_4_36 (by decide) ?_
    refine zr_iconst (v := (1 : Int32)) d_4_readRight_20 rfl ?_
    refine zr_iadd d_4_readRight_21 ?_
    obtain ⟨m2, hm3, h⟩ := z_lt h
    refine zr_puti d_4_readRight_22 fw_4_36 pw_4_5 hm3 ?_
    refine zr_aload_n (i := 0) d_4_readRight_25 rfl rfl ?_
    refine zr_sipush (v := (130 : Int32)) d_4_readRight_26 rfl ?_
    obtain ⟨⟨q4, qm5⟩, hq6, h⟩ := z_bd h
    replace h := z_h2 h
    refine zr_callVi (av := [zI (130 : Int32)]) (st := []) d_4_readRight_29 mw_4_take ml_4_111 im_4_take se_4_take rfl rfl (Nat.le_of_ble_eq_true rfl) fit_1_2_4 rfl rfl rfl (s4_take hq6) ?_
    refine zr_if_ne (tgt := 37) d_4_readRight_32 rfl (fun hc7 => ?_) (fun hc7 => ?_)
    · replace h := z_ip h hc7
      refine zr_iconst (v := (0 : Int32)) d_4_readRight_35 rfl ?_
      obtain ⟨rfl, rfl⟩ := Prod.mk.inj (Option.some.inj h)
      exact ze_z d_4_readRight_36 rfl rfl
    · replace h := z_im h hc7
      refine zr_aload_n (i := 0) d_4_readRight_37 rfl rfl ?_
      obtain ⟨⟨q8, qm9⟩, hq10, h⟩ := z_bd h
      replace h := z_h2 h
      refine zr_callVi (av := []) (st := []) d_4_readRight_38 mw_4_findPerson ml_4_124 im_4_findPerson se_4_findPerson rfl rfl (Nat.le_of_ble_eq_true rfl) fit_3_2_4 rfl rfl rfl (s4_findPerson hq10) ?_
      refine zr_istore_n (i := 1) (l' := [some (zA 4 0), some (zI q8), none]) d_4_readRight_41 rfl (by decide) rfl ?_
      refine zr_aload_n (i := 0) d_4_readRight_42 rfl rfl ?_
      refine zr_iconst (v := (2 : Int32)) d_4_readRight_43 rfl ?_
      obtain ⟨⟨q11, qm12⟩, hq13, h⟩ := z_bd h
      replace h := z_h2 h
      refine zr_callVi (av := [zI (2 : Int32)]) (st := []) d_4_readRight_44 mw_4_take ml_4_111 im_4_take se_4_take rfl rfl (Nat.le_of_ble_eq_true rfl) fit_1_2_4 rfl rfl rfl (s4_take hq13) ?_
      refine zr_if_ne (tgt := 52) d_4_readRight_47 rfl (fun hc14 => ?_) (fun hc14 => ?_)
      · replace h := z_ip h hc14
        refine zr_iconst (v := (0 : Int32)) d_4_readRight_50 rfl ?_
        obtain ⟨rfl, rfl⟩ := Prod.mk.inj (Option.some.inj h)
        exact ze_z d_4_readRight_51 rfl rfl
      · replace h := z_im h hc14
        refine zr_aload_n (i := 0) d_4_readRight_52 rfl rfl ?_
        refine zr_aload_n (i := 0) d_4_readRight_53 rfl rfl ?_
        refine zr_gets (i' := 0) d_4_readRight_54 fw_4_18 rfl ?_
        refine zr_aload_n (i := 0) d_4_readRight_57 rfl rfl ?_
        refine zr_getd d_4_readRight_58 fw_4_28 ?_
        refine zr_geti d_4_readRight_61 fw_4_92 (by decide) ?_
        obtain ⟨q15, hq16, h⟩ := z_bd h
        refine zr_callVi (av := [zA 21 0, zI (qm12.1 6 (qm12.2.2 4 0 3) 0)]) (st := []) d_4_readRight_64 mw_4_findName ml_4_127 im_4_findName se_4_findName rfl rfl (Nat.le_of_ble_eq_true rfl) fit_2_4_4 rfl rfl rfl (s4_findName hq16) ?_
        refine zr_istore_n (i := 2) (l' := [some (zA 4 0), some (zI q8), some (zI q15)]) d_4_readRight_67 rfl (by decide) rfl ?_
        refine zr_iload_n (i := 2) d_4_readRight_68 rfl rfl ?_
        refine zr_iconst (v := (-1 : Int32)) d_4_readRight_69 rfl ?_
        obtain ⟨jm28, hT17, h⟩ := z_bd h
        have hJ18 : z_RQ P M_4_readRight (z_rm 4) (z_mq P (some (zI r)) μ') 0 0 107 [some (zA 4 0), none, none] [] jm28 := by
          refine zr_aload_n (i := 0) d_4_readRight_107 rfl rfl ?_
          refine zr_iconst (v := (2 : Int32)) d_4_readRight_108 rfl ?_
          obtain ⟨⟨q29, qm30⟩, hq31, h⟩ := z_bd h
          replace h := z_h2 h
          refine zr_callVi (av := [zI (2 : Int32)]) (st := []) d_4_readRight_109 mw_4_take ml_4_111 im_4_take se_4_take rfl rfl (Nat.le_of_ble_eq_true rfl) fit_1_2_4 rfl rfl rfl (s4_take hq31) ?_
          refine zr_if_eq (tgt := 128) d_4_readRight_112 rfl (fun hc32 => ?_) (fun hc32 => ?_)
          · replace h := z_ip h hc32
            refine zr_iconst (v := (0 : Int32)) d_4_readRight_128 rfl ?_
            obtain ⟨rfl, rfl⟩ := Prod.mk.inj (Option.some.inj h)
            exact ze_z d_4_readRight_129 rfl rfl
          · replace h := z_im h hc32
            refine zr_aload_n (i := 0) d_4_readRight_115 rfl rfl ?_
            refine zr_bipush (v := (59 : Int32)) d_4_readRight_116 rfl ?_
            obtain ⟨⟨q33, qm34⟩, hq35, h⟩ := z_bd h
            replace h := z_h2 h
            refine zr_callVi (av := [zI (59 : Int32)]) (st := []) d_4_readRight_118 mw_4_take ml_4_111 im_4_take se_4_take rfl rfl (Nat.le_of_ble_eq_true rfl) fit_1_2_4 rfl rfl rfl (s4_take hq35) ?_
            refine zr_if_eq (tgt := 128) d_4_readRight_121 rfl (fun hc36 => ?_) (fun hc36 => ?_)
            · replace h := z_ip h hc36
              refine zr_iconst (v := (0 : Int32)) d_4_readRight_128 rfl ?_
              obtain ⟨rfl, rfl⟩ := Prod.mk.inj (Option.some.inj h)
              exact ze_z d_4_readRight_129 rfl rfl
            · replace h := z_im h hc36
              refine zr_iconst (v := (1 : Int32)) d_4_readRight_124 rfl ?_
              refine zr_goto (tgt := 129) d_4_readRight_125 rfl ?_
              obtain ⟨rfl, rfl⟩ := Prod.mk.inj (Option.some.inj h)
              exact ze_z d_4_readRight_129 rfl rfl
        refine zr_icmp_ne (tgt := 81) d_4_readRight_70 rfl (fun hc19 => ?_) (fun hc19 => ?_)
        · replace hT17 := z_ip hT17 hc19
          refine zr_aload_n (i := 0) d_4_readRight_73 rfl rfl ?_
          refine zr_iconst (v := (4 : Int32)) d_4_readRight_74 rfl ?_
          obtain ⟨qm20, hq21, hT17⟩ := z_bd hT17
          refine zr_callVv (av := [zI (4 : Int32)]) (st := []) d_4_readRight_75 mw_4_suspect ml_4_131 im_4_suspect se_4_suspect rfl rfl (Nat.le_of_ble_eq_true rfl) fit_1_2_4 rfl rfl rfl (s4_suspect hq21) ?_
          refine zr_goto (tgt := 107) d_4_readRight_78 rfl ?_
          obtain rfl := Option.some.inj hT17
          exact zr_wk2 hJ18 ⟨rfl, trivial⟩
        · replace hT17 := z_im hT17 hc19
          refine zr_iload_n (i := 1) d_4_readRight_81 rfl rfl ?_
          refine zr_iconst (v := (-1 : Int32)) d_4_readRight_82 rfl ?_
          refine zr_icmp_eq (tgt := 107) d_4_readRight_83 rfl (fun hc22 => ?_) (fun hc22 => ?_)
          · replace hT17 := z_ip hT17 hc22
            obtain rfl := Option.some.inj hT17
            exact zr_wk2 hJ18 ⟨rfl, trivial⟩
          · replace hT17 := z_im hT17 hc22
            refine zr_aload_n (i := 0) d_4_readRight_86 rfl rfl ?_
            refine zr_iload_n (i := 1) d_4_readRight_87 rfl rfl ?_
            refine zr_iload_n (i := 2) d_4_readRight_88 rfl rfl ?_
            obtain ⟨qm23, hq24, hT17⟩ := z_bd hT17
            refine zr_callVv (av := [zI q8, zI q15]) (st := []) d_4_readRight_89 mw_4_suspectOldRight ml_4_135 im_4_suspectOldRight se_4_suspectOldRight rfl rfl (Nat.le_of_ble_eq_true rfl) fit_2_3_4 rfl rfl rfl (s4_suspectOldRight hq24) ?_
            refine zr_aload_n (i := 0) d_4_readRight_92 rfl rfl ?_
            refine zr_getd d_4_readRight_93 fw_4_28 ?_
            refine zr_gets (i' := ((qm23.2.2 4 0 3))) d_4_readRight_96 fw_4_139 rfl ?_
            refine zr_iload_n (i := 2) d_4_readRight_99 rfl rfl ?_
            refine zr_dup2 d_4_readRight_100 ?_
            obtain ⟨hb25, hT17⟩ := z_gd hT17
            refine zr_iald d_4_readRight_101 sa_27 rfl hb25 ?_
            refine zr_iconst (v := (1 : Int32)) d_4_readRight_102 rfl ?_
            refine zr_iload_n (i := 1) d_4_readRight_103 rfl rfl ?_
            refine zr_ishl d_4_readRight_104 ?_
            refine zr_ior d_4_readRight_105 ?_
            obtain ⟨m26, hm27, hT17⟩ := z_lt hT17
            refine zr_iast d_4_readRight_106 sa_27 rfl hb25 hm27 ?_
            obtain rfl := Option.some.inj hT17
            exact zr_wk2 hJ18 ⟨rfl, trivial⟩
  · replace h := z_im h hc1
    refine zr_aload_n (i := 0) d_4_readRight_9 rfl rfl ?_
    refine zr_iconst (v := (2 : Int32)) d_4_readRight_10 rfl ?_
    obtain ⟨⟨q37, qm38⟩, hq39, h⟩ := z_lt h
    replace h := z_h2 h
    refine zr_callVi (av := [zI (2 : Int32)]) (st := []) d_4_readRight_11 mw_4_refuse ml_4_95 im_4_refuse se_4_refuse rfl rfl (Nat.le_of_ble_eq_true rfl) fit_1_2_4 rfl rfl rfl (s4_refuse hq39.symm) ?_
    obtain ⟨hzb, h⟩ := z_gd h
    obtain ⟨rfl, rfl⟩ := Prod.mk.inj (Option.some.inj h)
    exact ze_z d_4_readRight_14 rfl (z_b_ok hzb)
def f4_readAbsence  (μ : zMem) : Option (Int32 × zMem) :=
  (if (μ.1 4 0 6) < (7 : Int32) then z_let (z_sI μ 4 0 6 ((μ.1 4 0 6) + (1 : Int32))) fun m2 => (f4_take (131 : Int32) m2).bind (z_u2 fun q4 qm5 => (if q4 = 0 then some ((0 : Int32), qm5) else (f4_findPerson qm5).bind (z_u2 fun q8 qm9 => (f4_take (2 : Int32) qm9).bind (z_u2 fun q11 qm12 => (if q11 = 0 then some ((0 : Int32), qm12) else (f4_suspectNumber qm12).bind (fun qm15 => ((if q8 = (-1 : Int32) then some qm15 else (f4_value qm15).bind (fun q20 => if z_in q8 7 = true then z_let (z_sI qm15 28 ((qm15.2.2 4 0 3)) q8.toNatClampNeg q20.toInt32) fun m22 => some m22 else none)) : Option (zMem)).bind (fun jm25 => (f4_take (3 : Int32) jm25).bind (z_u2 fun q26 qm27 => (if q26 = 0 then some ((0 : Int32), qm27) else (f4_take (59 : Int32) qm27).bind (z_u2 fun q30 qm31 => (if q30 = 0 then some ((0 : Int32), qm31) else some ((1 : Int32), qm31)))))))))))) else z_let (f4_refuse (2 : Int32) μ) (z_u2 fun q34 qm35 => if z_b q34 = true then some (q34, qm35) else none))
theorem s4_readAbsence {P : zP} {μ : zMem} {r : Int32} {μ' : zMem} (h : f4_readAbsence μ = some (r, μ')) : z_Sp P y_4_readAbsence M_4_readAbsence 4 [zA 4 0] μ (some (zI r)) μ' := by
  refine z_Sp.of (plainFor_of_name (by decide)) rfl (l0 := [some (zA 4 0), none]) rfl (Nat.le_of_ble_eq_true rfl) ?_
  unfold f4_readAbsence at h
  refine zr_aload_n (i := 0) d_4_readAbsence_0 rfl rfl ?_
  refine zr_geti d_4_readAbsence_1 fw_4_39 (by decide) ?_
  refine zr_bipush (v := (7 : Int32)) d_4_readAbsence_4 rfl ?_
  refine zr_icmp_lt (tgt := 15) d_4_readAbsence_6 rfl (fun hc1 => ?_) (fun hc1 => ?_)
  · replace h := z_ip h hc1
    refine zr_aload_n (i := 0) d_4_readAbsence_15 rfl rfl ?_
    refine zr_dupa d_4_readAbsence_16 ?_
    refine zr_geti d_4_readAbsence_17 fw_4_39 (by decide) ?_
    refine zr_iconst (v := (1 : Int32)) d_4_readAbsence_20 rfl ?_
    refine zr_iadd d_4_readAbsence_21 ?_
    obtain ⟨m2, hm3, h⟩ := z_lt h
    refine zr_puti d_4_readAbsence_22 fw_4_39 pw_4_6 hm3 ?_
    refine zr_aload_n (i := 0) d_4_readAbsence_25 rfl rfl ?_
    refine zr_sipush (v := (131 : Int32)) d_4_readAbsence_26 rfl ?_
    obtain ⟨⟨q4, qm5⟩, hq6, h⟩ := z_bd h
    replace h := z_h2 h
    refine zr_callVi (av := [zI (131 : Int32)]) (st := []) d_4_readAbsence_29 mw_4_take ml_4_111 im_4_take se_4_take rfl rfl (Nat.le_of_ble_eq_true rfl) fit_1_2_4 rfl rfl rfl (s4_take hq6) ?_
    refine zr_if_ne (tgt := 37) d_4_readAbsence_32 rfl (fun hc7 => ?_) (fun hc7 => ?_)
    · replace h := z_ip h hc7
      refine zr_iconst (v := (0 : Int32)) d_4_readAbsence_35 rfl ?_
      obtain ⟨rfl, rfl⟩ := Prod.mk.inj (Option.some.inj h)
      exact ze_z d_4_readAbsence_36 rfl rfl
    · replace h := z_im h hc7
      refine zr_aload_n (i := 0) d_4_readAbsence_37 rfl rfl ?_
      obtain ⟨⟨q8, qm9⟩, hq10, h⟩ := z_bd h
      replace h := z_h2 h
      refine zr_callVi (av := []) (st := []) d_4_readAbsence_38 mw_4_findPerson ml_4_124 im_4_findPerson se_4_findPerson rfl rfl (Nat.le_of_ble_eq_true rfl) fit_3_2_4 rfl rfl rfl (s4_findPerson hq10) ?_
      refine zr_istore_n (i := 1) (l' := [some (zA 4 0), some (zI q8)]) d_4_readAbsence_41 rfl (by decide) rfl ?_
      refine zr_aload_n (i := 0) d_4_readAbsence_42 rfl rfl ?_
      refine zr_iconst (v := (2 : Int32)) d_4_readAbsence_43 rfl ?_
      obtain ⟨⟨q11, qm12⟩, hq13, h⟩ := z_bd h
      replace h := z_h2 h
      refine zr_callVi (av := [zI (2 : Int32)]) (st := []) d_4_readAbsence_44 mw_4_take ml_4_111 im_4_take se_4_take rfl rfl (Nat.le_of_ble_eq_true rfl) fit_1_2_4 rfl rfl rfl (s4_take hq13) ?_
      refine zr_if_ne (tgt := 52) d_4_readAbsence_47 rfl (fun hc14 => ?_) (fun hc14 => ?_)
      · replace h := z_ip h hc14
        refine zr_iconst (v := (0 : Int32)) d_4_readAbsence_50 rfl ?_
        obtain ⟨rfl, rfl⟩ := Prod.mk.inj (Option.some.inj h)
        exact ze_z d_4_readAbsence_51 rfl rfl
      · replace h := z_im h hc14
        refine zr_aload_n (i := 0) d_4_readAbsence_52 rfl rfl ?_
        obtain ⟨qm15, hq16, h⟩ := z_bd h
        refine zr_callVv (av := []) (st := []) d_4_readAbsence_53 mw_4_suspectNumber ml_4_121 im_4_suspectNumber se_4_suspectNumber rfl rfl (Nat.le_of_ble_eq_true rfl) fit_2_1_4 rfl rfl rfl (s4_suspectNumber hq16) ?_
        refine zr_iload_n (i := 1) d_4_readAbsence_56 rfl rfl ?_
        refine zr_iconst (v := (-1 : Int32)) d_4_readAbsence_57 rfl ?_
        obtain ⟨jm25, hT17, h⟩ := z_bd h
        have hJ18 : z_RQ P M_4_readAbsence (z_rm 4) (z_mq P (some (zI r)) μ') 0 0 75 [some (zA 4 0), none] [] jm25 := by
          refine zr_aload_n (i := 0) d_4_readAbsence_75 rfl rfl ?_
          refine zr_iconst (v := (3 : Int32)) d_4_readAbsence_76 rfl ?_
          obtain ⟨⟨q26, qm27⟩, hq28, h⟩ := z_bd h
          replace h := z_h2 h
          refine zr_callVi (av := [zI (3 : Int32)]) (st := []) d_4_readAbsence_77 mw_4_take ml_4_111 im_4_take se_4_take rfl rfl (Nat.le_of_ble_eq_true rfl) fit_1_2_4 rfl rfl rfl (s4_take hq28) ?_
          refine zr_if_eq (tgt := 96) d_4_readAbsence_80 rfl (fun hc29 => ?_) (fun hc29 => ?_)
          · replace h := z_ip h hc29
            refine zr_iconst (v := (0 : Int32)) d_4_readAbsence_96 rfl ?_
            obtain ⟨rfl, rfl⟩ := Prod.mk.inj (Option.some.inj h)
            exact ze_z d_4_readAbsence_97 rfl rfl
          · replace h := z_im h hc29
            refine zr_aload_n (i := 0) d_4_readAbsence_83 rfl rfl ?_
            refine zr_bipush (v := (59 : Int32)) d_4_readAbsence_84 rfl ?_
            obtain ⟨⟨q30, qm31⟩, hq32, h⟩ := z_bd h
            replace h := z_h2 h
            refine zr_callVi (av := [zI (59 : Int32)]) (st := []) d_4_readAbsence_86 mw_4_take ml_4_111 im_4_take se_4_take rfl rfl (Nat.le_of_ble_eq_true rfl) fit_1_2_4 rfl rfl rfl (s4_take hq32) ?_
            refine zr_if_eq (tgt := 96) d_4_readAbsence_89 rfl (fun hc33 => ?_) (fun hc33 => ?_)
            · replace h := z_ip h hc33
              refine zr_iconst (v := (0 : Int32)) d_4_readAbsence_96 rfl ?_
              obtain ⟨rfl, rfl⟩ := Prod.mk.inj (Option.some.inj h)
              exact ze_z d_4_readAbsence_97 rfl rfl
            · replace h := z_im h hc33
              refine zr_iconst (v := (1 : Int32)) d_4_readAbsence_92 rfl ?_
              refine zr_goto (tgt := 97) d_4_readAbsence_93 rfl ?_
              obtain ⟨rfl, rfl⟩ := Prod.mk.inj (Option.some.inj h)
              exact ze_z d_4_readAbsence_97 rfl rfl
        refine zr_icmp_eq (tgt := 75) d_4_readAbsence_58 rfl (fun hc19 => ?_) (fun hc19 => ?_)
        · replace hT17 := z_ip hT17 hc19
          obtain rfl := Option.some.inj hT17
          exact zr_wk2 hJ18 ⟨rfl, trivial⟩
        · replace hT17 := z_im hT17 hc19
          refine zr_aload_n (i := 0) d_4_readAbsence_61 rfl rfl ?_
          refine zr_getd d_4_readAbsence_62 fw_4_28 ?_
          refine zr_gets (i' := ((qm15.2.2 4 0 3))) d_4_readAbsence_65 fw_4_142 rfl ?_
          refine zr_iload_n (i := 1) d_4_readAbsence_68 rfl rfl ?_
          refine zr_aload_n (i := 0) d_4_readAbsence_69 rfl rfl ?_
          obtain ⟨q20, hq21, hT17⟩ := z_bd hT17
          refine zr_callVl (av := []) (st := [zI q8, zA 28 ((qm15.2.2 4 0 3))]) d_4_readAbsence_70 mw_4_value ml_4_117 im_4_value se_4_value rfl rfl (Nat.le_of_ble_eq_true rfl) fit_1_1_4 rfl rfl rfl (s4_value hq21) ?_
          refine zr_l2i d_4_readAbsence_73 ?_
          obtain ⟨hb24, hT17⟩ := z_gd hT17
          obtain ⟨m22, hm23, hT17⟩ := z_lt hT17
          refine zr_iast d_4_readAbsence_74 sa_28 rfl hb24 hm23 ?_
          obtain rfl := Option.some.inj hT17
          exact zr_wk2 hJ18 ⟨rfl, trivial⟩
  · replace h := z_im h hc1
    refine zr_aload_n (i := 0) d_4_readAbsence_9 rfl rfl ?_
    refine zr_iconst (v := (2 : Int32)) d_4_readAbsence_10 rfl ?_
    obtain ⟨⟨q34, qm35⟩, hq36, h⟩ := z_lt h
    replace h := z_h2 h
    refine zr_callVi (av := [zI (2 : Int32)]) (st := []) d_4_readAbsence_11 mw_4_refuse ml_4_95 im_4_refuse se_4_refuse rfl rfl (Nat.le_of_ble_eq_true rfl) fit_1_2_4 rfl rfl rfl (s4_refuse hq36.symm) ?_
    obtain ⟨hzb, h⟩ := z_gd h
    obtain ⟨rfl, rfl⟩ := Prod.mk.inj (Option.some.inj h)
    exact ze_z d_4_readAbsence_14 rfl (z_b_ok hzb)
def f4_readSeed  (μ : zMem) : Option (Int32 × zMem) :=
  (f4_take (136 : Int32) μ).bind (z_u2 fun q1 qm2 => (if q1 = 0 then some ((0 : Int32), qm2) else (f4_value qm2).bind (fun q5 => z_let (z_sI qm2 6 (qm2.2.2 4 0 3) 2 q5.toInt32) fun m7 => (f4_take (3 : Int32) m7).bind (z_u2 fun q9 qm10 => (if q9 = 0 then some ((0 : Int32), qm10) else (f4_take (59 : Int32) qm10).bind (z_u2 fun q13 qm14 => (if q13 = 0 then some ((0 : Int32), qm14) else some ((1 : Int32), qm14))))))))
theorem s4_readSeed {P : zP} {μ : zMem} {r : Int32} {μ' : zMem} (h : f4_readSeed μ = some (r, μ')) : z_Sp P y_4_readSeed M_4_readSeed 2 [zA 4 0] μ (some (zI r)) μ' := by
  refine z_Sp.of (plainFor_of_name (by decide)) rfl (l0 := [some (zA 4 0)]) rfl (Nat.le_of_ble_eq_true rfl) ?_
  unfold f4_readSeed at h
  refine zr_aload_n (i := 0) d_4_readSeed_0 rfl rfl ?_
  refine zr_sipush (v := (136 : Int32)) d_4_readSeed_1 rfl ?_
  obtain ⟨⟨q1, qm2⟩, hq3, h⟩ := z_bd h
  replace h := z_h2 h
  refine zr_callVi (av := [zI (136 : Int32)]) (st := []) d_4_readSeed_4 mw_4_take ml_4_111 im_4_take se_4_take rfl rfl (Nat.le_of_ble_eq_true rfl) fit_1_2_2 rfl rfl rfl (s4_take hq3) ?_
  refine zr_if_ne (tgt := 12) d_4_readSeed_7 rfl (fun hc4 => ?_) (fun hc4 => ?_)
  · replace h := z_ip h hc4
    refine zr_iconst (v := (0 : Int32)) d_4_readSeed_10 rfl ?_
    obtain ⟨rfl, rfl⟩ := Prod.mk.inj (Option.some.inj h)
    exact ze_z d_4_readSeed_11 rfl rfl
  · replace h := z_im h hc4
    refine zr_aload_n (i := 0) d_4_readSeed_12 rfl rfl ?_
    refine zr_getd d_4_readSeed_13 fw_4_28 ?_
    refine zr_aload_n (i := 0) d_4_readSeed_16 rfl rfl ?_
    obtain ⟨q5, hq6, h⟩ := z_bd h
    refine zr_callVl (av := []) (st := [zA 6 (qm2.2.2 4 0 3)]) d_4_readSeed_17 mw_4_value ml_4_117 im_4_value se_4_value rfl rfl (Nat.le_of_ble_eq_true rfl) fit_1_1_2 rfl rfl rfl (s4_value hq6) ?_
    refine zr_l2i d_4_readSeed_20 ?_
    obtain ⟨m7, hm8, h⟩ := z_lt h
    refine zr_puti d_4_readSeed_21 fw_4_144 pw_6_2 hm8 ?_
    refine zr_aload_n (i := 0) d_4_readSeed_24 rfl rfl ?_
    refine zr_iconst (v := (3 : Int32)) d_4_readSeed_25 rfl ?_
    obtain ⟨⟨q9, qm10⟩, hq11, h⟩ := z_bd h
    replace h := z_h2 h
    refine zr_callVi (av := [zI (3 : Int32)]) (st := []) d_4_readSeed_26 mw_4_take ml_4_111 im_4_take se_4_take rfl rfl (Nat.le_of_ble_eq_true rfl) fit_1_2_2 rfl rfl rfl (s4_take hq11) ?_
    refine zr_if_eq (tgt := 45) d_4_readSeed_29 rfl (fun hc12 => ?_) (fun hc12 => ?_)
    · replace h := z_ip h hc12
      refine zr_iconst (v := (0 : Int32)) d_4_readSeed_45 rfl ?_
      obtain ⟨rfl, rfl⟩ := Prod.mk.inj (Option.some.inj h)
      exact ze_z d_4_readSeed_46 rfl rfl
    · replace h := z_im h hc12
      refine zr_aload_n (i := 0) d_4_readSeed_32 rfl rfl ?_
      refine zr_bipush (v := (59 : Int32)) d_4_readSeed_33 rfl ?_
      obtain ⟨⟨q13, qm14⟩, hq15, h⟩ := z_bd h
      replace h := z_h2 h
      refine zr_callVi (av := [zI (59 : Int32)]) (st := []) d_4_readSeed_35 mw_4_take ml_4_111 im_4_take se_4_take rfl rfl (Nat.le_of_ble_eq_true rfl) fit_1_2_2 rfl rfl rfl (s4_take hq15) ?_
      refine zr_if_eq (tgt := 45) d_4_readSeed_38 rfl (fun hc16 => ?_) (fun hc16 => ?_)
      · replace h := z_ip h hc16
        refine zr_iconst (v := (0 : Int32)) d_4_readSeed_45 rfl ?_
        obtain ⟨rfl, rfl⟩ := Prod.mk.inj (Option.some.inj h)
        exact ze_z d_4_readSeed_46 rfl rfl
      · replace h := z_im h hc16
        refine zr_iconst (v := (1 : Int32)) d_4_readSeed_41 rfl ?_
        refine zr_goto (tgt := 46) d_4_readSeed_42 rfl ?_
        obtain ⟨rfl, rfl⟩ := Prod.mk.inj (Option.some.inj h)
        exact ze_z d_4_readSeed_46 rfl rfl
def f4_readUnit (fr : Int32 → zMem → Option (Int32 × zMem)) (a1 : Int32) (μ : zMem) : Option (Int32 × zMem) :=
  (f4_kind μ).bind (fun q1 => (f4_kind μ).bind (fun q3 => (if q3 = (40 : Int32) then (if a1 < (6 : Int32) then (f4_take (40 : Int32) μ).bind (z_u2 fun q7 qm8 => (if q7 = 0 then some ((0 : Int32), qm8) else (fr (a1 + (1 : Int32)) qm8).bind (z_u2 fun q11 qm12 => (if q11 = 0 then some ((0 : Int32), qm12) else (f4_take (41 : Int32) qm12).bind (z_u2 fun q15 qm16 => (if q15 = 0 then some ((0 : Int32), qm16) else some ((1 : Int32), qm16))))))) else z_let (f4_refuse (2 : Int32) μ) (z_u2 fun q19 qm20 => if z_b q19 = true then some (q19, qm20) else none)) else (if (q1 - (140 : Int32)) < 0 then (f4_value μ).bind (fun q23 => (f6_write (μ.2.2 4 0 3) q23.toInt32 μ).bind (fun qm25 => (f4_take (3 : Int32) qm25).bind (z_u2 fun q27 qm28 => if z_b q27 = true then some (q27, qm28) else none))) else (if (q1 - (140 : Int32)) < (9 : Int32) then (f6_write (μ.2.2 4 0 3) ((-1 : Int32) - (q1 - (140 : Int32))) μ).bind (fun qm31 => (f4_kind qm31).bind (fun q33 => (f4_take q33 qm31).bind (z_u2 fun q35 qm36 => if z_b q35 = true then some (q35, qm36) else none))) else (f4_value μ).bind (fun q38 => (f6_write (μ.2.2 4 0 3) q38.toInt32 μ).bind (fun qm40 => (f4_take (3 : Int32) qm40).bind (z_u2 fun q42 qm43 => if z_b q42 = true then some (q42, qm43) else none))))))))
theorem s4_readUnit {P : zP} (fr : Int32 → zMem → Option (Int32 × zMem)) {D : Nat} (hD : 2 ≤ D) (hr : ∀ a μ r μ', fr a μ = some (r, μ') → z_Sp P y_4_readSum M_4_readSum D [zA 4 0, zI a] μ (some (zI r)) μ') {μ : zMem} {a1 : Int32} {r : Int32} {μ' : zMem} (h : f4_readUnit fr a1 μ = some (r, μ')) : z_Sp P y_4_readUnit M_4_readUnit (D + 1) [zA 4 0, zI a1] μ (some (zI r)) μ' := by
  refine z_Sp.of (plainFor_of_name (by decide)) rfl (l0 := [some (zA 4 0), some (zI a1), none]) rfl (Nat.le_of_ble_eq_true rfl) ?_
  unfold f4_readUnit at h
  refine zr_aload_n (i := 0) d_4_readUnit_0 rfl rfl ?_
  obtain ⟨q1, hq2, h⟩ := z_bd h
  refine zr_callVi (av := []) (st := []) d_4_readUnit_1 mw_4_kind ml_4_61 im_4_kind se_4_kind rfl rfl (Nat.le_of_ble_eq_true rfl) (z_fitD (by omega) (by decide)) rfl rfl rfl (s4_kind hq2) ?_
  refine zr_sipush (v := (140 : Int32)) d_4_readUnit_4 rfl ?_
  refine zr_isub d_4_readUnit_7 ?_
  refine zr_istore_n (i := 2) (l' := [some (zA 4 0), some (zI a1), some (zI (q1 - (140 : Int32)))]) d_4_readUnit_8 rfl (by decide) rfl ?_
  refine zr_aload_n (i := 0) d_4_readUnit_9 rfl rfl ?_
  obtain ⟨q3, hq4, h⟩ := z_bd h
  refine zr_callVi (av := []) (st := []) d_4_readUnit_10 mw_4_kind ml_4_61 im_4_kind se_4_kind rfl rfl (Nat.le_of_ble_eq_true rfl) (z_fitD (by omega) (by decide)) rfl rfl rfl (s4_kind hq4) ?_
  refine zr_bipush (v := (40 : Int32)) d_4_readUnit_13 rfl ?_
  refine zr_icmp_ne (tgt := 64) d_4_readUnit_15 rfl (fun hc5 => ?_) (fun hc5 => ?_)
  · replace h := z_ip h hc5
    refine zr_iload_n (i := 1) d_4_readUnit_18 rfl rfl ?_
    refine zr_bipush (v := (6 : Int32)) d_4_readUnit_19 rfl ?_
    refine zr_icmp_lt (tgt := 30) d_4_readUnit_21 rfl (fun hc6 => ?_) (fun hc6 => ?_)
    · replace h := z_ip h hc6
      refine zr_aload_n (i := 0) d_4_readUnit_30 rfl rfl ?_
      refine zr_bipush (v := (40 : Int32)) d_4_readUnit_31 rfl ?_
      obtain ⟨⟨q7, qm8⟩, hq9, h⟩ := z_bd h
      replace h := z_h2 h
      refine zr_callVi (av := [zI (40 : Int32)]) (st := []) d_4_readUnit_33 mw_4_take ml_4_111 im_4_take se_4_take rfl rfl (Nat.le_of_ble_eq_true rfl) (z_fitD (by omega) (by decide)) rfl rfl rfl (s4_take hq9) ?_
      refine zr_if_eq (tgt := 62) d_4_readUnit_36 rfl (fun hc10 => ?_) (fun hc10 => ?_)
      · replace h := z_ip h hc10
        refine zr_iconst (v := (0 : Int32)) d_4_readUnit_62 rfl ?_
        obtain ⟨rfl, rfl⟩ := Prod.mk.inj (Option.some.inj h)
        exact ze_z d_4_readUnit_63 rfl rfl
      · replace h := z_im h hc10
        refine zr_aload_n (i := 0) d_4_readUnit_39 rfl rfl ?_
        refine zr_iload_n (i := 1) d_4_readUnit_40 rfl rfl ?_
        refine zr_iconst (v := (1 : Int32)) d_4_readUnit_41 rfl ?_
        refine zr_iadd d_4_readUnit_42 ?_
        obtain ⟨⟨q11, qm12⟩, hq13, h⟩ := z_bd h
        replace h := z_h2 h
        refine zr_callVi (av := [zI (a1 + (1 : Int32))]) (st := []) d_4_readUnit_43 mw_4_readSum ml_4_154 im_4_readSum se_4_readSum rfl rfl (Nat.le_of_ble_eq_true rfl) (z_fitD (by omega) (by decide)) rfl rfl rfl (hr _ _ _ _ hq13) ?_
        refine zr_if_eq (tgt := 62) d_4_readUnit_46 rfl (fun hc14 => ?_) (fun hc14 => ?_)
        · replace h := z_ip h hc14
          refine zr_iconst (v := (0 : Int32)) d_4_readUnit_62 rfl ?_
          obtain ⟨rfl, rfl⟩ := Prod.mk.inj (Option.some.inj h)
          exact ze_z d_4_readUnit_63 rfl rfl
        · replace h := z_im h hc14
          refine zr_aload_n (i := 0) d_4_readUnit_49 rfl rfl ?_
          refine zr_bipush (v := (41 : Int32)) d_4_readUnit_50 rfl ?_
          obtain ⟨⟨q15, qm16⟩, hq17, h⟩ := z_bd h
          replace h := z_h2 h
          refine zr_callVi (av := [zI (41 : Int32)]) (st := []) d_4_readUnit_52 mw_4_take ml_4_111 im_4_take se_4_take rfl rfl (Nat.le_of_ble_eq_true rfl) (z_fitD (by omega) (by decide)) rfl rfl rfl (s4_take hq17) ?_
          refine zr_if_eq (tgt := 62) d_4_readUnit_55 rfl (fun hc18 => ?_) (fun hc18 => ?_)
          · replace h := z_ip h hc18
            refine zr_iconst (v := (0 : Int32)) d_4_readUnit_62 rfl ?_
            obtain ⟨rfl, rfl⟩ := Prod.mk.inj (Option.some.inj h)
            exact ze_z d_4_readUnit_63 rfl rfl
          · replace h := z_im h hc18
            refine zr_iconst (v := (1 : Int32)) d_4_readUnit_58 rfl ?_
            refine zr_goto (tgt := 63) d_4_readUnit_59 rfl ?_
            obtain ⟨rfl, rfl⟩ := Prod.mk.inj (Option.some.inj h)
            exact ze_z d_4_readUnit_63 rfl rfl
    · replace h := z_im h hc6
      refine zr_aload_n (i := 0) d_4_readUnit_24 rfl rfl ?_
      refine zr_iconst (v := (2 : Int32)) d_4_readUnit_25 rfl ?_
      obtain ⟨⟨q19, qm20⟩, hq21, h⟩ := z_lt h
      replace h := z_h2 h
      refine zr_callVi (av := [zI (2 : Int32)]) (st := []) d_4_readUnit_26 mw_4_refuse ml_4_95 im_4_refuse se_4_refuse rfl rfl (Nat.le_of_ble_eq_true rfl) (z_fitD (by omega) (by decide)) rfl rfl rfl (s4_refuse hq21.symm) ?_
      obtain ⟨hzb, h⟩ := z_gd h
      obtain ⟨rfl, rfl⟩ := Prod.mk.inj (Option.some.inj h)
      exact ze_z d_4_readUnit_29 rfl (z_b_ok hzb)
  · replace h := z_im h hc5
    refine zr_iload_n (i := 2) d_4_readUnit_64 rfl rfl ?_
    refine zr_if_lt (tgt := 93) d_4_readUnit_65 rfl (fun hc22 => ?_) (fun hc22 => ?_)
    · replace h := z_ip h hc22
      refine zr_aload_n (i := 0) d_4_readUnit_93 rfl rfl ?_
      refine zr_getd d_4_readUnit_94 fw_4_28 ?_
      refine zr_aload_n (i := 0) d_4_readUnit_97 rfl rfl ?_
      obtain ⟨q23, hq24, h⟩ := z_bd h
      refine zr_callVl (av := []) (st := [zA 6 (μ.2.2 4 0 3)]) d_4_readUnit_98 mw_4_value ml_4_117 im_4_value se_4_value rfl rfl (Nat.le_of_ble_eq_true rfl) (z_fitD (by omega) (by decide)) rfl rfl rfl (s4_value hq24) ?_
      refine zr_l2i d_4_readUnit_101 ?_
      obtain ⟨qm25, hq26, h⟩ := z_bd h
      refine zr_callVv (av := [zI q23.toInt32]) (st := []) d_4_readUnit_102 mw_6_write ml_4_157 im_6_write se_6_write rfl rfl (Nat.le_of_ble_eq_true rfl) (z_fitD (by omega) (by decide)) rfl rfl rfl (s6_write hq26) ?_
      refine zr_aload_n (i := 0) d_4_readUnit_105 rfl rfl ?_
      refine zr_iconst (v := (3 : Int32)) d_4_readUnit_106 rfl ?_
      obtain ⟨⟨q27, qm28⟩, hq29, h⟩ := z_bd h
      replace h := z_h2 h
      refine zr_callVi (av := [zI (3 : Int32)]) (st := []) d_4_readUnit_107 mw_4_take ml_4_111 im_4_take se_4_take rfl rfl (Nat.le_of_ble_eq_true rfl) (z_fitD (by omega) (by decide)) rfl rfl rfl (s4_take hq29) ?_
      obtain ⟨hzb, h⟩ := z_gd h
      obtain ⟨rfl, rfl⟩ := Prod.mk.inj (Option.some.inj h)
      exact ze_z d_4_readUnit_110 rfl (z_b_ok hzb)
    · replace h := z_im h hc22
      refine zr_iload_n (i := 2) d_4_readUnit_68 rfl rfl ?_
      refine zr_bipush (v := (9 : Int32)) d_4_readUnit_69 rfl ?_
      refine zr_icmp_ge (tgt := 93) d_4_readUnit_71 rfl (fun hc30 => ?_) (fun hc30 => ?_)
      · replace h := z_ip h hc30
        refine zr_aload_n (i := 0) d_4_readUnit_74 rfl rfl ?_
        refine zr_getd d_4_readUnit_75 fw_4_28 ?_
        refine zr_iconst (v := (-1 : Int32)) d_4_readUnit_78 rfl ?_
        refine zr_iload_n (i := 2) d_4_readUnit_79 rfl rfl ?_
        refine zr_isub d_4_readUnit_80 ?_
        obtain ⟨qm31, hq32, h⟩ := z_bd h
        refine zr_callVv (av := [zI ((-1 : Int32) - (q1 - (140 : Int32)))]) (st := []) d_4_readUnit_81 mw_6_write ml_4_157 im_6_write se_6_write rfl rfl (Nat.le_of_ble_eq_true rfl) (z_fitD (by omega) (by decide)) rfl rfl rfl (s6_write hq32) ?_
        refine zr_aload_n (i := 0) d_4_readUnit_84 rfl rfl ?_
        refine zr_aload_n (i := 0) d_4_readUnit_85 rfl rfl ?_
        obtain ⟨q33, hq34, h⟩ := z_bd h
        refine zr_callVi (av := []) (st := [zA 4 0]) d_4_readUnit_86 mw_4_kind ml_4_61 im_4_kind se_4_kind rfl rfl (Nat.le_of_ble_eq_true rfl) (z_fitD (by omega) (by decide)) rfl rfl rfl (s4_kind hq34) ?_
        obtain ⟨⟨q35, qm36⟩, hq37, h⟩ := z_bd h
        replace h := z_h2 h
        refine zr_callVi (av := [zI q33]) (st := []) d_4_readUnit_89 mw_4_take ml_4_111 im_4_take se_4_take rfl rfl (Nat.le_of_ble_eq_true rfl) (z_fitD (by omega) (by decide)) rfl rfl rfl (s4_take hq37) ?_
        obtain ⟨hzb, h⟩ := z_gd h
        obtain ⟨rfl, rfl⟩ := Prod.mk.inj (Option.some.inj h)
        exact ze_z d_4_readUnit_92 rfl (z_b_ok hzb)
      · replace h := z_im h hc30
        refine zr_aload_n (i := 0) d_4_readUnit_93 rfl rfl ?_
        refine zr_getd d_4_readUnit_94 fw_4_28 ?_
        refine zr_aload_n (i := 0) d_4_readUnit_97 rfl rfl ?_
        obtain ⟨q38, hq39, h⟩ := z_bd h
        refine zr_callVl (av := []) (st := [zA 6 (μ.2.2 4 0 3)]) d_4_readUnit_98 mw_4_value ml_4_117 im_4_value se_4_value rfl rfl (Nat.le_of_ble_eq_true rfl) (z_fitD (by omega) (by decide)) rfl rfl rfl (s4_value hq39) ?_
        refine zr_l2i d_4_readUnit_101 ?_
        obtain ⟨qm40, hq41, h⟩ := z_bd h
        refine zr_callVv (av := [zI q38.toInt32]) (st := []) d_4_readUnit_102 mw_6_write ml_4_157 im_6_write se_6_write rfl rfl (Nat.le_of_ble_eq_true rfl) (z_fitD (by omega) (by decide)) rfl rfl rfl (s6_write hq41) ?_
        refine zr_aload_n (i := 0) d_4_readUnit_105 rfl rfl ?_
        refine zr_iconst (v := (3 : Int32)) d_4_readUnit_106 rfl ?_
        obtain ⟨⟨q42, qm43⟩, hq44, h⟩ := z_bd h
        replace h := z_h2 h
        refine zr_callVi (av := [zI (3 : Int32)]) (st := []) d_4_readUnit_107 mw_4_take ml_4_111 im_4_take se_4_take rfl rfl (Nat.le_of_ble_eq_true rfl) (z_fitD (by omega) (by decide)) rfl rfl rfl (s4_take hq44) ?_
        obtain ⟨hzb, h⟩ := z_gd h
        obtain ⟨rfl, rfl⟩ := Prod.mk.inj (Option.some.inj h)
        exact ze_z d_4_readUnit_110 rfl (z_b_ok hzb)
def f4_readProduct_L5 (a1 : Int32) (fr : Int32 → zMem → Option (Int32 × zMem)) : (Int32 × zMem) → Option ((Int32 × zMem) ⊕ ((zMem) ⊕ (Int32 × zMem))) := (z_u2 fun x6 xm7 => 
  (if x6 < (400 : Int32) then (f4_kind xm7).bind (fun q9 => (if q9 = (42 : Int32) then (f4_kind xm7).bind (fun q12 => ((if q12 = (42 : Int32) then some (-13 : Int32) else some (-14 : Int32)) : Option (Int32)).bind (fun j17 => (f4_kind xm7).bind (fun q18 => (f4_take q18 xm7).bind (z_u2 fun q20 qm21 => (if q20 = 0 then some (.inr (.inr ((0 : Int32), qm21))) else (f4_readUnit fr a1 qm21).bind (z_u2 fun q24 qm25 => (if q24 = 0 then some (.inr (.inr ((0 : Int32), qm25))) else (f6_write (qm25.2.2 4 0 3) j17 qm25).bind (fun qm28 => some (.inl ((x6 + (1 : Int32)), qm28)))))))))) else (f4_kind xm7).bind (fun q30 => (if q30 = (47 : Int32) then (f4_kind xm7).bind (fun q33 => ((if q33 = (42 : Int32) then some (-13 : Int32) else some (-14 : Int32)) : Option (Int32)).bind (fun j38 => (f4_kind xm7).bind (fun q39 => (f4_take q39 xm7).bind (z_u2 fun q41 qm42 => (if q41 = 0 then some (.inr (.inr ((0 : Int32), qm42))) else (f4_readUnit fr a1 qm42).bind (z_u2 fun q45 qm46 => (if q45 = 0 then some (.inr (.inr ((0 : Int32), qm46))) else (f6_write (qm46.2.2 4 0 3) j38 qm46).bind (fun qm49 => some (.inl ((x6 + (1 : Int32)), qm49)))))))))) else some (.inr (.inl xm7)))))) else some (.inr (.inl xm7))))
def f4_readProduct (fr : Int32 → zMem → Option (Int32 × zMem)) (a1 : Int32) (μ : zMem) : Option (Int32 × zMem) :=
  (f4_readUnit fr a1 μ).bind (z_u2 fun q1 qm2 => (if q1 = 0 then some ((0 : Int32), qm2) else (z_it (f4_readProduct_L5 a1 fr) z_fu ((0 : Int32), qm2)).bind (Sum.elim (fun e51 => some ((1 : Int32), e51)) (z_u2 fun qr53 qr54 => some (qr53, qr54)))))
theorem s4_readProduct_L5 {P : zP} {ro : Option zV} {μo : zMem} (fr : Int32 → zMem → Option (Int32 × zMem)) {D : Nat} (hD : 2 ≤ D) (hr : ∀ a μ r μ', fr a μ = some (r, μ') → z_Sp P y_4_readSum M_4_readSum D [zA 4 0, zI a] μ (some (zI r)) μ') (a1 : Int32) (x6 : Int32) (xm7 : zMem) (K : (Int32 × zMem) ⊕ ((zMem) ⊕ (Int32 × zMem))) (h : f4_readProduct_L5 a1 fr (x6, xm7) = some K) (hI : ∀ (y0 : Int32) (y1 : zMem), K = .inl (y0, y1) → z_RQ P M_4_readProduct (z_rm (D + 2)) (z_mq P ro μo) 0 0 12 [some (zA 4 0), some (zI a1), some (zI y0), none] [] y1) (hE : ∀ (z0 : zMem), K = .inr (.inl z0) → z_RQ P M_4_readProduct (z_rm (D + 2)) (z_mq P ro μo) 0 0 89 [none, none, none, none] [] z0) (hR : ∀ (qr : Int32) (qm : zMem), K = .inr (.inr (qr, qm)) → ro = some (zI qr) ∧ μo = qm) : z_RQ P M_4_readProduct (z_rm (D + 2)) (z_mq P ro μo) 0 0 12 [some (zA 4 0), some (zI a1), some (zI x6), none] [] xm7 := by
  unfold f4_readProduct_L5 at h
  replace h := z_h2 h
  refine zr_iload_n (i := 2) d_4_readProduct_12 rfl rfl ?_
  refine zr_sipush (v := (400 : Int32)) d_4_readProduct_13 rfl ?_
  refine zr_icmp_ge (tgt := 89) d_4_readProduct_16 rfl (fun hc8 => ?_) (fun hc8 => ?_)
  · replace h := z_ip h hc8
    refine zr_aload_n (i := 0) d_4_readProduct_19 rfl rfl ?_
    obtain ⟨q9, hq10, h⟩ := z_bd h
    refine zr_callVi (av := []) (st := []) d_4_readProduct_20 mw_4_kind ml_4_61 im_4_kind se_4_kind rfl rfl (Nat.le_of_ble_eq_true rfl) (z_fitD (by omega) (by decide)) rfl rfl rfl (s4_kind hq10) ?_
    refine zr_bipush (v := (42 : Int32)) d_4_readProduct_23 rfl ?_
    refine zr_icmp_eq (tgt := 37) d_4_readProduct_25 rfl (fun hc11 => ?_) (fun hc11 => ?_)
    · replace h := z_ip h hc11
      refine zr_aload_n (i := 0) d_4_readProduct_37 rfl rfl ?_
      obtain ⟨q12, hq13, h⟩ := z_bd h
      refine zr_callVi (av := []) (st := []) d_4_readProduct_38 mw_4_kind ml_4_61 im_4_kind se_4_kind rfl rfl (Nat.le_of_ble_eq_true rfl) (z_fitD (by omega) (by decide)) rfl rfl rfl (s4_kind hq13) ?_
      refine zr_bipush (v := (42 : Int32)) d_4_readProduct_41 rfl ?_
      obtain ⟨j17, hT14, h⟩ := z_bd h
      have hJ15 : z_RQ P M_4_readProduct (z_rm (D + 2)) (z_mq P ro μo) 0 0 53 [some (zA 4 0), some (zI a1), some (zI x6), none] [zI j17] xm7 := by
        refine zr_istore_n (i := 3) (l' := [some (zA 4 0), some (zI a1), some (zI x6), some (zI j17)]) d_4_readProduct_53 rfl (by decide) rfl ?_
        refine zr_aload_n (i := 0) d_4_readProduct_54 rfl rfl ?_
        refine zr_aload_n (i := 0) d_4_readProduct_55 rfl rfl ?_
        obtain ⟨q18, hq19, h⟩ := z_bd h
        refine zr_callVi (av := []) (st := [zA 4 0]) d_4_readProduct_56 mw_4_kind ml_4_61 im_4_kind se_4_kind rfl rfl (Nat.le_of_ble_eq_true rfl) (z_fitD (by omega) (by decide)) rfl rfl rfl (s4_kind hq19) ?_
        obtain ⟨⟨q20, qm21⟩, hq22, h⟩ := z_bd h
        replace h := z_h2 h
        refine zr_callVi (av := [zI q18]) (st := []) d_4_readProduct_59 mw_4_take ml_4_111 im_4_take se_4_take rfl rfl (Nat.le_of_ble_eq_true rfl) (z_fitD (by omega) (by decide)) rfl rfl rfl (s4_take hq22) ?_
        refine zr_if_eq (tgt := 73) d_4_readProduct_62 rfl (fun hc23 => ?_) (fun hc23 => ?_)
        · replace h := z_ip h hc23
          refine zr_iconst (v := (0 : Int32)) d_4_readProduct_73 rfl ?_
          obtain rfl := Option.some.inj h
          obtain ⟨rfl, rfl⟩ := hR (0 : Int32) qm21 rfl
          exact ze_z d_4_readProduct_74 rfl rfl
        · replace h := z_im h hc23
          refine zr_aload_n (i := 0) d_4_readProduct_65 rfl rfl ?_
          refine zr_iload_n (i := 1) d_4_readProduct_66 rfl rfl ?_
          obtain ⟨⟨q24, qm25⟩, hq26, h⟩ := z_bd h
          replace h := z_h2 h
          refine zr_callVi (av := [zI a1]) (st := []) d_4_readProduct_67 mw_4_readUnit ml_4_166 im_4_readUnit se_4_readUnit rfl rfl (Nat.le_of_ble_eq_true rfl) (z_fitD (by omega) (by decide)) rfl rfl rfl (s4_readUnit fr hD hr hq26) ?_
          refine zr_if_ne (tgt := 75) d_4_readProduct_70 rfl (fun hc27 => ?_) (fun hc27 => ?_)
          · replace h := z_ip h hc27
            refine zr_iconst (v := (0 : Int32)) d_4_readProduct_73 rfl ?_
            obtain rfl := Option.some.inj h
            obtain ⟨rfl, rfl⟩ := hR (0 : Int32) qm25 rfl
            exact ze_z d_4_readProduct_74 rfl rfl
          · replace h := z_im h hc27
            refine zr_aload_n (i := 0) d_4_readProduct_75 rfl rfl ?_
            refine zr_getd d_4_readProduct_76 fw_4_28 ?_
            refine zr_iload_n (i := 3) d_4_readProduct_79 rfl rfl ?_
            obtain ⟨qm28, hq29, h⟩ := z_bd h
            refine zr_callVv (av := [zI j17]) (st := []) d_4_readProduct_80 mw_6_write ml_4_157 im_6_write se_6_write rfl rfl (Nat.le_of_ble_eq_true rfl) (z_fitD (by omega) (by decide)) rfl rfl rfl (s6_write hq29) ?_
            refine zr_iinc (v := (x6 + (1 : Int32))) (l' := [some (zA 4 0), some (zI a1), some (zI (x6 + (1 : Int32))), some (zI j17)]) d_4_readProduct_83 (by decide) rfl rfl rfl ?_
            refine zr_goto (tgt := 12) d_4_readProduct_86 rfl ?_
            obtain rfl := Option.some.inj h
            exact zr_wk2 (hI (x6 + (1 : Int32)) qm28 rfl) ⟨rfl, ⟨rfl, ⟨rfl, trivial⟩⟩⟩
      refine zr_icmp_ne (tgt := 51) d_4_readProduct_43 rfl (fun hc16 => ?_) (fun hc16 => ?_)
      · replace hT14 := z_ip hT14 hc16
        refine zr_bipush (v := (-13 : Int32)) d_4_readProduct_46 (by decide) ?_
        refine zr_goto (tgt := 53) d_4_readProduct_48 rfl ?_
        obtain rfl := Option.some.inj hT14
        exact zr_wk2 hJ15 ⟨rfl, ⟨rfl, ⟨rfl, trivial⟩⟩⟩
      · replace hT14 := z_im hT14 hc16
        refine zr_bipush (v := (-14 : Int32)) d_4_readProduct_51 (by decide) ?_
        obtain rfl := Option.some.inj hT14
        exact zr_wk2 hJ15 ⟨rfl, ⟨rfl, ⟨rfl, trivial⟩⟩⟩
    · replace h := z_im h hc11
      refine zr_aload_n (i := 0) d_4_readProduct_28 rfl rfl ?_
      obtain ⟨q30, hq31, h⟩ := z_bd h
      refine zr_callVi (av := []) (st := []) d_4_readProduct_29 mw_4_kind ml_4_61 im_4_kind se_4_kind rfl rfl (Nat.le_of_ble_eq_true rfl) (z_fitD (by omega) (by decide)) rfl rfl rfl (s4_kind hq31) ?_
      refine zr_bipush (v := (47 : Int32)) d_4_readProduct_32 rfl ?_
      refine zr_icmp_ne (tgt := 89) d_4_readProduct_34 rfl (fun hc32 => ?_) (fun hc32 => ?_)
      · replace h := z_ip h hc32
        refine zr_aload_n (i := 0) d_4_readProduct_37 rfl rfl ?_
        obtain ⟨q33, hq34, h⟩ := z_bd h
        refine zr_callVi (av := []) (st := []) d_4_readProduct_38 mw_4_kind ml_4_61 im_4_kind se_4_kind rfl rfl (Nat.le_of_ble_eq_true rfl) (z_fitD (by omega) (by decide)) rfl rfl rfl (s4_kind hq34) ?_
        refine zr_bipush (v := (42 : Int32)) d_4_readProduct_41 rfl ?_
        obtain ⟨j38, hT35, h⟩ := z_bd h
        have hJ36 : z_RQ P M_4_readProduct (z_rm (D + 2)) (z_mq P ro μo) 0 0 53 [some (zA 4 0), some (zI a1), some (zI x6), none] [zI j38] xm7 := by
          refine zr_istore_n (i := 3) (l' := [some (zA 4 0), some (zI a1), some (zI x6), some (zI j38)]) d_4_readProduct_53 rfl (by decide) rfl ?_
          refine zr_aload_n (i := 0) d_4_readProduct_54 rfl rfl ?_
          refine zr_aload_n (i := 0) d_4_readProduct_55 rfl rfl ?_
          obtain ⟨q39, hq40, h⟩ := z_bd h
          refine zr_callVi (av := []) (st := [zA 4 0]) d_4_readProduct_56 mw_4_kind ml_4_61 im_4_kind se_4_kind rfl rfl (Nat.le_of_ble_eq_true rfl) (z_fitD (by omega) (by decide)) rfl rfl rfl (s4_kind hq40) ?_
          obtain ⟨⟨q41, qm42⟩, hq43, h⟩ := z_bd h
          replace h := z_h2 h
          refine zr_callVi (av := [zI q39]) (st := []) d_4_readProduct_59 mw_4_take ml_4_111 im_4_take se_4_take rfl rfl (Nat.le_of_ble_eq_true rfl) (z_fitD (by omega) (by decide)) rfl rfl rfl (s4_take hq43) ?_
          refine zr_if_eq (tgt := 73) d_4_readProduct_62 rfl (fun hc44 => ?_) (fun hc44 => ?_)
          · replace h := z_ip h hc44
            refine zr_iconst (v := (0 : Int32)) d_4_readProduct_73 rfl ?_
            obtain rfl := Option.some.inj h
            obtain ⟨rfl, rfl⟩ := hR (0 : Int32) qm42 rfl
            exact ze_z d_4_readProduct_74 rfl rfl
          · replace h := z_im h hc44
            refine zr_aload_n (i := 0) d_4_readProduct_65 rfl rfl ?_
            refine zr_iload_n (i := 1) d_4_readProduct_66 rfl rfl ?_
            obtain ⟨⟨q45, qm46⟩, hq47, h⟩ := z_bd h
            replace h := z_h2 h
            refine zr_callVi (av := [zI a1]) (st := []) d_4_readProduct_67 mw_4_readUnit ml_4_166 im_4_readUnit se_4_readUnit rfl rfl (Nat.le_of_ble_eq_true rfl) (z_fitD (by omega) (by decide)) rfl rfl rfl (s4_readUnit fr hD hr hq47) ?_
            refine zr_if_ne (tgt := 75) d_4_readProduct_70 rfl (fun hc48 => ?_) (fun hc48 => ?_)
            · replace h := z_ip h hc48
              refine zr_iconst (v := (0 : Int32)) d_4_readProduct_73 rfl ?_
              obtain rfl := Option.some.inj h
              obtain ⟨rfl, rfl⟩ := hR (0 : Int32) qm46 rfl
              exact ze_z d_4_readProduct_74 rfl rfl
            · replace h := z_im h hc48
              refine zr_aload_n (i := 0) d_4_readProduct_75 rfl rfl ?_
              refine zr_getd d_4_readProduct_76 fw_4_28 ?_
              refine zr_iload_n (i := 3) d_4_readProduct_79 rfl rfl ?_
              obtain ⟨qm49, hq50, h⟩ := z_bd h
              refine zr_callVv (av := [zI j38]) (st := []) d_4_readProduct_80 mw_6_write ml_4_157 im_6_write se_6_write rfl rfl (Nat.le_of_ble_eq_true rfl) (z_fitD (by omega) (by decide)) rfl rfl rfl (s6_write hq50) ?_
              refine zr_iinc (v := (x6 + (1 : Int32))) (l' := [some (zA 4 0), some (zI a1), some (zI (x6 + (1 : Int32))), some (zI j38)]) d_4_readProduct_83 (by decide) rfl rfl rfl ?_
              refine zr_goto (tgt := 12) d_4_readProduct_86 rfl ?_
              obtain rfl := Option.some.inj h
              exact zr_wk2 (hI (x6 + (1 : Int32)) qm49 rfl) ⟨rfl, ⟨rfl, ⟨rfl, trivial⟩⟩⟩
        refine zr_icmp_ne (tgt := 51) d_4_readProduct_43 rfl (fun hc37 => ?_) (fun hc37 => ?_)
        · replace hT35 := z_ip hT35 hc37
          refine zr_bipush (v := (-13 : Int32)) d_4_readProduct_46 (by decide) ?_
          refine zr_goto (tgt := 53) d_4_readProduct_48 rfl ?_
          obtain rfl := Option.some.inj hT35
          exact zr_wk2 hJ36 ⟨rfl, ⟨rfl, ⟨rfl, trivial⟩⟩⟩
        · replace hT35 := z_im hT35 hc37
          refine zr_bipush (v := (-14 : Int32)) d_4_readProduct_51 (by decide) ?_
          obtain rfl := Option.some.inj hT35
          exact zr_wk2 hJ36 ⟨rfl, ⟨rfl, ⟨rfl, trivial⟩⟩⟩
      · replace h := z_im h hc32
        obtain rfl := Option.some.inj h
        exact zr_wk2 (hE xm7 rfl) trivial
  · replace h := z_im h hc8
    obtain rfl := Option.some.inj h
    exact zr_wk2 (hE xm7 rfl) trivial
theorem s4_readProduct {P : zP} (fr : Int32 → zMem → Option (Int32 × zMem)) {D : Nat} (hD : 2 ≤ D) (hr : ∀ a μ r μ', fr a μ = some (r, μ') → z_Sp P y_4_readSum M_4_readSum D [zA 4 0, zI a] μ (some (zI r)) μ') {μ : zMem} {a1 : Int32} {r : Int32} {μ' : zMem} (h : f4_readProduct fr a1 μ = some (r, μ')) : z_Sp P y_4_readProduct M_4_readProduct (D + 2) [zA 4 0, zI a1] μ (some (zI r)) μ' := by
  refine z_Sp.of (plainFor_of_name (by decide)) rfl (l0 := [some (zA 4 0), some (zI a1), none, none]) rfl (Nat.le_of_ble_eq_true rfl) ?_
  unfold f4_readProduct at h
  refine zr_aload_n (i := 0) d_4_readProduct_0 rfl rfl ?_
  refine zr_iload_n (i := 1) d_4_readProduct_1 rfl rfl ?_
  obtain ⟨⟨q1, qm2⟩, hq3, h⟩ := z_bd h
  replace h := z_h2 h
  refine zr_callVi (av := [zI a1]) (st := []) d_4_readProduct_2 mw_4_readUnit ml_4_166 im_4_readUnit se_4_readUnit rfl rfl (Nat.le_of_ble_eq_true rfl) (z_fitD (by omega) (by decide)) rfl rfl rfl (s4_readUnit fr hD hr hq3) ?_
  refine zr_if_ne (tgt := 10) d_4_readProduct_5 rfl (fun hc4 => ?_) (fun hc4 => ?_)
  · replace h := z_ip h hc4
    refine zr_iconst (v := (0 : Int32)) d_4_readProduct_8 rfl ?_
    obtain ⟨rfl, rfl⟩ := Prod.mk.inj (Option.some.inj h)
    exact ze_z d_4_readProduct_9 rfl rfl
  · replace h := z_im h hc4
    refine zr_iconst (v := (0 : Int32)) d_4_readProduct_10 rfl ?_
    refine zr_istore_n (i := 2) (l' := [some (zA 4 0), some (zI a1), some (zI (0 : Int32)), none]) d_4_readProduct_11 rfl (by decide) rfl ?_
    rcases z_bs h with ⟨e51, hl52, h⟩ | ⟨⟨qr53, qr54⟩, hl52, h⟩
    · refine zr_wk (l' := [some (zA 4 0), some (zI a1), some (zI (0 : Int32)), none]) ⟨rfl, ⟨rfl, ⟨rfl, trivial⟩⟩⟩ ?_
      refine z_loop (Hd := (z_u2 fun y0 y1 => z_RQ P M_4_readProduct (z_rm (D + 2)) (z_mq P (some (zI r)) μ') 0 0 12 [some (zA 4 0), some (zI a1), some (zI y0), none] [] y1)) (Ex := (Sum.elim (fun z0 => z_RQ P M_4_readProduct (z_rm (D + 2)) (z_mq P (some (zI r)) μ') 0 0 89 [none, none, none, none] [] z0) (z_u2 fun qr qm => (some (zI r)) = some (zI qr) ∧ μ' = qm))) (fun ⟨x6, xm7⟩ K h hI hE => s4_readProduct_L5 fr hD hr a1 x6 xm7 K h (fun y0 y1 e => hI (y0, y1) e) (fun z0 e => hE (.inl z0) e) (fun qr qm e => hE (.inr (qr, qm)) e)) _ _ _ hl52 ?_
      refine zr_iconst (v := (1 : Int32)) d_4_readProduct_89 rfl ?_
      obtain ⟨rfl, rfl⟩ := Prod.mk.inj (Option.some.inj h)
      exact ze_z d_4_readProduct_90 rfl rfl
    · replace h := z_h2 h
      refine zr_wk (l' := [some (zA 4 0), some (zI a1), some (zI (0 : Int32)), none]) ⟨rfl, ⟨rfl, ⟨rfl, trivial⟩⟩⟩ ?_
      refine z_loop (Hd := (z_u2 fun y0 y1 => z_RQ P M_4_readProduct (z_rm (D + 2)) (z_mq P (some (zI r)) μ') 0 0 12 [some (zA 4 0), some (zI a1), some (zI y0), none] [] y1)) (Ex := (Sum.elim (fun z0 => z_RQ P M_4_readProduct (z_rm (D + 2)) (z_mq P (some (zI r)) μ') 0 0 89 [none, none, none, none] [] z0) (z_u2 fun qr qm => (some (zI r)) = some (zI qr) ∧ μ' = qm))) (fun ⟨x6, xm7⟩ K h hI hE => s4_readProduct_L5 fr hD hr a1 x6 xm7 K h (fun y0 y1 e => hI (y0, y1) e) (fun z0 e => hE (.inl z0) e) (fun qr qm e => hE (.inr (qr, qm)) e)) _ _ _ hl52 ?_
      obtain ⟨rfl, rfl⟩ := Prod.mk.inj (Option.some.inj h)
      exact ⟨rfl, rfl⟩
def f4_readSum_L5 (a1 : Int32) (fr : Int32 → zMem → Option (Int32 × zMem)) : (Int32 × zMem) → Option ((Int32 × zMem) ⊕ ((zMem) ⊕ (Int32 × zMem))) := (z_u2 fun x6 xm7 => 
  (if x6 < (400 : Int32) then (f4_kind xm7).bind (fun q9 => (if q9 = (43 : Int32) then (f4_kind xm7).bind (fun q12 => ((if q12 = (43 : Int32) then some (-11 : Int32) else some (-12 : Int32)) : Option (Int32)).bind (fun j17 => (f4_kind xm7).bind (fun q18 => (f4_take q18 xm7).bind (z_u2 fun q20 qm21 => (if q20 = 0 then some (.inr (.inr ((0 : Int32), qm21))) else (f4_readProduct fr a1 qm21).bind (z_u2 fun q24 qm25 => (if q24 = 0 then some (.inr (.inr ((0 : Int32), qm25))) else (f6_write (qm25.2.2 4 0 3) j17 qm25).bind (fun qm28 => some (.inl ((x6 + (1 : Int32)), qm28)))))))))) else (f4_kind xm7).bind (fun q30 => (if q30 = (45 : Int32) then (f4_kind xm7).bind (fun q33 => ((if q33 = (43 : Int32) then some (-11 : Int32) else some (-12 : Int32)) : Option (Int32)).bind (fun j38 => (f4_kind xm7).bind (fun q39 => (f4_take q39 xm7).bind (z_u2 fun q41 qm42 => (if q41 = 0 then some (.inr (.inr ((0 : Int32), qm42))) else (f4_readProduct fr a1 qm42).bind (z_u2 fun q45 qm46 => (if q45 = 0 then some (.inr (.inr ((0 : Int32), qm46))) else (f6_write (qm46.2.2 4 0 3) j38 qm46).bind (fun qm49 => some (.inl ((x6 + (1 : Int32)), qm49)))))))))) else some (.inr (.inl xm7)))))) else some (.inr (.inl xm7))))
def f4_readSum (fr : Int32 → zMem → Option (Int32 × zMem)) (a1 : Int32) (μ : zMem) : Option (Int32 × zMem) :=
  (f4_readProduct fr a1 μ).bind (z_u2 fun q1 qm2 => (if q1 = 0 then some ((0 : Int32), qm2) else (z_it (f4_readSum_L5 a1 fr) z_fu ((0 : Int32), qm2)).bind (Sum.elim (fun e51 => some ((1 : Int32), e51)) (z_u2 fun qr53 qr54 => some (qr53, qr54)))))
theorem s4_readSum_L5 {P : zP} {ro : Option zV} {μo : zMem} (fr : Int32 → zMem → Option (Int32 × zMem)) {D : Nat} (hD : 2 ≤ D) (hr : ∀ a μ r μ', fr a μ = some (r, μ') → z_Sp P y_4_readSum M_4_readSum D [zA 4 0, zI a] μ (some (zI r)) μ') (a1 : Int32) (x6 : Int32) (xm7 : zMem) (K : (Int32 × zMem) ⊕ ((zMem) ⊕ (Int32 × zMem))) (h : f4_readSum_L5 a1 fr (x6, xm7) = some K) (hI : ∀ (y0 : Int32) (y1 : zMem), K = .inl (y0, y1) → z_RQ P M_4_readSum (z_rm (D + 3)) (z_mq P ro μo) 0 0 12 [some (zA 4 0), some (zI a1), some (zI y0), none] [] y1) (hE : ∀ (z0 : zMem), K = .inr (.inl z0) → z_RQ P M_4_readSum (z_rm (D + 3)) (z_mq P ro μo) 0 0 89 [none, none, none, none] [] z0) (hR : ∀ (qr : Int32) (qm : zMem), K = .inr (.inr (qr, qm)) → ro = some (zI qr) ∧ μo = qm) : z_RQ P M_4_readSum (z_rm (D + 3)) (z_mq P ro μo) 0 0 12 [some (zA 4 0), some (zI a1), some (zI x6), none] [] xm7 := by
  unfold f4_readSum_L5 at h
  replace h := z_h2 h
  refine zr_iload_n (i := 2) d_4_readSum_12 rfl rfl ?_
  refine zr_sipush (v := (400 : Int32)) d_4_readSum_13 rfl ?_
  refine zr_icmp_ge (tgt := 89) d_4_readSum_16 rfl (fun hc8 => ?_) (fun hc8 => ?_)
  · replace h := z_ip h hc8
    refine zr_aload_n (i := 0) d_4_readSum_19 rfl rfl ?_
    obtain ⟨q9, hq10, h⟩ := z_bd h
    refine zr_callVi (av := []) (st := []) d_4_readSum_20 mw_4_kind ml_4_61 im_4_kind se_4_kind rfl rfl (Nat.le_of_ble_eq_true rfl) (z_fitD (by omega) (by decide)) rfl rfl rfl (s4_kind hq10) ?_
    refine zr_bipush (v := (43 : Int32)) d_4_readSum_23 rfl ?_
    refine zr_icmp_eq (tgt := 37) d_4_readSum_25 rfl (fun hc11 => ?_) (fun hc11 => ?_)
    · replace h := z_ip h hc11
      refine zr_aload_n (i := 0) d_4_readSum_37 rfl rfl ?_
      obtain ⟨q12, hq13, h⟩ := z_bd h
      refine zr_callVi (av := []) (st := []) d_4_readSum_38 mw_4_kind ml_4_61 im_4_kind se_4_kind rfl rfl (Nat.le_of_ble_eq_true rfl) (z_fitD (by omega) (by decide)) rfl rfl rfl (s4_kind hq13) ?_
      refine zr_bipush (v := (43 : Int32)) d_4_readSum_41 rfl ?_
      obtain ⟨j17, hT14, h⟩ := z_bd h
      have hJ15 : z_RQ P M_4_readSum (z_rm (D + 3)) (z_mq P ro μo) 0 0 53 [some (zA 4 0), some (zI a1), some (zI x6), none] [zI j17] xm7 := by
        refine zr_istore_n (i := 3) (l' := [some (zA 4 0), some (zI a1), some (zI x6), some (zI j17)]) d_4_readSum_53 rfl (by decide) rfl ?_
        refine zr_aload_n (i := 0) d_4_readSum_54 rfl rfl ?_
        refine zr_aload_n (i := 0) d_4_readSum_55 rfl rfl ?_
        obtain ⟨q18, hq19, h⟩ := z_bd h
        refine zr_callVi (av := []) (st := [zA 4 0]) d_4_readSum_56 mw_4_kind ml_4_61 im_4_kind se_4_kind rfl rfl (Nat.le_of_ble_eq_true rfl) (z_fitD (by omega) (by decide)) rfl rfl rfl (s4_kind hq19) ?_
        obtain ⟨⟨q20, qm21⟩, hq22, h⟩ := z_bd h
        replace h := z_h2 h
        refine zr_callVi (av := [zI q18]) (st := []) d_4_readSum_59 mw_4_take ml_4_111 im_4_take se_4_take rfl rfl (Nat.le_of_ble_eq_true rfl) (z_fitD (by omega) (by decide)) rfl rfl rfl (s4_take hq22) ?_
        refine zr_if_eq (tgt := 73) d_4_readSum_62 rfl (fun hc23 => ?_) (fun hc23 => ?_)
        · replace h := z_ip h hc23
          refine zr_iconst (v := (0 : Int32)) d_4_readSum_73 rfl ?_
          obtain rfl := Option.some.inj h
          obtain ⟨rfl, rfl⟩ := hR (0 : Int32) qm21 rfl
          exact ze_z d_4_readSum_74 rfl rfl
        · replace h := z_im h hc23
          refine zr_aload_n (i := 0) d_4_readSum_65 rfl rfl ?_
          refine zr_iload_n (i := 1) d_4_readSum_66 rfl rfl ?_
          obtain ⟨⟨q24, qm25⟩, hq26, h⟩ := z_bd h
          replace h := z_h2 h
          refine zr_callVi (av := [zI a1]) (st := []) d_4_readSum_67 mw_4_readProduct ml_4_163 im_4_readProduct se_4_readProduct rfl rfl (Nat.le_of_ble_eq_true rfl) (z_fitD (by omega) (by decide)) rfl rfl rfl (s4_readProduct fr hD hr hq26) ?_
          refine zr_if_ne (tgt := 75) d_4_readSum_70 rfl (fun hc27 => ?_) (fun hc27 => ?_)
          · replace h := z_ip h hc27
            refine zr_iconst (v := (0 : Int32)) d_4_readSum_73 rfl ?_
            obtain rfl := Option.some.inj h
            obtain ⟨rfl, rfl⟩ := hR (0 : Int32) qm25 rfl
            exact ze_z d_4_readSum_74 rfl rfl
          · replace h := z_im h hc27
            refine zr_aload_n (i := 0) d_4_readSum_75 rfl rfl ?_
            refine zr_getd d_4_readSum_76 fw_4_28 ?_
            refine zr_iload_n (i := 3) d_4_readSum_79 rfl rfl ?_
            obtain ⟨qm28, hq29, h⟩ := z_bd h
            refine zr_callVv (av := [zI j17]) (st := []) d_4_readSum_80 mw_6_write ml_4_157 im_6_write se_6_write rfl rfl (Nat.le_of_ble_eq_true rfl) (z_fitD (by omega) (by decide)) rfl rfl rfl (s6_write hq29) ?_
            refine zr_iinc (v := (x6 + (1 : Int32))) (l' := [some (zA 4 0), some (zI a1), some (zI (x6 + (1 : Int32))), some (zI j17)]) d_4_readSum_83 (by decide) rfl rfl rfl ?_
            refine zr_goto (tgt := 12) d_4_readSum_86 rfl ?_
            obtain rfl := Option.some.inj h
            exact zr_wk2 (hI (x6 + (1 : Int32)) qm28 rfl) ⟨rfl, ⟨rfl, ⟨rfl, trivial⟩⟩⟩
      refine zr_icmp_ne (tgt := 51) d_4_readSum_43 rfl (fun hc16 => ?_) (fun hc16 => ?_)
      · replace hT14 := z_ip hT14 hc16
        refine zr_bipush (v := (-11 : Int32)) d_4_readSum_46 (by decide) ?_
        refine zr_goto (tgt := 53) d_4_readSum_48 rfl ?_
        obtain rfl := Option.some.inj hT14
        exact zr_wk2 hJ15 ⟨rfl, ⟨rfl, ⟨rfl, trivial⟩⟩⟩
      · replace hT14 := z_im hT14 hc16
        refine zr_bipush (v := (-12 : Int32)) d_4_readSum_51 (by decide) ?_
        obtain rfl := Option.some.inj hT14
        exact zr_wk2 hJ15 ⟨rfl, ⟨rfl, ⟨rfl, trivial⟩⟩⟩
    · replace h := z_im h hc11
      refine zr_aload_n (i := 0) d_4_readSum_28 rfl rfl ?_
      obtain ⟨q30, hq31, h⟩ := z_bd h
      refine zr_callVi (av := []) (st := []) d_4_readSum_29 mw_4_kind ml_4_61 im_4_kind se_4_kind rfl rfl (Nat.le_of_ble_eq_true rfl) (z_fitD (by omega) (by decide)) rfl rfl rfl (s4_kind hq31) ?_
      refine zr_bipush (v := (45 : Int32)) d_4_readSum_32 rfl ?_
      refine zr_icmp_ne (tgt := 89) d_4_readSum_34 rfl (fun hc32 => ?_) (fun hc32 => ?_)
      · replace h := z_ip h hc32
        refine zr_aload_n (i := 0) d_4_readSum_37 rfl rfl ?_
        obtain ⟨q33, hq34, h⟩ := z_bd h
        refine zr_callVi (av := []) (st := []) d_4_readSum_38 mw_4_kind ml_4_61 im_4_kind se_4_kind rfl rfl (Nat.le_of_ble_eq_true rfl) (z_fitD (by omega) (by decide)) rfl rfl rfl (s4_kind hq34) ?_
        refine zr_bipush (v := (43 : Int32)) d_4_readSum_41 rfl ?_
        obtain ⟨j38, hT35, h⟩ := z_bd h
        have hJ36 : z_RQ P M_4_readSum (z_rm (D + 3)) (z_mq P ro μo) 0 0 53 [some (zA 4 0), some (zI a1), some (zI x6), none] [zI j38] xm7 := by
          refine zr_istore_n (i := 3) (l' := [some (zA 4 0), some (zI a1), some (zI x6), some (zI j38)]) d_4_readSum_53 rfl (by decide) rfl ?_
          refine zr_aload_n (i := 0) d_4_readSum_54 rfl rfl ?_
          refine zr_aload_n (i := 0) d_4_readSum_55 rfl rfl ?_
          obtain ⟨q39, hq40, h⟩ := z_bd h
          refine zr_callVi (av := []) (st := [zA 4 0]) d_4_readSum_56 mw_4_kind ml_4_61 im_4_kind se_4_kind rfl rfl (Nat.le_of_ble_eq_true rfl) (z_fitD (by omega) (by decide)) rfl rfl rfl (s4_kind hq40) ?_
          obtain ⟨⟨q41, qm42⟩, hq43, h⟩ := z_bd h
          replace h := z_h2 h
          refine zr_callVi (av := [zI q39]) (st := []) d_4_readSum_59 mw_4_take ml_4_111 im_4_take se_4_take rfl rfl (Nat.le_of_ble_eq_true rfl) (z_fitD (by omega) (by decide)) rfl rfl rfl (s4_take hq43) ?_
          refine zr_if_eq (tgt := 73) d_4_readSum_62 rfl (fun hc44 => ?_) (fun hc44 => ?_)
          · replace h := z_ip h hc44
            refine zr_iconst (v := (0 : Int32)) d_4_readSum_73 rfl ?_
            obtain rfl := Option.some.inj h
            obtain ⟨rfl, rfl⟩ := hR (0 : Int32) qm42 rfl
            exact ze_z d_4_readSum_74 rfl rfl
          · replace h := z_im h hc44
            refine zr_aload_n (i := 0) d_4_readSum_65 rfl rfl ?_
            refine zr_iload_n (i := 1) d_4_readSum_66 rfl rfl ?_
            obtain ⟨⟨q45, qm46⟩, hq47, h⟩ := z_bd h
            replace h := z_h2 h
            refine zr_callVi (av := [zI a1]) (st := []) d_4_readSum_67 mw_4_readProduct ml_4_163 im_4_readProduct se_4_readProduct rfl rfl (Nat.le_of_ble_eq_true rfl) (z_fitD (by omega) (by decide)) rfl rfl rfl (s4_readProduct fr hD hr hq47) ?_
            refine zr_if_ne (tgt := 75) d_4_readSum_70 rfl (fun hc48 => ?_) (fun hc48 => ?_)
            · replace h := z_ip h hc48
              refine zr_iconst (v := (0 : Int32)) d_4_readSum_73 rfl ?_
              obtain rfl := Option.some.inj h
              obtain ⟨rfl, rfl⟩ := hR (0 : Int32) qm46 rfl
              exact ze_z d_4_readSum_74 rfl rfl
            · replace h := z_im h hc48
              refine zr_aload_n (i := 0) d_4_readSum_75 rfl rfl ?_
              refine zr_getd d_4_readSum_76 fw_4_28 ?_
              refine zr_iload_n (i := 3) d_4_readSum_79 rfl rfl ?_
              obtain ⟨qm49, hq50, h⟩ := z_bd h
              refine zr_callVv (av := [zI j38]) (st := []) d_4_readSum_80 mw_6_write ml_4_157 im_6_write se_6_write rfl rfl (Nat.le_of_ble_eq_true rfl) (z_fitD (by omega) (by decide)) rfl rfl rfl (s6_write hq50) ?_
              refine zr_iinc (v := (x6 + (1 : Int32))) (l' := [some (zA 4 0), some (zI a1), some (zI (x6 + (1 : Int32))), some (zI j38)]) d_4_readSum_83 (by decide) rfl rfl rfl ?_
              refine zr_goto (tgt := 12) d_4_readSum_86 rfl ?_
              obtain rfl := Option.some.inj h
              exact zr_wk2 (hI (x6 + (1 : Int32)) qm49 rfl) ⟨rfl, ⟨rfl, ⟨rfl, trivial⟩⟩⟩
        refine zr_icmp_ne (tgt := 51) d_4_readSum_43 rfl (fun hc37 => ?_) (fun hc37 => ?_)
        · replace hT35 := z_ip hT35 hc37
          refine zr_bipush (v := (-11 : Int32)) d_4_readSum_46 (by decide) ?_
          refine zr_goto (tgt := 53) d_4_readSum_48 rfl ?_
          obtain rfl := Option.some.inj hT35
          exact zr_wk2 hJ36 ⟨rfl, ⟨rfl, ⟨rfl, trivial⟩⟩⟩
        · replace hT35 := z_im hT35 hc37
          refine zr_bipush (v := (-12 : Int32)) d_4_readSum_51 (by decide) ?_
          obtain rfl := Option.some.inj hT35
          exact zr_wk2 hJ36 ⟨rfl, ⟨rfl, ⟨rfl, trivial⟩⟩⟩
      · replace h := z_im h hc32
        obtain rfl := Option.some.inj h
        exact zr_wk2 (hE xm7 rfl) trivial
  · replace h := z_im h hc8
    obtain rfl := Option.some.inj h
    exact zr_wk2 (hE xm7 rfl) trivial
theorem s4_readSum {P : zP} (fr : Int32 → zMem → Option (Int32 × zMem)) {D : Nat} (hD : 2 ≤ D) (hr : ∀ a μ r μ', fr a μ = some (r, μ') → z_Sp P y_4_readSum M_4_readSum D [zA 4 0, zI a] μ (some (zI r)) μ') {μ : zMem} {a1 : Int32} {r : Int32} {μ' : zMem} (h : f4_readSum fr a1 μ = some (r, μ')) : z_Sp P y_4_readSum M_4_readSum (D + 3) [zA 4 0, zI a1] μ (some (zI r)) μ' := by
  refine z_Sp.of (plainFor_of_name (by decide)) rfl (l0 := [some (zA 4 0), some (zI a1), none, none]) rfl (Nat.le_of_ble_eq_true rfl) ?_
  unfold f4_readSum at h
  refine zr_aload_n (i := 0) d_4_readSum_0 rfl rfl ?_
  refine zr_iload_n (i := 1) d_4_readSum_1 rfl rfl ?_
  obtain ⟨⟨q1, qm2⟩, hq3, h⟩ := z_bd h
  replace h := z_h2 h
  refine zr_callVi (av := [zI a1]) (st := []) d_4_readSum_2 mw_4_readProduct ml_4_163 im_4_readProduct se_4_readProduct rfl rfl (Nat.le_of_ble_eq_true rfl) (z_fitD (by omega) (by decide)) rfl rfl rfl (s4_readProduct fr hD hr hq3) ?_
  refine zr_if_ne (tgt := 10) d_4_readSum_5 rfl (fun hc4 => ?_) (fun hc4 => ?_)
  · replace h := z_ip h hc4
    refine zr_iconst (v := (0 : Int32)) d_4_readSum_8 rfl ?_
    obtain ⟨rfl, rfl⟩ := Prod.mk.inj (Option.some.inj h)
    exact ze_z d_4_readSum_9 rfl rfl
  · replace h := z_im h hc4
    refine zr_iconst (v := (0 : Int32)) d_4_readSum_10 rfl ?_
    refine zr_istore_n (i := 2) (l' := [some (zA 4 0), some (zI a1), some (zI (0 : Int32)), none]) d_4_readSum_11 rfl (by decide) rfl ?_
    rcases z_bs h with ⟨e51, hl52, h⟩ | ⟨⟨qr53, qr54⟩, hl52, h⟩
    · refine zr_wk (l' := [some (zA 4 0), some (zI a1), some (zI (0 : Int32)), none]) ⟨rfl, ⟨rfl, ⟨rfl, trivial⟩⟩⟩ ?_
      refine z_loop (Hd := (z_u2 fun y0 y1 => z_RQ P M_4_readSum (z_rm (D + 3)) (z_mq P (some (zI r)) μ') 0 0 12 [some (zA 4 0), some (zI a1), some (zI y0), none] [] y1)) (Ex := (Sum.elim (fun z0 => z_RQ P M_4_readSum (z_rm (D + 3)) (z_mq P (some (zI r)) μ') 0 0 89 [none, none, none, none] [] z0) (z_u2 fun qr qm => (some (zI r)) = some (zI qr) ∧ μ' = qm))) (fun ⟨x6, xm7⟩ K h hI hE => s4_readSum_L5 fr hD hr a1 x6 xm7 K h (fun y0 y1 e => hI (y0, y1) e) (fun z0 e => hE (.inl z0) e) (fun qr qm e => hE (.inr (qr, qm)) e)) _ _ _ hl52 ?_
      refine zr_iconst (v := (1 : Int32)) d_4_readSum_89 rfl ?_
      obtain ⟨rfl, rfl⟩ := Prod.mk.inj (Option.some.inj h)
      exact ze_z d_4_readSum_90 rfl rfl
    · replace h := z_h2 h
      refine zr_wk (l' := [some (zA 4 0), some (zI a1), some (zI (0 : Int32)), none]) ⟨rfl, ⟨rfl, ⟨rfl, trivial⟩⟩⟩ ?_
      refine z_loop (Hd := (z_u2 fun y0 y1 => z_RQ P M_4_readSum (z_rm (D + 3)) (z_mq P (some (zI r)) μ') 0 0 12 [some (zA 4 0), some (zI a1), some (zI y0), none] [] y1)) (Ex := (Sum.elim (fun z0 => z_RQ P M_4_readSum (z_rm (D + 3)) (z_mq P (some (zI r)) μ') 0 0 89 [none, none, none, none] [] z0) (z_u2 fun qr qm => (some (zI r)) = some (zI qr) ∧ μ' = qm))) (fun ⟨x6, xm7⟩ K h hI hE => s4_readSum_L5 fr hD hr a1 x6 xm7 K h (fun y0 y1 e => hI (y0, y1) e) (fun z0 e => hE (.inl z0) e) (fun qr qm e => hE (.inr (qr, qm)) e)) _ _ _ hl52 ?_
      obtain ⟨rfl, rfl⟩ := Prod.mk.inj (Option.some.inj h)
      exact ⟨rfl, rfl⟩
def f4_rs : Nat → Int32 → zMem → Option (Int32 × zMem)
  | 0 => fun _ _ => none
  | n + 1 => f4_readSum (f4_rs n)
theorem s4_rs {P : zP} : ∀ (n : Nat) {μ : zMem} {a1 r : Int32} {μ' : zMem}, f4_rs n a1 μ = some (r, μ') → z_Sp P y_4_readSum M_4_readSum (3 * n + 3) [zA 4 0, zI a1] μ (some (zI r)) μ'
  | 0, _, _, _, _, h => by cases h
  | n + 1, _, _, _, _, h => s4_readSum (f4_rs n) (D := 3 * n + 3) (by omega) (fun _ _ _ _ h => s4_rs n h) h
def f6_jumpHere (o0 : Nat) (a1 : Int32) (μ : zMem) : Option (zMem) :=
  (if a1 < 0 then some μ else (if a1 < (μ.1 6 o0 9) then if z_in a1 404 = true then z_let (z_sI μ 29 o0 a1.toNatClampNeg ((-100 : Int32) - (μ.1 6 o0 9))) fun m3 => some m3 else none else some μ))
theorem s6_jumpHere {P : zP} {μ : zMem} {o0 : Nat} {a1 : Int32} {μ' : zMem} (h : f6_jumpHere o0 a1 μ = some μ') : z_Sp P y_6_jumpHere M_6_jumpHere 1 [zA 6 o0, zI a1] μ none μ' := by
  refine z_Sp.of (plainFor_of_name (by decide)) rfl (l0 := [some (zA 6 o0), some (zI a1)]) rfl (Nat.le_of_ble_eq_true rfl) ?_
  unfold f6_jumpHere at h
  refine zr_iload_n (i := 1) d_6_jumpHere_0 rfl rfl ?_
  refine zr_if_lt (tgt := 25) d_6_jumpHere_1 rfl (fun hc1 => ?_) (fun hc1 => ?_)
  · replace h := z_ip h hc1
    obtain rfl := Option.some.inj h
    exact ze_v d_6_jumpHere_25 rfl
  · replace h := z_im h hc1
    refine zr_iload_n (i := 1) d_6_jumpHere_4 rfl rfl ?_
    refine zr_aload_n (i := 0) d_6_jumpHere_5 rfl rfl ?_
    refine zr_geti d_6_jumpHere_6 fw_6_40 (by decide) ?_
    refine zr_icmp_ge (tgt := 25) d_6_jumpHere_9 rfl (fun hc2 => ?_) (fun hc2 => ?_)
    · replace h := z_ip h hc2
      refine zr_aload_n (i := 0) d_6_jumpHere_12 rfl rfl ?_
      refine zr_gets (i' := o0) d_6_jumpHere_13 fw_6_34 rfl ?_
      refine zr_iload_n (i := 1) d_6_jumpHere_16 rfl rfl ?_
      refine zr_bipush (v := (-100 : Int32)) d_6_jumpHere_17 (by decide) ?_
      refine zr_aload_n (i := 0) d_6_jumpHere_19 rfl rfl ?_
      refine zr_geti d_6_jumpHere_20 fw_6_40 (by decide) ?_
      refine zr_isub d_6_jumpHere_23 ?_
      obtain ⟨hb5, h⟩ := z_gd h
      obtain ⟨m3, hm4, h⟩ := z_lt h
      refine zr_iast d_6_jumpHere_24 sa_29 rfl hb5 hm4 ?_
      obtain rfl := Option.some.inj h
      exact ze_v d_6_jumpHere_25 rfl
    · replace h := z_im h hc2
      obtain rfl := Option.some.inj h
      exact ze_v d_6_jumpHere_25 rfl
def f4_readIf  (μ : zMem) : Option (Int32 × zMem) :=
  (f4_take (137 : Int32) μ).bind (z_u2 fun q1 qm2 => (if q1 = 0 then some ((0 : Int32), qm2) else (f4_rs 9 (0 : Int32) qm2).bind (z_u2 fun q5 qm6 => (if q5 = 0 then some ((0 : Int32), qm6) else (f4_take (60 : Int32) qm6).bind (z_u2 fun q9 qm10 => (if q9 = 0 then some ((0 : Int32), qm10) else (f4_rs 9 (0 : Int32) qm10).bind (z_u2 fun q13 qm14 => (if q13 = 0 then some ((0 : Int32), qm14) else (f4_take (138 : Int32) qm14).bind (z_u2 fun q17 qm18 => (if q17 = 0 then some ((0 : Int32), qm18) else z_let (qm18.1 6 (qm18.2.2 4 0 3) 9) fun v21 => (f6_write (qm18.2.2 4 0 3) (-100 : Int32) qm18).bind (fun qm23 => (f4_rs 9 (0 : Int32) qm23).bind (z_u2 fun q25 qm26 => (if q25 = 0 then some ((0 : Int32), qm26) else (f4_take (139 : Int32) qm26).bind (z_u2 fun q29 qm30 => (if q29 = 0 then some ((0 : Int32), qm30) else (f6_write (qm30.2.2 4 0 3) (-15 : Int32) qm30).bind (fun qm33 => (f6_jumpHere (qm33.2.2 4 0 3) v21 qm33).bind (fun qm35 => some ((1 : Int32), qm35))))))))))))))))))
theorem s4_readIf {P : zP} {μ : zMem} {r : Int32} {μ' : zMem} (h : f4_readIf μ = some (r, μ')) : z_Sp P y_4_readIf M_4_readIf 31 [zA 4 0] μ (some (zI r)) μ' := by
  refine z_Sp.of (plainFor_of_name (by decide)) rfl (l0 := [some (zA 4 0), none]) rfl (Nat.le_of_ble_eq_true rfl) ?_
  unfold f4_readIf at h
  refine zr_aload_n (i := 0) d_4_readIf_0 rfl rfl ?_
  refine zr_sipush (v := (137 : Int32)) d_4_readIf_1 rfl ?_
  obtain ⟨⟨q1, qm2⟩, hq3, h⟩ := z_bd h
  replace h := z_h2 h
  refine zr_callVi (av := [zI (137 : Int32)]) (st := []) d_4_readIf_4 mw_4_take ml_4_111 im_4_take se_4_take rfl rfl (Nat.le_of_ble_eq_true rfl) fit_1_2_31 rfl rfl rfl (s4_take hq3) ?_
  refine zr_if_eq (tgt := 45) d_4_readIf_7 rfl (fun hc4 => ?_) (fun hc4 => ?_)
  · replace h := z_ip h hc4
    refine zr_iconst (v := (0 : Int32)) d_4_readIf_45 rfl ?_
    obtain ⟨rfl, rfl⟩ := Prod.mk.inj (Option.some.inj h)
    exact ze_z d_4_readIf_46 rfl rfl
  · replace h := z_im h hc4
    refine zr_aload_n (i := 0) d_4_readIf_10 rfl rfl ?_
    refine zr_iconst (v := (0 : Int32)) d_4_readIf_11 rfl ?_
    obtain ⟨⟨q5, qm6⟩, hq7, h⟩ := z_bd h
    replace h := z_h2 h
    refine zr_callVi (av := [zI (0 : Int32)]) (st := []) d_4_readIf_12 mw_4_readSum ml_4_154 im_4_readSum se_4_readSum rfl rfl (Nat.le_of_ble_eq_true rfl) fit_30_4_31 rfl rfl rfl (s4_rs 9 hq7) ?_
    refine zr_if_eq (tgt := 45) d_4_readIf_15 rfl (fun hc8 => ?_) (fun hc8 => ?_)
    · replace h := z_ip h hc8
      refine zr_iconst (v := (0 : Int32)) d_4_readIf_45 rfl ?_
      obtain ⟨rfl, rfl⟩ := Prod.mk.inj (Option.some.inj h)
      exact ze_z d_4_readIf_46 rfl rfl
    · replace h := z_im h hc8
      refine zr_aload_n (i := 0) d_4_readIf_18 rfl rfl ?_
      refine zr_bipush (v := (60 : Int32)) d_4_readIf_19 rfl ?_
      obtain ⟨⟨q9, qm10⟩, hq11, h⟩ := z_bd h
      replace h := z_h2 h
      refine zr_callVi (av := [zI (60 : Int32)]) (st := []) d_4_readIf_21 mw_4_take ml_4_111 im_4_take se_4_take rfl rfl (Nat.le_of_ble_eq_true rfl) fit_1_2_31 rfl rfl rfl (s4_take hq11) ?_
      refine zr_if_eq (tgt := 45) d_4_readIf_24 rfl (fun hc12 => ?_) (fun hc12 => ?_)
      · replace h := z_ip h hc12
        refine zr_iconst (v := (0 : Int32)) d_4_readIf_45 rfl ?_
        obtain ⟨rfl, rfl⟩ := Prod.mk.inj (Option.some.inj h)
        exact ze_z d_4_readIf_46 rfl rfl
      · replace h := z_im h hc12
        refine zr_aload_n (i := 0) d_4_readIf_27 rfl rfl ?_
        refine zr_iconst (v := (0 : Int32)) d_4_readIf_28 rfl ?_
        obtain ⟨⟨q13, qm14⟩, hq15, h⟩ := z_bd h
        replace h := z_h2 h
        refine zr_callVi (av := [zI (0 : Int32)]) (st := []) d_4_readIf_29 mw_4_readSum ml_4_154 im_4_readSum se_4_readSum rfl rfl (Nat.le_of_ble_eq_true rfl) fit_30_4_31 rfl rfl rfl (s4_rs 9 hq15) ?_
        refine zr_if_eq (tgt := 45) d_4_readIf_32 rfl (fun hc16 => ?_) (fun hc16 => ?_)
        · replace h := z_ip h hc16
          refine zr_iconst (v := (0 : Int32)) d_4_readIf_45 rfl ?_
          obtain ⟨rfl, rfl⟩ := Prod.mk.inj (Option.some.inj h)
          exact ze_z d_4_readIf_46 rfl rfl
        · replace h := z_im h hc16
          refine zr_aload_n (i := 0) d_4_readIf_35 rfl rfl ?_
          refine zr_sipush (v := (138 : Int32)) d_4_readIf_36 rfl ?_
          obtain ⟨⟨q17, qm18⟩, hq19, h⟩ := z_bd h
          replace h := z_h2 h
          refine zr_callVi (av := [zI (138 : Int32)]) (st := []) d_4_readIf_39 mw_4_take ml_4_111 im_4_take se_4_take rfl rfl (Nat.le_of_ble_eq_true rfl) fit_1_2_31 rfl rfl rfl (s4_take hq19) ?_
          refine zr_if_ne (tgt := 47) d_4_readIf_42 rfl (fun hc20 => ?_) (fun hc20 => ?_)
          · replace h := z_ip h hc20
            refine zr_iconst (v := (0 : Int32)) d_4_readIf_45 rfl ?_
            obtain ⟨rfl, rfl⟩ := Prod.mk.inj (Option.some.inj h)
            exact ze_z d_4_readIf_46 rfl rfl
          · replace h := z_im h hc20
            refine zr_aload_n (i := 0) d_4_readIf_47 rfl rfl ?_
            refine zr_getd d_4_readIf_48 fw_4_28 ?_
            refine zr_geti d_4_readIf_51 fw_4_148 (by decide) ?_
            obtain ⟨v21, hv22, h⟩ := z_lt h
            refine zr_nm hv22 ?_
            refine zr_istore_n (i := 1) (l' := [some (zA 4 0), some (zI v21)]) d_4_readIf_54 rfl (by decide) rfl ?_
            refine zr_aload_n (i := 0) d_4_readIf_55 rfl rfl ?_
            refine zr_getd d_4_readIf_56 fw_4_28 ?_
            refine zr_bipush (v := (-100 : Int32)) d_4_readIf_59 (by decide) ?_
            obtain ⟨qm23, hq24, h⟩ := z_bd h
            refine zr_callVv (av := [zI (-100 : Int32)]) (st := []) d_4_readIf_61 mw_6_write ml_4_157 im_6_write se_6_write rfl rfl (Nat.le_of_ble_eq_true rfl) fit_1_2_31 rfl rfl rfl (s6_write hq24) ?_
            refine zr_aload_n (i := 0) d_4_readIf_64 rfl rfl ?_
            refine zr_iconst (v := (0 : Int32)) d_4_readIf_65 rfl ?_
            obtain ⟨⟨q25, qm26⟩, hq27, h⟩ := z_bd h
            replace h := z_h2 h
            refine zr_callVi (av := [zI (0 : Int32)]) (st := []) d_4_readIf_66 mw_4_readSum ml_4_154 im_4_readSum se_4_readSum rfl rfl (Nat.le_of_ble_eq_true rfl) fit_30_4_31 rfl rfl rfl (s4_rs 9 hq27) ?_
            refine zr_if_eq (tgt := 82) d_4_readIf_69 rfl (fun hc28 => ?_) (fun hc28 => ?_)
            · replace h := z_ip h hc28
              refine zr_iconst (v := (0 : Int32)) d_4_readIf_82 rfl ?_
              obtain ⟨rfl, rfl⟩ := Prod.mk.inj (Option.some.inj h)
              exact ze_z d_4_readIf_83 rfl rfl
            · replace h := z_im h hc28
              refine zr_aload_n (i := 0) d_4_readIf_72 rfl rfl ?_
              refine zr_sipush (v := (139 : Int32)) d_4_readIf_73 rfl ?_
              obtain ⟨⟨q29, qm30⟩, hq31, h⟩ := z_bd h
              replace h := z_h2 h
              refine zr_callVi (av := [zI (139 : Int32)]) (st := []) d_4_readIf_76 mw_4_take ml_4_111 im_4_take se_4_take rfl rfl (Nat.le_of_ble_eq_true rfl) fit_1_2_31 rfl rfl rfl (s4_take hq31) ?_
              refine zr_if_ne (tgt := 84) d_4_readIf_79 rfl (fun hc32 => ?_) (fun hc32 => ?_)
              · replace h := z_ip h hc32
                refine zr_iconst (v := (0 : Int32)) d_4_readIf_82 rfl ?_
                obtain ⟨rfl, rfl⟩ := Prod.mk.inj (Option.some.inj h)
                exact ze_z d_4_readIf_83 rfl rfl
              · replace h := z_im h hc32
                refine zr_aload_n (i := 0) d_4_readIf_84 rfl rfl ?_
                refine zr_getd d_4_readIf_85 fw_4_28 ?_
                refine zr_bipush (v := (-15 : Int32)) d_4_readIf_88 (by decide) ?_
                obtain ⟨qm33, hq34, h⟩ := z_bd h
                refine zr_callVv (av := [zI (-15 : Int32)]) (st := []) d_4_readIf_90 mw_6_write ml_4_157 im_6_write se_6_write rfl rfl (Nat.le_of_ble_eq_true rfl) fit_1_2_31 rfl rfl rfl (s6_write hq34) ?_
                refine zr_aload_n (i := 0) d_4_readIf_93 rfl rfl ?_
                refine zr_getd d_4_readIf_94 fw_4_28 ?_
                refine zr_iload_n (i := 1) d_4_readIf_97 rfl rfl ?_
                obtain ⟨qm35, hq36, h⟩ := z_bd h
                refine zr_callVv (av := [zI v21]) (st := []) d_4_readIf_98 mw_6_jumpHere ml_4_160 im_6_jumpHere se_6_jumpHere rfl rfl (Nat.le_of_ble_eq_true rfl) fit_1_2_31 rfl rfl rfl (s6_jumpHere hq36) ?_
                refine zr_iconst (v := (1 : Int32)) d_4_readIf_101 rfl ?_
                obtain ⟨rfl, rfl⟩ := Prod.mk.inj (Option.some.inj h)
                exact ze_z d_4_readIf_102 rfl rfl
def f4_readLaw_L17  : (Int32 × zMem) → Option ((Int32 × zMem) ⊕ ((zMem) ⊕ (Int32 × zMem))) := (z_u2 fun x18 xm19 => 
  (if x18 < (4 : Int32) then (f4_kind xm19).bind (fun q21 => (if q21 = (137 : Int32) then (f4_readIf xm19).bind (z_u2 fun q24 qm25 => (if q24 = 0 then some (.inr (.inr ((0 : Int32), qm25))) else some (.inl ((x18 + (1 : Int32)), qm25)))) else some (.inr (.inl xm19)))) else some (.inr (.inl xm19))))
def f4_readLaw (a1 : Int32) (μ : zMem) : Option (Int32 × zMem) :=
  (if a1 < 0 then z_let (f4_refuse (1 : Int32) μ) (z_u2 fun q2 qm3 => if z_b q2 = true then some (q2, qm3) else none) else (if a1 < (4 : Int32) then if z_in a1 4 = true then z_let (z_sI μ 30 ((μ.2.2 4 0 3)) a1.toNatClampNeg (μ.1 6 (μ.2.2 4 0 3) 9)) fun m6 => (f4_take ((132 : Int32) + a1) m6).bind (z_u2 fun q9 qm10 => (if q9 = 0 then some ((0 : Int32), qm10) else (f4_take (61 : Int32) qm10).bind (z_u2 fun q13 qm14 => (if q13 = 0 then some ((0 : Int32), qm14) else (z_it (f4_readLaw_L17) z_fu ((0 : Int32), qm14)).bind (Sum.elim (fun e28 => (f4_kind e28).bind (fun q30 => (if q30 = (137 : Int32) then z_let (f4_refuse (2 : Int32) e28) (z_u2 fun q33 qm34 => if z_b q33 = true then some (q33, qm34) else none) else (f4_rs 9 (0 : Int32) e28).bind (z_u2 fun q36 qm37 => (if q36 = 0 then some ((0 : Int32), qm37) else (f6_write (qm37.2.2 4 0 3) (-15 : Int32) qm37).bind (fun qm40 => (f4_take (59 : Int32) qm40).bind (z_u2 fun q42 qm43 => if z_b q42 = true then some (q42, qm43) else none))))))) (z_u2 fun qr45 qr46 => some (qr45, qr46))))))) else none else z_let (f4_refuse (1 : Int32) μ) (z_u2 fun q47 qm48 => if z_b q47 = true then some (q47, qm48) else none)))
theorem s4_readLaw_L17 {P : zP} {ro : Option zV} {μo : zMem}  (x18 : Int32) (xm19 : zMem) (K : (Int32 × zMem) ⊕ ((zMem) ⊕ (Int32 × zMem))) (h : f4_readLaw_L17  (x18, xm19) = some K) (hI : ∀ (y0 : Int32) (y1 : zMem), K = .inl (y0, y1) → z_RQ P M_4_readLaw (z_rm 32) (z_mq P ro μo) 0 0 56 [some (zA 4 0), none, some (zI y0)] [] y1) (hE : ∀ (z0 : zMem), K = .inr (.inl z0) → z_RQ P M_4_readLaw (z_rm 32) (z_mq P ro μo) 0 0 86 [some (zA 4 0), none, none] [] z0) (hR : ∀ (qr : Int32) (qm : zMem), K = .inr (.inr (qr, qm)) → ro = some (zI qr) ∧ μo = qm) : z_RQ P M_4_readLaw (z_rm 32) (z_mq P ro μo) 0 0 56 [some (zA 4 0), none, some (zI x18)] [] xm19 := by
  unfold f4_readLaw_L17 at h
  replace h := z_h2 h
  refine zr_iload_n (i := 2) d_4_readLaw_56 rfl rfl ?_
  refine zr_iconst (v := (4 : Int32)) d_4_readLaw_57 rfl ?_
  refine zr_icmp_ge (tgt := 86) d_4_readLaw_58 rfl (fun hc20 => ?_) (fun hc20 => ?_)
  · replace h := z_ip h hc20
    refine zr_aload_n (i := 0) d_4_readLaw_61 rfl rfl ?_
    obtain ⟨q21, hq22, h⟩ := z_bd h
    refine zr_callVi (av := []) (st := []) d_4_readLaw_62 mw_4_kind ml_4_61 im_4_kind se_4_kind rfl rfl (Nat.le_of_ble_eq_true rfl) fit_1_1_32 rfl rfl rfl (s4_kind hq22) ?_
    refine zr_sipush (v := (137 : Int32)) d_4_readLaw_65 rfl ?_
    refine zr_icmp_ne (tgt := 86) d_4_readLaw_68 rfl (fun hc23 => ?_) (fun hc23 => ?_)
    · replace h := z_ip h hc23
      refine zr_aload_n (i := 0) d_4_readLaw_71 rfl rfl ?_
      obtain ⟨⟨q24, qm25⟩, hq26, h⟩ := z_bd h
      replace h := z_h2 h
      refine zr_callVi (av := []) (st := []) d_4_readLaw_72 mw_4_readIf ml_4_151 im_4_readIf se_4_readIf rfl rfl (Nat.le_of_ble_eq_true rfl) fit_31_2_32 rfl rfl rfl (s4_readIf hq26) ?_
      refine zr_if_ne (tgt := 80) d_4_readLaw_75 rfl (fun hc27 => ?_) (fun hc27 => ?_)
      · replace h := z_ip h hc27
        refine zr_iconst (v := (0 : Int32)) d_4_readLaw_78 rfl ?_
        obtain rfl := Option.some.inj h
        obtain ⟨rfl, rfl⟩ := hR (0 : Int32) qm25 rfl
        exact ze_z d_4_readLaw_79 rfl rfl
      · replace h := z_im h hc27
        refine zr_iinc (v := (x18 + (1 : Int32))) (l' := [some (zA 4 0), none, some (zI (x18 + (1 : Int32)))]) d_4_readLaw_80 (by decide) rfl rfl rfl ?_
        refine zr_goto (tgt := 56) d_4_readLaw_83 rfl ?_
        obtain rfl := Option.some.inj h
        exact zr_wk2 (hI (x18 + (1 : Int32)) qm25 rfl) ⟨rfl, ⟨rfl, trivial⟩⟩
    · replace h := z_im h hc23
      obtain rfl := Option.some.inj h
      exact zr_wk2 (hE xm19 rfl) ⟨rfl, trivial⟩
  · replace h := z_im h hc20
    obtain rfl := Option.some.inj h
    exact zr_wk2 (hE xm19 rfl) ⟨rfl, trivial⟩
theorem s4_readLaw {P : zP} {μ : zMem} {a1 : Int32} {r : Int32} {μ' : zMem} (h : f4_readLaw a1 μ = some (r, μ')) : z_Sp P y_4_readLaw M_4_readLaw 32 [zA 4 0, zI a1] μ (some (zI r)) μ' := by
  refine z_Sp.of (plainFor_of_name (by decide)) rfl (l0 := [some (zA 4 0), some (zI a1), none]) rfl (Nat.le_of_ble_eq_true rfl) ?_
  unfold f4_readLaw at h
  refine zr_iload_n (i := 1) d_4_readLaw_0 rfl rfl ?_
  refine zr_if_lt (tgt := 9) d_4_readLaw_1 rfl (fun hc1 => ?_) (fun hc1 => ?_)
  · replace h := z_ip h hc1
    refine zr_aload_n (i := 0) d_4_readLaw_9 rfl rfl ?_
    refine zr_iconst (v := (1 : Int32)) d_4_readLaw_10 rfl ?_
    obtain ⟨⟨q2, qm3⟩, hq4, h⟩ := z_lt h
    replace h := z_h2 h
    refine zr_callVi (av := [zI (1 : Int32)]) (st := []) d_4_readLaw_11 mw_4_refuse ml_4_95 im_4_refuse se_4_refuse rfl rfl (Nat.le_of_ble_eq_true rfl) fit_1_2_32 rfl rfl rfl (s4_refuse hq4.symm) ?_
    obtain ⟨hzb, h⟩ := z_gd h
    obtain ⟨rfl, rfl⟩ := Prod.mk.inj (Option.some.inj h)
    exact ze_z d_4_readLaw_14 rfl (z_b_ok hzb)
  · replace h := z_im h hc1
    refine zr_iload_n (i := 1) d_4_readLaw_4 rfl rfl ?_
    refine zr_iconst (v := (4 : Int32)) d_4_readLaw_5 rfl ?_
    refine zr_icmp_lt (tgt := 15) d_4_readLaw_6 rfl (fun hc5 => ?_) (fun hc5 => ?_)
    · replace h := z_ip h hc5
      refine zr_aload_n (i := 0) d_4_readLaw_15 rfl rfl ?_
      refine zr_getd d_4_readLaw_16 fw_4_28 ?_
      refine zr_gets (i' := ((μ.2.2 4 0 3))) d_4_readLaw_19 fw_4_147 rfl ?_
      refine zr_iload_n (i := 1) d_4_readLaw_22 rfl rfl ?_
      refine zr_aload_n (i := 0) d_4_readLaw_23 rfl rfl ?_
      refine zr_getd d_4_readLaw_24 fw_4_28 ?_
      refine zr_geti d_4_readLaw_27 fw_4_148 (by decide) ?_
      obtain ⟨hb8, h⟩ := z_gd h
      obtain ⟨m6, hm7, h⟩ := z_lt h
      refine zr_iast d_4_readLaw_30 sa_30 rfl hb8 hm7 ?_
      refine zr_aload_n (i := 0) d_4_readLaw_31 rfl rfl ?_
      refine zr_sipush (v := (132 : Int32)) d_4_readLaw_32 rfl ?_
      refine zr_iload_n (i := 1) d_4_readLaw_35 rfl rfl ?_
      refine zr_iadd d_4_readLaw_36 ?_
      obtain ⟨⟨q9, qm10⟩, hq11, h⟩ := z_bd h
      replace h := z_h2 h
      refine zr_callVi (av := [zI ((132 : Int32) + a1)]) (st := []) d_4_readLaw_37 mw_4_take ml_4_111 im_4_take se_4_take rfl rfl (Nat.le_of_ble_eq_true rfl) fit_1_2_32 rfl rfl rfl (s4_take hq11) ?_
      refine zr_if_eq (tgt := 52) d_4_readLaw_40 rfl (fun hc12 => ?_) (fun hc12 => ?_)
      · replace h := z_ip h hc12
        refine zr_iconst (v := (0 : Int32)) d_4_readLaw_52 rfl ?_
        obtain ⟨rfl, rfl⟩ := Prod.mk.inj (Option.some.inj h)
        exact ze_z d_4_readLaw_53 rfl rfl
      · replace h := z_im h hc12
        refine zr_aload_n (i := 0) d_4_readLaw_43 rfl rfl ?_
        refine zr_bipush (v := (61 : Int32)) d_4_readLaw_44 rfl ?_
        obtain ⟨⟨q13, qm14⟩, hq15, h⟩ := z_bd h
        replace h := z_h2 h
        refine zr_callVi (av := [zI (61 : Int32)]) (st := []) d_4_readLaw_46 mw_4_take ml_4_111 im_4_take se_4_take rfl rfl (Nat.le_of_ble_eq_true rfl) fit_1_2_32 rfl rfl rfl (s4_take hq15) ?_
        refine zr_if_ne (tgt := 54) d_4_readLaw_49 rfl (fun hc16 => ?_) (fun hc16 => ?_)
        · replace h := z_ip h hc16
          refine zr_iconst (v := (0 : Int32)) d_4_readLaw_52 rfl ?_
          obtain ⟨rfl, rfl⟩ := Prod.mk.inj (Option.some.inj h)
          exact ze_z d_4_readLaw_53 rfl rfl
        · replace h := z_im h hc16
          refine zr_iconst (v := (0 : Int32)) d_4_readLaw_54 rfl ?_
          refine zr_istore_n (i := 2) (l' := [some (zA 4 0), some (zI a1), some (zI (0 : Int32))]) d_4_readLaw_55 rfl (by decide) rfl ?_
          rcases z_bs h with ⟨e28, hl29, h⟩ | ⟨⟨qr45, qr46⟩, hl29, h⟩
          · refine zr_wk (l' := [some (zA 4 0), none, some (zI (0 : Int32))]) ⟨rfl, ⟨rfl, trivial⟩⟩ ?_
            refine z_loop (Hd := (z_u2 fun y0 y1 => z_RQ P M_4_readLaw (z_rm 32) (z_mq P (some (zI r)) μ') 0 0 56 [some (zA 4 0), none, some (zI y0)] [] y1)) (Ex := (Sum.elim (fun z0 => z_RQ P M_4_readLaw (z_rm 32) (z_mq P (some (zI r)) μ') 0 0 86 [some (zA 4 0), none, none] [] z0) (z_u2 fun qr qm => (some (zI r)) = some (zI qr) ∧ μ' = qm))) (fun ⟨x18, xm19⟩ K h hI hE => s4_readLaw_L17  x18 xm19 K h (fun y0 y1 e => hI (y0, y1) e) (fun z0 e => hE (.inl z0) e) (fun qr qm e => hE (.inr (qr, qm)) e)) _ _ _ hl29 ?_
            refine zr_aload_n (i := 0) d_4_readLaw_86 rfl rfl ?_
            obtain ⟨q30, hq31, h⟩ := z_bd h
            refine zr_callVi (av := []) (st := []) d_4_readLaw_87 mw_4_kind ml_4_61 im_4_kind se_4_kind rfl rfl (Nat.le_of_ble_eq_true rfl) fit_1_1_32 rfl rfl rfl (s4_kind hq31) ?_
            refine zr_sipush (v := (137 : Int32)) d_4_readLaw_90 rfl ?_
            refine zr_icmp_ne (tgt := 102) d_4_readLaw_93 rfl (fun hc32 => ?_) (fun hc32 => ?_)
            · replace h := z_ip h hc32
              refine zr_aload_n (i := 0) d_4_readLaw_96 rfl rfl ?_
              refine zr_iconst (v := (2 : Int32)) d_4_readLaw_97 rfl ?_
              obtain ⟨⟨q33, qm34⟩, hq35, h⟩ := z_lt h
              replace h := z_h2 h
              refine zr_callVi (av := [zI (2 : Int32)]) (st := []) d_4_readLaw_98 mw_4_refuse ml_4_95 im_4_refuse se_4_refuse rfl rfl (Nat.le_of_ble_eq_true rfl) fit_1_2_32 rfl rfl rfl (s4_refuse hq35.symm) ?_
              obtain ⟨hzb, h⟩ := z_gd h
              obtain ⟨rfl, rfl⟩ := Prod.mk.inj (Option.some.inj h)
              exact ze_z d_4_readLaw_101 rfl (z_b_ok hzb)
            · replace h := z_im h hc32
              refine zr_aload_n (i := 0) d_4_readLaw_102 rfl rfl ?_
              refine zr_iconst (v := (0 : Int32)) d_4_readLaw_103 rfl ?_
              obtain ⟨⟨q36, qm37⟩, hq38, h⟩ := z_bd h
              replace h := z_h2 h
              refine zr_callVi (av := [zI (0 : Int32)]) (st := []) d_4_readLaw_104 mw_4_readSum ml_4_154 im_4_readSum se_4_readSum rfl rfl (Nat.le_of_ble_eq_true rfl) fit_30_4_32 rfl rfl rfl (s4_rs 9 hq38) ?_
              refine zr_if_ne (tgt := 112) d_4_readLaw_107 rfl (fun hc39 => ?_) (fun hc39 => ?_)
              · replace h := z_ip h hc39
                refine zr_iconst (v := (0 : Int32)) d_4_readLaw_110 rfl ?_
                obtain ⟨rfl, rfl⟩ := Prod.mk.inj (Option.some.inj h)
                exact ze_z d_4_readLaw_111 rfl rfl
              · replace h := z_im h hc39
                refine zr_aload_n (i := 0) d_4_readLaw_112 rfl rfl ?_
                refine zr_getd d_4_readLaw_113 fw_4_28 ?_
                refine zr_bipush (v := (-15 : Int32)) d_4_readLaw_116 (by decide) ?_
                obtain ⟨qm40, hq41, h⟩ := z_bd h
                refine zr_callVv (av := [zI (-15 : Int32)]) (st := []) d_4_readLaw_118 mw_6_write ml_4_157 im_6_write se_6_write rfl rfl (Nat.le_of_ble_eq_true rfl) fit_1_2_32 rfl rfl rfl (s6_write hq41) ?_
                refine zr_aload_n (i := 0) d_4_readLaw_121 rfl rfl ?_
                refine zr_bipush (v := (59 : Int32)) d_4_readLaw_122 rfl ?_
                obtain ⟨⟨q42, qm43⟩, hq44, h⟩ := z_bd h
                replace h := z_h2 h
                refine zr_callVi (av := [zI (59 : Int32)]) (st := []) d_4_readLaw_124 mw_4_take ml_4_111 im_4_take se_4_take rfl rfl (Nat.le_of_ble_eq_true rfl) fit_1_2_32 rfl rfl rfl (s4_take hq44) ?_
                obtain ⟨hzb, h⟩ := z_gd h
                obtain ⟨rfl, rfl⟩ := Prod.mk.inj (Option.some.inj h)
                exact ze_z d_4_readLaw_127 rfl (z_b_ok hzb)
          · replace h := z_h2 h
            refine zr_wk (l' := [some (zA 4 0), none, some (zI (0 : Int32))]) ⟨rfl, ⟨rfl, trivial⟩⟩ ?_
            refine z_loop (Hd := (z_u2 fun y0 y1 => z_RQ P M_4_readLaw (z_rm 32) (z_mq P (some (zI r)) μ') 0 0 56 [some (zA 4 0), none, some (zI y0)] [] y1)) (Ex := (Sum.elim (fun z0 => z_RQ P M_4_readLaw (z_rm 32) (z_mq P (some (zI r)) μ') 0 0 86 [some (zA 4 0), none, none] [] z0) (z_u2 fun qr qm => (some (zI r)) = some (zI qr) ∧ μ' = qm))) (fun ⟨x18, xm19⟩ K h hI hE => s4_readLaw_L17  x18 xm19 K h (fun y0 y1 e => hI (y0, y1) e) (fun z0 e => hE (.inl z0) e) (fun qr qm e => hE (.inr (qr, qm)) e)) _ _ _ hl29 ?_
            obtain ⟨rfl, rfl⟩ := Prod.mk.inj (Option.some.inj h)
            exact ⟨rfl, rfl⟩
    · replace h := z_im h hc5
      refine zr_aload_n (i := 0) d_4_readLaw_9 rfl rfl ?_
      refine zr_iconst (v := (1 : Int32)) d_4_readLaw_10 rfl ?_
      obtain ⟨⟨q47, qm48⟩, hq49, h⟩ := z_lt h
      replace h := z_h2 h
      refine zr_callVi (av := [zI (1 : Int32)]) (st := []) d_4_readLaw_11 mw_4_refuse ml_4_95 im_4_refuse se_4_refuse rfl rfl (Nat.le_of_ble_eq_true rfl) fit_1_2_32 rfl rfl rfl (s4_refuse hq49.symm) ?_
      obtain ⟨hzb, h⟩ := z_gd h
      obtain ⟨rfl, rfl⟩ := Prod.mk.inj (Option.some.inj h)
      exact ze_z d_4_readLaw_14 rfl (z_b_ok hzb)
def f4_readTape_L5  : (Int32 × Int32 × zMem) → Option ((Int32 × Int32 × zMem) ⊕ (zMem)) := (z_u3 fun x6 x7 xm8 => 
  (if (400 : Int32) < x7 then some (.inr xm8) else (if x6 = 0 then some (.inr xm8) else (f4_kind xm8).bind (fun q11 => (if q11 = 0 then some (.inr xm8) else (f4_kind xm8).bind (fun q14 => ((if q14 = (128 : Int32) then (f4_readHouse xm8).bind (z_u2 fun q19 qm20 => some (q19, qm20)) else (if q14 = (129 : Int32) then (f4_readPerson xm8).bind (z_u2 fun q23 qm24 => some (q23, qm24)) else (if q14 = (130 : Int32) then (f4_readRight xm8).bind (z_u2 fun q27 qm28 => some (q27, qm28)) else (if q14 = (131 : Int32) then (f4_readAbsence xm8).bind (z_u2 fun q31 qm32 => some (q31, qm32)) else (if q14 = (132 : Int32) then (f4_kind xm8).bind (fun q35 => (f4_readLaw (q35 - (132 : Int32)) xm8).bind (z_u2 fun q37 qm38 => some (q37, qm38))) else (if q14 = (133 : Int32) then (f4_kind xm8).bind (fun q41 => (f4_readLaw (q41 - (132 : Int32)) xm8).bind (z_u2 fun q43 qm44 => some (q43, qm44))) else (if q14 = (134 : Int32) then (f4_kind xm8).bind (fun q47 => (f4_readLaw (q47 - (132 : Int32)) xm8).bind (z_u2 fun q49 qm50 => some (q49, qm50))) else (if q14 = (135 : Int32) then (f4_kind xm8).bind (fun q53 => (f4_readLaw (q53 - (132 : Int32)) xm8).bind (z_u2 fun q55 qm56 => some (q55, qm56))) else (if q14 = (136 : Int32) then (f4_readSeed xm8).bind (z_u2 fun q59 qm60 => some (q59, qm60)) else (f4_kind xm8).bind (fun q62 => (f4_readLaw (q62 - (132 : Int32)) xm8).bind (z_u2 fun q64 qm65 => some (q64, qm65)))))))))))) : Option (Int32 × zMem)).bind (z_u2 fun j67 jm68 => some (.inl (j67, (x7 + (1 : Int32)), jm68)))))))))
def f4_readTape (o1 : Nat) (a2 : Int32) (μ : zMem) : Option (Int32 × zMem) :=
  (f7_scan o1 a2 μ).bind (fun qm1 => (f4_begin qm1).bind (fun qm3 => (z_it (f4_readTape_L5) z_fu ((1 : Int32), (0 : Int32), qm3)).bind (fun e69 => (if (e69.1 4 0 7) = 0 then z_let (z_sI e69 4 0 7 (e69.1 4 0 9)) fun m72 => z_let (z_sI m72 4 0 8 (m72.1 4 0 10)) fun m74 => some ((m74.1 4 0 7), m74) else if z_in (e69.1 4 0 4) 401 = true then z_let (z_sI e69 4 0 8 (e69.1 32 0 (e69.1 4 0 4).toNatClampNeg)) fun m77 => some ((m77.1 4 0 7), m77) else none))))
theorem s4_readTape_L5 {P : zP} {ro : Option zV} {μo : zMem}  (x6 : Int32) (x7 : Int32) (xm8 : zMem) (K : (Int32 × Int32 × zMem) ⊕ (zMem)) (h : f4_readTape_L5  (x6, x7, xm8) = some K) (hI : ∀ (y0 : Int32) (y1 : Int32) (y2 : zMem), K = .inl (y0, y1, y2) → z_RQ P M_4_readTape (z_rm 33) (z_mq P ro μo) 0 0 18 [some (zA 4 0), none, none, some (zI y0), some (zI y1)] [] y2) (hE : ∀ (z0 : zMem), K = .inr z0 → z_RQ P M_4_readTape (z_rm 33) (z_mq P ro μo) 0 0 151 [some (zA 4 0), none, none, none, none] [] z0)  : z_RQ P M_4_readTape (z_rm 33) (z_mq P ro μo) 0 0 18 [some (zA 4 0), none, none, some (zI x6), some (zI x7)] [] xm8 := by
  unfold f4_readTape_L5 at h
  replace h := z_h3 h
  refine zr_iload d_4_readTape_18 rfl ?_
  refine zr_sipush (v := (400 : Int32)) d_4_readTape_20 rfl ?_
  refine zr_icmp_gt (tgt := 151) d_4_readTape_23 rfl (fun hc9 => ?_) (fun hc9 => ?_)
  · replace h := z_ip h hc9
    obtain rfl := Option.some.inj h
    exact zr_wk2 (hE xm8 rfl) ⟨rfl, trivial⟩
  · replace h := z_im h hc9
    refine zr_iload_n (i := 3) d_4_readTape_26 rfl rfl ?_
    refine zr_if_eq (tgt := 151) d_4_readTape_27 rfl (fun hc10 => ?_) (fun hc10 => ?_)
    · replace h := z_ip h hc10
      obtain rfl := Option.some.inj h
      exact zr_wk2 (hE xm8 rfl) ⟨rfl, trivial⟩
    · replace h := z_im h hc10
      refine zr_aload_n (i := 0) d_4_readTape_30 rfl rfl ?_
      obtain ⟨q11, hq12, h⟩ := z_bd h
      refine zr_callVi (av := []) (st := []) d_4_readTape_31 mw_4_kind ml_4_61 im_4_kind se_4_kind rfl rfl (Nat.le_of_ble_eq_true rfl) fit_1_1_33 rfl rfl rfl (s4_kind hq12) ?_
      refine zr_if_eq (tgt := 151) d_4_readTape_34 rfl (fun hc13 => ?_) (fun hc13 => ?_)
      · replace h := z_ip h hc13
        obtain rfl := Option.some.inj h
        exact zr_wk2 (hE xm8 rfl) ⟨rfl, trivial⟩
      · replace h := z_im h hc13
        refine zr_aload_n (i := 0) d_4_readTape_37 rfl rfl ?_
        obtain ⟨q14, hq15, h⟩ := z_bd h
        refine zr_callVi (av := []) (st := []) d_4_readTape_38 mw_4_kind ml_4_61 im_4_kind se_4_kind rfl rfl (Nat.le_of_ble_eq_true rfl) fit_1_1_33 rfl rfl rfl (s4_kind hq15) ?_
        obtain ⟨⟨j67, jm68⟩, hT16, h⟩ := z_bd h
        replace h := z_h2 h
        have hJ17 : z_RQ P M_4_readTape (z_rm 33) (z_mq P ro μo) 0 0 145 [some (zA 4 0), none, none, some (zI j67), some (zI x7)] [] jm68 := by
          refine zr_iinc (v := (x7 + (1 : Int32))) (l' := [some (zA 4 0), none, none, some (zI j67), some (zI (x7 + (1 : Int32)))]) d_4_readTape_145 (by decide) rfl rfl rfl ?_
          refine zr_goto (tgt := 18) d_4_readTape_148 rfl ?_
          obtain rfl := Option.some.inj h
          exact zr_wk2 (hI j67 (x7 + (1 : Int32)) jm68 rfl) ⟨rfl, ⟨rfl, ⟨rfl, trivial⟩⟩⟩
        by_cases hs18 : q14 = (128 : Int32)
        · replace hT16 := z_ip hT16 hs18
          refine zr_tbl (off := 51) (tgt := 92) hs18 d_4_readTape_41 (by decide) (by decide) rfl rfl ?_
          refine zr_aload_n (i := 0) d_4_readTape_92 rfl rfl ?_
          obtain ⟨⟨q19, qm20⟩, hq21, hT16⟩ := z_bd hT16
          replace hT16 := z_h2 hT16
          refine zr_callVi (av := []) (st := []) d_4_readTape_93 mw_4_readHouse ml_4_65 im_4_readHouse se_4_readHouse rfl rfl (Nat.le_of_ble_eq_true rfl) fit_5_2_33 rfl rfl rfl (s4_readHouse hq21) ?_
          refine zr_istore_n (i := 3) (l' := [some (zA 4 0), none, none, some (zI q19), some (zI x7)]) d_4_readTape_96 rfl (by decide) rfl ?_
          refine zr_goto (tgt := 145) d_4_readTape_97 rfl ?_
          obtain ⟨rfl, rfl⟩ := z_i2 (Option.some.inj hT16)
          exact zr_wk2 hJ17 ⟨rfl, ⟨rfl, ⟨rfl, trivial⟩⟩⟩
        · replace hT16 := z_im hT16 hs18
          by_cases hs22 : q14 = (129 : Int32)
          · replace hT16 := z_ip hT16 hs22
            refine zr_tbl (off := 59) (tgt := 100) hs22 d_4_readTape_41 (by decide) (by decide) rfl rfl ?_
            refine zr_aload_n (i := 0) d_4_readTape_100 rfl rfl ?_
            obtain ⟨⟨q23, qm24⟩, hq25, hT16⟩ := z_bd hT16
            replace hT16 := z_h2 hT16
            refine zr_callVi (av := []) (st := []) d_4_readTape_101 mw_4_readPerson ml_4_69 im_4_readPerson se_4_readPerson rfl rfl (Nat.le_of_ble_eq_true rfl) fit_5_2_33 rfl rfl rfl (s4_readPerson hq25) ?_
            refine zr_istore_n (i := 3) (l' := [some (zA 4 0), none, none, some (zI q23), some (zI x7)]) d_4_readTape_104 rfl (by decide) rfl ?_
            refine zr_goto (tgt := 145) d_4_readTape_105 rfl ?_
            obtain ⟨rfl, rfl⟩ := z_i2 (Option.some.inj hT16)
            exact zr_wk2 hJ17 ⟨rfl, ⟨rfl, ⟨rfl, trivial⟩⟩⟩
          · replace hT16 := z_im hT16 hs22
            by_cases hs26 : q14 = (130 : Int32)
            · replace hT16 := z_ip hT16 hs26
              refine zr_tbl (off := 67) (tgt := 108) hs26 d_4_readTape_41 (by decide) (by decide) rfl rfl ?_
              refine zr_aload_n (i := 0) d_4_readTape_108 rfl rfl ?_
              obtain ⟨⟨q27, qm28⟩, hq29, hT16⟩ := z_bd hT16
              replace hT16 := z_h2 hT16
              refine zr_callVi (av := []) (st := []) d_4_readTape_109 mw_4_readRight ml_4_72 im_4_readRight se_4_readRight rfl rfl (Nat.le_of_ble_eq_true rfl) fit_4_3_33 rfl rfl rfl (s4_readRight hq29) ?_
              refine zr_istore_n (i := 3) (l' := [some (zA 4 0), none, none, some (zI q27), some (zI x7)]) d_4_readTape_112 rfl (by decide) rfl ?_
              refine zr_goto (tgt := 145) d_4_readTape_113 rfl ?_
              obtain ⟨rfl, rfl⟩ := z_i2 (Option.some.inj hT16)
              exact zr_wk2 hJ17 ⟨rfl, ⟨rfl, ⟨rfl, trivial⟩⟩⟩
            · replace hT16 := z_im hT16 hs26
              by_cases hs30 : q14 = (131 : Int32)
              · replace hT16 := z_ip hT16 hs30
                refine zr_tbl (off := 75) (tgt := 116) hs30 d_4_readTape_41 (by decide) (by decide) rfl rfl ?_
                refine zr_aload_n (i := 0) d_4_readTape_116 rfl rfl ?_
                obtain ⟨⟨q31, qm32⟩, hq33, hT16⟩ := z_bd hT16
                replace hT16 := z_h2 hT16
                refine zr_callVi (av := []) (st := []) d_4_readTape_117 mw_4_readAbsence ml_4_75 im_4_readAbsence se_4_readAbsence rfl rfl (Nat.le_of_ble_eq_true rfl) fit_4_2_33 rfl rfl rfl (s4_readAbsence hq33) ?_
                refine zr_istore_n (i := 3) (l' := [some (zA 4 0), none, none, some (zI q31), some (zI x7)]) d_4_readTape_120 rfl (by decide) rfl ?_
                refine zr_goto (tgt := 145) d_4_readTape_121 rfl ?_
                obtain ⟨rfl, rfl⟩ := z_i2 (Option.some.inj hT16)
                exact zr_wk2 hJ17 ⟨rfl, ⟨rfl, ⟨rfl, trivial⟩⟩⟩
              · replace hT16 := z_im hT16 hs30
                by_cases hs34 : q14 = (132 : Int32)
                · replace hT16 := z_ip hT16 hs34
                  refine zr_tbl (off := 91) (tgt := 132) hs34 d_4_readTape_41 (by decide) (by decide) rfl rfl ?_
                  refine zr_aload_n (i := 0) d_4_readTape_132 rfl rfl ?_
                  refine zr_aload_n (i := 0) d_4_readTape_133 rfl rfl ?_
                  obtain ⟨q35, hq36, hT16⟩ := z_bd hT16
                  refine zr_callVi (av := []) (st := [zA 4 0]) d_4_readTape_134 mw_4_kind ml_4_61 im_4_kind se_4_kind rfl rfl (Nat.le_of_ble_eq_true rfl) fit_1_1_33 rfl rfl rfl (s4_kind hq36) ?_
                  refine zr_sipush (v := (132 : Int32)) d_4_readTape_137 rfl ?_
                  refine zr_isub d_4_readTape_140 ?_
                  obtain ⟨⟨q37, qm38⟩, hq39, hT16⟩ := z_bd hT16
                  replace hT16 := z_h2 hT16
                  refine zr_callVi (av := [zI (q35 - (132 : Int32))]) (st := []) d_4_readTape_141 mw_4_readLaw ml_4_81 im_4_readLaw se_4_readLaw rfl rfl (Nat.le_of_ble_eq_true rfl) fit_32_3_33 rfl rfl rfl (s4_readLaw hq39) ?_
                  refine zr_istore_n (i := 3) (l' := [some (zA 4 0), none, none, some (zI q37), some (zI x7)]) d_4_readTape_144 rfl (by decide) rfl ?_
                  obtain ⟨rfl, rfl⟩ := z_i2 (Option.some.inj hT16)
                  exact zr_wk2 hJ17 ⟨rfl, ⟨rfl, ⟨rfl, trivial⟩⟩⟩
                · replace hT16 := z_im hT16 hs34
                  by_cases hs40 : q14 = (133 : Int32)
                  · replace hT16 := z_ip hT16 hs40
                    refine zr_tbl (off := 91) (tgt := 132) hs40 d_4_readTape_41 (by decide) (by decide) rfl rfl ?_
                    refine zr_aload_n (i := 0) d_4_readTape_132 rfl rfl ?_
                    refine zr_aload_n (i := 0) d_4_readTape_133 rfl rfl ?_
                    obtain ⟨q41, hq42, hT16⟩ := z_bd hT16
                    refine zr_callVi (av := []) (st := [zA 4 0]) d_4_readTape_134 mw_4_kind ml_4_61 im_4_kind se_4_kind rfl rfl (Nat.le_of_ble_eq_true rfl) fit_1_1_33 rfl rfl rfl (s4_kind hq42) ?_
                    refine zr_sipush (v := (132 : Int32)) d_4_readTape_137 rfl ?_
                    refine zr_isub d_4_readTape_140 ?_
                    obtain ⟨⟨q43, qm44⟩, hq45, hT16⟩ := z_bd hT16
                    replace hT16 := z_h2 hT16
                    refine zr_callVi (av := [zI (q41 - (132 : Int32))]) (st := []) d_4_readTape_141 mw_4_readLaw ml_4_81 im_4_readLaw se_4_readLaw rfl rfl (Nat.le_of_ble_eq_true rfl) fit_32_3_33 rfl rfl rfl (s4_readLaw hq45) ?_
                    refine zr_istore_n (i := 3) (l' := [some (zA 4 0), none, none, some (zI q43), some (zI x7)]) d_4_readTape_144 rfl (by decide) rfl ?_
                    obtain ⟨rfl, rfl⟩ := z_i2 (Option.some.inj hT16)
                    exact zr_wk2 hJ17 ⟨rfl, ⟨rfl, ⟨rfl, trivial⟩⟩⟩
                  · replace hT16 := z_im hT16 hs40
                    by_cases hs46 : q14 = (134 : Int32)
                    · replace hT16 := z_ip hT16 hs46
                      refine zr_tbl (off := 91) (tgt := 132) hs46 d_4_readTape_41 (by decide) (by decide) rfl rfl ?_
                      refine zr_aload_n (i := 0) d_4_readTape_132 rfl rfl ?_
                      refine zr_aload_n (i := 0) d_4_readTape_133 rfl rfl ?_
                      obtain ⟨q47, hq48, hT16⟩ := z_bd hT16
                      refine zr_callVi (av := []) (st := [zA 4 0]) d_4_readTape_134 mw_4_kind ml_4_61 im_4_kind se_4_kind rfl rfl (Nat.le_of_ble_eq_true rfl) fit_1_1_33 rfl rfl rfl (s4_kind hq48) ?_
                      refine zr_sipush (v := (132 : Int32)) d_4_readTape_137 rfl ?_
                      refine zr_isub d_4_readTape_140 ?_
                      obtain ⟨⟨q49, qm50⟩, hq51, hT16⟩ := z_bd hT16
                      replace hT16 := z_h2 hT16
                      refine zr_callVi (av := [zI (q47 - (132 : Int32))]) (st := []) d_4_readTape_141 mw_4_readLaw ml_4_81 im_4_readLaw se_4_readLaw rfl rfl (Nat.le_of_ble_eq_true rfl) fit_32_3_33 rfl rfl rfl (s4_readLaw hq51) ?_
                      refine zr_istore_n (i := 3) (l' := [some (zA 4 0), none, none, some (zI q49), some (zI x7)]) d_4_readTape_144 rfl (by decide) rfl ?_
                      obtain ⟨rfl, rfl⟩ := z_i2 (Option.some.inj hT16)
                      exact zr_wk2 hJ17 ⟨rfl, ⟨rfl, ⟨rfl, trivial⟩⟩⟩
                    · replace hT16 := z_im hT16 hs46
                      by_cases hs52 : q14 = (135 : Int32)
                      · replace hT16 := z_ip hT16 hs52
                        refine zr_tbl (off := 91) (tgt := 132) hs52 d_4_readTape_41 (by decide) (by decide) rfl rfl ?_
                        refine zr_aload_n (i := 0) d_4_readTape_132 rfl rfl ?_
                        refine zr_aload_n (i := 0) d_4_readTape_133 rfl rfl ?_
                        obtain ⟨q53, hq54, hT16⟩ := z_bd hT16
                        refine zr_callVi (av := []) (st := [zA 4 0]) d_4_readTape_134 mw_4_kind ml_4_61 im_4_kind se_4_kind rfl rfl (Nat.le_of_ble_eq_true rfl) fit_1_1_33 rfl rfl rfl (s4_kind hq54) ?_
                        refine zr_sipush (v := (132 : Int32)) d_4_readTape_137 rfl ?_
                        refine zr_isub d_4_readTape_140 ?_
                        obtain ⟨⟨q55, qm56⟩, hq57, hT16⟩ := z_bd hT16
                        replace hT16 := z_h2 hT16
                        refine zr_callVi (av := [zI (q53 - (132 : Int32))]) (st := []) d_4_readTape_141 mw_4_readLaw ml_4_81 im_4_readLaw se_4_readLaw rfl rfl (Nat.le_of_ble_eq_true rfl) fit_32_3_33 rfl rfl rfl (s4_readLaw hq57) ?_
                        refine zr_istore_n (i := 3) (l' := [some (zA 4 0), none, none, some (zI q55), some (zI x7)]) d_4_readTape_144 rfl (by decide) rfl ?_
                        obtain ⟨rfl, rfl⟩ := z_i2 (Option.some.inj hT16)
                        exact zr_wk2 hJ17 ⟨rfl, ⟨rfl, ⟨rfl, trivial⟩⟩⟩
                      · replace hT16 := z_im hT16 hs52
                        by_cases hs58 : q14 = (136 : Int32)
                        · replace hT16 := z_ip hT16 hs58
                          refine zr_tbl (off := 83) (tgt := 124) hs58 d_4_readTape_41 (by decide) (by decide) rfl rfl ?_
                          refine zr_aload_n (i := 0) d_4_readTape_124 rfl rfl ?_
                          obtain ⟨⟨q59, qm60⟩, hq61, hT16⟩ := z_bd hT16
                          replace hT16 := z_h2 hT16
                          refine zr_callVi (av := []) (st := []) d_4_readTape_125 mw_4_readSeed ml_4_78 im_4_readSeed se_4_readSeed rfl rfl (Nat.le_of_ble_eq_true rfl) fit_2_1_33 rfl rfl rfl (s4_readSeed hq61) ?_
                          refine zr_istore_n (i := 3) (l' := [some (zA 4 0), none, none, some (zI q59), some (zI x7)]) d_4_readTape_128 rfl (by decide) rfl ?_
                          refine zr_goto (tgt := 145) d_4_readTape_129 rfl ?_
                          obtain ⟨rfl, rfl⟩ := z_i2 (Option.some.inj hT16)
                          exact zr_wk2 hJ17 ⟨rfl, ⟨rfl, ⟨rfl, trivial⟩⟩⟩
                        · replace hT16 := z_im hT16 hs58
                          have hs18t := z_ti hs18
                          have hs22t := z_ti hs22
                          have hs26t := z_ti hs26
                          have hs30t := z_ti hs30
                          have hs34t := z_ti hs34
                          have hs40t := z_ti hs40
                          have hs46t := z_ti hs46
                          have hs52t := z_ti hs52
                          have hs58t := z_ti hs58
                          simp only [show ((128 : Int32)).toInt = 128 from rfl, show ((129 : Int32)).toInt = 129 from rfl, show ((130 : Int32)).toInt = 130 from rfl, show ((131 : Int32)).toInt = 131 from rfl, show ((132 : Int32)).toInt = 132 from rfl, show ((133 : Int32)).toInt = 133 from rfl, show ((134 : Int32)).toInt = 134 from rfl, show ((135 : Int32)).toInt = 135 from rfl, show ((136 : Int32)).toInt = 136 from rfl] at hs18t hs22t hs26t hs30t hs34t hs40t hs46t hs52t hs58t
                          refine zr_tableOut (tgt := 132) d_4_readTape_41 (by omega) rfl ?_
                          refine zr_aload_n (i := 0) d_4_readTape_132 rfl rfl ?_
                          refine zr_aload_n (i := 0) d_4_readTape_133 rfl rfl ?_
                          obtain ⟨q62, hq63, hT16⟩ := z_bd hT16
                          refine zr_callVi (av := []) (st := [zA 4 0]) d_4_readTape_134 mw_4_kind ml_4_61 im_4_kind se_4_kind rfl rfl (Nat.le_of_ble_eq_true rfl) fit_1_1_33 rfl rfl rfl (s4_kind hq63) ?_
                          refine zr_sipush (v := (132 : Int32)) d_4_readTape_137 rfl ?_
                          refine zr_isub d_4_readTape_140 ?_
                          obtain ⟨⟨q64, qm65⟩, hq66, hT16⟩ := z_bd hT16
                          replace hT16 := z_h2 hT16
                          refine zr_callVi (av := [zI (q62 - (132 : Int32))]) (st := []) d_4_readTape_141 mw_4_readLaw ml_4_81 im_4_readLaw se_4_readLaw rfl rfl (Nat.le_of_ble_eq_true rfl) fit_32_3_33 rfl rfl rfl (s4_readLaw hq66) ?_
                          refine zr_istore_n (i := 3) (l' := [some (zA 4 0), none, none, some (zI q64), some (zI x7)]) d_4_readTape_144 rfl (by decide) rfl ?_
                          obtain ⟨rfl, rfl⟩ := z_i2 (Option.some.inj hT16)
                          exact zr_wk2 hJ17 ⟨rfl, ⟨rfl, ⟨rfl, trivial⟩⟩⟩
theorem s4_readTape {P : zP} {μ : zMem} {o1 : Nat} {a2 : Int32} {r : Int32} {μ' : zMem} (h : f4_readTape o1 a2 μ = some (r, μ')) : z_Sp P y_4_readTape M_4_readTape 33 [zA 4 0, zA 34 o1, zI a2] μ (some (zI r)) μ' := by
  refine z_Sp.of (plainFor_of_name (by decide)) rfl (l0 := [some (zA 4 0), some (zA 34 o1), some (zI a2), none, none]) rfl (Nat.le_of_ble_eq_true rfl) ?_
  unfold f4_readTape at h
  refine zr_aload_n (i := 0) d_4_readTape_0 rfl rfl ?_
  refine zr_gets (i' := 0) d_4_readTape_1 fw_4_12 rfl ?_
  refine zr_aload_n (i := 1) d_4_readTape_4 rfl rfl ?_
  refine zr_iload_n (i := 2) d_4_readTape_5 rfl rfl ?_
  obtain ⟨qm1, hq2, h⟩ := z_bd h
  refine zr_callVv (av := [zA 34 o1, zI a2]) (st := []) d_4_readTape_6 mw_7_scan ml_4_54 im_7_scan se_7_scan rfl rfl (Nat.le_of_ble_eq_true rfl) fit_9_4_33 rfl rfl rfl (s7_scan hq2) ?_
  refine zr_aload_n (i := 0) d_4_readTape_9 rfl rfl ?_
  obtain ⟨qm3, hq4, h⟩ := z_bd h
  refine zr_callVv (av := []) (st := []) d_4_readTape_10 mw_4_begin ml_4_58 im_4_begin se_4_begin rfl rfl (Nat.le_of_ble_eq_true rfl) fit_3_1_33 rfl rfl rfl (s4_begin hq4) ?_
  refine zr_iconst (v := (1 : Int32)) d_4_readTape_13 rfl ?_
  refine zr_istore_n (i := 3) (l' := [some (zA 4 0), some (zA 34 o1), some (zI a2), some (zI (1 : Int32)), none]) d_4_readTape_14 rfl (by decide) rfl ?_
  refine zr_iconst (v := (0 : Int32)) d_4_readTape_15 rfl ?_
  refine zr_istore (i := 4) (l' := [some (zA 4 0), some (zA 34 o1), some (zI a2), some (zI (1 : Int32)), some (zI (0 : Int32))]) d_4_readTape_16 (by decide) rfl ?_
  obtain ⟨e69, hl70, h⟩ := z_bd h
  refine zr_wk (l' := [some (zA 4 0), none, none, some (zI (1 : Int32)), some (zI (0 : Int32))]) ⟨rfl, ⟨rfl, ⟨rfl, trivial⟩⟩⟩ ?_
  refine z_loop (Hd := (z_u3 fun y0 y1 y2 => z_RQ P M_4_readTape (z_rm 33) (z_mq P (some (zI r)) μ') 0 0 18 [some (zA 4 0), none, none, some (zI y0), some (zI y1)] [] y2)) (Ex := (fun z0 => z_RQ P M_4_readTape (z_rm 33) (z_mq P (some (zI r)) μ') 0 0 151 [some (zA 4 0), none, none, none, none] [] z0)) (fun ⟨x6, x7, xm8⟩ K h hI hE => s4_readTape_L5  x6 x7 xm8 K h (fun y0 y1 y2 e => hI (y0, y1, y2) e) (fun z0 e => hE z0 e) ) _ _ _ hl70 ?_
  refine zr_aload_n (i := 0) d_4_readTape_151 rfl rfl ?_
  refine zr_geti d_4_readTape_152 fw_4_42 (by decide) ?_
  refine zr_if_ne (tgt := 177) d_4_readTape_155 rfl (fun hc71 => ?_) (fun hc71 => ?_)
  · replace h := z_ip h hc71
    refine zr_aload_n (i := 0) d_4_readTape_158 rfl rfl ?_
    refine zr_aload_n (i := 0) d_4_readTape_159 rfl rfl ?_
    refine zr_geti d_4_readTape_160 fw_4_48 (by decide) ?_
    obtain ⟨m72, hm73, h⟩ := z_lt h
    refine zr_puti d_4_readTape_163 fw_4_42 pw_4_7 hm73 ?_
    refine zr_aload_n (i := 0) d_4_readTape_166 rfl rfl ?_
    refine zr_aload_n (i := 0) d_4_readTape_167 rfl rfl ?_
    refine zr_geti d_4_readTape_168 fw_4_51 (by decide) ?_
    obtain ⟨m74, hm75, h⟩ := z_lt h
    refine zr_puti d_4_readTape_171 fw_4_45 pw_4_8 hm75 ?_
    refine zr_goto (tgt := 193) d_4_readTape_174 rfl ?_
    refine zr_aload_n (i := 0) d_4_readTape_193 rfl rfl ?_
    refine zr_geti d_4_readTape_194 fw_4_42 (by decide) ?_
    obtain ⟨rfl, rfl⟩ := Prod.mk.inj (Option.some.inj h)
    exact ze_i d_4_readTape_197 rfl
  · replace h := z_im h hc71
    refine zr_aload_n (i := 0) d_4_readTape_177 rfl rfl ?_
    refine zr_aload_n (i := 0) d_4_readTape_178 rfl rfl ?_
    refine zr_gets (i' := 0) d_4_readTape_179 fw_4_12 rfl ?_
    refine zr_gets (i' := 0) d_4_readTape_182 fw_4_85 rfl ?_
    refine zr_aload_n (i := 0) d_4_readTape_185 rfl rfl ?_
    refine zr_geti d_4_readTape_186 fw_4_32 (by decide) ?_
    obtain ⟨hb76, h⟩ := z_gd h
    refine zr_iald d_4_readTape_189 sa_32 rfl hb76 ?_
    obtain ⟨m77, hm78, h⟩ := z_lt h
    refine zr_puti d_4_readTape_190 fw_4_45 pw_4_8 hm78 ?_
    refine zr_aload_n (i := 0) d_4_readTape_193 rfl rfl ?_
    refine zr_geti d_4_readTape_194 fw_4_42 (by decide) ?_
    obtain ⟨rfl, rfl⟩ := Prod.mk.inj (Option.some.inj h)
    exact ze_i d_4_readTape_197 rfl
def f5_begin_L8 (o0 : Nat) (o1 : Nat) : (Int32 × zMem) → Option ((Int32 × zMem) ⊕ (zMem)) := (z_u2 fun x9 xm10 => 
  (if x9 < (7 : Int32) then if z_in x9 7 = true then z_let (z_sI xm10 22 o0 x9.toNatClampNeg (0 : Int32)) fun m12 => z_let (z_sI m12 23 o0 x9.toNatClampNeg (0 : Int32)) fun m15 => if z_in x9 (z_len 26 (2 * o1 + 1)) = true then z_let (z_sI m15 24 o0 x9.toNatClampNeg (m15.1 26 (2 * o1 + 1) x9.toNatClampNeg)) fun m18 => some (.inl ((x9 + (1 : Int32)), m18)) else none else none else some (.inr xm10)))
def f5_begin_L22 (o0 : Nat) (o1 : Nat) : (Int32 × zMem) → Option ((Int32 × zMem) ⊕ (zMem)) := (z_u2 fun x23 xm24 => 
  (if x23 < (xm24.1 6 o1 1) then if z_in x23 7 = true then ((if (xm24.1 28 o1 x23.toNatClampNeg) = (-1 : Int32) then some xm24 else (f5_goAway o0 x23 xm24).bind (fun qm30 => z_let (z_sI qm30 22 o0 x23.toNatClampNeg (qm30.1 28 o1 x23.toNatClampNeg)) fun m32 => some m32)) : Option (zMem)).bind (fun jm34 => some (.inl ((x23 + (1 : Int32)), jm34))) else none else some (.inr xm24)))
def f5_begin_L37 (o0 : Nat) (o1 : Nat) : (Int32 × zMem) → Option ((Int32 × zMem) ⊕ (zMem)) := (z_u2 fun x38 xm39 => 
  (if x38 < (5 : Int32) then if z_in x38 5 = true then z_let (z_sI xm39 25 o0 x38.toNatClampNeg (xm39.1 27 o1 x38.toNatClampNeg)) fun m42 => some (.inl ((x38 + (1 : Int32)), m42)) else none else some (.inr xm39)))
def f5_begin (o0 : Nat) (o1 : Nat) (μ : zMem) : Option (zMem) :=
  z_let (z_sI μ 5 o0 0 (0 : Int32)) fun m1 => z_let (z_sI m1 5 o0 1 (f8_everybody (m1.1 6 o1 1))) fun m4 => z_let (z_sI m4 5 o0 2 (0 : Int32)) fun m6 => (z_it (f5_begin_L8 o0 o1) z_fu ((0 : Int32), m6)).bind (fun e20 => (z_it (f5_begin_L22 o0 o1) z_fu ((0 : Int32), e20)).bind (fun e35 => (z_it (f5_begin_L37 o0 o1) z_fu ((0 : Int32), e35)).bind (fun e44 => some e44)))
theorem s5_begin_L8 {P : zP} {ro : Option zV} {μo : zMem} (o0 : Nat) (o1 : Nat) (x9 : Int32) (xm10 : zMem) (K : (Int32 × zMem) ⊕ (zMem)) (h : f5_begin_L8 o0 o1 (x9, xm10) = some K) (hI : ∀ (y0 : Int32) (y1 : zMem), K = .inl (y0, y1) → z_RQ P M_5_begin (z_rm 2) (z_mq P ro μo) 0 0 23 [some (zA 5 o0), some (zA 6 o1), some (zI y0)] [] y1) (hE : ∀ (z0 : zMem), K = .inr z0 → z_RQ P M_5_begin (z_rm 2) (z_mq P ro μo) 0 0 61 [some (zA 5 o0), some (zA 6 o1), none] [] z0)  : z_RQ P M_5_begin (z_rm 2) (z_mq P ro μo) 0 0 23 [some (zA 5 o0), some (zA 6 o1), some (zI x9)] [] xm10 := by
  unfold f5_begin_L8 at h
  replace h := z_h2 h
  refine zr_iload_n (i := 2) d_5_begin_23 rfl rfl ?_
  refine zr_bipush (v := (7 : Int32)) d_5_begin_24 rfl ?_
  refine zr_icmp_ge (tgt := 61) d_5_begin_26 rfl (fun hc11 => ?_) (fun hc11 => ?_)
  · replace h := z_ip h hc11
    refine zr_aload_n (i := 0) d_5_begin_29 rfl rfl ?_
    refine zr_gets (i' := o0) d_5_begin_30 fw_5_21 rfl ?_
    refine zr_iload_n (i := 2) d_5_begin_33 rfl rfl ?_
    refine zr_iconst (v := (0 : Int32)) d_5_begin_34 rfl ?_
    obtain ⟨hb14, h⟩ := z_gd h
    obtain ⟨m12, hm13, h⟩ := z_lt h
    refine zr_iast d_5_begin_35 sa_22 rfl hb14 hm13 ?_
    refine zr_aload_n (i := 0) d_5_begin_36 rfl rfl ?_
    refine zr_gets (i' := o0) d_5_begin_37 fw_5_25 rfl ?_
    refine zr_iload_n (i := 2) d_5_begin_40 rfl rfl ?_
    refine zr_iconst (v := (0 : Int32)) d_5_begin_41 rfl ?_
    obtain ⟨m15, hm16, h⟩ := z_lt h
    refine zr_iast d_5_begin_42 sa_23 rfl hb14 hm16 ?_
    refine zr_aload_n (i := 0) d_5_begin_43 rfl rfl ?_
    refine zr_gets (i' := o0) d_5_begin_44 fw_5_28 rfl ?_
    refine zr_iload_n (i := 2) d_5_begin_47 rfl rfl ?_
    refine zr_aload_n (i := 1) d_5_begin_48 rfl rfl ?_
    refine zr_gets (i' := (2 * o1 + 1)) d_5_begin_49 fw_5_43 rfl ?_
    refine zr_iload_n (i := 2) d_5_begin_52 rfl rfl ?_
    obtain ⟨hb17, h⟩ := z_gd h
    refine zr_iald d_5_begin_53 sa_26 rfl hb17 ?_
    obtain ⟨m18, hm19, h⟩ := z_lt h
    refine zr_iast d_5_begin_54 sa_24 rfl hb14 hm19 ?_
    refine zr_iinc (v := (x9 + (1 : Int32))) (l' := [some (zA 5 o0), some (zA 6 o1), some (zI (x9 + (1 : Int32)))]) d_5_begin_55 (by decide) rfl rfl rfl ?_
    refine zr_goto (tgt := 23) d_5_begin_58 rfl ?_
    obtain rfl := Option.some.inj h
    exact zr_wk2 (hI (x9 + (1 : Int32)) m18 rfl) ⟨rfl, ⟨rfl, ⟨rfl, trivial⟩⟩⟩
  · replace h := z_im h hc11
    obtain rfl := Option.some.inj h
    exact zr_wk2 (hE xm10 rfl) ⟨rfl, ⟨rfl, trivial⟩⟩
theorem s5_begin_L22 {P : zP} {ro : Option zV} {μo : zMem} (o0 : Nat) (o1 : Nat) (x23 : Int32) (xm24 : zMem) (K : (Int32 × zMem) ⊕ (zMem)) (h : f5_begin_L22 o0 o1 (x23, xm24) = some K) (hI : ∀ (y0 : Int32) (y1 : zMem), K = .inl (y0, y1) → z_RQ P M_5_begin (z_rm 2) (z_mq P ro μo) 0 0 63 [some (zA 5 o0), some (zA 6 o1), some (zI y0)] [] y1) (hE : ∀ (z0 : zMem), K = .inr z0 → z_RQ P M_5_begin (z_rm 2) (z_mq P ro μo) 0 0 104 [some (zA 5 o0), some (zA 6 o1), none] [] z0)  : z_RQ P M_5_begin (z_rm 2) (z_mq P ro μo) 0 0 63 [some (zA 5 o0), some (zA 6 o1), some (zI x23)] [] xm24 := by
  unfold f5_begin_L22 at h
  replace h := z_h2 h
  refine zr_iload_n (i := 2) d_5_begin_63 rfl rfl ?_
  refine zr_aload_n (i := 1) d_5_begin_64 rfl rfl ?_
  refine zr_geti d_5_begin_65 fw_5_34 (by decide) ?_
  refine zr_icmp_ge (tgt := 104) d_5_begin_68 rfl (fun hc25 => ?_) (fun hc25 => ?_)
  · replace h := z_ip h hc25
    refine zr_aload_n (i := 1) d_5_begin_71 rfl rfl ?_
    refine zr_gets (i' := o1) d_5_begin_72 fw_5_44 rfl ?_
    refine zr_iload_n (i := 2) d_5_begin_75 rfl rfl ?_
    obtain ⟨hb26, h⟩ := z_gd h
    refine zr_iald d_5_begin_76 sa_28 rfl hb26 ?_
    refine zr_iconst (v := (-1 : Int32)) d_5_begin_77 rfl ?_
    obtain ⟨jm34, hT27, h⟩ := z_bd h
    have hJ28 : z_RQ P M_5_begin (z_rm 2) (z_mq P ro μo) 0 0 98 [some (zA 5 o0), some (zA 6 o1), some (zI x23)] [] jm34 := by
      refine zr_iinc (v := (x23 + (1 : Int32))) (l' := [some (zA 5 o0), some (zA 6 o1), some (zI (x23 + (1 : Int32)))]) d_5_begin_98 (by decide) rfl rfl rfl ?_
      refine zr_goto (tgt := 63) d_5_begin_101 rfl ?_
      obtain rfl := Option.some.inj h
      exact zr_wk2 (hI (x23 + (1 : Int32)) jm34 rfl) ⟨rfl, ⟨rfl, ⟨rfl, trivial⟩⟩⟩
    refine zr_icmp_eq (tgt := 98) d_5_begin_78 rfl (fun hc29 => ?_) (fun hc29 => ?_)
    · replace hT27 := z_ip hT27 hc29
      obtain rfl := Option.some.inj hT27
      exact zr_wk2 hJ28 ⟨rfl, ⟨rfl, ⟨rfl, trivial⟩⟩⟩
    · replace hT27 := z_im hT27 hc29
      refine zr_aload_n (i := 0) d_5_begin_81 rfl rfl ?_
      refine zr_iload_n (i := 2) d_5_begin_82 rfl rfl ?_
      obtain ⟨qm30, hq31, hT27⟩ := z_bd hT27
      refine zr_callVv (av := [zI x23]) (st := []) d_5_begin_83 mw_5_goAway ml_5_47 im_5_goAway se_5_goAway rfl rfl (Nat.le_of_ble_eq_true rfl) fit_1_2_2 rfl rfl rfl (s5_goAway hq31) ?_
      refine zr_aload_n (i := 0) d_5_begin_86 rfl rfl ?_
      refine zr_gets (i' := o0) d_5_begin_87 fw_5_21 rfl ?_
      refine zr_iload_n (i := 2) d_5_begin_90 rfl rfl ?_
      refine zr_aload_n (i := 1) d_5_begin_91 rfl rfl ?_
      refine zr_gets (i' := o1) d_5_begin_92 fw_5_44 rfl ?_
      refine zr_iload_n (i := 2) d_5_begin_95 rfl rfl ?_
      refine zr_iald d_5_begin_96 sa_28 rfl hb26 ?_
      obtain ⟨m32, hm33, hT27⟩ := z_lt hT27
      refine zr_iast d_5_begin_97 sa_22 rfl hb26 hm33 ?_
      obtain rfl := Option.some.inj hT27
      exact zr_wk2 hJ28 ⟨rfl, ⟨rfl, ⟨rfl, trivial⟩⟩⟩
  · replace h := z_im h hc25
    obtain rfl := Option.some.inj h
    exact zr_wk2 (hE xm24 rfl) ⟨rfl, ⟨rfl, trivial⟩⟩
theorem s5_begin_L37 {P : zP} {ro : Option zV} {μo : zMem} (o0 : Nat) (o1 : Nat) (x38 : Int32) (xm39 : zMem) (K : (Int32 × zMem) ⊕ (zMem)) (h : f5_begin_L37 o0 o1 (x38, xm39) = some K) (hI : ∀ (y0 : Int32) (y1 : zMem), K = .inl (y0, y1) → z_RQ P M_5_begin (z_rm 2) (z_mq P ro μo) 0 0 106 [some (zA 5 o0), some (zA 6 o1), some (zI y0)] [] y1) (hE : ∀ (z0 : zMem), K = .inr z0 → z_RQ P M_5_begin (z_rm 2) (z_mq P ro μo) 0 0 129 [none, none, none] [] z0)  : z_RQ P M_5_begin (z_rm 2) (z_mq P ro μo) 0 0 106 [some (zA 5 o0), some (zA 6 o1), some (zI x38)] [] xm39 := by
  unfold f5_begin_L37 at h
  replace h := z_h2 h
  refine zr_iload_n (i := 2) d_5_begin_106 rfl rfl ?_
  refine zr_iconst (v := (5 : Int32)) d_5_begin_107 rfl ?_
  refine zr_icmp_ge (tgt := 129) d_5_begin_108 rfl (fun hc40 => ?_) (fun hc40 => ?_)
  · replace h := z_ip h hc40
    refine zr_aload_n (i := 0) d_5_begin_111 rfl rfl ?_
    refine zr_gets (i' := o0) d_5_begin_112 fw_5_31 rfl ?_
    refine zr_iload_n (i := 2) d_5_begin_115 rfl rfl ?_
    refine zr_aload_n (i := 1) d_5_begin_116 rfl rfl ?_
    refine zr_gets (i' := o1) d_5_begin_117 fw_5_51 rfl ?_
    refine zr_iload_n (i := 2) d_5_begin_120 rfl rfl ?_
    obtain ⟨hb41, h⟩ := z_gd h
    refine zr_iald d_5_begin_121 sa_27 rfl hb41 ?_
    obtain ⟨m42, hm43, h⟩ := z_lt h
    refine zr_iast d_5_begin_122 sa_25 rfl hb41 hm43 ?_
    refine zr_iinc (v := (x38 + (1 : Int32))) (l' := [some (zA 5 o0), some (zA 6 o1), some (zI (x38 + (1 : Int32)))]) d_5_begin_123 (by decide) rfl rfl rfl ?_
    refine zr_goto (tgt := 106) d_5_begin_126 rfl ?_
    obtain rfl := Option.some.inj h
    exact zr_wk2 (hI (x38 + (1 : Int32)) m42 rfl) ⟨rfl, ⟨rfl, ⟨rfl, trivial⟩⟩⟩
  · replace h := z_im h hc40
    obtain rfl := Option.some.inj h
    exact zr_wk2 (hE xm39 rfl) trivial
theorem s5_begin {P : zP} {μ : zMem} {o0 : Nat} {o1 : Nat} {μ' : zMem} (h : f5_begin o0 o1 μ = some μ') : z_Sp P y_5_begin M_5_begin 2 [zA 5 o0, zA 6 o1] μ none μ' := by
  refine z_Sp.of (plainFor_of_name (by decide)) rfl (l0 := [some (zA 5 o0), some (zA 6 o1), none]) rfl (Nat.le_of_ble_eq_true rfl) ?_
  unfold f5_begin at h
  refine zr_aload_n (i := 0) d_5_begin_0 rfl rfl ?_
  refine zr_iconst (v := (0 : Int32)) d_5_begin_1 rfl ?_
  obtain ⟨m1, hm2, h⟩ := z_lt h
  refine zr_puti d_5_begin_2 fw_5_9 pw_5_0 hm2 ?_
  refine zr_aload_n (i := 0) d_5_begin_5 rfl rfl ?_
  refine zr_aload_n (i := 1) d_5_begin_6 rfl rfl ?_
  refine zr_geti d_5_begin_7 fw_5_34 (by decide) ?_
  refine zr_callSNi (av := [zI (m1.1 6 o1 1)]) (st := [zA 5 o0]) d_5_begin_10 mw_8_everybody nl_5_39 is_8_everybody rfl rfl (Nat.le_of_ble_eq_true rfl) fit_1_1_2 (s8_everybody rfl) ?_
  obtain ⟨m4, hm5, h⟩ := z_lt h
  refine zr_puti d_5_begin_13 fw_5_15 pw_5_1 hm5 ?_
  refine zr_aload_n (i := 0) d_5_begin_16 rfl rfl ?_
  refine zr_iconst (v := (0 : Int32)) d_5_begin_17 rfl ?_
  obtain ⟨m6, hm7, h⟩ := z_lt h
  refine zr_puti d_5_begin_18 fw_5_18 pw_5_2 hm7 ?_
  refine zr_iconst (v := (0 : Int32)) d_5_begin_21 rfl ?_
  refine zr_istore_n (i := 2) (l' := [some (zA 5 o0), some (zA 6 o1), some (zI (0 : Int32))]) d_5_begin_22 rfl (by decide) rfl ?_
  obtain ⟨e20, hl21, h⟩ := z_bd h
  refine zr_wk (l' := [some (zA 5 o0), some (zA 6 o1), some (zI (0 : Int32))]) ⟨rfl, ⟨rfl, ⟨rfl, trivial⟩⟩⟩ ?_
  refine z_loop (Hd := (z_u2 fun y0 y1 => z_RQ P M_5_begin (z_rm 2) (z_mq P none μ') 0 0 23 [some (zA 5 o0), some (zA 6 o1), some (zI y0)] [] y1)) (Ex := (fun z0 => z_RQ P M_5_begin (z_rm 2) (z_mq P none μ') 0 0 61 [some (zA 5 o0), some (zA 6 o1), none] [] z0)) (fun ⟨x9, xm10⟩ K h hI hE => s5_begin_L8 o0 o1 x9 xm10 K h (fun y0 y1 e => hI (y0, y1) e) (fun z0 e => hE z0 e) ) _ _ _ hl21 ?_
  refine zr_iconst (v := (0 : Int32)) d_5_begin_61 rfl ?_
  refine zr_istore_n (i := 2) (l' := [some (zA 5 o0), some (zA 6 o1), some (zI (0 : Int32))]) d_5_begin_62 rfl (by decide) rfl ?_
  obtain ⟨e35, hl36, h⟩ := z_bd h
  refine zr_wk (l' := [some (zA 5 o0), some (zA 6 o1), some (zI (0 : Int32))]) ⟨rfl, ⟨rfl, ⟨rfl, trivial⟩⟩⟩ ?_
  refine z_loop (Hd := (z_u2 fun y0 y1 => z_RQ P M_5_begin (z_rm 2) (z_mq P none μ') 0 0 63 [some (zA 5 o0), some (zA 6 o1), some (zI y0)] [] y1)) (Ex := (fun z0 => z_RQ P M_5_begin (z_rm 2) (z_mq P none μ') 0 0 104 [some (zA 5 o0), some (zA 6 o1), none] [] z0)) (fun ⟨x23, xm24⟩ K h hI hE => s5_begin_L22 o0 o1 x23 xm24 K h (fun y0 y1 e => hI (y0, y1) e) (fun z0 e => hE z0 e) ) _ _ _ hl36 ?_
  refine zr_iconst (v := (0 : Int32)) d_5_begin_104 rfl ?_
  refine zr_istore_n (i := 2) (l' := [some (zA 5 o0), some (zA 6 o1), some (zI (0 : Int32))]) d_5_begin_105 rfl (by decide) rfl ?_
  obtain ⟨e44, hl45, h⟩ := z_bd h
  refine zr_wk (l' := [some (zA 5 o0), some (zA 6 o1), some (zI (0 : Int32))]) ⟨rfl, ⟨rfl, ⟨rfl, trivial⟩⟩⟩ ?_
  refine z_loop (Hd := (z_u2 fun y0 y1 => z_RQ P M_5_begin (z_rm 2) (z_mq P none μ') 0 0 106 [some (zA 5 o0), some (zA 6 o1), some (zI y0)] [] y1)) (Ex := (fun z0 => z_RQ P M_5_begin (z_rm 2) (z_mq P none μ') 0 0 129 [none, none, none] [] z0)) (fun ⟨x38, xm39⟩ K h hI hE => s5_begin_L37 o0 o1 x38 xm39 K h (fun y0 y1 e => hI (y0, y1) e) (fun z0 e => hE z0 e) ) _ _ _ hl45 ?_
  obtain rfl := Option.some.inj h
  exact ze_v d_5_begin_129 rfl
