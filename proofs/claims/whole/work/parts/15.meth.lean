/-! 15.meth.lean.txt -/
def y_9_in : MethodName := ⟨zR9, "in", "(III)Z"⟩
abbrev M_9_in : zM := (zR9, prog_11_method_37_code, 3, (Option.some Jvm.ClassFile.FieldType.boolean))
def y_9_within : MethodName := ⟨zR9, "within", "(III)I"⟩
abbrev M_9_within : zM := (zR9, prog_11_method_38_code, 3, (Option.some Jvm.ClassFile.FieldType.int))
def y_9_bits : MethodName := ⟨zR9, "bits", "(I)I"⟩
abbrev M_9_bits : zM := (zR9, prog_11_method_39_code, 3, (Option.some Jvm.ClassFile.FieldType.int))
def y_9_isHouse : MethodName := ⟨zR9, "isHouse", "(I)Z"⟩
abbrev M_9_isHouse : zM := (zR9, prog_11_method_40_code, 2, (Option.some Jvm.ClassFile.FieldType.boolean))
def y_9_isPerson : MethodName := ⟨zR9, "isPerson", "(I)Z"⟩
abbrev M_9_isPerson : zM := (zR9, prog_11_method_41_code, 2, (Option.some Jvm.ClassFile.FieldType.boolean))
def y_9_isNow : MethodName := ⟨zR9, "isNow", "(II)Z"⟩
abbrev M_9_isNow : zM := (zR9, prog_11_method_42_code, 3, (Option.some Jvm.ClassFile.FieldType.boolean))
def y_9_copies : MethodName := ⟨zR9, "copies", "()V"⟩
abbrev M_9_copies : zM := (zR9, prog_11_method_45_code, 2, (Option.none : Option Jvm.ClassFile.FieldType))
def y_9_copiesStill : MethodName := ⟨zR9, "copiesStill", "()V"⟩
abbrev M_9_copiesStill : zM := (zR9, prog_11_method_46_code, 1, (Option.none : Option Jvm.ClassFile.FieldType))
def y_9_mixed : MethodName := ⟨zR9, "mixed", "(II)I"⟩
abbrev M_9_mixed : zM := (zR9, prog_11_method_47_code, 3, (Option.some Jvm.ClassFile.FieldType.int))
def y_9_isLot : MethodName := ⟨zR9, "isLot", "(II)Z"⟩
abbrev M_9_isLot : zM := (zR9, prog_11_method_48_code, 3, (Option.some Jvm.ClassFile.FieldType.boolean))
def y_9_hasRight : MethodName := ⟨zR9, "hasRight", "(II)Z"⟩
abbrev M_9_hasRight : zM := (zR9, prog_11_method_49_code, 3, (Option.some Jvm.ClassFile.FieldType.boolean))
def y_9_longestBut : MethodName := ⟨zR9, "longestBut", "(II)I"⟩
abbrev M_9_longestBut : zM := (zR9, prog_11_method_50_code, 5, (Option.some Jvm.ClassFile.FieldType.int))
def y_9_lordOf : MethodName := ⟨zR9, "lordOf", "(I)I"⟩
abbrev M_9_lordOf : zM := (zR9, prog_11_method_51_code, 2, (Option.some Jvm.ClassFile.FieldType.int))
def y_9_lordBits : MethodName := ⟨zR9, "lordBits", "(I)I"⟩
abbrev M_9_lordBits : zM := (zR9, prog_11_method_52_code, 4, (Option.some Jvm.ClassFile.FieldType.int))
def y_9_rightBits : MethodName := ⟨zR9, "rightBits", "(I)I"⟩
abbrev M_9_rightBits : zM := (zR9, prog_11_method_53_code, 4, (Option.some Jvm.ClassFile.FieldType.int))
def y_9_inState : MethodName := ⟨zR9, "inState", "(I)I"⟩
abbrev M_9_inState : zM := (zR9, prog_11_method_54_code, 4, (Option.some Jvm.ClassFile.FieldType.int))
def y_9_ageNow : MethodName := ⟨zR9, "ageNow", "(I)I"⟩
abbrev M_9_ageNow : zM := (zR9, prog_11_method_55_code, 2, (Option.some Jvm.ClassFile.FieldType.int))
def y_9_lawTells : MethodName := ⟨zR9, "lawTells", "(II)I"⟩
abbrev M_9_lawTells : zM := (zR9, prog_11_method_56_code, 7, (Option.some Jvm.ClassFile.FieldType.int))
def y_9_looks : MethodName := ⟨zR9, "looks", "(I)V"⟩
abbrev M_9_looks : zM := (zR9, prog_11_method_57_code, 4, (Option.none : Option Jvm.ClassFile.FieldType))
def y_9_chanceOf : MethodName := ⟨zR9, "chanceOf", "(II)I"⟩
abbrev M_9_chanceOf : zM := (zR9, prog_11_method_58_code, 3, (Option.some Jvm.ClassFile.FieldType.int))
def y_9_rentsOf : MethodName := ⟨zR9, "rentsOf", "(I)I"⟩
abbrev M_9_rentsOf : zM := (zR9, prog_11_method_59_code, 3, (Option.some Jvm.ClassFile.FieldType.int))
def y_9_whatDoes : MethodName := ⟨zR9, "whatDoes", "(I)I"⟩
abbrev M_9_whatDoes : zM := (zR9, prog_11_method_60_code, 3, (Option.some Jvm.ClassFile.FieldType.int))
def y_9_becomes : MethodName := ⟨zR9, "becomes", "(II)V"⟩
abbrev M_9_becomes : zM := (zR9, prog_11_method_61_code, 3, (Option.none : Option Jvm.ClassFile.FieldType))
def y_9_does : MethodName := ⟨zR9, "does", "(I)V"⟩
abbrev M_9_does : zM := (zR9, prog_11_method_62_code, 2, (Option.none : Option Jvm.ClassFile.FieldType))
def y_9_yearGoes : MethodName := ⟨zR9, "yearGoes", "()V"⟩
abbrev M_9_yearGoes : zM := (zR9, prog_11_method_63_code, 2, (Option.none : Option Jvm.ClassFile.FieldType))
def y_9_goes : MethodName := ⟨zR9, "goes", "(I)V"⟩
abbrev M_9_goes : zM := (zR9, prog_11_method_64_code, 3, (Option.none : Option Jvm.ClassFile.FieldType))
def y_9_house : MethodName := ⟨zR9, "house", "(II)I"⟩
abbrev M_9_house : zM := (zR9, prog_11_method_65_code, 3, (Option.some Jvm.ClassFile.FieldType.int))
def y_9_person : MethodName := ⟨zR9, "person", "(II)I"⟩
abbrev M_9_person : zM := (zR9, prog_11_method_66_code, 3, (Option.some Jvm.ClassFile.FieldType.int))
def y_9_records : MethodName := ⟨zR9, "records", "()V"⟩
abbrev M_9_records : zM := (zR9, prog_11_method_67_code, 2, (Option.none : Option Jvm.ClassFile.FieldType))
def y_9_turns : MethodName := ⟨zR9, "turns", "(II)Z"⟩
abbrev M_9_turns : zM := (zR9, prog_11_method_68_code, 3, (Option.some Jvm.ClassFile.FieldType.boolean))
def y_9_send : MethodName := ⟨zR9, "send", "(I)Z"⟩
abbrev M_9_send : zM := (zR9, prog_11_method_69_code, 2, (Option.some Jvm.ClassFile.FieldType.boolean))
def y_9_call : MethodName := ⟨zR9, "call", "(I)Z"⟩
abbrev M_9_call : zM := (zR9, prog_11_method_70_code, 2, (Option.some Jvm.ClassFile.FieldType.boolean))
def y_9_bury : MethodName := ⟨zR9, "bury", "(I)Z"⟩
abbrev M_9_bury : zM := (zR9, prog_11_method_71_code, 2, (Option.some Jvm.ClassFile.FieldType.boolean))
def y_9_give : MethodName := ⟨zR9, "give", "(IIZ)Z"⟩
abbrev M_9_give : zM := (zR9, prog_11_method_72_code, 4, (Option.some Jvm.ClassFile.FieldType.boolean))
def y_9_isLong : MethodName := ⟨zR9, "isLong", "(I)Z"⟩
abbrev M_9_isLong : zM := (zR9, prog_11_method_73_code, 1, (Option.some Jvm.ClassFile.FieldType.boolean))
def y_9_years : MethodName := ⟨zR9, "years", "(I)I"⟩
abbrev M_9_years : zM := (zR9, prog_11_method_74_code, 2, (Option.some Jvm.ClassFile.FieldType.int))
def y_9_undo : MethodName := ⟨zR9, "undo", "()Z"⟩
abbrev M_9_undo : zM := (zR9, prog_11_method_75_code, 2, (Option.some Jvm.ClassFile.FieldType.boolean))
def y_9_heirOf : MethodName := ⟨zR9, "heirOf", "(I)I"⟩
abbrev M_9_heirOf : zM := (zR9, prog_11_method_76_code, 3, (Option.some Jvm.ClassFile.FieldType.int))
def y_9_heir : MethodName := ⟨zR9, "heir", "(I)I"⟩
abbrev M_9_heir : zM := (zR9, prog_11_method_77_code, 2, (Option.some Jvm.ClassFile.FieldType.int))
def y_9_race : MethodName := ⟨zR9, "race", "(I)I"⟩
abbrev M_9_race : zM := (zR9, prog_11_method_78_code, 3, (Option.some Jvm.ClassFile.FieldType.int))
def y_9_gain : MethodName := ⟨zR9, "gain", "(II)I"⟩
abbrev M_9_gain : zM := (zR9, prog_11_method_79_code, 3, (Option.some Jvm.ClassFile.FieldType.int))
def y_9_gainBy : MethodName := ⟨zR9, "gainBy", "(III)I"⟩
abbrev M_9_gainBy : zM := (zR9, prog_11_method_80_code, 4, (Option.some Jvm.ClassFile.FieldType.int))
def y_9_isSpan : MethodName := ⟨zR9, "isSpan", "(I)Z"⟩
abbrev M_9_isSpan : zM := (zR9, prog_11_method_81_code, 1, (Option.some Jvm.ClassFile.FieldType.boolean))
def y_9_best : MethodName := ⟨zR9, "best", "(III)I"⟩
abbrev M_9_best : zM := (zR9, prog_11_method_82_code, 6, (Option.some Jvm.ClassFile.FieldType.int))
def y_9_gotBy : MethodName := ⟨zR9, "gotBy", "(II)I"⟩
abbrev M_9_gotBy : zM := (zR9, prog_11_method_83_code, 5, (Option.some Jvm.ClassFile.FieldType.int))
theorem mw_9_in : z_MW y_9_in M_9_in 3 := ⟨z_m1 (List.mem_of_getElem? (i := 10) rfl) rfl, z_m6 (List.mem_of_getElem? (i := 236) rfl) rfl, by decide, by decide, by decide +kernel⟩
theorem ml_9_312 : Cond.methodLink zR9 312 y_9_in ∈ lw_gd := z_m6 (List.mem_of_getElem? (i := 234) rfl) rfl
theorem is_9_in : Cond.static y_9_in ∈ lw_gd := z_m6 (List.mem_of_getElem? (i := 235) rfl) rfl
theorem mw_9_isPerson : z_MW y_9_isPerson M_9_isPerson 1 := ⟨z_m1 (List.mem_of_getElem? (i := 10) rfl) rfl, z_m7 (List.mem_of_getElem? (i := 58) rfl) rfl, by decide, by decide, by decide +kernel⟩
theorem ml_9_316 : Cond.methodLink zR9 316 y_9_isPerson ∈ lw_gd := z_m7 (List.mem_of_getElem? (i := 55) rfl) rfl
theorem im_9_isPerson : Cond.instanceMethod y_9_isPerson ∈ lw_gd := z_m7 (List.mem_of_getElem? (i := 57) rfl) rfl
theorem se_9_isPerson : Cond.selects y_9_isPerson.cls y_9_isPerson y_9_isPerson ∈ lw_gd := z_s (q := (y_9_isPerson, _)) (List.mem_of_getElem? (i := 101) rfl)
theorem mw_9_copies : z_MW y_9_copies M_9_copies 0 := ⟨z_m1 (List.mem_of_getElem? (i := 10) rfl) rfl, z_m7 (List.mem_of_getElem? (i := 0) rfl) rfl, by decide, by decide, by decide +kernel⟩
theorem ml_9_325 : Cond.methodLink zR9 325 y_9_copies ∈ lw_gd := z_m6 (List.mem_of_getElem? (i := 237) rfl) rfl
theorem im_9_copies : Cond.instanceMethod y_9_copies ∈ lw_gd := z_m6 (List.mem_of_getElem? (i := 239) rfl) rfl
theorem se_9_copies : Cond.selects y_9_copies.cls y_9_copies y_9_copies ∈ lw_gd := z_s (q := (y_9_copies, _)) (List.mem_of_getElem? (i := 89) rfl)
theorem kc_9_328 : Cond.constant zR9 328 (1103515245 : Int32) ∈ lw_gd := z_m7 (List.mem_of_getElem? (i := 121) rfl) rfl
theorem mw_9_mixed : z_MW y_9_mixed M_9_mixed 2 := ⟨z_m1 (List.mem_of_getElem? (i := 10) rfl) rfl, z_m7 (List.mem_of_getElem? (i := 120) rfl) rfl, by decide, by decide, by decide +kernel⟩
theorem ml_9_329 : Cond.methodLink zR9 329 y_9_mixed ∈ lw_gd := z_m7 (List.mem_of_getElem? (i := 118) rfl) rfl
theorem is_9_mixed : Cond.static y_9_mixed ∈ lw_gd := z_m7 (List.mem_of_getElem? (i := 119) rfl) rfl
theorem mw_9_hasRight : z_MW y_9_hasRight M_9_hasRight 2 := ⟨z_m1 (List.mem_of_getElem? (i := 10) rfl) rfl, z_m7 (List.mem_of_getElem? (i := 12) rfl) rfl, by decide, by decide, by decide +kernel⟩
theorem ml_9_333 : Cond.methodLink zR9 333 y_9_hasRight ∈ lw_gd := z_m7 (List.mem_of_getElem? (i := 9) rfl) rfl
theorem im_9_hasRight : Cond.instanceMethod y_9_hasRight ∈ lw_gd := z_m7 (List.mem_of_getElem? (i := 11) rfl) rfl
theorem se_9_hasRight : Cond.selects y_9_hasRight.cls y_9_hasRight y_9_hasRight ∈ lw_gd := z_s (q := (y_9_hasRight, _)) (List.mem_of_getElem? (i := 92) rfl)
theorem mw_9_longestBut : z_MW y_9_longestBut M_9_longestBut 2 := ⟨z_m1 (List.mem_of_getElem? (i := 10) rfl) rfl, z_m7 (List.mem_of_getElem? (i := 8) rfl) rfl, by decide, by decide, by decide +kernel⟩
theorem ml_9_337 : Cond.methodLink zR9 337 y_9_longestBut ∈ lw_gd := z_m7 (List.mem_of_getElem? (i := 5) rfl) rfl
theorem im_9_longestBut : Cond.instanceMethod y_9_longestBut ∈ lw_gd := z_m7 (List.mem_of_getElem? (i := 7) rfl) rfl
theorem se_9_longestBut : Cond.selects y_9_longestBut.cls y_9_longestBut y_9_longestBut ∈ lw_gd := z_s (q := (y_9_longestBut, _)) (List.mem_of_getElem? (i := 91) rfl)
theorem mw_9_lordOf : z_MW y_9_lordOf M_9_lordOf 1 := ⟨z_m1 (List.mem_of_getElem? (i := 10) rfl) rfl, z_m7 (List.mem_of_getElem? (i := 4) rfl) rfl, by decide, by decide, by decide +kernel⟩
theorem ml_9_340 : Cond.methodLink zR9 340 y_9_lordOf ∈ lw_gd := z_m7 (List.mem_of_getElem? (i := 1) rfl) rfl
theorem im_9_lordOf : Cond.instanceMethod y_9_lordOf ∈ lw_gd := z_m7 (List.mem_of_getElem? (i := 3) rfl) rfl
theorem se_9_lordOf : Cond.selects y_9_lordOf.cls y_9_lordOf y_9_lordOf ∈ lw_gd := z_s (q := (y_9_lordOf, _)) (List.mem_of_getElem? (i := 90) rfl)
theorem mw_9_termOf : z_MW y_9_termOf M_9_termOf 2 := ⟨z_m1 (List.mem_of_getElem? (i := 10) rfl) rfl, z_m7 (List.mem_of_getElem? (i := 47) rfl) rfl, by decide, by decide, by decide +kernel⟩
theorem fit_1_8_2 : z_fit (z_rm 2) 0 0 1 8 := ⟨by decide, by decide, by decide, by decide⟩
theorem ml_9_343 : Cond.methodLink zR9 343 y_9_termOf ∈ lw_gd := z_m7 (List.mem_of_getElem? (i := 44) rfl) rfl
theorem im_9_termOf : Cond.instanceMethod y_9_termOf ∈ lw_gd := z_m7 (List.mem_of_getElem? (i := 46) rfl) rfl
theorem se_9_termOf : Cond.selects y_9_termOf.cls y_9_termOf y_9_termOf ∈ lw_gd := z_s (q := (y_9_termOf, _)) (List.mem_of_getElem? (i := 100) rfl)
theorem mw_9_lordBits : z_MW y_9_lordBits M_9_lordBits 1 := ⟨z_m1 (List.mem_of_getElem? (i := 10) rfl) rfl, z_m7 (List.mem_of_getElem? (i := 24) rfl) rfl, by decide, by decide, by decide +kernel⟩
theorem ml_9_346 : Cond.methodLink zR9 346 y_9_lordBits ∈ lw_gd := z_m7 (List.mem_of_getElem? (i := 21) rfl) rfl
theorem im_9_lordBits : Cond.instanceMethod y_9_lordBits ∈ lw_gd := z_m7 (List.mem_of_getElem? (i := 23) rfl) rfl
theorem se_9_lordBits : Cond.selects y_9_lordBits.cls y_9_lordBits y_9_lordBits ∈ lw_gd := z_s (q := (y_9_lordBits, _)) (List.mem_of_getElem? (i := 95) rfl)
theorem mw_9_ageNow : z_MW y_9_ageNow M_9_ageNow 1 := ⟨z_m1 (List.mem_of_getElem? (i := 10) rfl) rfl, z_m7 (List.mem_of_getElem? (i := 28) rfl) rfl, by decide, by decide, by decide +kernel⟩
theorem ml_9_349 : Cond.methodLink zR9 349 y_9_ageNow ∈ lw_gd := z_m7 (List.mem_of_getElem? (i := 25) rfl) rfl
theorem im_9_ageNow : Cond.instanceMethod y_9_ageNow ∈ lw_gd := z_m7 (List.mem_of_getElem? (i := 27) rfl) rfl
theorem se_9_ageNow : Cond.selects y_9_ageNow.cls y_9_ageNow y_9_ageNow ∈ lw_gd := z_s (q := (y_9_ageNow, _)) (List.mem_of_getElem? (i := 96) rfl)
theorem mw_9_rightBits : z_MW y_9_rightBits M_9_rightBits 1 := ⟨z_m1 (List.mem_of_getElem? (i := 10) rfl) rfl, z_m7 (List.mem_of_getElem? (i := 32) rfl) rfl, by decide, by decide, by decide +kernel⟩
theorem fit_2_4_5 : z_fit (z_rm 5) 0 0 2 4 := ⟨by decide, by decide, by decide, by decide⟩
theorem ml_9_352 : Cond.methodLink zR9 352 y_9_rightBits ∈ lw_gd := z_m7 (List.mem_of_getElem? (i := 29) rfl) rfl
theorem im_9_rightBits : Cond.instanceMethod y_9_rightBits ∈ lw_gd := z_m7 (List.mem_of_getElem? (i := 31) rfl) rfl
theorem se_9_rightBits : Cond.selects y_9_rightBits.cls y_9_rightBits y_9_rightBits ∈ lw_gd := z_s (q := (y_9_rightBits, _)) (List.mem_of_getElem? (i := 97) rfl)
theorem mw_9_bits : z_MW y_9_bits M_9_bits 1 := ⟨z_m1 (List.mem_of_getElem? (i := 10) rfl) rfl, z_m7 (List.mem_of_getElem? (i := 35) rfl) rfl, by decide, by decide, by decide +kernel⟩
theorem fit_1_3_5 : z_fit (z_rm 5) 0 0 1 3 := ⟨by decide, by decide, by decide, by decide⟩
theorem ml_9_355 : Cond.methodLink zR9 355 y_9_bits ∈ lw_gd := z_m7 (List.mem_of_getElem? (i := 33) rfl) rfl
theorem is_9_bits : Cond.static y_9_bits ∈ lw_gd := z_m7 (List.mem_of_getElem? (i := 34) rfl) rfl
theorem mw_9_inState : z_MW y_9_inState M_9_inState 1 := ⟨z_m1 (List.mem_of_getElem? (i := 10) rfl) rfl, z_m7 (List.mem_of_getElem? (i := 39) rfl) rfl, by decide, by decide, by decide +kernel⟩
theorem ml_9_358 : Cond.methodLink zR9 358 y_9_inState ∈ lw_gd := z_m7 (List.mem_of_getElem? (i := 36) rfl) rfl
theorem im_9_inState : Cond.instanceMethod y_9_inState ∈ lw_gd := z_m7 (List.mem_of_getElem? (i := 38) rfl) rfl
theorem se_9_inState : Cond.selects y_9_inState.cls y_9_inState y_9_inState ∈ lw_gd := z_s (q := (y_9_inState, _)) (List.mem_of_getElem? (i := 98) rfl)
theorem mw_9_looks : z_MW y_9_looks M_9_looks 1 := ⟨z_m1 (List.mem_of_getElem? (i := 10) rfl) rfl, z_m7 (List.mem_of_getElem? (i := 20) rfl) rfl, by decide, by decide, by decide +kernel⟩
theorem fit_5_4_6 : z_fit (z_rm 6) 0 0 5 4 := ⟨by decide, by decide, by decide, by decide⟩
theorem ml_9_361 : Cond.methodLink zR9 361 y_9_looks ∈ lw_gd := z_m7 (List.mem_of_getElem? (i := 17) rfl) rfl
theorem im_9_looks : Cond.instanceMethod y_9_looks ∈ lw_gd := z_m7 (List.mem_of_getElem? (i := 19) rfl) rfl
theorem se_9_looks : Cond.selects y_9_looks.cls y_9_looks y_9_looks ∈ lw_gd := z_s (q := (y_9_looks, _)) (List.mem_of_getElem? (i := 94) rfl)
theorem mw_9_lawTells : z_MW y_9_lawTells M_9_lawTells 2 := ⟨z_m1 (List.mem_of_getElem? (i := 10) rfl) rfl, z_m7 (List.mem_of_getElem? (i := 43) rfl) rfl, by decide, by decide, by decide +kernel⟩
theorem ml_9_364 : Cond.methodLink zR9 364 y_9_lawTells ∈ lw_gd := z_m7 (List.mem_of_getElem? (i := 40) rfl) rfl
theorem im_9_lawTells : Cond.instanceMethod y_9_lawTells ∈ lw_gd := z_m7 (List.mem_of_getElem? (i := 42) rfl) rfl
theorem se_9_lawTells : Cond.selects y_9_lawTells.cls y_9_lawTells y_9_lawTells ∈ lw_gd := z_s (q := (y_9_lawTells, _)) (List.mem_of_getElem? (i := 99) rfl)
theorem mw_9_within : z_MW y_9_within M_9_within 3 := ⟨z_m1 (List.mem_of_getElem? (i := 10) rfl) rfl, z_m7 (List.mem_of_getElem? (i := 50) rfl) rfl, by decide, by decide, by decide +kernel⟩
theorem ml_9_367 : Cond.methodLink zR9 367 y_9_within ∈ lw_gd := z_m7 (List.mem_of_getElem? (i := 48) rfl) rfl
theorem is_9_within : Cond.static y_9_within ∈ lw_gd := z_m7 (List.mem_of_getElem? (i := 49) rfl) rfl
theorem mw_9_chanceOf : z_MW y_9_chanceOf M_9_chanceOf 2 := ⟨z_m1 (List.mem_of_getElem? (i := 10) rfl) rfl, z_m7 (List.mem_of_getElem? (i := 62) rfl) rfl, by decide, by decide, by decide +kernel⟩
theorem ml_9_370 : Cond.methodLink zR9 370 y_9_chanceOf ∈ lw_gd := z_m7 (List.mem_of_getElem? (i := 59) rfl) rfl
theorem im_9_chanceOf : Cond.instanceMethod y_9_chanceOf ∈ lw_gd := z_m7 (List.mem_of_getElem? (i := 61) rfl) rfl
theorem se_9_chanceOf : Cond.selects y_9_chanceOf.cls y_9_chanceOf y_9_chanceOf ∈ lw_gd := z_s (q := (y_9_chanceOf, _)) (List.mem_of_getElem? (i := 102) rfl)
theorem mw_9_isLot : z_MW y_9_isLot M_9_isLot 2 := ⟨z_m1 (List.mem_of_getElem? (i := 10) rfl) rfl, z_m7 (List.mem_of_getElem? (i := 117) rfl) rfl, by decide, by decide, by decide +kernel⟩
theorem fit_2_3_7 : z_fit (z_rm 7) 0 0 2 3 := ⟨by decide, by decide, by decide, by decide⟩
theorem ml_9_373 : Cond.methodLink zR9 373 y_9_isLot ∈ lw_gd := z_m7 (List.mem_of_getElem? (i := 114) rfl) rfl
theorem im_9_isLot : Cond.instanceMethod y_9_isLot ∈ lw_gd := z_m7 (List.mem_of_getElem? (i := 116) rfl) rfl
theorem se_9_isLot : Cond.selects y_9_isLot.cls y_9_isLot y_9_isLot ∈ lw_gd := z_s (q := (y_9_isLot, _)) (List.mem_of_getElem? (i := 110) rfl)
theorem fw_9_122 : z_FW zR9 122 9 54 (2, 154, fun i => i) := ⟨_, _, rfl, rfl, rfl, by decide, z_m5 (List.mem_of_getElem? (i := 202) rfl) rfl⟩
theorem sa_154 : z_SA 154 0 := ⟨rfl, rfl, by decide⟩
theorem mw_9_becomes : z_MW y_9_becomes M_9_becomes 2 := ⟨z_m1 (List.mem_of_getElem? (i := 10) rfl) rfl, z_m7 (List.mem_of_getElem? (i := 78) rfl) rfl, by decide, by decide, by decide +kernel⟩
theorem ml_9_376 : Cond.methodLink zR9 376 y_9_becomes ∈ lw_gd := z_m7 (List.mem_of_getElem? (i := 75) rfl) rfl
theorem im_9_becomes : Cond.instanceMethod y_9_becomes ∈ lw_gd := z_m7 (List.mem_of_getElem? (i := 77) rfl) rfl
theorem se_9_becomes : Cond.selects y_9_becomes.cls y_9_becomes y_9_becomes ∈ lw_gd := z_s (q := (y_9_becomes, _)) (List.mem_of_getElem? (i := 105) rfl)
theorem fw_9_119 : z_FW zR9 119 9 53 (2, 153, fun i => i) := ⟨_, _, rfl, rfl, rfl, by decide, z_m5 (List.mem_of_getElem? (i := 201) rfl) rfl⟩
theorem sa_153 : z_SA 153 0 := ⟨rfl, rfl, by decide⟩
theorem fw_9_116 : z_FW zR9 116 9 52 (2, 152, fun i => i) := ⟨_, _, rfl, rfl, rfl, by decide, z_m5 (List.mem_of_getElem? (i := 200) rfl) rfl⟩
theorem mw_9_rentsOf : z_MW y_9_rentsOf M_9_rentsOf 1 := ⟨z_m1 (List.mem_of_getElem? (i := 10) rfl) rfl, z_m7 (List.mem_of_getElem? (i := 16) rfl) rfl, by decide, by decide, by decide +kernel⟩
theorem fit_6_3_8 : z_fit (z_rm 8) 0 0 6 3 := ⟨by decide, by decide, by decide, by decide⟩
theorem ml_9_379 : Cond.methodLink zR9 379 y_9_rentsOf ∈ lw_gd := z_m7 (List.mem_of_getElem? (i := 13) rfl) rfl
theorem im_9_rentsOf : Cond.instanceMethod y_9_rentsOf ∈ lw_gd := z_m7 (List.mem_of_getElem? (i := 15) rfl) rfl
theorem se_9_rentsOf : Cond.selects y_9_rentsOf.cls y_9_rentsOf y_9_rentsOf ∈ lw_gd := z_s (q := (y_9_rentsOf, _)) (List.mem_of_getElem? (i := 93) rfl)
theorem sa_152 : z_SA 152 0 := ⟨rfl, rfl, by decide⟩
theorem mw_9_whatDoes : z_MW y_9_whatDoes M_9_whatDoes 1 := ⟨z_m1 (List.mem_of_getElem? (i := 10) rfl) rfl, z_m7 (List.mem_of_getElem? (i := 113) rfl) rfl, by decide, by decide, by decide +kernel⟩
theorem ml_9_382 : Cond.methodLink zR9 382 y_9_whatDoes ∈ lw_gd := z_m7 (List.mem_of_getElem? (i := 110) rfl) rfl
theorem im_9_whatDoes : Cond.instanceMethod y_9_whatDoes ∈ lw_gd := z_m7 (List.mem_of_getElem? (i := 112) rfl) rfl
theorem se_9_whatDoes : Cond.selects y_9_whatDoes.cls y_9_whatDoes y_9_whatDoes ∈ lw_gd := z_s (q := (y_9_whatDoes, _)) (List.mem_of_getElem? (i := 109) rfl)
theorem mw_9_does : z_MW y_9_does M_9_does 1 := ⟨z_m1 (List.mem_of_getElem? (i := 10) rfl) rfl, z_m7 (List.mem_of_getElem? (i := 125) rfl) rfl, by decide, by decide, by decide +kernel⟩
theorem fit_2_2_8 : z_fit (z_rm 8) 0 0 2 2 := ⟨by decide, by decide, by decide, by decide⟩
theorem ml_9_385 : Cond.methodLink zR9 385 y_9_does ∈ lw_gd := z_m7 (List.mem_of_getElem? (i := 122) rfl) rfl
theorem im_9_does : Cond.instanceMethod y_9_does ∈ lw_gd := z_m7 (List.mem_of_getElem? (i := 124) rfl) rfl
theorem se_9_does : Cond.selects y_9_does.cls y_9_does y_9_does ∈ lw_gd := z_s (q := (y_9_does, _)) (List.mem_of_getElem? (i := 111) rfl)
theorem mw_9_yearGoes : z_MW y_9_yearGoes M_9_yearGoes 0 := ⟨z_m1 (List.mem_of_getElem? (i := 10) rfl) rfl, z_m7 (List.mem_of_getElem? (i := 109) rfl) rfl, by decide, by decide, by decide +kernel⟩
theorem fit_8_2_9 : z_fit (z_rm 9) 0 0 8 2 := ⟨by decide, by decide, by decide, by decide⟩
theorem ml_9_388 : Cond.methodLink zR9 388 y_9_yearGoes ∈ lw_gd := z_m7 (List.mem_of_getElem? (i := 106) rfl) rfl
theorem im_9_yearGoes : Cond.instanceMethod y_9_yearGoes ∈ lw_gd := z_m7 (List.mem_of_getElem? (i := 108) rfl) rfl
theorem se_9_yearGoes : Cond.selects y_9_yearGoes.cls y_9_yearGoes y_9_yearGoes ∈ lw_gd := z_s (q := (y_9_yearGoes, _)) (List.mem_of_getElem? (i := 108) rfl)
theorem mw_9_isHouse : z_MW y_9_isHouse M_9_isHouse 1 := ⟨z_m1 (List.mem_of_getElem? (i := 10) rfl) rfl, z_m6 (List.mem_of_getElem? (i := 233) rfl) rfl, by decide, by decide, by decide +kernel⟩
theorem ml_9_391 : Cond.methodLink zR9 391 y_9_isHouse ∈ lw_gd := z_m6 (List.mem_of_getElem? (i := 230) rfl) rfl
theorem im_9_isHouse : Cond.instanceMethod y_9_isHouse ∈ lw_gd := z_m6 (List.mem_of_getElem? (i := 232) rfl) rfl
theorem se_9_isHouse : Cond.selects y_9_isHouse.cls y_9_isHouse y_9_isHouse ∈ lw_gd := z_s (q := (y_9_isHouse, _)) (List.mem_of_getElem? (i := 88) rfl)
theorem fit_2_4_7 : z_fit (z_rm 7) 0 0 2 4 := ⟨by decide, by decide, by decide, by decide⟩
theorem fit_4_4_7 : z_fit (z_rm 7) 0 0 4 4 := ⟨by decide, by decide, by decide, by decide⟩
theorem fw_9_125 : z_FW zR9 125 9 56 (2, 156, fun i => i) := ⟨_, _, rfl, rfl, rfl, by decide, z_m5 (List.mem_of_getElem? (i := 204) rfl) rfl⟩
theorem sa_156 : z_SA 156 0 := ⟨rfl, rfl, by decide⟩
theorem mw_9_records : z_MW y_9_records M_9_records 0 := ⟨z_m1 (List.mem_of_getElem? (i := 10) rfl) rfl, z_m7 (List.mem_of_getElem? (i := 82) rfl) rfl, by decide, by decide, by decide +kernel⟩
theorem ml_9_394 : Cond.methodLink zR9 394 y_9_records ∈ lw_gd := z_m7 (List.mem_of_getElem? (i := 79) rfl) rfl
theorem im_9_records : Cond.instanceMethod y_9_records ∈ lw_gd := z_m7 (List.mem_of_getElem? (i := 81) rfl) rfl
theorem se_9_records : Cond.selects y_9_records.cls y_9_records y_9_records ∈ lw_gd := z_s (q := (y_9_records, _)) (List.mem_of_getElem? (i := 106) rfl)
theorem mw_9_isNow : z_MW y_9_isNow M_9_isNow 2 := ⟨z_m1 (List.mem_of_getElem? (i := 10) rfl) rfl, z_m7 (List.mem_of_getElem? (i := 70) rfl) rfl, by decide, by decide, by decide +kernel⟩
theorem ml_9_397 : Cond.methodLink zR9 397 y_9_isNow ∈ lw_gd := z_m7 (List.mem_of_getElem? (i := 67) rfl) rfl
theorem im_9_isNow : Cond.instanceMethod y_9_isNow ∈ lw_gd := z_m7 (List.mem_of_getElem? (i := 69) rfl) rfl
theorem se_9_isNow : Cond.selects y_9_isNow.cls y_9_isNow y_9_isNow ∈ lw_gd := z_s (q := (y_9_isNow, _)) (List.mem_of_getElem? (i := 103) rfl)
theorem mw_9_turns : z_MW y_9_turns M_9_turns 2 := ⟨z_m1 (List.mem_of_getElem? (i := 10) rfl) rfl, z_m7 (List.mem_of_getElem? (i := 74) rfl) rfl, by decide, by decide, by decide +kernel⟩
theorem ml_9_400 : Cond.methodLink zR9 400 y_9_turns ∈ lw_gd := z_m7 (List.mem_of_getElem? (i := 71) rfl) rfl
theorem im_9_turns : Cond.instanceMethod y_9_turns ∈ lw_gd := z_m7 (List.mem_of_getElem? (i := 73) rfl) rfl
theorem se_9_turns : Cond.selects y_9_turns.cls y_9_turns y_9_turns ∈ lw_gd := z_s (q := (y_9_turns, _)) (List.mem_of_getElem? (i := 104) rfl)
theorem mw_9_isLong : z_MW y_9_isLong M_9_isLong 1 := ⟨z_m1 (List.mem_of_getElem? (i := 10) rfl) rfl, z_m7 (List.mem_of_getElem? (i := 101) rfl) rfl, by decide, by decide, by decide +kernel⟩
theorem fit_2_1_10 : z_fit (z_rm 10) 0 0 2 1 := ⟨by decide, by decide, by decide, by decide⟩
theorem ml_9_403 : Cond.methodLink zR9 403 y_9_isLong ∈ lw_gd := z_m7 (List.mem_of_getElem? (i := 99) rfl) rfl
theorem is_9_isLong : Cond.static y_9_isLong ∈ lw_gd := z_m7 (List.mem_of_getElem? (i := 100) rfl) rfl
theorem fit_1_2_10 : z_fit (z_rm 10) 0 0 1 2 := ⟨by decide, by decide, by decide, by decide⟩
theorem mw_9_goes : z_MW y_9_goes M_9_goes 1 := ⟨z_m1 (List.mem_of_getElem? (i := 10) rfl) rfl, z_m7 (List.mem_of_getElem? (i := 105) rfl) rfl, by decide, by decide, by decide +kernel⟩
theorem fit_9_3_10 : z_fit (z_rm 10) 0 0 9 3 := ⟨by decide, by decide, by decide, by decide⟩
theorem ml_9_406 : Cond.methodLink zR9 406 y_9_goes ∈ lw_gd := z_m7 (List.mem_of_getElem? (i := 102) rfl) rfl
theorem im_9_goes : Cond.instanceMethod y_9_goes ∈ lw_gd := z_m7 (List.mem_of_getElem? (i := 104) rfl) rfl
theorem se_9_goes : Cond.selects y_9_goes.cls y_9_goes y_9_goes ∈ lw_gd := z_s (q := (y_9_goes, _)) (List.mem_of_getElem? (i := 107) rfl)
theorem fit_2_2_10 : z_fit (z_rm 10) 0 0 2 2 := ⟨by decide, by decide, by decide, by decide⟩
theorem fit_2_2_5 : z_fit (z_rm 5) 0 0 2 2 := ⟨by decide, by decide, by decide, by decide⟩
theorem mw_9_heirOf : z_MW y_9_heirOf M_9_heirOf 1 := ⟨z_m1 (List.mem_of_getElem? (i := 10) rfl) rfl, z_m7 (List.mem_of_getElem? (i := 137) rfl) rfl, by decide, by decide, by decide +kernel⟩
theorem ml_9_409 : Cond.methodLink zR9 409 y_9_heirOf ∈ lw_gd := z_m7 (List.mem_of_getElem? (i := 134) rfl) rfl
theorem im_9_heirOf : Cond.instanceMethod y_9_heirOf ∈ lw_gd := z_m7 (List.mem_of_getElem? (i := 136) rfl) rfl
theorem se_9_heirOf : Cond.selects y_9_heirOf.cls y_9_heirOf y_9_heirOf ∈ lw_gd := z_s (q := (y_9_heirOf, _)) (List.mem_of_getElem? (i := 112) rfl)
theorem mw_9_copiesStill : z_MW y_9_copiesStill M_9_copiesStill 0 := ⟨z_m1 (List.mem_of_getElem? (i := 10) rfl) rfl, z_m7 (List.mem_of_getElem? (i := 149) rfl) rfl, by decide, by decide, by decide +kernel⟩
theorem ml_9_412 : Cond.methodLink zR9 412 y_9_copiesStill ∈ lw_gd := z_m7 (List.mem_of_getElem? (i := 146) rfl) rfl
theorem im_9_copiesStill : Cond.instanceMethod y_9_copiesStill ∈ lw_gd := z_m7 (List.mem_of_getElem? (i := 148) rfl) rfl
theorem se_9_copiesStill : Cond.selects y_9_copiesStill.cls y_9_copiesStill y_9_copiesStill ∈ lw_gd := z_s (q := (y_9_copiesStill, _)) (List.mem_of_getElem? (i := 113) rfl)
theorem fit_1_3_10 : z_fit (z_rm 10) 0 0 1 3 := ⟨by decide, by decide, by decide, by decide⟩
theorem fit_3_3_11 : z_fit (z_rm 11) 0 0 3 3 := ⟨by decide, by decide, by decide, by decide⟩
theorem mw_9_isSpan : z_MW y_9_isSpan M_9_isSpan 1 := ⟨z_m1 (List.mem_of_getElem? (i := 10) rfl) rfl, z_m7 (List.mem_of_getElem? (i := 156) rfl) rfl, by decide, by decide, by decide +kernel⟩
theorem fit_2_1_11 : z_fit (z_rm 11) 0 0 2 1 := ⟨by decide, by decide, by decide, by decide⟩
theorem ml_9_415 : Cond.methodLink zR9 415 y_9_isSpan ∈ lw_gd := z_m7 (List.mem_of_getElem? (i := 154) rfl) rfl
theorem is_9_isSpan : Cond.static y_9_isSpan ∈ lw_gd := z_m7 (List.mem_of_getElem? (i := 155) rfl) rfl
theorem fit_1_3_11 : z_fit (z_rm 11) 0 0 1 3 := ⟨by decide, by decide, by decide, by decide⟩
theorem mw_9_gainBy : z_MW y_9_gainBy M_9_gainBy 3 := ⟨z_m1 (List.mem_of_getElem? (i := 10) rfl) rfl, z_m7 (List.mem_of_getElem? (i := 160) rfl) rfl, by decide, by decide, by decide +kernel⟩
theorem fit_10_4_11 : z_fit (z_rm 11) 0 0 10 4 := ⟨by decide, by decide, by decide, by decide⟩
theorem ml_9_418 : Cond.methodLink zR9 418 y_9_gainBy ∈ lw_gd := z_m7 (List.mem_of_getElem? (i := 157) rfl) rfl
theorem im_9_gainBy : Cond.instanceMethod y_9_gainBy ∈ lw_gd := z_m7 (List.mem_of_getElem? (i := 159) rfl) rfl
theorem se_9_gainBy : Cond.selects y_9_gainBy.cls y_9_gainBy y_9_gainBy ∈ lw_gd := z_s (q := (y_9_gainBy, _)) (List.mem_of_getElem? (i := 114) rfl)
theorem d_9_in_0 : zD prog_11_method_37_code 0 (.iload_n 0) 1 1 := ⟨by decide +kernel, rfl⟩
theorem d_9_in_1 : zD prog_11_method_37_code 1 (.iload_n 1) 1 2 := ⟨by decide +kernel, rfl⟩
theorem d_9_in_2 : zD prog_11_method_37_code 2 (.if_icmp .lt 12) 3 5 := ⟨by decide +kernel, rfl⟩
theorem d_9_in_5 : zD prog_11_method_37_code 5 (.iload_n 0) 1 6 := ⟨by decide +kernel, rfl⟩
theorem d_9_in_6 : zD prog_11_method_37_code 6 (.iload_n 2) 1 7 := ⟨by decide +kernel, rfl⟩
theorem d_9_in_7 : zD prog_11_method_37_code 7 (.if_icmp .gt 7) 3 10 := ⟨by decide +kernel, rfl⟩
theorem d_9_in_10 : zD prog_11_method_37_code 10 (.iconst 1) 1 11 := ⟨by decide +kernel, rfl⟩
theorem d_9_in_11 : zD prog_11_method_37_code 11 (.goto 4) 3 14 := ⟨by decide +kernel, rfl⟩
theorem d_9_in_14 : zD prog_11_method_37_code 14 (.iconst 0) 1 15 := ⟨by decide +kernel, rfl⟩
theorem d_9_in_15 : zD prog_11_method_37_code 15 (.ireturn) 1 16 := ⟨by decide +kernel, rfl⟩
theorem d_9_within_0 : zD prog_11_method_38_code 0 (.iload_n 0) 1 1 := ⟨by decide +kernel, rfl⟩
theorem d_9_within_1 : zD prog_11_method_38_code 1 (.iload_n 1) 1 2 := ⟨by decide +kernel, rfl⟩
theorem d_9_within_2 : zD prog_11_method_38_code 2 (.if_icmp .ge 7) 3 5 := ⟨by decide +kernel, rfl⟩
theorem d_9_within_5 : zD prog_11_method_38_code 5 (.iload_n 1) 1 6 := ⟨by decide +kernel, rfl⟩
theorem d_9_within_6 : zD prog_11_method_38_code 6 (.goto 13) 3 9 := ⟨by decide +kernel, rfl⟩
theorem d_9_within_9 : zD prog_11_method_38_code 9 (.iload_n 0) 1 10 := ⟨by decide +kernel, rfl⟩
theorem d_9_within_10 : zD prog_11_method_38_code 10 (.iload_n 2) 1 11 := ⟨by decide +kernel, rfl⟩
theorem d_9_within_11 : zD prog_11_method_38_code 11 (.if_icmp .le 7) 3 14 := ⟨by decide +kernel, rfl⟩
theorem d_9_within_14 : zD prog_11_method_38_code 14 (.iload_n 2) 1 15 := ⟨by decide +kernel, rfl⟩
theorem d_9_within_15 : zD prog_11_method_38_code 15 (.goto 4) 3 18 := ⟨by decide +kernel, rfl⟩
theorem d_9_within_18 : zD prog_11_method_38_code 18 (.iload_n 0) 1 19 := ⟨by decide +kernel, rfl⟩
theorem d_9_within_19 : zD prog_11_method_38_code 19 (.ireturn) 1 20 := ⟨by decide +kernel, rfl⟩
theorem d_9_bits_0 : zD prog_11_method_39_code 0 (.iconst 0) 1 1 := ⟨by decide +kernel, rfl⟩
theorem d_9_bits_1 : zD prog_11_method_39_code 1 (.istore_n 1) 1 2 := ⟨by decide +kernel, rfl⟩
theorem d_9_bits_2 : zD prog_11_method_39_code 2 (.iconst 0) 1 3 := ⟨by decide +kernel, rfl⟩
theorem d_9_bits_3 : zD prog_11_method_39_code 3 (.istore_n 2) 1 4 := ⟨by decide +kernel, rfl⟩
theorem d_9_bits_4 : zD prog_11_method_39_code 4 (.iload_n 2) 1 5 := ⟨by decide +kernel, rfl⟩
theorem d_9_bits_5 : zD prog_11_method_39_code 5 (.bipush 7) 2 7 := ⟨by decide +kernel, rfl⟩
theorem d_9_bits_7 : zD prog_11_method_39_code 7 (.if_icmp .ge 17) 3 10 := ⟨by decide +kernel, rfl⟩
theorem d_9_bits_10 : zD prog_11_method_39_code 10 (.iload_n 1) 1 11 := ⟨by decide +kernel, rfl⟩
theorem d_9_bits_11 : zD prog_11_method_39_code 11 (.iload_n 0) 1 12 := ⟨by decide +kernel, rfl⟩
theorem d_9_bits_12 : zD prog_11_method_39_code 12 (.iload_n 2) 1 13 := ⟨by decide +kernel, rfl⟩
theorem d_9_bits_13 : zD prog_11_method_39_code 13 (.ishr) 1 14 := ⟨by decide +kernel, rfl⟩
theorem d_9_bits_14 : zD prog_11_method_39_code 14 (.iconst 1) 1 15 := ⟨by decide +kernel, rfl⟩
theorem d_9_bits_15 : zD prog_11_method_39_code 15 (.iand) 1 16 := ⟨by decide +kernel, rfl⟩
theorem d_9_bits_16 : zD prog_11_method_39_code 16 (.iadd) 1 17 := ⟨by decide +kernel, rfl⟩
theorem d_9_bits_17 : zD prog_11_method_39_code 17 (.istore_n 1) 1 18 := ⟨by decide +kernel, rfl⟩
theorem d_9_bits_18 : zD prog_11_method_39_code 18 (.iinc 2 1) 3 21 := ⟨by decide +kernel, rfl⟩
theorem d_9_bits_21 : zD prog_11_method_39_code 21 (.goto (-17)) 3 24 := ⟨by decide +kernel, rfl⟩
theorem d_9_bits_24 : zD prog_11_method_39_code 24 (.iload_n 1) 1 25 := ⟨by decide +kernel, rfl⟩
theorem d_9_bits_25 : zD prog_11_method_39_code 25 (.ireturn) 1 26 := ⟨by decide +kernel, rfl⟩
theorem d_9_isHouse_0 : zD prog_11_method_40_code 0 (.iload_n 1) 1 1 := ⟨by decide +kernel, rfl⟩
theorem d_9_isHouse_1 : zD prog_11_method_40_code 1 (.iconst 0) 1 2 := ⟨by decide +kernel, rfl⟩
theorem d_9_isHouse_2 : zD prog_11_method_40_code 2 (.aload_n 0) 1 3 := ⟨by decide +kernel, rfl⟩
theorem d_9_isHouse_3 : zD prog_11_method_40_code 3 (.getfield 46) 3 6 := ⟨by decide +kernel, rfl⟩
theorem d_9_isHouse_6 : zD prog_11_method_40_code 6 (.aload_n 0) 1 7 := ⟨by decide +kernel, rfl⟩
theorem d_9_isHouse_7 : zD prog_11_method_40_code 7 (.getfield 233) 3 10 := ⟨by decide +kernel, rfl⟩
theorem d_9_isHouse_10 : zD prog_11_method_40_code 10 (.iaload) 1 11 := ⟨by decide +kernel, rfl⟩
theorem d_9_isHouse_11 : zD prog_11_method_40_code 11 (.iconst 1) 1 12 := ⟨by decide +kernel, rfl⟩
theorem d_9_isHouse_12 : zD prog_11_method_40_code 12 (.isub) 1 13 := ⟨by decide +kernel, rfl⟩
theorem d_9_isHouse_13 : zD prog_11_method_40_code 13 (.invokestatic 312) 3 16 := ⟨by decide +kernel, rfl⟩
theorem d_9_isHouse_16 : zD prog_11_method_40_code 16 (.ireturn) 1 17 := ⟨by decide +kernel, rfl⟩
theorem d_9_isPerson_0 : zD prog_11_method_41_code 0 (.iload_n 1) 1 1 := ⟨by decide +kernel, rfl⟩
theorem d_9_isPerson_1 : zD prog_11_method_41_code 1 (.iconst 0) 1 2 := ⟨by decide +kernel, rfl⟩
theorem d_9_isPerson_2 : zD prog_11_method_41_code 2 (.aload_n 0) 1 3 := ⟨by decide +kernel, rfl⟩
theorem d_9_isPerson_3 : zD prog_11_method_41_code 3 (.getfield 55) 3 6 := ⟨by decide +kernel, rfl⟩
theorem d_9_isPerson_6 : zD prog_11_method_41_code 6 (.aload_n 0) 1 7 := ⟨by decide +kernel, rfl⟩
theorem d_9_isPerson_7 : zD prog_11_method_41_code 7 (.getfield 233) 3 10 := ⟨by decide +kernel, rfl⟩
theorem d_9_isPerson_10 : zD prog_11_method_41_code 10 (.iaload) 1 11 := ⟨by decide +kernel, rfl⟩
theorem d_9_isPerson_11 : zD prog_11_method_41_code 11 (.iconst 1) 1 12 := ⟨by decide +kernel, rfl⟩
theorem d_9_isPerson_12 : zD prog_11_method_41_code 12 (.isub) 1 13 := ⟨by decide +kernel, rfl⟩
theorem d_9_isPerson_13 : zD prog_11_method_41_code 13 (.invokestatic 312) 3 16 := ⟨by decide +kernel, rfl⟩
theorem d_9_isPerson_16 : zD prog_11_method_41_code 16 (.ireturn) 1 17 := ⟨by decide +kernel, rfl⟩
theorem d_9_isNow_0 : zD prog_11_method_42_code 0 (.aload_n 0) 1 1 := ⟨by decide +kernel, rfl⟩
theorem d_9_isNow_1 : zD prog_11_method_42_code 1 (.iload_n 1) 1 2 := ⟨by decide +kernel, rfl⟩
theorem d_9_isNow_2 : zD prog_11_method_42_code 2 (.invokevirtual 316) 3 5 := ⟨by decide +kernel, rfl⟩
theorem d_9_isNow_5 : zD prog_11_method_42_code 5 (.ifCond .eq 17) 3 8 := ⟨by decide +kernel, rfl⟩
theorem d_9_isNow_8 : zD prog_11_method_42_code 8 (.aload_n 0) 1 9 := ⟨by decide +kernel, rfl⟩
theorem d_9_isNow_9 : zD prog_11_method_42_code 9 (.getfield 110) 3 12 := ⟨by decide +kernel, rfl⟩
theorem d_9_isNow_12 : zD prog_11_method_42_code 12 (.iload_n 1) 1 13 := ⟨by decide +kernel, rfl⟩
theorem d_9_isNow_13 : zD prog_11_method_42_code 13 (.iaload) 1 14 := ⟨by decide +kernel, rfl⟩
theorem d_9_isNow_14 : zD prog_11_method_42_code 14 (.iload_n 2) 1 15 := ⟨by decide +kernel, rfl⟩
theorem d_9_isNow_15 : zD prog_11_method_42_code 15 (.if_icmp .ne 7) 3 18 := ⟨by decide +kernel, rfl⟩
theorem d_9_isNow_18 : zD prog_11_method_42_code 18 (.iconst 1) 1 19 := ⟨by decide +kernel, rfl⟩
theorem d_9_isNow_19 : zD prog_11_method_42_code 19 (.goto 4) 3 22 := ⟨by decide +kernel, rfl⟩
theorem d_9_isNow_22 : zD prog_11_method_42_code 22 (.iconst 0) 1 23 := ⟨by decide +kernel, rfl⟩
theorem d_9_isNow_23 : zD prog_11_method_42_code 23 (.ireturn) 1 24 := ⟨by decide +kernel, rfl⟩
theorem d_9_copies_0 : zD prog_11_method_45_code 0 (.iconst 0) 1 1 := ⟨by decide +kernel, rfl⟩
theorem d_9_copies_1 : zD prog_11_method_45_code 1 (.istore_n 1) 1 2 := ⟨by decide +kernel, rfl⟩
theorem d_9_copies_2 : zD prog_11_method_45_code 2 (.iload_n 1) 1 3 := ⟨by decide +kernel, rfl⟩
theorem d_9_copies_3 : zD prog_11_method_45_code 3 (.bipush 34) 2 5 := ⟨by decide +kernel, rfl⟩
theorem d_9_copies_5 : zD prog_11_method_45_code 5 (.if_icmp .ge 21) 3 8 := ⟨by decide +kernel, rfl⟩
theorem d_9_copies_8 : zD prog_11_method_45_code 8 (.aload_n 0) 1 9 := ⟨by decide +kernel, rfl⟩
theorem d_9_copies_9 : zD prog_11_method_45_code 9 (.getfield 113) 3 12 := ⟨by decide +kernel, rfl⟩
theorem d_9_copies_12 : zD prog_11_method_45_code 12 (.iload_n 1) 1 13 := ⟨by decide +kernel, rfl⟩
theorem d_9_copies_13 : zD prog_11_method_45_code 13 (.aload_n 0) 1 14 := ⟨by decide +kernel, rfl⟩
theorem d_9_copies_14 : zD prog_11_method_45_code 14 (.getfield 110) 3 17 := ⟨by decide +kernel, rfl⟩
theorem d_9_copies_17 : zD prog_11_method_45_code 17 (.iload_n 1) 1 18 := ⟨by decide +kernel, rfl⟩
theorem d_9_copies_18 : zD prog_11_method_45_code 18 (.iaload) 1 19 := ⟨by decide +kernel, rfl⟩
theorem d_9_copies_19 : zD prog_11_method_45_code 19 (.iastore) 1 20 := ⟨by decide +kernel, rfl⟩
theorem d_9_copies_20 : zD prog_11_method_45_code 20 (.iinc 1 1) 3 23 := ⟨by decide +kernel, rfl⟩
theorem d_9_copies_23 : zD prog_11_method_45_code 23 (.goto (-21)) 3 26 := ⟨by decide +kernel, rfl⟩
theorem d_9_copies_26 : zD prog_11_method_45_code 26 (.aload_n 0) 1 27 := ⟨by decide +kernel, rfl⟩
theorem d_9_copies_27 : zD prog_11_method_45_code 27 (.aload_n 0) 1 28 := ⟨by decide +kernel, rfl⟩
theorem d_9_copies_28 : zD prog_11_method_45_code 28 (.getfield 70) 3 31 := ⟨by decide +kernel, rfl⟩
theorem d_9_copies_31 : zD prog_11_method_45_code 31 (.aload_n 0) 1 32 := ⟨by decide +kernel, rfl⟩
theorem d_9_copies_32 : zD prog_11_method_45_code 32 (.getfield 233) 3 35 := ⟨by decide +kernel, rfl⟩
theorem d_9_copies_35 : zD prog_11_method_45_code 35 (.iaload) 1 36 := ⟨by decide +kernel, rfl⟩
theorem d_9_copies_36 : zD prog_11_method_45_code 36 (.putfield 319) 3 39 := ⟨by decide +kernel, rfl⟩
theorem d_9_copies_39 : zD prog_11_method_45_code 39 (.aload_n 0) 1 40 := ⟨by decide +kernel, rfl⟩
theorem d_9_copies_40 : zD prog_11_method_45_code 40 (.iconst 0) 1 41 := ⟨by decide +kernel, rfl⟩
theorem d_9_copies_41 : zD prog_11_method_45_code 41 (.putfield 322) 3 44 := ⟨by decide +kernel, rfl⟩
theorem d_9_copies_44 : zD prog_11_method_45_code 44 (.return_) 1 45 := ⟨by decide +kernel, rfl⟩
theorem d_9_copiesStill_0 : zD prog_11_method_46_code 0 (.aload_n 0) 1 1 := ⟨by decide +kernel, rfl⟩
theorem d_9_copiesStill_1 : zD prog_11_method_46_code 1 (.invokevirtual 325) 3 4 := ⟨by decide +kernel, rfl⟩
theorem d_9_copiesStill_4 : zD prog_11_method_46_code 4 (.aload_n 0) 1 5 := ⟨by decide +kernel, rfl⟩
theorem d_9_copiesStill_5 : zD prog_11_method_46_code 5 (.iconst 1) 1 6 := ⟨by decide +kernel, rfl⟩
theorem d_9_copiesStill_6 : zD prog_11_method_46_code 6 (.putfield 322) 3 9 := ⟨by decide +kernel, rfl⟩
theorem d_9_copiesStill_9 : zD prog_11_method_46_code 9 (.return_) 1 10 := ⟨by decide +kernel, rfl⟩
theorem d_9_mixed_0 : zD prog_11_method_47_code 0 (.iload_n 0) 1 1 := ⟨by decide +kernel, rfl⟩
theorem d_9_mixed_1 : zD prog_11_method_47_code 1 (.iload_n 1) 1 2 := ⟨by decide +kernel, rfl⟩
theorem d_9_mixed_2 : zD prog_11_method_47_code 2 (.ixor) 1 3 := ⟨by decide +kernel, rfl⟩
theorem d_9_mixed_3 : zD prog_11_method_47_code 3 (.ldc_w 328) 3 6 := ⟨by decide +kernel, rfl⟩
theorem d_9_mixed_6 : zD prog_11_method_47_code 6 (.imul) 1 7 := ⟨by decide +kernel, rfl⟩
theorem d_9_mixed_7 : zD prog_11_method_47_code 7 (.sipush 12345) 3 10 := ⟨by decide +kernel, rfl⟩
theorem d_9_mixed_10 : zD prog_11_method_47_code 10 (.iadd) 1 11 := ⟨by decide +kernel, rfl⟩
theorem d_9_mixed_11 : zD prog_11_method_47_code 11 (.istore_n 2) 1 12 := ⟨by decide +kernel, rfl⟩
theorem d_9_mixed_12 : zD prog_11_method_47_code 12 (.iload_n 2) 1 13 := ⟨by decide +kernel, rfl⟩
theorem d_9_mixed_13 : zD prog_11_method_47_code 13 (.iload_n 2) 1 14 := ⟨by decide +kernel, rfl⟩
theorem d_9_mixed_14 : zD prog_11_method_47_code 14 (.bipush 15) 2 16 := ⟨by decide +kernel, rfl⟩
theorem d_9_mixed_16 : zD prog_11_method_47_code 16 (.iushr) 1 17 := ⟨by decide +kernel, rfl⟩
theorem d_9_mixed_17 : zD prog_11_method_47_code 17 (.ixor) 1 18 := ⟨by decide +kernel, rfl⟩
theorem d_9_mixed_18 : zD prog_11_method_47_code 18 (.ireturn) 1 19 := ⟨by decide +kernel, rfl⟩
theorem d_9_isLot_0 : zD prog_11_method_48_code 0 (.aload_n 0) 1 1 := ⟨by decide +kernel, rfl⟩
theorem d_9_isLot_1 : zD prog_11_method_48_code 1 (.getfield 322) 3 4 := ⟨by decide +kernel, rfl⟩
theorem d_9_isLot_4 : zD prog_11_method_48_code 4 (.ifCond .ne 30) 3 7 := ⟨by decide +kernel, rfl⟩
theorem d_9_isLot_7 : zD prog_11_method_48_code 7 (.aload_n 0) 1 8 := ⟨by decide +kernel, rfl⟩
theorem d_9_isLot_8 : zD prog_11_method_48_code 8 (.getfield 319) 3 11 := ⟨by decide +kernel, rfl⟩
theorem d_9_isLot_11 : zD prog_11_method_48_code 11 (.sipush 181) 3 14 := ⟨by decide +kernel, rfl⟩
theorem d_9_isLot_14 : zD prog_11_method_48_code 14 (.invokestatic 329) 3 17 := ⟨by decide +kernel, rfl⟩
theorem d_9_isLot_17 : zD prog_11_method_48_code 17 (.iload_n 1) 1 18 := ⟨by decide +kernel, rfl⟩
theorem d_9_isLot_18 : zD prog_11_method_48_code 18 (.invokestatic 329) 3 21 := ⟨by decide +kernel, rfl⟩
theorem d_9_isLot_21 : zD prog_11_method_48_code 21 (.iconst 1) 1 22 := ⟨by decide +kernel, rfl⟩
theorem d_9_isLot_22 : zD prog_11_method_48_code 22 (.iushr) 1 23 := ⟨by decide +kernel, rfl⟩
theorem d_9_isLot_23 : zD prog_11_method_48_code 23 (.bipush 100) 2 25 := ⟨by decide +kernel, rfl⟩
theorem d_9_isLot_25 : zD prog_11_method_48_code 25 (.irem) 1 26 := ⟨by decide +kernel, rfl⟩
theorem d_9_isLot_26 : zD prog_11_method_48_code 26 (.iload_n 2) 1 27 := ⟨by decide +kernel, rfl⟩
theorem d_9_isLot_27 : zD prog_11_method_48_code 27 (.if_icmp .ge 7) 3 30 := ⟨by decide +kernel, rfl⟩
theorem d_9_isLot_30 : zD prog_11_method_48_code 30 (.iconst 1) 1 31 := ⟨by decide +kernel, rfl⟩
theorem d_9_isLot_31 : zD prog_11_method_48_code 31 (.goto 4) 3 34 := ⟨by decide +kernel, rfl⟩
theorem d_9_isLot_34 : zD prog_11_method_48_code 34 (.iconst 0) 1 35 := ⟨by decide +kernel, rfl⟩
theorem d_9_isLot_35 : zD prog_11_method_48_code 35 (.ireturn) 1 36 := ⟨by decide +kernel, rfl⟩
theorem d_9_hasRight_0 : zD prog_11_method_49_code 0 (.aload_n 0) 1 1 := ⟨by decide +kernel, rfl⟩
theorem d_9_hasRight_1 : zD prog_11_method_49_code 1 (.getfield 113) 3 4 := ⟨by decide +kernel, rfl⟩
theorem d_9_hasRight_4 : zD prog_11_method_49_code 4 (.bipush 28) 2 6 := ⟨by decide +kernel, rfl⟩
theorem d_9_hasRight_6 : zD prog_11_method_49_code 6 (.iload_n 2) 1 7 := ⟨by decide +kernel, rfl⟩
theorem d_9_hasRight_7 : zD prog_11_method_49_code 7 (.iadd) 1 8 := ⟨by decide +kernel, rfl⟩
theorem d_9_hasRight_8 : zD prog_11_method_49_code 8 (.iaload) 1 9 := ⟨by decide +kernel, rfl⟩
theorem d_9_hasRight_9 : zD prog_11_method_49_code 9 (.iload_n 1) 1 10 := ⟨by decide +kernel, rfl⟩
theorem d_9_hasRight_10 : zD prog_11_method_49_code 10 (.ishr) 1 11 := ⟨by decide +kernel, rfl⟩
theorem d_9_hasRight_11 : zD prog_11_method_49_code 11 (.iconst 1) 1 12 := ⟨by decide +kernel, rfl⟩
theorem d_9_hasRight_12 : zD prog_11_method_49_code 12 (.iand) 1 13 := ⟨by decide +kernel, rfl⟩
theorem d_9_hasRight_13 : zD prog_11_method_49_code 13 (.iconst 1) 1 14 := ⟨by decide +kernel, rfl⟩
theorem d_9_hasRight_14 : zD prog_11_method_49_code 14 (.if_icmp .ne 7) 3 17 := ⟨by decide +kernel, rfl⟩
theorem d_9_hasRight_17 : zD prog_11_method_49_code 17 (.iconst 1) 1 18 := ⟨by decide +kernel, rfl⟩
theorem d_9_hasRight_18 : zD prog_11_method_49_code 18 (.goto 4) 3 21 := ⟨by decide +kernel, rfl⟩
theorem d_9_hasRight_21 : zD prog_11_method_49_code 21 (.iconst 0) 1 22 := ⟨by decide +kernel, rfl⟩
theorem d_9_hasRight_22 : zD prog_11_method_49_code 22 (.ireturn) 1 23 := ⟨by decide +kernel, rfl⟩
theorem d_9_longestBut_0 : zD prog_11_method_50_code 0 (.bipush (-2)) 2 2 := ⟨by decide +kernel, rfl⟩
theorem d_9_longestBut_2 : zD prog_11_method_50_code 2 (.istore_n 3) 1 3 := ⟨by decide +kernel, rfl⟩
theorem d_9_longestBut_3 : zD prog_11_method_50_code 3 (.iconst 0) 1 4 := ⟨by decide +kernel, rfl⟩
theorem d_9_longestBut_4 : zD prog_11_method_50_code 4 (.istore 4) 2 6 := ⟨by decide +kernel, rfl⟩
theorem d_9_longestBut_6 : zD prog_11_method_50_code 6 (.iload 4) 2 8 := ⟨by decide +kernel, rfl⟩
theorem d_9_longestBut_8 : zD prog_11_method_50_code 8 (.aload_n 0) 1 9 := ⟨by decide +kernel, rfl⟩
theorem d_9_longestBut_9 : zD prog_11_method_50_code 9 (.getfield 55) 3 12 := ⟨by decide +kernel, rfl⟩
theorem d_9_longestBut_12 : zD prog_11_method_50_code 12 (.aload_n 0) 1 13 := ⟨by decide +kernel, rfl⟩
theorem d_9_longestBut_13 : zD prog_11_method_50_code 13 (.getfield 233) 3 16 := ⟨by decide +kernel, rfl⟩
theorem d_9_longestBut_16 : zD prog_11_method_50_code 16 (.iaload) 1 17 := ⟨by decide +kernel, rfl⟩
theorem d_9_longestBut_17 : zD prog_11_method_50_code 17 (.if_icmp .ge 68) 3 20 := ⟨by decide +kernel, rfl⟩
theorem d_9_longestBut_20 : zD prog_11_method_50_code 20 (.iload 4) 2 22 := ⟨by decide +kernel, rfl⟩
theorem d_9_longestBut_22 : zD prog_11_method_50_code 22 (.iload_n 2) 1 23 := ⟨by decide +kernel, rfl⟩
theorem d_9_longestBut_23 : zD prog_11_method_50_code 23 (.if_icmp .eq 56) 3 26 := ⟨by decide +kernel, rfl⟩
theorem d_9_longestBut_26 : zD prog_11_method_50_code 26 (.aload_n 0) 1 27 := ⟨by decide +kernel, rfl⟩
theorem d_9_longestBut_27 : zD prog_11_method_50_code 27 (.getfield 113) 3 30 := ⟨by decide +kernel, rfl⟩
theorem d_9_longestBut_30 : zD prog_11_method_50_code 30 (.iload 4) 2 32 := ⟨by decide +kernel, rfl⟩
theorem d_9_longestBut_32 : zD prog_11_method_50_code 32 (.iaload) 1 33 := ⟨by decide +kernel, rfl⟩
theorem d_9_longestBut_33 : zD prog_11_method_50_code 33 (.iconst 1) 1 34 := ⟨by decide +kernel, rfl⟩
theorem d_9_longestBut_34 : zD prog_11_method_50_code 34 (.if_icmp .ne 45) 3 37 := ⟨by decide +kernel, rfl⟩
theorem d_9_longestBut_37 : zD prog_11_method_50_code 37 (.aload_n 0) 1 38 := ⟨by decide +kernel, rfl⟩
theorem d_9_longestBut_38 : zD prog_11_method_50_code 38 (.iload 4) 2 40 := ⟨by decide +kernel, rfl⟩
theorem d_9_longestBut_40 : zD prog_11_method_50_code 40 (.iload_n 1) 1 41 := ⟨by decide +kernel, rfl⟩
theorem d_9_longestBut_41 : zD prog_11_method_50_code 41 (.invokevirtual 333) 3 44 := ⟨by decide +kernel, rfl⟩
theorem d_9_longestBut_44 : zD prog_11_method_50_code 44 (.ifCond .ne 6) 3 47 := ⟨by decide +kernel, rfl⟩
theorem d_9_longestBut_47 : zD prog_11_method_50_code 47 (.goto 32) 3 50 := ⟨by decide +kernel, rfl⟩
theorem d_9_longestBut_50 : zD prog_11_method_50_code 50 (.iload_n 3) 1 51 := ⟨by decide +kernel, rfl⟩
theorem d_9_longestBut_51 : zD prog_11_method_50_code 51 (.ifCond .lt 25) 3 54 := ⟨by decide +kernel, rfl⟩
theorem d_9_longestBut_54 : zD prog_11_method_50_code 54 (.aload_n 0) 1 55 := ⟨by decide +kernel, rfl⟩
theorem d_9_longestBut_55 : zD prog_11_method_50_code 55 (.getfield 113) 3 58 := ⟨by decide +kernel, rfl⟩
theorem d_9_longestBut_58 : zD prog_11_method_50_code 58 (.bipush 7) 2 60 := ⟨by decide +kernel, rfl⟩
theorem d_9_longestBut_60 : zD prog_11_method_50_code 60 (.iload 4) 2 62 := ⟨by decide +kernel, rfl⟩
theorem d_9_longestBut_62 : zD prog_11_method_50_code 62 (.iadd) 1 63 := ⟨by decide +kernel, rfl⟩
theorem d_9_longestBut_63 : zD prog_11_method_50_code 63 (.iaload) 1 64 := ⟨by decide +kernel, rfl⟩
theorem d_9_longestBut_64 : zD prog_11_method_50_code 64 (.aload_n 0) 1 65 := ⟨by decide +kernel, rfl⟩
theorem d_9_longestBut_65 : zD prog_11_method_50_code 65 (.getfield 113) 3 68 := ⟨by decide +kernel, rfl⟩
theorem d_9_longestBut_68 : zD prog_11_method_50_code 68 (.bipush 7) 2 70 := ⟨by decide +kernel, rfl⟩
theorem d_9_longestBut_70 : zD prog_11_method_50_code 70 (.iload_n 3) 1 71 := ⟨by decide +kernel, rfl⟩
theorem d_9_longestBut_71 : zD prog_11_method_50_code 71 (.iadd) 1 72 := ⟨by decide +kernel, rfl⟩
theorem d_9_longestBut_72 : zD prog_11_method_50_code 72 (.iaload) 1 73 := ⟨by decide +kernel, rfl⟩
theorem d_9_longestBut_73 : zD prog_11_method_50_code 73 (.if_icmp .le 6) 3 76 := ⟨by decide +kernel, rfl⟩
theorem d_9_longestBut_76 : zD prog_11_method_50_code 76 (.iload 4) 2 78 := ⟨by decide +kernel, rfl⟩
theorem d_9_longestBut_78 : zD prog_11_method_50_code 78 (.istore_n 3) 1 79 := ⟨by decide +kernel, rfl⟩
theorem d_9_longestBut_79 : zD prog_11_method_50_code 79 (.iinc 4 1) 3 82 := ⟨by decide +kernel, rfl⟩
theorem d_9_longestBut_82 : zD prog_11_method_50_code 82 (.goto (-76)) 3 85 := ⟨by decide +kernel, rfl⟩
theorem d_9_longestBut_85 : zD prog_11_method_50_code 85 (.iload_n 3) 1 86 := ⟨by decide +kernel, rfl⟩
theorem d_9_longestBut_86 : zD prog_11_method_50_code 86 (.ireturn) 1 87 := ⟨by decide +kernel, rfl⟩
theorem d_9_lordOf_0 : zD prog_11_method_51_code 0 (.aload_n 0) 1 1 := ⟨by decide +kernel, rfl⟩
theorem d_9_lordOf_1 : zD prog_11_method_51_code 1 (.iload_n 1) 1 2 := ⟨by decide +kernel, rfl⟩
theorem d_9_lordOf_2 : zD prog_11_method_51_code 2 (.iconst (-1)) 1 3 := ⟨by decide +kernel, rfl⟩
theorem d_9_lordOf_3 : zD prog_11_method_51_code 3 (.invokevirtual 337) 3 6 := ⟨by decide +kernel, rfl⟩
theorem d_9_lordOf_6 : zD prog_11_method_51_code 6 (.ireturn) 1 7 := ⟨by decide +kernel, rfl⟩
theorem d_9_lordBits_0 : zD prog_11_method_52_code 0 (.iconst 0) 1 1 := ⟨by decide +kernel, rfl⟩
theorem d_9_lordBits_1 : zD prog_11_method_52_code 1 (.istore_n 2) 1 2 := ⟨by decide +kernel, rfl⟩
theorem d_9_lordBits_2 : zD prog_11_method_52_code 2 (.iconst 0) 1 3 := ⟨by decide +kernel, rfl⟩
theorem d_9_lordBits_3 : zD prog_11_method_52_code 3 (.istore_n 3) 1 4 := ⟨by decide +kernel, rfl⟩
theorem d_9_lordBits_4 : zD prog_11_method_52_code 4 (.iload_n 3) 1 5 := ⟨by decide +kernel, rfl⟩
theorem d_9_lordBits_5 : zD prog_11_method_52_code 5 (.aload_n 0) 1 6 := ⟨by decide +kernel, rfl⟩
theorem d_9_lordBits_6 : zD prog_11_method_52_code 6 (.getfield 46) 3 9 := ⟨by decide +kernel, rfl⟩
theorem d_9_lordBits_9 : zD prog_11_method_52_code 9 (.aload_n 0) 1 10 := ⟨by decide +kernel, rfl⟩
theorem d_9_lordBits_10 : zD prog_11_method_52_code 10 (.getfield 233) 3 13 := ⟨by decide +kernel, rfl⟩
theorem d_9_lordBits_13 : zD prog_11_method_52_code 13 (.iaload) 1 14 := ⟨by decide +kernel, rfl⟩
theorem d_9_lordBits_14 : zD prog_11_method_52_code 14 (.if_icmp .ge 24) 3 17 := ⟨by decide +kernel, rfl⟩
theorem d_9_lordBits_17 : zD prog_11_method_52_code 17 (.aload_n 0) 1 18 := ⟨by decide +kernel, rfl⟩
theorem d_9_lordBits_18 : zD prog_11_method_52_code 18 (.iload_n 3) 1 19 := ⟨by decide +kernel, rfl⟩
theorem d_9_lordBits_19 : zD prog_11_method_52_code 19 (.invokevirtual 340) 3 22 := ⟨by decide +kernel, rfl⟩
theorem d_9_lordBits_22 : zD prog_11_method_52_code 22 (.iload_n 1) 1 23 := ⟨by decide +kernel, rfl⟩
theorem d_9_lordBits_23 : zD prog_11_method_52_code 23 (.if_icmp .ne 9) 3 26 := ⟨by decide +kernel, rfl⟩
theorem d_9_lordBits_26 : zD prog_11_method_52_code 26 (.iload_n 2) 1 27 := ⟨by decide +kernel, rfl⟩
theorem d_9_lordBits_27 : zD prog_11_method_52_code 27 (.iconst 1) 1 28 := ⟨by decide +kernel, rfl⟩
theorem d_9_lordBits_28 : zD prog_11_method_52_code 28 (.iload_n 3) 1 29 := ⟨by decide +kernel, rfl⟩
theorem d_9_lordBits_29 : zD prog_11_method_52_code 29 (.ishl) 1 30 := ⟨by decide +kernel, rfl⟩
theorem d_9_lordBits_30 : zD prog_11_method_52_code 30 (.ior) 1 31 := ⟨by decide +kernel, rfl⟩
theorem d_9_lordBits_31 : zD prog_11_method_52_code 31 (.istore_n 2) 1 32 := ⟨by decide +kernel, rfl⟩
theorem d_9_lordBits_32 : zD prog_11_method_52_code 32 (.iinc 3 1) 3 35 := ⟨by decide +kernel, rfl⟩
theorem d_9_lordBits_35 : zD prog_11_method_52_code 35 (.goto (-31)) 3 38 := ⟨by decide +kernel, rfl⟩
theorem d_9_lordBits_38 : zD prog_11_method_52_code 38 (.iload_n 2) 1 39 := ⟨by decide +kernel, rfl⟩
theorem d_9_lordBits_39 : zD prog_11_method_52_code 39 (.ireturn) 1 40 := ⟨by decide +kernel, rfl⟩
theorem d_9_rightBits_0 : zD prog_11_method_53_code 0 (.iconst 0) 1 1 := ⟨by decide +kernel, rfl⟩
theorem d_9_rightBits_1 : zD prog_11_method_53_code 1 (.istore_n 2) 1 2 := ⟨by decide +kernel, rfl⟩
theorem d_9_rightBits_2 : zD prog_11_method_53_code 2 (.iconst 0) 1 3 := ⟨by decide +kernel, rfl⟩
theorem d_9_rightBits_3 : zD prog_11_method_53_code 3 (.istore_n 3) 1 4 := ⟨by decide +kernel, rfl⟩
theorem d_9_rightBits_4 : zD prog_11_method_53_code 4 (.iload_n 3) 1 5 := ⟨by decide +kernel, rfl⟩
theorem d_9_rightBits_5 : zD prog_11_method_53_code 5 (.aload_n 0) 1 6 := ⟨by decide +kernel, rfl⟩
theorem d_9_rightBits_6 : zD prog_11_method_53_code 6 (.getfield 46) 3 9 := ⟨by decide +kernel, rfl⟩
theorem d_9_rightBits_9 : zD prog_11_method_53_code 9 (.aload_n 0) 1 10 := ⟨by decide +kernel, rfl⟩
theorem d_9_rightBits_10 : zD prog_11_method_53_code 10 (.getfield 233) 3 13 := ⟨by decide +kernel, rfl⟩
theorem d_9_rightBits_13 : zD prog_11_method_53_code 13 (.iaload) 1 14 := ⟨by decide +kernel, rfl⟩
theorem d_9_rightBits_14 : zD prog_11_method_53_code 14 (.if_icmp .ge 24) 3 17 := ⟨by decide +kernel, rfl⟩
theorem d_9_rightBits_17 : zD prog_11_method_53_code 17 (.aload_n 0) 1 18 := ⟨by decide +kernel, rfl⟩
theorem d_9_rightBits_18 : zD prog_11_method_53_code 18 (.iload_n 1) 1 19 := ⟨by decide +kernel, rfl⟩
theorem d_9_rightBits_19 : zD prog_11_method_53_code 19 (.iload_n 3) 1 20 := ⟨by decide +kernel, rfl⟩
theorem d_9_rightBits_20 : zD prog_11_method_53_code 20 (.invokevirtual 333) 3 23 := ⟨by decide +kernel, rfl⟩
theorem d_9_rightBits_23 : zD prog_11_method_53_code 23 (.ifCond .eq 9) 3 26 := ⟨by decide +kernel, rfl⟩
theorem d_9_rightBits_26 : zD prog_11_method_53_code 26 (.iload_n 2) 1 27 := ⟨by decide +kernel, rfl⟩
theorem d_9_rightBits_27 : zD prog_11_method_53_code 27 (.iconst 1) 1 28 := ⟨by decide +kernel, rfl⟩
theorem d_9_rightBits_28 : zD prog_11_method_53_code 28 (.iload_n 3) 1 29 := ⟨by decide +kernel, rfl⟩
theorem d_9_rightBits_29 : zD prog_11_method_53_code 29 (.ishl) 1 30 := ⟨by decide +kernel, rfl⟩
theorem d_9_rightBits_30 : zD prog_11_method_53_code 30 (.ior) 1 31 := ⟨by decide +kernel, rfl⟩
theorem d_9_rightBits_31 : zD prog_11_method_53_code 31 (.istore_n 2) 1 32 := ⟨by decide +kernel, rfl⟩
theorem d_9_rightBits_32 : zD prog_11_method_53_code 32 (.iinc 3 1) 3 35 := ⟨by decide +kernel, rfl⟩
theorem d_9_rightBits_35 : zD prog_11_method_53_code 35 (.goto (-31)) 3 38 := ⟨by decide +kernel, rfl⟩
theorem d_9_rightBits_38 : zD prog_11_method_53_code 38 (.iload_n 2) 1 39 := ⟨by decide +kernel, rfl⟩
theorem d_9_rightBits_39 : zD prog_11_method_53_code 39 (.ireturn) 1 40 := ⟨by decide +kernel, rfl⟩
theorem d_9_inState_0 : zD prog_11_method_54_code 0 (.iconst 0) 1 1 := ⟨by decide +kernel, rfl⟩
theorem d_9_inState_1 : zD prog_11_method_54_code 1 (.istore_n 2) 1 2 := ⟨by decide +kernel, rfl⟩
theorem d_9_inState_2 : zD prog_11_method_54_code 2 (.iconst 0) 1 3 := ⟨by decide +kernel, rfl⟩
theorem d_9_inState_3 : zD prog_11_method_54_code 3 (.istore_n 3) 1 4 := ⟨by decide +kernel, rfl⟩
theorem d_9_inState_4 : zD prog_11_method_54_code 4 (.iload_n 3) 1 5 := ⟨by decide +kernel, rfl⟩
theorem d_9_inState_5 : zD prog_11_method_54_code 5 (.aload_n 0) 1 6 := ⟨by decide +kernel, rfl⟩
theorem d_9_inState_6 : zD prog_11_method_54_code 6 (.getfield 55) 3 9 := ⟨by decide +kernel, rfl⟩
theorem d_9_inState_9 : zD prog_11_method_54_code 9 (.aload_n 0) 1 10 := ⟨by decide +kernel, rfl⟩
theorem d_9_inState_10 : zD prog_11_method_54_code 10 (.getfield 233) 3 13 := ⟨by decide +kernel, rfl⟩
theorem d_9_inState_13 : zD prog_11_method_54_code 13 (.iaload) 1 14 := ⟨by decide +kernel, rfl⟩
theorem d_9_inState_14 : zD prog_11_method_54_code 14 (.if_icmp .ge 25) 3 17 := ⟨by decide +kernel, rfl⟩
theorem d_9_inState_17 : zD prog_11_method_54_code 17 (.aload_n 0) 1 18 := ⟨by decide +kernel, rfl⟩
theorem d_9_inState_18 : zD prog_11_method_54_code 18 (.getfield 113) 3 21 := ⟨by decide +kernel, rfl⟩
theorem d_9_inState_21 : zD prog_11_method_54_code 21 (.iload_n 3) 1 22 := ⟨by decide +kernel, rfl⟩
theorem d_9_inState_22 : zD prog_11_method_54_code 22 (.iaload) 1 23 := ⟨by decide +kernel, rfl⟩
theorem d_9_inState_23 : zD prog_11_method_54_code 23 (.iload_n 1) 1 24 := ⟨by decide +kernel, rfl⟩
theorem d_9_inState_24 : zD prog_11_method_54_code 24 (.if_icmp .ne 9) 3 27 := ⟨by decide +kernel, rfl⟩
theorem d_9_inState_27 : zD prog_11_method_54_code 27 (.iload_n 2) 1 28 := ⟨by decide +kernel, rfl⟩
theorem d_9_inState_28 : zD prog_11_method_54_code 28 (.iconst 1) 1 29 := ⟨by decide +kernel, rfl⟩
theorem d_9_inState_29 : zD prog_11_method_54_code 29 (.iload_n 3) 1 30 := ⟨by decide +kernel, rfl⟩
theorem d_9_inState_30 : zD prog_11_method_54_code 30 (.ishl) 1 31 := ⟨by decide +kernel, rfl⟩
theorem d_9_inState_31 : zD prog_11_method_54_code 31 (.ior) 1 32 := ⟨by decide +kernel, rfl⟩
theorem d_9_inState_32 : zD prog_11_method_54_code 32 (.istore_n 2) 1 33 := ⟨by decide +kernel, rfl⟩
theorem d_9_inState_33 : zD prog_11_method_54_code 33 (.iinc 3 1) 3 36 := ⟨by decide +kernel, rfl⟩
theorem d_9_inState_36 : zD prog_11_method_54_code 36 (.goto (-32)) 3 39 := ⟨by decide +kernel, rfl⟩
theorem d_9_inState_39 : zD prog_11_method_54_code 39 (.iload_n 2) 1 40 := ⟨by decide +kernel, rfl⟩
theorem d_9_inState_40 : zD prog_11_method_54_code 40 (.ireturn) 1 41 := ⟨by decide +kernel, rfl⟩
theorem d_9_ageNow_0 : zD prog_11_method_55_code 0 (.aload_n 0) 1 1 := ⟨by decide +kernel, rfl⟩
theorem d_9_ageNow_1 : zD prog_11_method_55_code 1 (.getfield 58) 3 4 := ⟨by decide +kernel, rfl⟩
theorem d_9_ageNow_4 : zD prog_11_method_55_code 4 (.bipush 7) 2 6 := ⟨by decide +kernel, rfl⟩
theorem d_9_ageNow_6 : zD prog_11_method_55_code 6 (.aload_n 0) 1 7 := ⟨by decide +kernel, rfl⟩
theorem d_9_ageNow_7 : zD prog_11_method_55_code 7 (.getfield 233) 3 10 := ⟨by decide +kernel, rfl⟩
theorem d_9_ageNow_10 : zD prog_11_method_55_code 10 (.imul) 1 11 := ⟨by decide +kernel, rfl⟩
theorem d_9_ageNow_11 : zD prog_11_method_55_code 11 (.iload_n 1) 1 12 := ⟨by decide +kernel, rfl⟩
theorem d_9_ageNow_12 : zD prog_11_method_55_code 12 (.iadd) 1 13 := ⟨by decide +kernel, rfl⟩
theorem d_9_ageNow_13 : zD prog_11_method_55_code 13 (.iaload) 1 14 := ⟨by decide +kernel, rfl⟩
theorem d_9_ageNow_14 : zD prog_11_method_55_code 14 (.aload_n 0) 1 15 := ⟨by decide +kernel, rfl⟩
theorem d_9_ageNow_15 : zD prog_11_method_55_code 15 (.getfield 113) 3 18 := ⟨by decide +kernel, rfl⟩
theorem d_9_ageNow_18 : zD prog_11_method_55_code 18 (.iload_n 1) 1 19 := ⟨by decide +kernel, rfl⟩
theorem d_9_ageNow_19 : zD prog_11_method_55_code 19 (.iaload) 1 20 := ⟨by decide +kernel, rfl⟩
theorem d_9_ageNow_20 : zD prog_11_method_55_code 20 (.iconst 2) 1 21 := ⟨by decide +kernel, rfl⟩
theorem d_9_ageNow_21 : zD prog_11_method_55_code 21 (.if_icmp .ne 15) 3 24 := ⟨by decide +kernel, rfl⟩
theorem d_9_ageNow_24 : zD prog_11_method_55_code 24 (.aload_n 0) 1 25 := ⟨by decide +kernel, rfl⟩
theorem d_9_ageNow_25 : zD prog_11_method_55_code 25 (.getfield 113) 3 28 := ⟨by decide +kernel, rfl⟩
theorem d_9_ageNow_28 : zD prog_11_method_55_code 28 (.bipush 21) 2 30 := ⟨by decide +kernel, rfl⟩
theorem d_9_ageNow_30 : zD prog_11_method_55_code 30 (.iload_n 1) 1 31 := ⟨by decide +kernel, rfl⟩
theorem d_9_ageNow_31 : zD prog_11_method_55_code 31 (.iadd) 1 32 := ⟨by decide +kernel, rfl⟩
theorem d_9_ageNow_32 : zD prog_11_method_55_code 32 (.iaload) 1 33 := ⟨by decide +kernel, rfl⟩
theorem d_9_ageNow_33 : zD prog_11_method_55_code 33 (.goto 10) 3 36 := ⟨by decide +kernel, rfl⟩
theorem d_9_ageNow_36 : zD prog_11_method_55_code 36 (.aload_n 0) 1 37 := ⟨by decide +kernel, rfl⟩
theorem d_9_ageNow_37 : zD prog_11_method_55_code 37 (.getfield 113) 3 40 := ⟨by decide +kernel, rfl⟩
theorem d_9_ageNow_40 : zD prog_11_method_55_code 40 (.bipush 33) 2 42 := ⟨by decide +kernel, rfl⟩
theorem d_9_ageNow_42 : zD prog_11_method_55_code 42 (.iaload) 1 43 := ⟨by decide +kernel, rfl⟩
theorem d_9_ageNow_43 : zD prog_11_method_55_code 43 (.iadd) 1 44 := ⟨by decide +kernel, rfl⟩
theorem d_9_ageNow_44 : zD prog_11_method_55_code 44 (.ireturn) 1 45 := ⟨by decide +kernel, rfl⟩
theorem d_9_lawTells_0 : zD prog_11_method_56_code 0 (.iconst 4) 1 1 := ⟨by decide +kernel, rfl⟩
theorem d_9_lawTells_1 : zD prog_11_method_56_code 1 (.aload_n 0) 1 2 := ⟨by decide +kernel, rfl⟩
theorem d_9_lawTells_2 : zD prog_11_method_56_code 2 (.getfield 233) 3 5 := ⟨by decide +kernel, rfl⟩
theorem d_9_lawTells_5 : zD prog_11_method_56_code 5 (.imul) 1 6 := ⟨by decide +kernel, rfl⟩
theorem d_9_lawTells_6 : zD prog_11_method_56_code 6 (.iload_n 1) 1 7 := ⟨by decide +kernel, rfl⟩
theorem d_9_lawTells_7 : zD prog_11_method_56_code 7 (.iadd) 1 8 := ⟨by decide +kernel, rfl⟩
theorem d_9_lawTells_8 : zD prog_11_method_56_code 8 (.istore_n 3) 1 9 := ⟨by decide +kernel, rfl⟩
theorem d_9_lawTells_9 : zD prog_11_method_56_code 9 (.aload_n 0) 1 10 := ⟨by decide +kernel, rfl⟩
theorem d_9_lawTells_10 : zD prog_11_method_56_code 10 (.getfield 73) 3 13 := ⟨by decide +kernel, rfl⟩
theorem d_9_lawTells_13 : zD prog_11_method_56_code 13 (.iload_n 3) 1 14 := ⟨by decide +kernel, rfl⟩
theorem d_9_lawTells_14 : zD prog_11_method_56_code 14 (.iaload) 1 15 := ⟨by decide +kernel, rfl⟩
theorem d_9_lawTells_15 : zD prog_11_method_56_code 15 (.aload_n 0) 1 16 := ⟨by decide +kernel, rfl⟩
theorem d_9_lawTells_16 : zD prog_11_method_56_code 16 (.getfield 76) 3 19 := ⟨by decide +kernel, rfl⟩
theorem d_9_lawTells_19 : zD prog_11_method_56_code 19 (.iload_n 3) 1 20 := ⟨by decide +kernel, rfl⟩
theorem d_9_lawTells_20 : zD prog_11_method_56_code 20 (.iaload) 1 21 := ⟨by decide +kernel, rfl⟩
theorem d_9_lawTells_21 : zD prog_11_method_56_code 21 (.if_icmp .ne 5) 3 24 := ⟨by decide +kernel, rfl⟩
theorem d_9_lawTells_24 : zD prog_11_method_56_code 24 (.iload_n 2) 1 25 := ⟨by decide +kernel, rfl⟩
theorem d_9_lawTells_25 : zD prog_11_method_56_code 25 (.ireturn) 1 26 := ⟨by decide +kernel, rfl⟩
theorem d_9_lawTells_26 : zD prog_11_method_56_code 26 (.aload_n 0) 1 27 := ⟨by decide +kernel, rfl⟩
theorem d_9_lawTells_27 : zD prog_11_method_56_code 27 (.iconst 0) 1 28 := ⟨by decide +kernel, rfl⟩
theorem d_9_lawTells_28 : zD prog_11_method_56_code 28 (.putfield 308) 3 31 := ⟨by decide +kernel, rfl⟩
theorem d_9_lawTells_31 : zD prog_11_method_56_code 31 (.aload_n 0) 1 32 := ⟨by decide +kernel, rfl⟩
theorem d_9_lawTells_32 : zD prog_11_method_56_code 32 (.getfield 73) 3 35 := ⟨by decide +kernel, rfl⟩
theorem d_9_lawTells_35 : zD prog_11_method_56_code 35 (.iload_n 3) 1 36 := ⟨by decide +kernel, rfl⟩
theorem d_9_lawTells_36 : zD prog_11_method_56_code 36 (.iaload) 1 37 := ⟨by decide +kernel, rfl⟩
theorem d_9_lawTells_37 : zD prog_11_method_56_code 37 (.istore 4) 2 39 := ⟨by decide +kernel, rfl⟩
theorem d_9_lawTells_39 : zD prog_11_method_56_code 39 (.iload 4) 2 41 := ⟨by decide +kernel, rfl⟩
theorem d_9_lawTells_41 : zD prog_11_method_56_code 41 (.aload_n 0) 1 42 := ⟨by decide +kernel, rfl⟩
theorem d_9_lawTells_42 : zD prog_11_method_56_code 42 (.getfield 76) 3 45 := ⟨by decide +kernel, rfl⟩
theorem d_9_lawTells_45 : zD prog_11_method_56_code 45 (.iload_n 3) 1 46 := ⟨by decide +kernel, rfl⟩
theorem d_9_lawTells_46 : zD prog_11_method_56_code 46 (.iaload) 1 47 := ⟨by decide +kernel, rfl⟩
theorem d_9_lawTells_47 : zD prog_11_method_56_code 47 (.if_icmp .ge 112) 3 50 := ⟨by decide +kernel, rfl⟩
theorem d_9_lawTells_50 : zD prog_11_method_56_code 50 (.aload_n 0) 1 51 := ⟨by decide +kernel, rfl⟩
theorem d_9_lawTells_51 : zD prog_11_method_56_code 51 (.getfield 79) 3 54 := ⟨by decide +kernel, rfl⟩
theorem d_9_lawTells_54 : zD prog_11_method_56_code 54 (.iload 4) 2 56 := ⟨by decide +kernel, rfl⟩
theorem d_9_lawTells_56 : zD prog_11_method_56_code 56 (.baload) 1 57 := ⟨by decide +kernel, rfl⟩
theorem d_9_lawTells_57 : zD prog_11_method_56_code 57 (.ifCond .eq 62) 3 60 := ⟨by decide +kernel, rfl⟩
theorem d_9_lawTells_60 : zD prog_11_method_56_code 60 (.aload_n 0) 1 61 := ⟨by decide +kernel, rfl⟩
theorem d_9_lawTells_61 : zD prog_11_method_56_code 61 (.aload_n 0) 1 62 := ⟨by decide +kernel, rfl⟩
theorem d_9_lawTells_62 : zD prog_11_method_56_code 62 (.getfield 83) 3 65 := ⟨by decide +kernel, rfl⟩
theorem d_9_lawTells_65 : zD prog_11_method_56_code 65 (.iload 4) 2 67 := ⟨by decide +kernel, rfl⟩
theorem d_9_lawTells_67 : zD prog_11_method_56_code 67 (.iaload) 1 68 := ⟨by decide +kernel, rfl⟩
theorem d_9_lawTells_68 : zD prog_11_method_56_code 68 (.aload_n 0) 1 69 := ⟨by decide +kernel, rfl⟩
theorem d_9_lawTells_69 : zD prog_11_method_56_code 69 (.getfield 86) 3 72 := ⟨by decide +kernel, rfl⟩
theorem d_9_lawTells_72 : zD prog_11_method_56_code 72 (.iload 4) 2 74 := ⟨by decide +kernel, rfl⟩
theorem d_9_lawTells_74 : zD prog_11_method_56_code 74 (.iaload) 1 75 := ⟨by decide +kernel, rfl⟩
theorem d_9_lawTells_75 : zD prog_11_method_56_code 75 (.invokevirtual 343) 3 78 := ⟨by decide +kernel, rfl⟩
theorem d_9_lawTells_78 : zD prog_11_method_56_code 78 (.istore 5) 2 80 := ⟨by decide +kernel, rfl⟩
theorem d_9_lawTells_80 : zD prog_11_method_56_code 80 (.aload_n 0) 1 81 := ⟨by decide +kernel, rfl⟩
theorem d_9_lawTells_81 : zD prog_11_method_56_code 81 (.aload_n 0) 1 82 := ⟨by decide +kernel, rfl⟩
theorem d_9_lawTells_82 : zD prog_11_method_56_code 82 (.getfield 86) 3 85 := ⟨by decide +kernel, rfl⟩
theorem d_9_lawTells_85 : zD prog_11_method_56_code 85 (.iload 4) 2 87 := ⟨by decide +kernel, rfl⟩
theorem d_9_lawTells_87 : zD prog_11_method_56_code 87 (.iaload) 1 88 := ⟨by decide +kernel, rfl⟩
theorem d_9_lawTells_88 : zD prog_11_method_56_code 88 (.aload_n 0) 1 89 := ⟨by decide +kernel, rfl⟩
theorem d_9_lawTells_89 : zD prog_11_method_56_code 89 (.getfield 89) 3 92 := ⟨by decide +kernel, rfl⟩
theorem d_9_lawTells_92 : zD prog_11_method_56_code 92 (.iload 4) 2 94 := ⟨by decide +kernel, rfl⟩
theorem d_9_lawTells_94 : zD prog_11_method_56_code 94 (.iaload) 1 95 := ⟨by decide +kernel, rfl⟩
theorem d_9_lawTells_95 : zD prog_11_method_56_code 95 (.invokevirtual 343) 3 98 := ⟨by decide +kernel, rfl⟩
theorem d_9_lawTells_98 : zD prog_11_method_56_code 98 (.istore 6) 2 100 := ⟨by decide +kernel, rfl⟩
theorem d_9_lawTells_100 : zD prog_11_method_56_code 100 (.aload_n 0) 1 101 := ⟨by decide +kernel, rfl⟩
theorem d_9_lawTells_101 : zD prog_11_method_56_code 101 (.getfield 308) 3 104 := ⟨by decide +kernel, rfl⟩
theorem d_9_lawTells_104 : zD prog_11_method_56_code 104 (.ifCond .eq 5) 3 107 := ⟨by decide +kernel, rfl⟩
theorem d_9_lawTells_107 : zD prog_11_method_56_code 107 (.iconst 0) 1 108 := ⟨by decide +kernel, rfl⟩
theorem d_9_lawTells_108 : zD prog_11_method_56_code 108 (.ireturn) 1 109 := ⟨by decide +kernel, rfl⟩
theorem d_9_lawTells_109 : zD prog_11_method_56_code 109 (.iload 5) 2 111 := ⟨by decide +kernel, rfl⟩
theorem d_9_lawTells_111 : zD prog_11_method_56_code 111 (.iload 6) 2 113 := ⟨by decide +kernel, rfl⟩
theorem d_9_lawTells_113 : zD prog_11_method_56_code 113 (.if_icmp .lt 6) 3 116 := ⟨by decide +kernel, rfl⟩
theorem d_9_lawTells_116 : zD prog_11_method_56_code 116 (.goto 37) 3 119 := ⟨by decide +kernel, rfl⟩
theorem d_9_lawTells_119 : zD prog_11_method_56_code 119 (.aload_n 0) 1 120 := ⟨by decide +kernel, rfl⟩
theorem d_9_lawTells_120 : zD prog_11_method_56_code 120 (.aload_n 0) 1 121 := ⟨by decide +kernel, rfl⟩
theorem d_9_lawTells_121 : zD prog_11_method_56_code 121 (.getfield 89) 3 124 := ⟨by decide +kernel, rfl⟩
theorem d_9_lawTells_124 : zD prog_11_method_56_code 124 (.iload 4) 2 126 := ⟨by decide +kernel, rfl⟩
theorem d_9_lawTells_126 : zD prog_11_method_56_code 126 (.iaload) 1 127 := ⟨by decide +kernel, rfl⟩
theorem d_9_lawTells_127 : zD prog_11_method_56_code 127 (.aload_n 0) 1 128 := ⟨by decide +kernel, rfl⟩
theorem d_9_lawTells_128 : zD prog_11_method_56_code 128 (.getfield 92) 3 131 := ⟨by decide +kernel, rfl⟩
theorem d_9_lawTells_131 : zD prog_11_method_56_code 131 (.iload 4) 2 133 := ⟨by decide +kernel, rfl⟩
theorem d_9_lawTells_133 : zD prog_11_method_56_code 133 (.iaload) 1 134 := ⟨by decide +kernel, rfl⟩
theorem d_9_lawTells_134 : zD prog_11_method_56_code 134 (.invokevirtual 343) 3 137 := ⟨by decide +kernel, rfl⟩
theorem d_9_lawTells_137 : zD prog_11_method_56_code 137 (.istore 5) 2 139 := ⟨by decide +kernel, rfl⟩
theorem d_9_lawTells_139 : zD prog_11_method_56_code 139 (.aload_n 0) 1 140 := ⟨by decide +kernel, rfl⟩
theorem d_9_lawTells_140 : zD prog_11_method_56_code 140 (.getfield 308) 3 143 := ⟨by decide +kernel, rfl⟩
theorem d_9_lawTells_143 : zD prog_11_method_56_code 143 (.ifCond .eq 7) 3 146 := ⟨by decide +kernel, rfl⟩
theorem d_9_lawTells_146 : zD prog_11_method_56_code 146 (.iconst 0) 1 147 := ⟨by decide +kernel, rfl⟩
theorem d_9_lawTells_147 : zD prog_11_method_56_code 147 (.goto 5) 3 150 := ⟨by decide +kernel, rfl⟩
theorem d_9_lawTells_150 : zD prog_11_method_56_code 150 (.iload 5) 2 152 := ⟨by decide +kernel, rfl⟩
theorem d_9_lawTells_152 : zD prog_11_method_56_code 152 (.ireturn) 1 153 := ⟨by decide +kernel, rfl⟩
theorem d_9_lawTells_153 : zD prog_11_method_56_code 153 (.iinc 4 1) 3 156 := ⟨by decide +kernel, rfl⟩
theorem d_9_lawTells_156 : zD prog_11_method_56_code 156 (.goto (-117)) 3 159 := ⟨by decide +kernel, rfl⟩
theorem d_9_lawTells_159 : zD prog_11_method_56_code 159 (.iconst 0) 1 160 := ⟨by decide +kernel, rfl⟩
theorem d_9_lawTells_160 : zD prog_11_method_56_code 160 (.ireturn) 1 161 := ⟨by decide +kernel, rfl⟩
theorem d_9_looks_0 : zD prog_11_method_57_code 0 (.aload_n 0) 1 1 := ⟨by decide +kernel, rfl⟩
theorem d_9_looks_1 : zD prog_11_method_57_code 1 (.iload_n 1) 1 2 := ⟨by decide +kernel, rfl⟩
theorem d_9_looks_2 : zD prog_11_method_57_code 2 (.invokevirtual 346) 3 5 := ⟨by decide +kernel, rfl⟩
theorem d_9_looks_5 : zD prog_11_method_57_code 5 (.istore_n 2) 1 6 := ⟨by decide +kernel, rfl⟩
theorem d_9_looks_6 : zD prog_11_method_57_code 6 (.aload_n 0) 1 7 := ⟨by decide +kernel, rfl⟩
theorem d_9_looks_7 : zD prog_11_method_57_code 7 (.getfield 104) 3 10 := ⟨by decide +kernel, rfl⟩
theorem d_9_looks_10 : zD prog_11_method_57_code 10 (.iconst 0) 1 11 := ⟨by decide +kernel, rfl⟩
theorem d_9_looks_11 : zD prog_11_method_57_code 11 (.iconst 0) 1 12 := ⟨by decide +kernel, rfl⟩
theorem d_9_looks_12 : zD prog_11_method_57_code 12 (.iastore) 1 13 := ⟨by decide +kernel, rfl⟩
theorem d_9_looks_13 : zD prog_11_method_57_code 13 (.iconst 0) 1 14 := ⟨by decide +kernel, rfl⟩
theorem d_9_looks_14 : zD prog_11_method_57_code 14 (.istore_n 3) 1 15 := ⟨by decide +kernel, rfl⟩
theorem d_9_looks_15 : zD prog_11_method_57_code 15 (.iload_n 3) 1 16 := ⟨by decide +kernel, rfl⟩
theorem d_9_looks_16 : zD prog_11_method_57_code 16 (.aload_n 0) 1 17 := ⟨by decide +kernel, rfl⟩
theorem d_9_looks_17 : zD prog_11_method_57_code 17 (.getfield 46) 3 20 := ⟨by decide +kernel, rfl⟩
theorem d_9_looks_20 : zD prog_11_method_57_code 20 (.aload_n 0) 1 21 := ⟨by decide +kernel, rfl⟩
theorem d_9_looks_21 : zD prog_11_method_57_code 21 (.getfield 233) 3 24 := ⟨by decide +kernel, rfl⟩
theorem d_9_looks_24 : zD prog_11_method_57_code 24 (.iaload) 1 25 := ⟨by decide +kernel, rfl⟩
theorem d_9_looks_25 : zD prog_11_method_57_code 25 (.if_icmp .ge 40) 3 28 := ⟨by decide +kernel, rfl⟩
theorem d_9_looks_28 : zD prog_11_method_57_code 28 (.iload_n 2) 1 29 := ⟨by decide +kernel, rfl⟩
theorem d_9_looks_29 : zD prog_11_method_57_code 29 (.iload_n 3) 1 30 := ⟨by decide +kernel, rfl⟩
theorem d_9_looks_30 : zD prog_11_method_57_code 30 (.ishr) 1 31 := ⟨by decide +kernel, rfl⟩
theorem d_9_looks_31 : zD prog_11_method_57_code 31 (.iconst 1) 1 32 := ⟨by decide +kernel, rfl⟩
theorem d_9_looks_32 : zD prog_11_method_57_code 32 (.iand) 1 33 := ⟨by decide +kernel, rfl⟩
theorem d_9_looks_33 : zD prog_11_method_57_code 33 (.iconst 1) 1 34 := ⟨by decide +kernel, rfl⟩
theorem d_9_looks_34 : zD prog_11_method_57_code 34 (.if_icmp .ne 25) 3 37 := ⟨by decide +kernel, rfl⟩
theorem d_9_looks_37 : zD prog_11_method_57_code 37 (.aload_n 0) 1 38 := ⟨by decide +kernel, rfl⟩
theorem d_9_looks_38 : zD prog_11_method_57_code 38 (.getfield 104) 3 41 := ⟨by decide +kernel, rfl⟩
theorem d_9_looks_41 : zD prog_11_method_57_code 41 (.iconst 0) 1 42 := ⟨by decide +kernel, rfl⟩
theorem d_9_looks_42 : zD prog_11_method_57_code 42 (.dup2) 1 43 := ⟨by decide +kernel, rfl⟩
theorem d_9_looks_43 : zD prog_11_method_57_code 43 (.iaload) 1 44 := ⟨by decide +kernel, rfl⟩
theorem d_9_looks_44 : zD prog_11_method_57_code 44 (.aload_n 0) 1 45 := ⟨by decide +kernel, rfl⟩
theorem d_9_looks_45 : zD prog_11_method_57_code 45 (.getfield 49) 3 48 := ⟨by decide +kernel, rfl⟩
theorem d_9_looks_48 : zD prog_11_method_57_code 48 (.iconst 5) 1 49 := ⟨by decide +kernel, rfl⟩
theorem d_9_looks_49 : zD prog_11_method_57_code 49 (.aload_n 0) 1 50 := ⟨by decide +kernel, rfl⟩
theorem d_9_looks_50 : zD prog_11_method_57_code 50 (.getfield 233) 3 53 := ⟨by decide +kernel, rfl⟩
theorem d_9_looks_53 : zD prog_11_method_57_code 53 (.imul) 1 54 := ⟨by decide +kernel, rfl⟩
theorem d_9_looks_54 : zD prog_11_method_57_code 54 (.iload_n 3) 1 55 := ⟨by decide +kernel, rfl⟩
theorem d_9_looks_55 : zD prog_11_method_57_code 55 (.iadd) 1 56 := ⟨by decide +kernel, rfl⟩
theorem d_9_looks_56 : zD prog_11_method_57_code 56 (.iaload) 1 57 := ⟨by decide +kernel, rfl⟩
theorem d_9_looks_57 : zD prog_11_method_57_code 57 (.iadd) 1 58 := ⟨by decide +kernel, rfl⟩
theorem d_9_looks_58 : zD prog_11_method_57_code 58 (.iastore) 1 59 := ⟨by decide +kernel, rfl⟩
theorem d_9_looks_59 : zD prog_11_method_57_code 59 (.iinc 3 1) 3 62 := ⟨by decide +kernel, rfl⟩
theorem d_9_looks_62 : zD prog_11_method_57_code 62 (.goto (-47)) 3 65 := ⟨by decide +kernel, rfl⟩
theorem d_9_looks_65 : zD prog_11_method_57_code 65 (.aload_n 0) 1 66 := ⟨by decide +kernel, rfl⟩
theorem d_9_looks_66 : zD prog_11_method_57_code 66 (.getfield 104) 3 69 := ⟨by decide +kernel, rfl⟩
theorem d_9_looks_69 : zD prog_11_method_57_code 69 (.iconst 1) 1 70 := ⟨by decide +kernel, rfl⟩
theorem d_9_looks_70 : zD prog_11_method_57_code 70 (.aload_n 0) 1 71 := ⟨by decide +kernel, rfl⟩
theorem d_9_looks_71 : zD prog_11_method_57_code 71 (.iload_n 1) 1 72 := ⟨by decide +kernel, rfl⟩
theorem d_9_looks_72 : zD prog_11_method_57_code 72 (.invokevirtual 349) 3 75 := ⟨by decide +kernel, rfl⟩
theorem d_9_looks_75 : zD prog_11_method_57_code 75 (.iastore) 1 76 := ⟨by decide +kernel, rfl⟩
theorem d_9_looks_76 : zD prog_11_method_57_code 76 (.aload_n 0) 1 77 := ⟨by decide +kernel, rfl⟩
theorem d_9_looks_77 : zD prog_11_method_57_code 77 (.getfield 104) 3 80 := ⟨by decide +kernel, rfl⟩
theorem d_9_looks_80 : zD prog_11_method_57_code 80 (.iconst 2) 1 81 := ⟨by decide +kernel, rfl⟩
theorem d_9_looks_81 : zD prog_11_method_57_code 81 (.aload_n 0) 1 82 := ⟨by decide +kernel, rfl⟩
theorem d_9_looks_82 : zD prog_11_method_57_code 82 (.getfield 113) 3 85 := ⟨by decide +kernel, rfl⟩
theorem d_9_looks_85 : zD prog_11_method_57_code 85 (.bipush 7) 2 87 := ⟨by decide +kernel, rfl⟩
theorem d_9_looks_87 : zD prog_11_method_57_code 87 (.iload_n 1) 1 88 := ⟨by decide +kernel, rfl⟩
theorem d_9_looks_88 : zD prog_11_method_57_code 88 (.iadd) 1 89 := ⟨by decide +kernel, rfl⟩
theorem d_9_looks_89 : zD prog_11_method_57_code 89 (.iaload) 1 90 := ⟨by decide +kernel, rfl⟩
theorem d_9_looks_90 : zD prog_11_method_57_code 90 (.iastore) 1 91 := ⟨by decide +kernel, rfl⟩
theorem d_9_looks_91 : zD prog_11_method_57_code 91 (.aload_n 0) 1 92 := ⟨by decide +kernel, rfl⟩
theorem d_9_looks_92 : zD prog_11_method_57_code 92 (.getfield 104) 3 95 := ⟨by decide +kernel, rfl⟩
theorem d_9_looks_95 : zD prog_11_method_57_code 95 (.iconst 3) 1 96 := ⟨by decide +kernel, rfl⟩
theorem d_9_looks_96 : zD prog_11_method_57_code 96 (.aload_n 0) 1 97 := ⟨by decide +kernel, rfl⟩
theorem d_9_looks_97 : zD prog_11_method_57_code 97 (.getfield 113) 3 100 := ⟨by decide +kernel, rfl⟩
theorem d_9_looks_100 : zD prog_11_method_57_code 100 (.bipush 14) 2 102 := ⟨by decide +kernel, rfl⟩
theorem d_9_looks_102 : zD prog_11_method_57_code 102 (.iload_n 1) 1 103 := ⟨by decide +kernel, rfl⟩
theorem d_9_looks_103 : zD prog_11_method_57_code 103 (.iadd) 1 104 := ⟨by decide +kernel, rfl⟩
theorem d_9_looks_104 : zD prog_11_method_57_code 104 (.iaload) 1 105 := ⟨by decide +kernel, rfl⟩
theorem d_9_looks_105 : zD prog_11_method_57_code 105 (.iastore) 1 106 := ⟨by decide +kernel, rfl⟩
theorem d_9_looks_106 : zD prog_11_method_57_code 106 (.aload_n 0) 1 107 := ⟨by decide +kernel, rfl⟩
theorem d_9_looks_107 : zD prog_11_method_57_code 107 (.getfield 104) 3 110 := ⟨by decide +kernel, rfl⟩
theorem d_9_looks_110 : zD prog_11_method_57_code 110 (.iconst 4) 1 111 := ⟨by decide +kernel, rfl⟩
theorem d_9_looks_111 : zD prog_11_method_57_code 111 (.aload_n 0) 1 112 := ⟨by decide +kernel, rfl⟩
theorem d_9_looks_112 : zD prog_11_method_57_code 112 (.getfield 113) 3 115 := ⟨by decide +kernel, rfl⟩
theorem d_9_looks_115 : zD prog_11_method_57_code 115 (.bipush 33) 2 117 := ⟨by decide +kernel, rfl⟩
theorem d_9_looks_117 : zD prog_11_method_57_code 117 (.iaload) 1 118 := ⟨by decide +kernel, rfl⟩
theorem d_9_looks_118 : zD prog_11_method_57_code 118 (.iastore) 1 119 := ⟨by decide +kernel, rfl⟩
theorem d_9_looks_119 : zD prog_11_method_57_code 119 (.aload_n 0) 1 120 := ⟨by decide +kernel, rfl⟩
theorem d_9_looks_120 : zD prog_11_method_57_code 120 (.getfield 104) 3 123 := ⟨by decide +kernel, rfl⟩
theorem d_9_looks_123 : zD prog_11_method_57_code 123 (.iconst 5) 1 124 := ⟨by decide +kernel, rfl⟩
theorem d_9_looks_124 : zD prog_11_method_57_code 124 (.aload_n 0) 1 125 := ⟨by decide +kernel, rfl⟩
theorem d_9_looks_125 : zD prog_11_method_57_code 125 (.iload_n 1) 1 126 := ⟨by decide +kernel, rfl⟩
theorem d_9_looks_126 : zD prog_11_method_57_code 126 (.invokevirtual 352) 3 129 := ⟨by decide +kernel, rfl⟩
theorem d_9_looks_129 : zD prog_11_method_57_code 129 (.invokestatic 355) 3 132 := ⟨by decide +kernel, rfl⟩
theorem d_9_looks_132 : zD prog_11_method_57_code 132 (.iastore) 1 133 := ⟨by decide +kernel, rfl⟩
theorem d_9_looks_133 : zD prog_11_method_57_code 133 (.aload_n 0) 1 134 := ⟨by decide +kernel, rfl⟩
theorem d_9_looks_134 : zD prog_11_method_57_code 134 (.getfield 104) 3 137 := ⟨by decide +kernel, rfl⟩
theorem d_9_looks_137 : zD prog_11_method_57_code 137 (.bipush 6) 2 139 := ⟨by decide +kernel, rfl⟩
theorem d_9_looks_139 : zD prog_11_method_57_code 139 (.iload_n 2) 1 140 := ⟨by decide +kernel, rfl⟩
theorem d_9_looks_140 : zD prog_11_method_57_code 140 (.invokestatic 355) 3 143 := ⟨by decide +kernel, rfl⟩
theorem d_9_looks_143 : zD prog_11_method_57_code 143 (.iastore) 1 144 := ⟨by decide +kernel, rfl⟩
theorem d_9_looks_144 : zD prog_11_method_57_code 144 (.aload_n 0) 1 145 := ⟨by decide +kernel, rfl⟩
theorem d_9_looks_145 : zD prog_11_method_57_code 145 (.getfield 104) 3 148 := ⟨by decide +kernel, rfl⟩
theorem d_9_looks_148 : zD prog_11_method_57_code 148 (.bipush 7) 2 150 := ⟨by decide +kernel, rfl⟩
theorem d_9_looks_150 : zD prog_11_method_57_code 150 (.iload_n 1) 1 151 := ⟨by decide +kernel, rfl⟩
theorem d_9_looks_151 : zD prog_11_method_57_code 151 (.iastore) 1 152 := ⟨by decide +kernel, rfl⟩
theorem d_9_looks_152 : zD prog_11_method_57_code 152 (.aload_n 0) 1 153 := ⟨by decide +kernel, rfl⟩
theorem d_9_looks_153 : zD prog_11_method_57_code 153 (.getfield 104) 3 156 := ⟨by decide +kernel, rfl⟩
theorem d_9_looks_156 : zD prog_11_method_57_code 156 (.bipush 8) 2 158 := ⟨by decide +kernel, rfl⟩
theorem d_9_looks_158 : zD prog_11_method_57_code 158 (.aload_n 0) 1 159 := ⟨by decide +kernel, rfl⟩
theorem d_9_looks_159 : zD prog_11_method_57_code 159 (.iconst 0) 1 160 := ⟨by decide +kernel, rfl⟩
theorem d_9_looks_160 : zD prog_11_method_57_code 160 (.invokevirtual 358) 3 163 := ⟨by decide +kernel, rfl⟩
theorem d_9_looks_163 : zD prog_11_method_57_code 163 (.invokestatic 355) 3 166 := ⟨by decide +kernel, rfl⟩
theorem d_9_looks_166 : zD prog_11_method_57_code 166 (.iastore) 1 167 := ⟨by decide +kernel, rfl⟩
theorem d_9_looks_167 : zD prog_11_method_57_code 167 (.return_) 1 168 := ⟨by decide +kernel, rfl⟩
theorem d_9_chanceOf_0 : zD prog_11_method_58_code 0 (.aload_n 0) 1 1 := ⟨by decide +kernel, rfl⟩
theorem d_9_chanceOf_1 : zD prog_11_method_58_code 1 (.iload_n 1) 1 2 := ⟨by decide +kernel, rfl⟩
theorem d_9_chanceOf_2 : zD prog_11_method_58_code 2 (.invokevirtual 361) 3 5 := ⟨by decide +kernel, rfl⟩
theorem d_9_chanceOf_5 : zD prog_11_method_58_code 5 (.aload_n 0) 1 6 := ⟨by decide +kernel, rfl⟩
theorem d_9_chanceOf_6 : zD prog_11_method_58_code 6 (.iload_n 2) 1 7 := ⟨by decide +kernel, rfl⟩
theorem d_9_chanceOf_7 : zD prog_11_method_58_code 7 (.iconst 0) 1 8 := ⟨by decide +kernel, rfl⟩
theorem d_9_chanceOf_8 : zD prog_11_method_58_code 8 (.invokevirtual 364) 3 11 := ⟨by decide +kernel, rfl⟩
theorem d_9_chanceOf_11 : zD prog_11_method_58_code 11 (.iconst 0) 1 12 := ⟨by decide +kernel, rfl⟩
theorem d_9_chanceOf_12 : zD prog_11_method_58_code 12 (.bipush 100) 2 14 := ⟨by decide +kernel, rfl⟩
theorem d_9_chanceOf_14 : zD prog_11_method_58_code 14 (.invokestatic 367) 3 17 := ⟨by decide +kernel, rfl⟩
theorem d_9_chanceOf_17 : zD prog_11_method_58_code 17 (.ireturn) 1 18 := ⟨by decide +kernel, rfl⟩
theorem d_9_rentsOf_0 : zD prog_11_method_59_code 0 (.aload_n 0) 1 1 := ⟨by decide +kernel, rfl⟩
theorem d_9_rentsOf_1 : zD prog_11_method_59_code 1 (.iload_n 1) 1 2 := ⟨by decide +kernel, rfl⟩
theorem d_9_rentsOf_2 : zD prog_11_method_59_code 2 (.invokevirtual 340) 3 5 := ⟨by decide +kernel, rfl⟩
theorem d_9_rentsOf_5 : zD prog_11_method_59_code 5 (.istore_n 2) 1 6 := ⟨by decide +kernel, rfl⟩
theorem d_9_rentsOf_6 : zD prog_11_method_59_code 6 (.iload_n 2) 1 7 := ⟨by decide +kernel, rfl⟩
theorem d_9_rentsOf_7 : zD prog_11_method_59_code 7 (.ifCond .ge 5) 3 10 := ⟨by decide +kernel, rfl⟩
theorem d_9_rentsOf_10 : zD prog_11_method_59_code 10 (.iconst 0) 1 11 := ⟨by decide +kernel, rfl⟩
theorem d_9_rentsOf_11 : zD prog_11_method_59_code 11 (.ireturn) 1 12 := ⟨by decide +kernel, rfl⟩
theorem d_9_rentsOf_12 : zD prog_11_method_59_code 12 (.aload_n 0) 1 13 := ⟨by decide +kernel, rfl⟩
theorem d_9_rentsOf_13 : zD prog_11_method_59_code 13 (.iload_n 2) 1 14 := ⟨by decide +kernel, rfl⟩
theorem d_9_rentsOf_14 : zD prog_11_method_59_code 14 (.invokevirtual 361) 3 17 := ⟨by decide +kernel, rfl⟩
theorem d_9_rentsOf_17 : zD prog_11_method_59_code 17 (.aload_n 0) 1 18 := ⟨by decide +kernel, rfl⟩
theorem d_9_rentsOf_18 : zD prog_11_method_59_code 18 (.getfield 104) 3 21 := ⟨by decide +kernel, rfl⟩
theorem d_9_rentsOf_21 : zD prog_11_method_59_code 21 (.iconst 0) 1 22 := ⟨by decide +kernel, rfl⟩
theorem d_9_rentsOf_22 : zD prog_11_method_59_code 22 (.aload_n 0) 1 23 := ⟨by decide +kernel, rfl⟩
theorem d_9_rentsOf_23 : zD prog_11_method_59_code 23 (.getfield 49) 3 26 := ⟨by decide +kernel, rfl⟩
theorem d_9_rentsOf_26 : zD prog_11_method_59_code 26 (.iconst 5) 1 27 := ⟨by decide +kernel, rfl⟩
theorem d_9_rentsOf_27 : zD prog_11_method_59_code 27 (.aload_n 0) 1 28 := ⟨by decide +kernel, rfl⟩
theorem d_9_rentsOf_28 : zD prog_11_method_59_code 28 (.getfield 233) 3 31 := ⟨by decide +kernel, rfl⟩
theorem d_9_rentsOf_31 : zD prog_11_method_59_code 31 (.imul) 1 32 := ⟨by decide +kernel, rfl⟩
theorem d_9_rentsOf_32 : zD prog_11_method_59_code 32 (.iload_n 1) 1 33 := ⟨by decide +kernel, rfl⟩
theorem d_9_rentsOf_33 : zD prog_11_method_59_code 33 (.iadd) 1 34 := ⟨by decide +kernel, rfl⟩
theorem d_9_rentsOf_34 : zD prog_11_method_59_code 34 (.iaload) 1 35 := ⟨by decide +kernel, rfl⟩
theorem d_9_rentsOf_35 : zD prog_11_method_59_code 35 (.iastore) 1 36 := ⟨by decide +kernel, rfl⟩
theorem d_9_rentsOf_36 : zD prog_11_method_59_code 36 (.aload_n 0) 1 37 := ⟨by decide +kernel, rfl⟩
theorem d_9_rentsOf_37 : zD prog_11_method_59_code 37 (.iconst 3) 1 38 := ⟨by decide +kernel, rfl⟩
theorem d_9_rentsOf_38 : zD prog_11_method_59_code 38 (.aload_n 0) 1 39 := ⟨by decide +kernel, rfl⟩
theorem d_9_rentsOf_39 : zD prog_11_method_59_code 39 (.getfield 104) 3 42 := ⟨by decide +kernel, rfl⟩
theorem d_9_rentsOf_42 : zD prog_11_method_59_code 42 (.iconst 0) 1 43 := ⟨by decide +kernel, rfl⟩
theorem d_9_rentsOf_43 : zD prog_11_method_59_code 43 (.iaload) 1 44 := ⟨by decide +kernel, rfl⟩
theorem d_9_rentsOf_44 : zD prog_11_method_59_code 44 (.invokevirtual 364) 3 47 := ⟨by decide +kernel, rfl⟩
theorem d_9_rentsOf_47 : zD prog_11_method_59_code 47 (.iconst 0) 1 48 := ⟨by decide +kernel, rfl⟩
theorem d_9_rentsOf_48 : zD prog_11_method_59_code 48 (.bipush 99) 2 50 := ⟨by decide +kernel, rfl⟩
theorem d_9_rentsOf_50 : zD prog_11_method_59_code 50 (.invokestatic 367) 3 53 := ⟨by decide +kernel, rfl⟩
theorem d_9_rentsOf_53 : zD prog_11_method_59_code 53 (.ireturn) 1 54 := ⟨by decide +kernel, rfl⟩
theorem d_9_whatDoes_0 : zD prog_11_method_60_code 0 (.aload_n 0) 1 1 := ⟨by decide +kernel, rfl⟩
theorem d_9_whatDoes_1 : zD prog_11_method_60_code 1 (.getfield 113) 3 4 := ⟨by decide +kernel, rfl⟩
theorem d_9_whatDoes_4 : zD prog_11_method_60_code 4 (.iload_n 1) 1 5 := ⟨by decide +kernel, rfl⟩
theorem d_9_whatDoes_5 : zD prog_11_method_60_code 5 (.iaload) 1 6 := ⟨by decide +kernel, rfl⟩
theorem d_9_whatDoes_6 : zD prog_11_method_60_code 6 (.iconst 2) 1 7 := ⟨by decide +kernel, rfl⟩
theorem d_9_whatDoes_7 : zD prog_11_method_60_code 7 (.if_icmp .ne 5) 3 10 := ⟨by decide +kernel, rfl⟩
theorem d_9_whatDoes_10 : zD prog_11_method_60_code 10 (.iconst 0) 1 11 := ⟨by decide +kernel, rfl⟩
theorem d_9_whatDoes_11 : zD prog_11_method_60_code 11 (.ireturn) 1 12 := ⟨by decide +kernel, rfl⟩
theorem d_9_whatDoes_12 : zD prog_11_method_60_code 12 (.aload_n 0) 1 13 := ⟨by decide +kernel, rfl⟩
theorem d_9_whatDoes_13 : zD prog_11_method_60_code 13 (.bipush 32) 2 15 := ⟨by decide +kernel, rfl⟩
theorem d_9_whatDoes_15 : zD prog_11_method_60_code 15 (.aload_n 0) 1 16 := ⟨by decide +kernel, rfl⟩
theorem d_9_whatDoes_16 : zD prog_11_method_60_code 16 (.getfield 113) 3 19 := ⟨by decide +kernel, rfl⟩
theorem d_9_whatDoes_19 : zD prog_11_method_60_code 19 (.bipush 33) 2 21 := ⟨by decide +kernel, rfl⟩
theorem d_9_whatDoes_21 : zD prog_11_method_60_code 21 (.iaload) 1 22 := ⟨by decide +kernel, rfl⟩
theorem d_9_whatDoes_22 : zD prog_11_method_60_code 22 (.imul) 1 23 := ⟨by decide +kernel, rfl⟩
theorem d_9_whatDoes_23 : zD prog_11_method_60_code 23 (.iload_n 1) 1 24 := ⟨by decide +kernel, rfl⟩
theorem d_9_whatDoes_24 : zD prog_11_method_60_code 24 (.iadd) 1 25 := ⟨by decide +kernel, rfl⟩
theorem d_9_whatDoes_25 : zD prog_11_method_60_code 25 (.aload_n 0) 1 26 := ⟨by decide +kernel, rfl⟩
theorem d_9_whatDoes_26 : zD prog_11_method_60_code 26 (.iload_n 1) 1 27 := ⟨by decide +kernel, rfl⟩
theorem d_9_whatDoes_27 : zD prog_11_method_60_code 27 (.iconst 2) 1 28 := ⟨by decide +kernel, rfl⟩
theorem d_9_whatDoes_28 : zD prog_11_method_60_code 28 (.invokevirtual 370) 3 31 := ⟨by decide +kernel, rfl⟩
theorem d_9_whatDoes_31 : zD prog_11_method_60_code 31 (.invokevirtual 373) 3 34 := ⟨by decide +kernel, rfl⟩
theorem d_9_whatDoes_34 : zD prog_11_method_60_code 34 (.ifCond .eq 5) 3 37 := ⟨by decide +kernel, rfl⟩
theorem d_9_whatDoes_37 : zD prog_11_method_60_code 37 (.iconst 2) 1 38 := ⟨by decide +kernel, rfl⟩
theorem d_9_whatDoes_38 : zD prog_11_method_60_code 38 (.ireturn) 1 39 := ⟨by decide +kernel, rfl⟩
theorem d_9_whatDoes_39 : zD prog_11_method_60_code 39 (.aload_n 0) 1 40 := ⟨by decide +kernel, rfl⟩
theorem d_9_whatDoes_40 : zD prog_11_method_60_code 40 (.getfield 113) 3 43 := ⟨by decide +kernel, rfl⟩
theorem d_9_whatDoes_43 : zD prog_11_method_60_code 43 (.iload_n 1) 1 44 := ⟨by decide +kernel, rfl⟩
theorem d_9_whatDoes_44 : zD prog_11_method_60_code 44 (.iaload) 1 45 := ⟨by decide +kernel, rfl⟩
theorem d_9_whatDoes_45 : zD prog_11_method_60_code 45 (.ifCond .ne 8) 3 48 := ⟨by decide +kernel, rfl⟩
theorem d_9_whatDoes_48 : zD prog_11_method_60_code 48 (.bipush 8) 2 50 := ⟨by decide +kernel, rfl⟩
theorem d_9_whatDoes_50 : zD prog_11_method_60_code 50 (.goto 5) 3 53 := ⟨by decide +kernel, rfl⟩
theorem d_9_whatDoes_53 : zD prog_11_method_60_code 53 (.bipush 16) 2 55 := ⟨by decide +kernel, rfl⟩
theorem d_9_whatDoes_55 : zD prog_11_method_60_code 55 (.istore_n 2) 1 56 := ⟨by decide +kernel, rfl⟩
theorem d_9_whatDoes_56 : zD prog_11_method_60_code 56 (.aload_n 0) 1 57 := ⟨by decide +kernel, rfl⟩
theorem d_9_whatDoes_57 : zD prog_11_method_60_code 57 (.bipush 32) 2 59 := ⟨by decide +kernel, rfl⟩
theorem d_9_whatDoes_59 : zD prog_11_method_60_code 59 (.aload_n 0) 1 60 := ⟨by decide +kernel, rfl⟩
theorem d_9_whatDoes_60 : zD prog_11_method_60_code 60 (.getfield 113) 3 63 := ⟨by decide +kernel, rfl⟩
theorem d_9_whatDoes_63 : zD prog_11_method_60_code 63 (.bipush 33) 2 65 := ⟨by decide +kernel, rfl⟩
theorem d_9_whatDoes_65 : zD prog_11_method_60_code 65 (.iaload) 1 66 := ⟨by decide +kernel, rfl⟩
theorem d_9_whatDoes_66 : zD prog_11_method_60_code 66 (.imul) 1 67 := ⟨by decide +kernel, rfl⟩
theorem d_9_whatDoes_67 : zD prog_11_method_60_code 67 (.iload_n 2) 1 68 := ⟨by decide +kernel, rfl⟩
theorem d_9_whatDoes_68 : zD prog_11_method_60_code 68 (.iadd) 1 69 := ⟨by decide +kernel, rfl⟩
theorem d_9_whatDoes_69 : zD prog_11_method_60_code 69 (.iload_n 1) 1 70 := ⟨by decide +kernel, rfl⟩
theorem d_9_whatDoes_70 : zD prog_11_method_60_code 70 (.iadd) 1 71 := ⟨by decide +kernel, rfl⟩
theorem d_9_whatDoes_71 : zD prog_11_method_60_code 71 (.aload_n 0) 1 72 := ⟨by decide +kernel, rfl⟩
theorem d_9_whatDoes_72 : zD prog_11_method_60_code 72 (.iload_n 1) 1 73 := ⟨by decide +kernel, rfl⟩
theorem d_9_whatDoes_73 : zD prog_11_method_60_code 73 (.aload_n 0) 1 74 := ⟨by decide +kernel, rfl⟩
theorem d_9_whatDoes_74 : zD prog_11_method_60_code 74 (.getfield 113) 3 77 := ⟨by decide +kernel, rfl⟩
theorem d_9_whatDoes_77 : zD prog_11_method_60_code 77 (.iload_n 1) 1 78 := ⟨by decide +kernel, rfl⟩
theorem d_9_whatDoes_78 : zD prog_11_method_60_code 78 (.iaload) 1 79 := ⟨by decide +kernel, rfl⟩
theorem d_9_whatDoes_79 : zD prog_11_method_60_code 79 (.ifCond .ne 7) 3 82 := ⟨by decide +kernel, rfl⟩
theorem d_9_whatDoes_82 : zD prog_11_method_60_code 82 (.iconst 0) 1 83 := ⟨by decide +kernel, rfl⟩
theorem d_9_whatDoes_83 : zD prog_11_method_60_code 83 (.goto 4) 3 86 := ⟨by decide +kernel, rfl⟩
theorem d_9_whatDoes_86 : zD prog_11_method_60_code 86 (.iconst 1) 1 87 := ⟨by decide +kernel, rfl⟩
theorem d_9_whatDoes_87 : zD prog_11_method_60_code 87 (.invokevirtual 370) 3 90 := ⟨by decide +kernel, rfl⟩
theorem d_9_whatDoes_90 : zD prog_11_method_60_code 90 (.invokevirtual 373) 3 93 := ⟨by decide +kernel, rfl⟩
theorem d_9_whatDoes_93 : zD prog_11_method_60_code 93 (.ifCond .eq 7) 3 96 := ⟨by decide +kernel, rfl⟩
theorem d_9_whatDoes_96 : zD prog_11_method_60_code 96 (.iconst 1) 1 97 := ⟨by decide +kernel, rfl⟩
theorem d_9_whatDoes_97 : zD prog_11_method_60_code 97 (.goto 4) 3 100 := ⟨by decide +kernel, rfl⟩
theorem d_9_whatDoes_100 : zD prog_11_method_60_code 100 (.iconst 0) 1 101 := ⟨by decide +kernel, rfl⟩
theorem d_9_whatDoes_101 : zD prog_11_method_60_code 101 (.ireturn) 1 102 := ⟨by decide +kernel, rfl⟩
theorem d_9_becomes_0 : zD prog_11_method_61_code 0 (.aload_n 0) 1 1 := ⟨by decide +kernel, rfl⟩
theorem d_9_becomes_1 : zD prog_11_method_61_code 1 (.getfield 113) 3 4 := ⟨by decide +kernel, rfl⟩
theorem d_9_becomes_4 : zD prog_11_method_61_code 4 (.iload_n 1) 1 5 := ⟨by decide +kernel, rfl⟩
theorem d_9_becomes_5 : zD prog_11_method_61_code 5 (.iload_n 2) 1 6 := ⟨by decide +kernel, rfl⟩
theorem d_9_becomes_6 : zD prog_11_method_61_code 6 (.iastore) 1 7 := ⟨by decide +kernel, rfl⟩
theorem d_9_becomes_7 : zD prog_11_method_61_code 7 (.aload_n 0) 1 8 := ⟨by decide +kernel, rfl⟩
theorem d_9_becomes_8 : zD prog_11_method_61_code 8 (.getfield 113) 3 11 := ⟨by decide +kernel, rfl⟩
theorem d_9_becomes_11 : zD prog_11_method_61_code 11 (.bipush 7) 2 13 := ⟨by decide +kernel, rfl⟩
theorem d_9_becomes_13 : zD prog_11_method_61_code 13 (.iload_n 1) 1 14 := ⟨by decide +kernel, rfl⟩
theorem d_9_becomes_14 : zD prog_11_method_61_code 14 (.iadd) 1 15 := ⟨by decide +kernel, rfl⟩
theorem d_9_becomes_15 : zD prog_11_method_61_code 15 (.iconst 0) 1 16 := ⟨by decide +kernel, rfl⟩
theorem d_9_becomes_16 : zD prog_11_method_61_code 16 (.iastore) 1 17 := ⟨by decide +kernel, rfl⟩
theorem d_9_becomes_17 : zD prog_11_method_61_code 17 (.iload_n 2) 1 18 := ⟨by decide +kernel, rfl⟩
theorem d_9_becomes_18 : zD prog_11_method_61_code 18 (.iconst 2) 1 19 := ⟨by decide +kernel, rfl⟩
theorem d_9_becomes_19 : zD prog_11_method_61_code 19 (.if_icmp .ne 19) 3 22 := ⟨by decide +kernel, rfl⟩
theorem d_9_becomes_22 : zD prog_11_method_61_code 22 (.aload_n 0) 1 23 := ⟨by decide +kernel, rfl⟩
theorem d_9_becomes_23 : zD prog_11_method_61_code 23 (.getfield 113) 3 26 := ⟨by decide +kernel, rfl⟩
theorem d_9_becomes_26 : zD prog_11_method_61_code 26 (.bipush 21) 2 28 := ⟨by decide +kernel, rfl⟩
theorem d_9_becomes_28 : zD prog_11_method_61_code 28 (.iload_n 1) 1 29 := ⟨by decide +kernel, rfl⟩
theorem d_9_becomes_29 : zD prog_11_method_61_code 29 (.iadd) 1 30 := ⟨by decide +kernel, rfl⟩
theorem d_9_becomes_30 : zD prog_11_method_61_code 30 (.aload_n 0) 1 31 := ⟨by decide +kernel, rfl⟩
theorem d_9_becomes_31 : zD prog_11_method_61_code 31 (.getfield 113) 3 34 := ⟨by decide +kernel, rfl⟩
theorem d_9_becomes_34 : zD prog_11_method_61_code 34 (.bipush 33) 2 36 := ⟨by decide +kernel, rfl⟩
theorem d_9_becomes_36 : zD prog_11_method_61_code 36 (.iaload) 1 37 := ⟨by decide +kernel, rfl⟩
theorem d_9_becomes_37 : zD prog_11_method_61_code 37 (.iastore) 1 38 := ⟨by decide +kernel, rfl⟩
theorem d_9_becomes_38 : zD prog_11_method_61_code 38 (.return_) 1 39 := ⟨by decide +kernel, rfl⟩
theorem d_9_does_0 : zD prog_11_method_62_code 0 (.aload_n 0) 1 1 := ⟨by decide +kernel, rfl⟩
theorem d_9_does_1 : zD prog_11_method_62_code 1 (.getfield 122) 3 4 := ⟨by decide +kernel, rfl⟩
theorem d_9_does_4 : zD prog_11_method_62_code 4 (.iload_n 1) 1 5 := ⟨by decide +kernel, rfl⟩
theorem d_9_does_5 : zD prog_11_method_62_code 5 (.iaload) 1 6 := ⟨by decide +kernel, rfl⟩
theorem d_9_does_6 : zD prog_11_method_62_code 6 (.iconst 2) 1 7 := ⟨by decide +kernel, rfl⟩
theorem d_9_does_7 : zD prog_11_method_62_code 7 (.if_icmp .ne 12) 3 10 := ⟨by decide +kernel, rfl⟩
theorem d_9_does_10 : zD prog_11_method_62_code 10 (.aload_n 0) 1 11 := ⟨by decide +kernel, rfl⟩
theorem d_9_does_11 : zD prog_11_method_62_code 11 (.iload_n 1) 1 12 := ⟨by decide +kernel, rfl⟩
theorem d_9_does_12 : zD prog_11_method_62_code 12 (.iconst 2) 1 13 := ⟨by decide +kernel, rfl⟩
theorem d_9_does_13 : zD prog_11_method_62_code 13 (.invokevirtual 376) 3 16 := ⟨by decide +kernel, rfl⟩
theorem d_9_does_16 : zD prog_11_method_62_code 16 (.goto 52) 3 19 := ⟨by decide +kernel, rfl⟩
theorem d_9_does_19 : zD prog_11_method_62_code 19 (.aload_n 0) 1 20 := ⟨by decide +kernel, rfl⟩
theorem d_9_does_20 : zD prog_11_method_62_code 20 (.getfield 122) 3 23 := ⟨by decide +kernel, rfl⟩
theorem d_9_does_23 : zD prog_11_method_62_code 23 (.iload_n 1) 1 24 := ⟨by decide +kernel, rfl⟩
theorem d_9_does_24 : zD prog_11_method_62_code 24 (.iaload) 1 25 := ⟨by decide +kernel, rfl⟩
theorem d_9_does_25 : zD prog_11_method_62_code 25 (.iconst 1) 1 26 := ⟨by decide +kernel, rfl⟩
theorem d_9_does_26 : zD prog_11_method_62_code 26 (.if_icmp .ne 19) 3 29 := ⟨by decide +kernel, rfl⟩
theorem d_9_does_29 : zD prog_11_method_62_code 29 (.aload_n 0) 1 30 := ⟨by decide +kernel, rfl⟩
theorem d_9_does_30 : zD prog_11_method_62_code 30 (.iload_n 1) 1 31 := ⟨by decide +kernel, rfl⟩
theorem d_9_does_31 : zD prog_11_method_62_code 31 (.iconst 1) 1 32 := ⟨by decide +kernel, rfl⟩
theorem d_9_does_32 : zD prog_11_method_62_code 32 (.aload_n 0) 1 33 := ⟨by decide +kernel, rfl⟩
theorem d_9_does_33 : zD prog_11_method_62_code 33 (.getfield 113) 3 36 := ⟨by decide +kernel, rfl⟩
theorem d_9_does_36 : zD prog_11_method_62_code 36 (.iload_n 1) 1 37 := ⟨by decide +kernel, rfl⟩
theorem d_9_does_37 : zD prog_11_method_62_code 37 (.iaload) 1 38 := ⟨by decide +kernel, rfl⟩
theorem d_9_does_38 : zD prog_11_method_62_code 38 (.isub) 1 39 := ⟨by decide +kernel, rfl⟩
theorem d_9_does_39 : zD prog_11_method_62_code 39 (.invokevirtual 376) 3 42 := ⟨by decide +kernel, rfl⟩
theorem d_9_does_42 : zD prog_11_method_62_code 42 (.goto 26) 3 45 := ⟨by decide +kernel, rfl⟩
theorem d_9_does_45 : zD prog_11_method_62_code 45 (.aload_n 0) 1 46 := ⟨by decide +kernel, rfl⟩
theorem d_9_does_46 : zD prog_11_method_62_code 46 (.getfield 113) 3 49 := ⟨by decide +kernel, rfl⟩
theorem d_9_does_49 : zD prog_11_method_62_code 49 (.iload_n 1) 1 50 := ⟨by decide +kernel, rfl⟩
theorem d_9_does_50 : zD prog_11_method_62_code 50 (.iaload) 1 51 := ⟨by decide +kernel, rfl⟩
theorem d_9_does_51 : zD prog_11_method_62_code 51 (.iconst 1) 1 52 := ⟨by decide +kernel, rfl⟩
theorem d_9_does_52 : zD prog_11_method_62_code 52 (.if_icmp .ne 16) 3 55 := ⟨by decide +kernel, rfl⟩
theorem d_9_does_55 : zD prog_11_method_62_code 55 (.aload_n 0) 1 56 := ⟨by decide +kernel, rfl⟩
theorem d_9_does_56 : zD prog_11_method_62_code 56 (.getfield 113) 3 59 := ⟨by decide +kernel, rfl⟩
theorem d_9_does_59 : zD prog_11_method_62_code 59 (.bipush 7) 2 61 := ⟨by decide +kernel, rfl⟩
theorem d_9_does_61 : zD prog_11_method_62_code 61 (.iload_n 1) 1 62 := ⟨by decide +kernel, rfl⟩
theorem d_9_does_62 : zD prog_11_method_62_code 62 (.iadd) 1 63 := ⟨by decide +kernel, rfl⟩
theorem d_9_does_63 : zD prog_11_method_62_code 63 (.dup2) 1 64 := ⟨by decide +kernel, rfl⟩
theorem d_9_does_64 : zD prog_11_method_62_code 64 (.iaload) 1 65 := ⟨by decide +kernel, rfl⟩
theorem d_9_does_65 : zD prog_11_method_62_code 65 (.iconst 1) 1 66 := ⟨by decide +kernel, rfl⟩
theorem d_9_does_66 : zD prog_11_method_62_code 66 (.iadd) 1 67 := ⟨by decide +kernel, rfl⟩
theorem d_9_does_67 : zD prog_11_method_62_code 67 (.iastore) 1 68 := ⟨by decide +kernel, rfl⟩
theorem d_9_does_68 : zD prog_11_method_62_code 68 (.return_) 1 69 := ⟨by decide +kernel, rfl⟩
theorem d_9_yearGoes_0 : zD prog_11_method_63_code 0 (.iconst 0) 1 1 := ⟨by decide +kernel, rfl⟩
theorem d_9_yearGoes_1 : zD prog_11_method_63_code 1 (.istore_n 1) 1 2 := ⟨by decide +kernel, rfl⟩
theorem d_9_yearGoes_2 : zD prog_11_method_63_code 2 (.iload_n 1) 1 3 := ⟨by decide +kernel, rfl⟩
theorem d_9_yearGoes_3 : zD prog_11_method_63_code 3 (.aload_n 0) 1 4 := ⟨by decide +kernel, rfl⟩
theorem d_9_yearGoes_4 : zD prog_11_method_63_code 4 (.getfield 46) 3 7 := ⟨by decide +kernel, rfl⟩
theorem d_9_yearGoes_7 : zD prog_11_method_63_code 7 (.aload_n 0) 1 8 := ⟨by decide +kernel, rfl⟩
theorem d_9_yearGoes_8 : zD prog_11_method_63_code 8 (.getfield 233) 3 11 := ⟨by decide +kernel, rfl⟩
theorem d_9_yearGoes_11 : zD prog_11_method_63_code 11 (.iaload) 1 12 := ⟨by decide +kernel, rfl⟩
theorem d_9_yearGoes_12 : zD prog_11_method_63_code 12 (.if_icmp .ge 31) 3 15 := ⟨by decide +kernel, rfl⟩
theorem d_9_yearGoes_15 : zD prog_11_method_63_code 15 (.aload_n 0) 1 16 := ⟨by decide +kernel, rfl⟩
theorem d_9_yearGoes_16 : zD prog_11_method_63_code 16 (.getfield 119) 3 19 := ⟨by decide +kernel, rfl⟩
theorem d_9_yearGoes_19 : zD prog_11_method_63_code 19 (.iload_n 1) 1 20 := ⟨by decide +kernel, rfl⟩
theorem d_9_yearGoes_20 : zD prog_11_method_63_code 20 (.aload_n 0) 1 21 := ⟨by decide +kernel, rfl⟩
theorem d_9_yearGoes_21 : zD prog_11_method_63_code 21 (.iload_n 1) 1 22 := ⟨by decide +kernel, rfl⟩
theorem d_9_yearGoes_22 : zD prog_11_method_63_code 22 (.invokevirtual 340) 3 25 := ⟨by decide +kernel, rfl⟩
theorem d_9_yearGoes_25 : zD prog_11_method_63_code 25 (.iastore) 1 26 := ⟨by decide +kernel, rfl⟩
theorem d_9_yearGoes_26 : zD prog_11_method_63_code 26 (.aload_n 0) 1 27 := ⟨by decide +kernel, rfl⟩
theorem d_9_yearGoes_27 : zD prog_11_method_63_code 27 (.getfield 116) 3 30 := ⟨by decide +kernel, rfl⟩
theorem d_9_yearGoes_30 : zD prog_11_method_63_code 30 (.iload_n 1) 1 31 := ⟨by decide +kernel, rfl⟩
theorem d_9_yearGoes_31 : zD prog_11_method_63_code 31 (.aload_n 0) 1 32 := ⟨by decide +kernel, rfl⟩
theorem d_9_yearGoes_32 : zD prog_11_method_63_code 32 (.iload_n 1) 1 33 := ⟨by decide +kernel, rfl⟩
theorem d_9_yearGoes_33 : zD prog_11_method_63_code 33 (.invokevirtual 379) 3 36 := ⟨by decide +kernel, rfl⟩
theorem d_9_yearGoes_36 : zD prog_11_method_63_code 36 (.iastore) 1 37 := ⟨by decide +kernel, rfl⟩
theorem d_9_yearGoes_37 : zD prog_11_method_63_code 37 (.iinc 1 1) 3 40 := ⟨by decide +kernel, rfl⟩
theorem d_9_yearGoes_40 : zD prog_11_method_63_code 40 (.goto (-38)) 3 43 := ⟨by decide +kernel, rfl⟩
theorem d_9_yearGoes_43 : zD prog_11_method_63_code 43 (.iconst 0) 1 44 := ⟨by decide +kernel, rfl⟩
theorem d_9_yearGoes_44 : zD prog_11_method_63_code 44 (.istore_n 1) 1 45 := ⟨by decide +kernel, rfl⟩
theorem d_9_yearGoes_45 : zD prog_11_method_63_code 45 (.iload_n 1) 1 46 := ⟨by decide +kernel, rfl⟩
theorem d_9_yearGoes_46 : zD prog_11_method_63_code 46 (.aload_n 0) 1 47 := ⟨by decide +kernel, rfl⟩
theorem d_9_yearGoes_47 : zD prog_11_method_63_code 47 (.getfield 55) 3 50 := ⟨by decide +kernel, rfl⟩
theorem d_9_yearGoes_50 : zD prog_11_method_63_code 50 (.aload_n 0) 1 51 := ⟨by decide +kernel, rfl⟩
theorem d_9_yearGoes_51 : zD prog_11_method_63_code 51 (.getfield 233) 3 54 := ⟨by decide +kernel, rfl⟩
theorem d_9_yearGoes_54 : zD prog_11_method_63_code 54 (.iaload) 1 55 := ⟨by decide +kernel, rfl⟩
theorem d_9_yearGoes_55 : zD prog_11_method_63_code 55 (.if_icmp .ge 20) 3 58 := ⟨by decide +kernel, rfl⟩
theorem d_9_yearGoes_58 : zD prog_11_method_63_code 58 (.aload_n 0) 1 59 := ⟨by decide +kernel, rfl⟩
theorem d_9_yearGoes_59 : zD prog_11_method_63_code 59 (.getfield 122) 3 62 := ⟨by decide +kernel, rfl⟩
theorem d_9_yearGoes_62 : zD prog_11_method_63_code 62 (.iload_n 1) 1 63 := ⟨by decide +kernel, rfl⟩
theorem d_9_yearGoes_63 : zD prog_11_method_63_code 63 (.aload_n 0) 1 64 := ⟨by decide +kernel, rfl⟩
theorem d_9_yearGoes_64 : zD prog_11_method_63_code 64 (.iload_n 1) 1 65 := ⟨by decide +kernel, rfl⟩
theorem d_9_yearGoes_65 : zD prog_11_method_63_code 65 (.invokevirtual 382) 3 68 := ⟨by decide +kernel, rfl⟩
theorem d_9_yearGoes_68 : zD prog_11_method_63_code 68 (.iastore) 1 69 := ⟨by decide +kernel, rfl⟩
theorem d_9_yearGoes_69 : zD prog_11_method_63_code 69 (.iinc 1 1) 3 72 := ⟨by decide +kernel, rfl⟩
theorem d_9_yearGoes_72 : zD prog_11_method_63_code 72 (.goto (-27)) 3 75 := ⟨by decide +kernel, rfl⟩
theorem d_9_yearGoes_75 : zD prog_11_method_63_code 75 (.iconst 0) 1 76 := ⟨by decide +kernel, rfl⟩
theorem d_9_yearGoes_76 : zD prog_11_method_63_code 76 (.istore_n 1) 1 77 := ⟨by decide +kernel, rfl⟩
theorem d_9_yearGoes_77 : zD prog_11_method_63_code 77 (.iload_n 1) 1 78 := ⟨by decide +kernel, rfl⟩
theorem d_9_yearGoes_78 : zD prog_11_method_63_code 78 (.aload_n 0) 1 79 := ⟨by decide +kernel, rfl⟩
theorem d_9_yearGoes_79 : zD prog_11_method_63_code 79 (.getfield 46) 3 82 := ⟨by decide +kernel, rfl⟩
theorem d_9_yearGoes_82 : zD prog_11_method_63_code 82 (.aload_n 0) 1 83 := ⟨by decide +kernel, rfl⟩
theorem d_9_yearGoes_83 : zD prog_11_method_63_code 83 (.getfield 233) 3 86 := ⟨by decide +kernel, rfl⟩
theorem d_9_yearGoes_86 : zD prog_11_method_63_code 86 (.iaload) 1 87 := ⟨by decide +kernel, rfl⟩
theorem d_9_yearGoes_87 : zD prog_11_method_63_code 87 (.if_icmp .ge 41) 3 90 := ⟨by decide +kernel, rfl⟩
theorem d_9_yearGoes_90 : zD prog_11_method_63_code 90 (.aload_n 0) 1 91 := ⟨by decide +kernel, rfl⟩
theorem d_9_yearGoes_91 : zD prog_11_method_63_code 91 (.getfield 119) 3 94 := ⟨by decide +kernel, rfl⟩
theorem d_9_yearGoes_94 : zD prog_11_method_63_code 94 (.iload_n 1) 1 95 := ⟨by decide +kernel, rfl⟩
theorem d_9_yearGoes_95 : zD prog_11_method_63_code 95 (.iaload) 1 96 := ⟨by decide +kernel, rfl⟩
theorem d_9_yearGoes_96 : zD prog_11_method_63_code 96 (.ifCond .lt 26) 3 99 := ⟨by decide +kernel, rfl⟩
theorem d_9_yearGoes_99 : zD prog_11_method_63_code 99 (.aload_n 0) 1 100 := ⟨by decide +kernel, rfl⟩
theorem d_9_yearGoes_100 : zD prog_11_method_63_code 100 (.getfield 113) 3 103 := ⟨by decide +kernel, rfl⟩
theorem d_9_yearGoes_103 : zD prog_11_method_63_code 103 (.bipush 14) 2 105 := ⟨by decide +kernel, rfl⟩
theorem d_9_yearGoes_105 : zD prog_11_method_63_code 105 (.aload_n 0) 1 106 := ⟨by decide +kernel, rfl⟩
theorem d_9_yearGoes_106 : zD prog_11_method_63_code 106 (.getfield 119) 3 109 := ⟨by decide +kernel, rfl⟩
theorem d_9_yearGoes_109 : zD prog_11_method_63_code 109 (.iload_n 1) 1 110 := ⟨by decide +kernel, rfl⟩
theorem d_9_yearGoes_110 : zD prog_11_method_63_code 110 (.iaload) 1 111 := ⟨by decide +kernel, rfl⟩
theorem d_9_yearGoes_111 : zD prog_11_method_63_code 111 (.iadd) 1 112 := ⟨by decide +kernel, rfl⟩
theorem d_9_yearGoes_112 : zD prog_11_method_63_code 112 (.dup2) 1 113 := ⟨by decide +kernel, rfl⟩
theorem d_9_yearGoes_113 : zD prog_11_method_63_code 113 (.iaload) 1 114 := ⟨by decide +kernel, rfl⟩
theorem d_9_yearGoes_114 : zD prog_11_method_63_code 114 (.aload_n 0) 1 115 := ⟨by decide +kernel, rfl⟩
theorem d_9_yearGoes_115 : zD prog_11_method_63_code 115 (.getfield 116) 3 118 := ⟨by decide +kernel, rfl⟩
theorem d_9_yearGoes_118 : zD prog_11_method_63_code 118 (.iload_n 1) 1 119 := ⟨by decide +kernel, rfl⟩
theorem d_9_yearGoes_119 : zD prog_11_method_63_code 119 (.iaload) 1 120 := ⟨by decide +kernel, rfl⟩
theorem d_9_yearGoes_120 : zD prog_11_method_63_code 120 (.iadd) 1 121 := ⟨by decide +kernel, rfl⟩
theorem d_9_yearGoes_121 : zD prog_11_method_63_code 121 (.iastore) 1 122 := ⟨by decide +kernel, rfl⟩
theorem d_9_yearGoes_122 : zD prog_11_method_63_code 122 (.iinc 1 1) 3 125 := ⟨by decide +kernel, rfl⟩
theorem d_9_yearGoes_125 : zD prog_11_method_63_code 125 (.goto (-48)) 3 128 := ⟨by decide +kernel, rfl⟩
theorem d_9_yearGoes_128 : zD prog_11_method_63_code 128 (.iconst 0) 1 129 := ⟨by decide +kernel, rfl⟩
theorem d_9_yearGoes_129 : zD prog_11_method_63_code 129 (.istore_n 1) 1 130 := ⟨by decide +kernel, rfl⟩
theorem d_9_yearGoes_130 : zD prog_11_method_63_code 130 (.iload_n 1) 1 131 := ⟨by decide +kernel, rfl⟩
theorem d_9_yearGoes_131 : zD prog_11_method_63_code 131 (.aload_n 0) 1 132 := ⟨by decide +kernel, rfl⟩
theorem d_9_yearGoes_132 : zD prog_11_method_63_code 132 (.getfield 55) 3 135 := ⟨by decide +kernel, rfl⟩
theorem d_9_yearGoes_135 : zD prog_11_method_63_code 135 (.aload_n 0) 1 136 := ⟨by decide +kernel, rfl⟩
theorem d_9_yearGoes_136 : zD prog_11_method_63_code 136 (.getfield 233) 3 139 := ⟨by decide +kernel, rfl⟩
theorem d_9_yearGoes_139 : zD prog_11_method_63_code 139 (.iaload) 1 140 := ⟨by decide +kernel, rfl⟩
theorem d_9_yearGoes_140 : zD prog_11_method_63_code 140 (.if_icmp .ge 14) 3 143 := ⟨by decide +kernel, rfl⟩
theorem d_9_yearGoes_143 : zD prog_11_method_63_code 143 (.aload_n 0) 1 144 := ⟨by decide +kernel, rfl⟩
theorem d_9_yearGoes_144 : zD prog_11_method_63_code 144 (.iload_n 1) 1 145 := ⟨by decide +kernel, rfl⟩
theorem d_9_yearGoes_145 : zD prog_11_method_63_code 145 (.invokevirtual 385) 3 148 := ⟨by decide +kernel, rfl⟩
theorem d_9_yearGoes_148 : zD prog_11_method_63_code 148 (.iinc 1 1) 3 151 := ⟨by decide +kernel, rfl⟩
theorem d_9_yearGoes_151 : zD prog_11_method_63_code 151 (.goto (-21)) 3 154 := ⟨by decide +kernel, rfl⟩
theorem d_9_yearGoes_154 : zD prog_11_method_63_code 154 (.aload_n 0) 1 155 := ⟨by decide +kernel, rfl⟩
theorem d_9_yearGoes_155 : zD prog_11_method_63_code 155 (.getfield 113) 3 158 := ⟨by decide +kernel, rfl⟩
theorem d_9_yearGoes_158 : zD prog_11_method_63_code 158 (.bipush 33) 2 160 := ⟨by decide +kernel, rfl⟩
theorem d_9_yearGoes_160 : zD prog_11_method_63_code 160 (.dup2) 1 161 := ⟨by decide +kernel, rfl⟩
theorem d_9_yearGoes_161 : zD prog_11_method_63_code 161 (.iaload) 1 162 := ⟨by decide +kernel, rfl⟩
theorem d_9_yearGoes_162 : zD prog_11_method_63_code 162 (.iconst 1) 1 163 := ⟨by decide +kernel, rfl⟩
theorem d_9_yearGoes_163 : zD prog_11_method_63_code 163 (.iadd) 1 164 := ⟨by decide +kernel, rfl⟩
theorem d_9_yearGoes_164 : zD prog_11_method_63_code 164 (.iastore) 1 165 := ⟨by decide +kernel, rfl⟩
theorem d_9_yearGoes_165 : zD prog_11_method_63_code 165 (.return_) 1 166 := ⟨by decide +kernel, rfl⟩
theorem d_9_goes_0 : zD prog_11_method_64_code 0 (.iconst 0) 1 1 := ⟨by decide +kernel, rfl⟩
theorem d_9_goes_1 : zD prog_11_method_64_code 1 (.istore_n 2) 1 2 := ⟨by decide +kernel, rfl⟩
theorem d_9_goes_2 : zD prog_11_method_64_code 2 (.iload_n 2) 1 3 := ⟨by decide +kernel, rfl⟩
theorem d_9_goes_3 : zD prog_11_method_64_code 3 (.iload_n 1) 1 4 := ⟨by decide +kernel, rfl⟩
theorem d_9_goes_4 : zD prog_11_method_64_code 4 (.if_icmp .ge 13) 3 7 := ⟨by decide +kernel, rfl⟩
theorem d_9_goes_7 : zD prog_11_method_64_code 7 (.aload_n 0) 1 8 := ⟨by decide +kernel, rfl⟩
theorem d_9_goes_8 : zD prog_11_method_64_code 8 (.invokevirtual 388) 3 11 := ⟨by decide +kernel, rfl⟩
theorem d_9_goes_11 : zD prog_11_method_64_code 11 (.iinc 2 1) 3 14 := ⟨by decide +kernel, rfl⟩
theorem d_9_goes_14 : zD prog_11_method_64_code 14 (.goto (-12)) 3 17 := ⟨by decide +kernel, rfl⟩
theorem d_9_goes_17 : zD prog_11_method_64_code 17 (.return_) 1 18 := ⟨by decide +kernel, rfl⟩
theorem d_9_house_0 : zD prog_11_method_65_code 0 (.aload_n 0) 1 1 := ⟨by decide +kernel, rfl⟩
theorem d_9_house_1 : zD prog_11_method_65_code 1 (.iload_n 1) 1 2 := ⟨by decide +kernel, rfl⟩
theorem d_9_house_2 : zD prog_11_method_65_code 2 (.invokevirtual 391) 3 5 := ⟨by decide +kernel, rfl⟩
theorem d_9_house_5 : zD prog_11_method_65_code 5 (.ifCond .ne 5) 3 8 := ⟨by decide +kernel, rfl⟩
theorem d_9_house_8 : zD prog_11_method_65_code 8 (.iconst (-1)) 1 9 := ⟨by decide +kernel, rfl⟩
theorem d_9_house_9 : zD prog_11_method_65_code 9 (.ireturn) 1 10 := ⟨by decide +kernel, rfl⟩
theorem d_9_house_10 : zD prog_11_method_65_code 10 (.aload_n 0) 1 11 := ⟨by decide +kernel, rfl⟩
theorem d_9_house_11 : zD prog_11_method_65_code 11 (.invokevirtual 325) 3 14 := ⟨by decide +kernel, rfl⟩
theorem d_9_house_14 : zD prog_11_method_65_code 14 (.iload_n 2) 1 15 := ⟨by decide +kernel, rfl⟩
theorem d_9_house_15 : zD prog_11_method_65_code 15 (.tableswitch 65 0 3 #[29, 43, 49, 59]) 29 44 := ⟨by decide +kernel, rfl⟩
theorem d_9_house_44 : zD prog_11_method_65_code 44 (.aload_n 0) 1 45 := ⟨by decide +kernel, rfl⟩
theorem d_9_house_45 : zD prog_11_method_65_code 45 (.getfield 49) 3 48 := ⟨by decide +kernel, rfl⟩
theorem d_9_house_48 : zD prog_11_method_65_code 48 (.iconst 5) 1 49 := ⟨by decide +kernel, rfl⟩
theorem d_9_house_49 : zD prog_11_method_65_code 49 (.aload_n 0) 1 50 := ⟨by decide +kernel, rfl⟩
theorem d_9_house_50 : zD prog_11_method_65_code 50 (.getfield 233) 3 53 := ⟨by decide +kernel, rfl⟩
theorem d_9_house_53 : zD prog_11_method_65_code 53 (.imul) 1 54 := ⟨by decide +kernel, rfl⟩
theorem d_9_house_54 : zD prog_11_method_65_code 54 (.iload_n 1) 1 55 := ⟨by decide +kernel, rfl⟩
theorem d_9_house_55 : zD prog_11_method_65_code 55 (.iadd) 1 56 := ⟨by decide +kernel, rfl⟩
theorem d_9_house_56 : zD prog_11_method_65_code 56 (.iaload) 1 57 := ⟨by decide +kernel, rfl⟩
theorem d_9_house_57 : zD prog_11_method_65_code 57 (.ireturn) 1 58 := ⟨by decide +kernel, rfl⟩
theorem d_9_house_58 : zD prog_11_method_65_code 58 (.aload_n 0) 1 59 := ⟨by decide +kernel, rfl⟩
theorem d_9_house_59 : zD prog_11_method_65_code 59 (.iload_n 1) 1 60 := ⟨by decide +kernel, rfl⟩
theorem d_9_house_60 : zD prog_11_method_65_code 60 (.invokevirtual 340) 3 63 := ⟨by decide +kernel, rfl⟩
theorem d_9_house_63 : zD prog_11_method_65_code 63 (.ireturn) 1 64 := ⟨by decide +kernel, rfl⟩
theorem d_9_house_64 : zD prog_11_method_65_code 64 (.aload_n 0) 1 65 := ⟨by decide +kernel, rfl⟩
theorem d_9_house_65 : zD prog_11_method_65_code 65 (.getfield 113) 3 68 := ⟨by decide +kernel, rfl⟩
theorem d_9_house_68 : zD prog_11_method_65_code 68 (.bipush 28) 2 70 := ⟨by decide +kernel, rfl⟩
theorem d_9_house_70 : zD prog_11_method_65_code 70 (.iload_n 1) 1 71 := ⟨by decide +kernel, rfl⟩
theorem d_9_house_71 : zD prog_11_method_65_code 71 (.iadd) 1 72 := ⟨by decide +kernel, rfl⟩
theorem d_9_house_72 : zD prog_11_method_65_code 72 (.iaload) 1 73 := ⟨by decide +kernel, rfl⟩
theorem d_9_house_73 : zD prog_11_method_65_code 73 (.ireturn) 1 74 := ⟨by decide +kernel, rfl⟩
theorem d_9_house_74 : zD prog_11_method_65_code 74 (.aload_n 0) 1 75 := ⟨by decide +kernel, rfl⟩
theorem d_9_house_75 : zD prog_11_method_65_code 75 (.iload_n 1) 1 76 := ⟨by decide +kernel, rfl⟩
theorem d_9_house_76 : zD prog_11_method_65_code 76 (.invokevirtual 379) 3 79 := ⟨by decide +kernel, rfl⟩
theorem d_9_house_79 : zD prog_11_method_65_code 79 (.ireturn) 1 80 := ⟨by decide +kernel, rfl⟩
theorem d_9_house_80 : zD prog_11_method_65_code 80 (.iconst (-1)) 1 81 := ⟨by decide +kernel, rfl⟩
theorem d_9_house_81 : zD prog_11_method_65_code 81 (.ireturn) 1 82 := ⟨by decide +kernel, rfl⟩
theorem d_9_person_0 : zD prog_11_method_66_code 0 (.aload_n 0) 1 1 := ⟨by decide +kernel, rfl⟩
theorem d_9_person_1 : zD prog_11_method_66_code 1 (.iload_n 1) 1 2 := ⟨by decide +kernel, rfl⟩
theorem d_9_person_2 : zD prog_11_method_66_code 2 (.invokevirtual 316) 3 5 := ⟨by decide +kernel, rfl⟩
theorem d_9_person_5 : zD prog_11_method_66_code 5 (.ifCond .ne 5) 3 8 := ⟨by decide +kernel, rfl⟩
theorem d_9_person_8 : zD prog_11_method_66_code 8 (.iconst (-1)) 1 9 := ⟨by decide +kernel, rfl⟩
theorem d_9_person_9 : zD prog_11_method_66_code 9 (.ireturn) 1 10 := ⟨by decide +kernel, rfl⟩
theorem d_9_person_10 : zD prog_11_method_66_code 10 (.aload_n 0) 1 11 := ⟨by decide +kernel, rfl⟩
theorem d_9_person_11 : zD prog_11_method_66_code 11 (.invokevirtual 325) 3 14 := ⟨by decide +kernel, rfl⟩
theorem d_9_person_14 : zD prog_11_method_66_code 14 (.iload_n 2) 1 15 := ⟨by decide +kernel, rfl⟩
theorem d_9_person_15 : zD prog_11_method_66_code 15 (.tableswitch 115 0 8 #[49, 55, 62, 72, 82, 88, 94, 101, 108]) 49 64 := ⟨by decide +kernel, rfl⟩
theorem d_9_person_64 : zD prog_11_method_66_code 64 (.aload_n 0) 1 65 := ⟨by decide +kernel, rfl⟩
theorem d_9_person_65 : zD prog_11_method_66_code 65 (.iload_n 1) 1 66 := ⟨by decide +kernel, rfl⟩
theorem d_9_person_66 : zD prog_11_method_66_code 66 (.invokevirtual 349) 3 69 := ⟨by decide +kernel, rfl⟩
theorem d_9_person_69 : zD prog_11_method_66_code 69 (.ireturn) 1 70 := ⟨by decide +kernel, rfl⟩
theorem d_9_person_70 : zD prog_11_method_66_code 70 (.aload_n 0) 1 71 := ⟨by decide +kernel, rfl⟩
theorem d_9_person_71 : zD prog_11_method_66_code 71 (.getfield 113) 3 74 := ⟨by decide +kernel, rfl⟩
theorem d_9_person_74 : zD prog_11_method_66_code 74 (.iload_n 1) 1 75 := ⟨by decide +kernel, rfl⟩
theorem d_9_person_75 : zD prog_11_method_66_code 75 (.iaload) 1 76 := ⟨by decide +kernel, rfl⟩
theorem d_9_person_76 : zD prog_11_method_66_code 76 (.ireturn) 1 77 := ⟨by decide +kernel, rfl⟩
theorem d_9_person_77 : zD prog_11_method_66_code 77 (.aload_n 0) 1 78 := ⟨by decide +kernel, rfl⟩
theorem d_9_person_78 : zD prog_11_method_66_code 78 (.getfield 113) 3 81 := ⟨by decide +kernel, rfl⟩
theorem d_9_person_81 : zD prog_11_method_66_code 81 (.bipush 7) 2 83 := ⟨by decide +kernel, rfl⟩
theorem d_9_person_83 : zD prog_11_method_66_code 83 (.iload_n 1) 1 84 := ⟨by decide +kernel, rfl⟩
theorem d_9_person_84 : zD prog_11_method_66_code 84 (.iadd) 1 85 := ⟨by decide +kernel, rfl⟩
theorem d_9_person_85 : zD prog_11_method_66_code 85 (.iaload) 1 86 := ⟨by decide +kernel, rfl⟩
theorem d_9_person_86 : zD prog_11_method_66_code 86 (.ireturn) 1 87 := ⟨by decide +kernel, rfl⟩
theorem d_9_person_87 : zD prog_11_method_66_code 87 (.aload_n 0) 1 88 := ⟨by decide +kernel, rfl⟩
theorem d_9_person_88 : zD prog_11_method_66_code 88 (.getfield 113) 3 91 := ⟨by decide +kernel, rfl⟩
theorem d_9_person_91 : zD prog_11_method_66_code 91 (.bipush 14) 2 93 := ⟨by decide +kernel, rfl⟩
theorem d_9_person_93 : zD prog_11_method_66_code 93 (.iload_n 1) 1 94 := ⟨by decide +kernel, rfl⟩
theorem d_9_person_94 : zD prog_11_method_66_code 94 (.iadd) 1 95 := ⟨by decide +kernel, rfl⟩
theorem d_9_person_95 : zD prog_11_method_66_code 95 (.iaload) 1 96 := ⟨by decide +kernel, rfl⟩
theorem d_9_person_96 : zD prog_11_method_66_code 96 (.ireturn) 1 97 := ⟨by decide +kernel, rfl⟩
theorem d_9_person_97 : zD prog_11_method_66_code 97 (.aload_n 0) 1 98 := ⟨by decide +kernel, rfl⟩
theorem d_9_person_98 : zD prog_11_method_66_code 98 (.iload_n 1) 1 99 := ⟨by decide +kernel, rfl⟩
theorem d_9_person_99 : zD prog_11_method_66_code 99 (.invokevirtual 352) 3 102 := ⟨by decide +kernel, rfl⟩
theorem d_9_person_102 : zD prog_11_method_66_code 102 (.ireturn) 1 103 := ⟨by decide +kernel, rfl⟩
theorem d_9_person_103 : zD prog_11_method_66_code 103 (.aload_n 0) 1 104 := ⟨by decide +kernel, rfl⟩
theorem d_9_person_104 : zD prog_11_method_66_code 104 (.iload_n 1) 1 105 := ⟨by decide +kernel, rfl⟩
theorem d_9_person_105 : zD prog_11_method_66_code 105 (.invokevirtual 346) 3 108 := ⟨by decide +kernel, rfl⟩
theorem d_9_person_108 : zD prog_11_method_66_code 108 (.ireturn) 1 109 := ⟨by decide +kernel, rfl⟩
theorem d_9_person_109 : zD prog_11_method_66_code 109 (.aload_n 0) 1 110 := ⟨by decide +kernel, rfl⟩
theorem d_9_person_110 : zD prog_11_method_66_code 110 (.iload_n 1) 1 111 := ⟨by decide +kernel, rfl⟩
theorem d_9_person_111 : zD prog_11_method_66_code 111 (.iconst 0) 1 112 := ⟨by decide +kernel, rfl⟩
theorem d_9_person_112 : zD prog_11_method_66_code 112 (.invokevirtual 370) 3 115 := ⟨by decide +kernel, rfl⟩
theorem d_9_person_115 : zD prog_11_method_66_code 115 (.ireturn) 1 116 := ⟨by decide +kernel, rfl⟩
theorem d_9_person_116 : zD prog_11_method_66_code 116 (.aload_n 0) 1 117 := ⟨by decide +kernel, rfl⟩
theorem d_9_person_117 : zD prog_11_method_66_code 117 (.iload_n 1) 1 118 := ⟨by decide +kernel, rfl⟩
theorem d_9_person_118 : zD prog_11_method_66_code 118 (.iconst 1) 1 119 := ⟨by decide +kernel, rfl⟩
theorem d_9_person_119 : zD prog_11_method_66_code 119 (.invokevirtual 370) 3 122 := ⟨by decide +kernel, rfl⟩
theorem d_9_person_122 : zD prog_11_method_66_code 122 (.ireturn) 1 123 := ⟨by decide +kernel, rfl⟩
theorem d_9_person_123 : zD prog_11_method_66_code 123 (.aload_n 0) 1 124 := ⟨by decide +kernel, rfl⟩
theorem d_9_person_124 : zD prog_11_method_66_code 124 (.iload_n 1) 1 125 := ⟨by decide +kernel, rfl⟩
theorem d_9_person_125 : zD prog_11_method_66_code 125 (.iconst 2) 1 126 := ⟨by decide +kernel, rfl⟩
theorem d_9_person_126 : zD prog_11_method_66_code 126 (.invokevirtual 370) 3 129 := ⟨by decide +kernel, rfl⟩
theorem d_9_person_129 : zD prog_11_method_66_code 129 (.ireturn) 1 130 := ⟨by decide +kernel, rfl⟩
theorem d_9_person_130 : zD prog_11_method_66_code 130 (.iconst (-1)) 1 131 := ⟨by decide +kernel, rfl⟩
theorem d_9_person_131 : zD prog_11_method_66_code 131 (.ireturn) 1 132 := ⟨by decide +kernel, rfl⟩
theorem d_9_records_0 : zD prog_11_method_67_code 0 (.aload_n 0) 1 1 := ⟨by decide +kernel, rfl⟩
theorem d_9_records_1 : zD prog_11_method_67_code 1 (.getfield 251) 3 4 := ⟨by decide +kernel, rfl⟩
theorem d_9_records_4 : zD prog_11_method_67_code 4 (.bipush 40) 2 6 := ⟨by decide +kernel, rfl⟩
theorem d_9_records_6 : zD prog_11_method_67_code 6 (.if_icmp .ne 43) 3 9 := ⟨by decide +kernel, rfl⟩
theorem d_9_records_9 : zD prog_11_method_67_code 9 (.iconst 0) 1 10 := ⟨by decide +kernel, rfl⟩
theorem d_9_records_10 : zD prog_11_method_67_code 10 (.istore_n 1) 1 11 := ⟨by decide +kernel, rfl⟩
theorem d_9_records_11 : zD prog_11_method_67_code 11 (.iload_n 1) 1 12 := ⟨by decide +kernel, rfl⟩
theorem d_9_records_12 : zD prog_11_method_67_code 12 (.sipush 1326) 3 15 := ⟨by decide +kernel, rfl⟩
theorem d_9_records_15 : zD prog_11_method_67_code 15 (.if_icmp .ge 24) 3 18 := ⟨by decide +kernel, rfl⟩
theorem d_9_records_18 : zD prog_11_method_67_code 18 (.aload_n 0) 1 19 := ⟨by decide +kernel, rfl⟩
theorem d_9_records_19 : zD prog_11_method_67_code 19 (.getfield 125) 3 22 := ⟨by decide +kernel, rfl⟩
theorem d_9_records_22 : zD prog_11_method_67_code 22 (.iload_n 1) 1 23 := ⟨by decide +kernel, rfl⟩
theorem d_9_records_23 : zD prog_11_method_67_code 23 (.aload_n 0) 1 24 := ⟨by decide +kernel, rfl⟩
theorem d_9_records_24 : zD prog_11_method_67_code 24 (.getfield 125) 3 27 := ⟨by decide +kernel, rfl⟩
theorem d_9_records_27 : zD prog_11_method_67_code 27 (.iload_n 1) 1 28 := ⟨by decide +kernel, rfl⟩
theorem d_9_records_28 : zD prog_11_method_67_code 28 (.bipush 34) 2 30 := ⟨by decide +kernel, rfl⟩
theorem d_9_records_30 : zD prog_11_method_67_code 30 (.iadd) 1 31 := ⟨by decide +kernel, rfl⟩
theorem d_9_records_31 : zD prog_11_method_67_code 31 (.iaload) 1 32 := ⟨by decide +kernel, rfl⟩
theorem d_9_records_32 : zD prog_11_method_67_code 32 (.iastore) 1 33 := ⟨by decide +kernel, rfl⟩
theorem d_9_records_33 : zD prog_11_method_67_code 33 (.iinc 1 1) 3 36 := ⟨by decide +kernel, rfl⟩
theorem d_9_records_36 : zD prog_11_method_67_code 36 (.goto (-25)) 3 39 := ⟨by decide +kernel, rfl⟩
theorem d_9_records_39 : zD prog_11_method_67_code 39 (.aload_n 0) 1 40 := ⟨by decide +kernel, rfl⟩
theorem d_9_records_40 : zD prog_11_method_67_code 40 (.dup) 1 41 := ⟨by decide +kernel, rfl⟩
theorem d_9_records_41 : zD prog_11_method_67_code 41 (.getfield 251) 3 44 := ⟨by decide +kernel, rfl⟩
theorem d_9_records_44 : zD prog_11_method_67_code 44 (.iconst 1) 1 45 := ⟨by decide +kernel, rfl⟩
theorem d_9_records_45 : zD prog_11_method_67_code 45 (.isub) 1 46 := ⟨by decide +kernel, rfl⟩
theorem d_9_records_46 : zD prog_11_method_67_code 46 (.putfield 251) 3 49 := ⟨by decide +kernel, rfl⟩
theorem d_9_records_49 : zD prog_11_method_67_code 49 (.iconst 0) 1 50 := ⟨by decide +kernel, rfl⟩
theorem d_9_records_50 : zD prog_11_method_67_code 50 (.istore_n 1) 1 51 := ⟨by decide +kernel, rfl⟩
theorem d_9_records_51 : zD prog_11_method_67_code 51 (.iload_n 1) 1 52 := ⟨by decide +kernel, rfl⟩
theorem d_9_records_52 : zD prog_11_method_67_code 52 (.bipush 34) 2 54 := ⟨by decide +kernel, rfl⟩
theorem d_9_records_54 : zD prog_11_method_67_code 54 (.if_icmp .ge 29) 3 57 := ⟨by decide +kernel, rfl⟩
theorem d_9_records_57 : zD prog_11_method_67_code 57 (.aload_n 0) 1 58 := ⟨by decide +kernel, rfl⟩
theorem d_9_records_58 : zD prog_11_method_67_code 58 (.getfield 125) 3 61 := ⟨by decide +kernel, rfl⟩
theorem d_9_records_61 : zD prog_11_method_67_code 61 (.bipush 34) 2 63 := ⟨by decide +kernel, rfl⟩
theorem d_9_records_63 : zD prog_11_method_67_code 63 (.aload_n 0) 1 64 := ⟨by decide +kernel, rfl⟩
theorem d_9_records_64 : zD prog_11_method_67_code 64 (.getfield 251) 3 67 := ⟨by decide +kernel, rfl⟩
theorem d_9_records_67 : zD prog_11_method_67_code 67 (.imul) 1 68 := ⟨by decide +kernel, rfl⟩
theorem d_9_records_68 : zD prog_11_method_67_code 68 (.iload_n 1) 1 69 := ⟨by decide +kernel, rfl⟩
theorem d_9_records_69 : zD prog_11_method_67_code 69 (.iadd) 1 70 := ⟨by decide +kernel, rfl⟩
theorem d_9_records_70 : zD prog_11_method_67_code 70 (.aload_n 0) 1 71 := ⟨by decide +kernel, rfl⟩
theorem d_9_records_71 : zD prog_11_method_67_code 71 (.getfield 110) 3 74 := ⟨by decide +kernel, rfl⟩
theorem d_9_records_74 : zD prog_11_method_67_code 74 (.iload_n 1) 1 75 := ⟨by decide +kernel, rfl⟩
theorem d_9_records_75 : zD prog_11_method_67_code 75 (.iaload) 1 76 := ⟨by decide +kernel, rfl⟩
theorem d_9_records_76 : zD prog_11_method_67_code 76 (.iastore) 1 77 := ⟨by decide +kernel, rfl⟩
theorem d_9_records_77 : zD prog_11_method_67_code 77 (.iinc 1 1) 3 80 := ⟨by decide +kernel, rfl⟩
theorem d_9_records_80 : zD prog_11_method_67_code 80 (.goto (-29)) 3 83 := ⟨by decide +kernel, rfl⟩
theorem d_9_records_83 : zD prog_11_method_67_code 83 (.aload_n 0) 1 84 := ⟨by decide +kernel, rfl⟩
theorem d_9_records_84 : zD prog_11_method_67_code 84 (.dup) 1 85 := ⟨by decide +kernel, rfl⟩
theorem d_9_records_85 : zD prog_11_method_67_code 85 (.getfield 251) 3 88 := ⟨by decide +kernel, rfl⟩
theorem d_9_records_88 : zD prog_11_method_67_code 88 (.iconst 1) 1 89 := ⟨by decide +kernel, rfl⟩
theorem d_9_records_89 : zD prog_11_method_67_code 89 (.iadd) 1 90 := ⟨by decide +kernel, rfl⟩
theorem d_9_records_90 : zD prog_11_method_67_code 90 (.putfield 251) 3 93 := ⟨by decide +kernel, rfl⟩
theorem d_9_records_93 : zD prog_11_method_67_code 93 (.aload_n 0) 1 94 := ⟨by decide +kernel, rfl⟩
theorem d_9_records_94 : zD prog_11_method_67_code 94 (.invokevirtual 163) 3 97 := ⟨by decide +kernel, rfl⟩
theorem d_9_records_97 : zD prog_11_method_67_code 97 (.return_) 1 98 := ⟨by decide +kernel, rfl⟩
theorem d_9_turns_0 : zD prog_11_method_68_code 0 (.aload_n 0) 1 1 := ⟨by decide +kernel, rfl⟩
theorem d_9_turns_1 : zD prog_11_method_68_code 1 (.invokevirtual 325) 3 4 := ⟨by decide +kernel, rfl⟩
theorem d_9_turns_4 : zD prog_11_method_68_code 4 (.aload_n 0) 1 5 := ⟨by decide +kernel, rfl⟩
theorem d_9_turns_5 : zD prog_11_method_68_code 5 (.iload_n 1) 1 6 := ⟨by decide +kernel, rfl⟩
theorem d_9_turns_6 : zD prog_11_method_68_code 6 (.iload_n 2) 1 7 := ⟨by decide +kernel, rfl⟩
theorem d_9_turns_7 : zD prog_11_method_68_code 7 (.invokevirtual 376) 3 10 := ⟨by decide +kernel, rfl⟩
theorem d_9_turns_10 : zD prog_11_method_68_code 10 (.aload_n 0) 1 11 := ⟨by decide +kernel, rfl⟩
theorem d_9_turns_11 : zD prog_11_method_68_code 11 (.invokevirtual 394) 3 14 := ⟨by decide +kernel, rfl⟩
theorem d_9_turns_14 : zD prog_11_method_68_code 14 (.iconst 1) 1 15 := ⟨by decide +kernel, rfl⟩
theorem d_9_turns_15 : zD prog_11_method_68_code 15 (.ireturn) 1 16 := ⟨by decide +kernel, rfl⟩
theorem d_9_send_0 : zD prog_11_method_69_code 0 (.aload_n 0) 1 1 := ⟨by decide +kernel, rfl⟩
theorem d_9_send_1 : zD prog_11_method_69_code 1 (.iload_n 1) 1 2 := ⟨by decide +kernel, rfl⟩
theorem d_9_send_2 : zD prog_11_method_69_code 2 (.iconst 0) 1 3 := ⟨by decide +kernel, rfl⟩
theorem d_9_send_3 : zD prog_11_method_69_code 3 (.invokevirtual 397) 3 6 := ⟨by decide +kernel, rfl⟩
theorem d_9_send_6 : zD prog_11_method_69_code 6 (.ifCond .eq 16) 3 9 := ⟨by decide +kernel, rfl⟩
theorem d_9_send_9 : zD prog_11_method_69_code 9 (.aload_n 0) 1 10 := ⟨by decide +kernel, rfl⟩
theorem d_9_send_10 : zD prog_11_method_69_code 10 (.iload_n 1) 1 11 := ⟨by decide +kernel, rfl⟩
theorem d_9_send_11 : zD prog_11_method_69_code 11 (.iconst 1) 1 12 := ⟨by decide +kernel, rfl⟩
theorem d_9_send_12 : zD prog_11_method_69_code 12 (.invokevirtual 400) 3 15 := ⟨by decide +kernel, rfl⟩
theorem d_9_send_15 : zD prog_11_method_69_code 15 (.ifCond .eq 7) 3 18 := ⟨by decide +kernel, rfl⟩
theorem d_9_send_18 : zD prog_11_method_69_code 18 (.iconst 1) 1 19 := ⟨by decide +kernel, rfl⟩
theorem d_9_send_19 : zD prog_11_method_69_code 19 (.goto 4) 3 22 := ⟨by decide +kernel, rfl⟩
theorem d_9_send_22 : zD prog_11_method_69_code 22 (.iconst 0) 1 23 := ⟨by decide +kernel, rfl⟩
theorem d_9_send_23 : zD prog_11_method_69_code 23 (.ireturn) 1 24 := ⟨by decide +kernel, rfl⟩
theorem d_9_call_0 : zD prog_11_method_70_code 0 (.aload_n 0) 1 1 := ⟨by decide +kernel, rfl⟩
theorem d_9_call_1 : zD prog_11_method_70_code 1 (.iload_n 1) 1 2 := ⟨by decide +kernel, rfl⟩
theorem d_9_call_2 : zD prog_11_method_70_code 2 (.iconst 1) 1 3 := ⟨by decide +kernel, rfl⟩
theorem d_9_call_3 : zD prog_11_method_70_code 3 (.invokevirtual 397) 3 6 := ⟨by decide +kernel, rfl⟩
theorem d_9_call_6 : zD prog_11_method_70_code 6 (.ifCond .eq 16) 3 9 := ⟨by decide +kernel, rfl⟩
theorem d_9_call_9 : zD prog_11_method_70_code 9 (.aload_n 0) 1 10 := ⟨by decide +kernel, rfl⟩
theorem d_9_call_10 : zD prog_11_method_70_code 10 (.iload_n 1) 1 11 := ⟨by decide +kernel, rfl⟩
theorem d_9_call_11 : zD prog_11_method_70_code 11 (.iconst 0) 1 12 := ⟨by decide +kernel, rfl⟩
theorem d_9_call_12 : zD prog_11_method_70_code 12 (.invokevirtual 400) 3 15 := ⟨by decide +kernel, rfl⟩
theorem d_9_call_15 : zD prog_11_method_70_code 15 (.ifCond .eq 7) 3 18 := ⟨by decide +kernel, rfl⟩
theorem d_9_call_18 : zD prog_11_method_70_code 18 (.iconst 1) 1 19 := ⟨by decide +kernel, rfl⟩
theorem d_9_call_19 : zD prog_11_method_70_code 19 (.goto 4) 3 22 := ⟨by decide +kernel, rfl⟩
theorem d_9_call_22 : zD prog_11_method_70_code 22 (.iconst 0) 1 23 := ⟨by decide +kernel, rfl⟩
theorem d_9_call_23 : zD prog_11_method_70_code 23 (.ireturn) 1 24 := ⟨by decide +kernel, rfl⟩
theorem d_9_bury_0 : zD prog_11_method_71_code 0 (.aload_n 0) 1 1 := ⟨by decide +kernel, rfl⟩
theorem d_9_bury_1 : zD prog_11_method_71_code 1 (.iload_n 1) 1 2 := ⟨by decide +kernel, rfl⟩
theorem d_9_bury_2 : zD prog_11_method_71_code 2 (.invokevirtual 316) 3 5 := ⟨by decide +kernel, rfl⟩
theorem d_9_bury_5 : zD prog_11_method_71_code 5 (.ifCond .eq 26) 3 8 := ⟨by decide +kernel, rfl⟩
theorem d_9_bury_8 : zD prog_11_method_71_code 8 (.aload_n 0) 1 9 := ⟨by decide +kernel, rfl⟩
theorem d_9_bury_9 : zD prog_11_method_71_code 9 (.getfield 110) 3 12 := ⟨by decide +kernel, rfl⟩
theorem d_9_bury_12 : zD prog_11_method_71_code 12 (.iload_n 1) 1 13 := ⟨by decide +kernel, rfl⟩
theorem d_9_bury_13 : zD prog_11_method_71_code 13 (.iaload) 1 14 := ⟨by decide +kernel, rfl⟩
theorem d_9_bury_14 : zD prog_11_method_71_code 14 (.iconst 2) 1 15 := ⟨by decide +kernel, rfl⟩
theorem d_9_bury_15 : zD prog_11_method_71_code 15 (.if_icmp .eq 16) 3 18 := ⟨by decide +kernel, rfl⟩
theorem d_9_bury_18 : zD prog_11_method_71_code 18 (.aload_n 0) 1 19 := ⟨by decide +kernel, rfl⟩
theorem d_9_bury_19 : zD prog_11_method_71_code 19 (.iload_n 1) 1 20 := ⟨by decide +kernel, rfl⟩
theorem d_9_bury_20 : zD prog_11_method_71_code 20 (.iconst 2) 1 21 := ⟨by decide +kernel, rfl⟩
theorem d_9_bury_21 : zD prog_11_method_71_code 21 (.invokevirtual 400) 3 24 := ⟨by decide +kernel, rfl⟩
theorem d_9_bury_24 : zD prog_11_method_71_code 24 (.ifCond .eq 7) 3 27 := ⟨by decide +kernel, rfl⟩
theorem d_9_bury_27 : zD prog_11_method_71_code 27 (.iconst 1) 1 28 := ⟨by decide +kernel, rfl⟩
theorem d_9_bury_28 : zD prog_11_method_71_code 28 (.goto 4) 3 31 := ⟨by decide +kernel, rfl⟩
theorem d_9_bury_31 : zD prog_11_method_71_code 31 (.iconst 0) 1 32 := ⟨by decide +kernel, rfl⟩
theorem d_9_bury_32 : zD prog_11_method_71_code 32 (.ireturn) 1 33 := ⟨by decide +kernel, rfl⟩
theorem d_9_give_0 : zD prog_11_method_72_code 0 (.aload_n 0) 1 1 := ⟨by decide +kernel, rfl⟩
theorem d_9_give_1 : zD prog_11_method_72_code 1 (.iload_n 1) 1 2 := ⟨by decide +kernel, rfl⟩
theorem d_9_give_2 : zD prog_11_method_72_code 2 (.invokevirtual 316) 3 5 := ⟨by decide +kernel, rfl⟩
theorem d_9_give_5 : zD prog_11_method_72_code 5 (.ifCond .eq 37) 3 8 := ⟨by decide +kernel, rfl⟩
theorem d_9_give_8 : zD prog_11_method_72_code 8 (.aload_n 0) 1 9 := ⟨by decide +kernel, rfl⟩
theorem d_9_give_9 : zD prog_11_method_72_code 9 (.iload_n 2) 1 10 := ⟨by decide +kernel, rfl⟩
theorem d_9_give_10 : zD prog_11_method_72_code 10 (.invokevirtual 391) 3 13 := ⟨by decide +kernel, rfl⟩
theorem d_9_give_13 : zD prog_11_method_72_code 13 (.ifCond .eq 29) 3 16 := ⟨by decide +kernel, rfl⟩
theorem d_9_give_16 : zD prog_11_method_72_code 16 (.aload_n 0) 1 17 := ⟨by decide +kernel, rfl⟩
theorem d_9_give_17 : zD prog_11_method_72_code 17 (.getfield 110) 3 20 := ⟨by decide +kernel, rfl⟩
theorem d_9_give_20 : zD prog_11_method_72_code 20 (.bipush 28) 2 22 := ⟨by decide +kernel, rfl⟩
theorem d_9_give_22 : zD prog_11_method_72_code 22 (.iload_n 2) 1 23 := ⟨by decide +kernel, rfl⟩
theorem d_9_give_23 : zD prog_11_method_72_code 23 (.iadd) 1 24 := ⟨by decide +kernel, rfl⟩
theorem d_9_give_24 : zD prog_11_method_72_code 24 (.iaload) 1 25 := ⟨by decide +kernel, rfl⟩
theorem d_9_give_25 : zD prog_11_method_72_code 25 (.iload_n 1) 1 26 := ⟨by decide +kernel, rfl⟩
theorem d_9_give_26 : zD prog_11_method_72_code 26 (.ishr) 1 27 := ⟨by decide +kernel, rfl⟩
theorem d_9_give_27 : zD prog_11_method_72_code 27 (.iconst 1) 1 28 := ⟨by decide +kernel, rfl⟩
theorem d_9_give_28 : zD prog_11_method_72_code 28 (.iand) 1 29 := ⟨by decide +kernel, rfl⟩
theorem d_9_give_29 : zD prog_11_method_72_code 29 (.iconst 1) 1 30 := ⟨by decide +kernel, rfl⟩
theorem d_9_give_30 : zD prog_11_method_72_code 30 (.if_icmp .ne 7) 3 33 := ⟨by decide +kernel, rfl⟩
theorem d_9_give_33 : zD prog_11_method_72_code 33 (.iconst 1) 1 34 := ⟨by decide +kernel, rfl⟩
theorem d_9_give_34 : zD prog_11_method_72_code 34 (.goto 4) 3 37 := ⟨by decide +kernel, rfl⟩
theorem d_9_give_37 : zD prog_11_method_72_code 37 (.iconst 0) 1 38 := ⟨by decide +kernel, rfl⟩
theorem d_9_give_38 : zD prog_11_method_72_code 38 (.iload_n 3) 1 39 := ⟨by decide +kernel, rfl⟩
theorem d_9_give_39 : zD prog_11_method_72_code 39 (.if_icmp .ne 5) 3 42 := ⟨by decide +kernel, rfl⟩
theorem d_9_give_42 : zD prog_11_method_72_code 42 (.iconst 0) 1 43 := ⟨by decide +kernel, rfl⟩
theorem d_9_give_43 : zD prog_11_method_72_code 43 (.ireturn) 1 44 := ⟨by decide +kernel, rfl⟩
theorem d_9_give_44 : zD prog_11_method_72_code 44 (.aload_n 0) 1 45 := ⟨by decide +kernel, rfl⟩
theorem d_9_give_45 : zD prog_11_method_72_code 45 (.invokevirtual 325) 3 48 := ⟨by decide +kernel, rfl⟩
theorem d_9_give_48 : zD prog_11_method_72_code 48 (.aload_n 0) 1 49 := ⟨by decide +kernel, rfl⟩
theorem d_9_give_49 : zD prog_11_method_72_code 49 (.getfield 113) 3 52 := ⟨by decide +kernel, rfl⟩
theorem d_9_give_52 : zD prog_11_method_72_code 52 (.bipush 28) 2 54 := ⟨by decide +kernel, rfl⟩
theorem d_9_give_54 : zD prog_11_method_72_code 54 (.iload_n 2) 1 55 := ⟨by decide +kernel, rfl⟩
theorem d_9_give_55 : zD prog_11_method_72_code 55 (.iadd) 1 56 := ⟨by decide +kernel, rfl⟩
theorem d_9_give_56 : zD prog_11_method_72_code 56 (.dup2) 1 57 := ⟨by decide +kernel, rfl⟩
theorem d_9_give_57 : zD prog_11_method_72_code 57 (.iaload) 1 58 := ⟨by decide +kernel, rfl⟩
theorem d_9_give_58 : zD prog_11_method_72_code 58 (.iconst 1) 1 59 := ⟨by decide +kernel, rfl⟩
theorem d_9_give_59 : zD prog_11_method_72_code 59 (.iload_n 1) 1 60 := ⟨by decide +kernel, rfl⟩
theorem d_9_give_60 : zD prog_11_method_72_code 60 (.ishl) 1 61 := ⟨by decide +kernel, rfl⟩
theorem d_9_give_61 : zD prog_11_method_72_code 61 (.ixor) 1 62 := ⟨by decide +kernel, rfl⟩
theorem d_9_give_62 : zD prog_11_method_72_code 62 (.iastore) 1 63 := ⟨by decide +kernel, rfl⟩
theorem d_9_give_63 : zD prog_11_method_72_code 63 (.aload_n 0) 1 64 := ⟨by decide +kernel, rfl⟩
theorem d_9_give_64 : zD prog_11_method_72_code 64 (.invokevirtual 394) 3 67 := ⟨by decide +kernel, rfl⟩
theorem d_9_give_67 : zD prog_11_method_72_code 67 (.iconst 1) 1 68 := ⟨by decide +kernel, rfl⟩
theorem d_9_give_68 : zD prog_11_method_72_code 68 (.ireturn) 1 69 := ⟨by decide +kernel, rfl⟩
theorem d_9_isLong_0 : zD prog_11_method_73_code 0 (.iload_n 0) 1 1 := ⟨by decide +kernel, rfl⟩
theorem d_9_isLong_1 : zD prog_11_method_73_code 1 (.iconst 0) 1 2 := ⟨by decide +kernel, rfl⟩
theorem d_9_isLong_2 : zD prog_11_method_73_code 2 (.bipush 40) 2 4 := ⟨by decide +kernel, rfl⟩
theorem d_9_isLong_4 : zD prog_11_method_73_code 4 (.invokestatic 312) 3 7 := ⟨by decide +kernel, rfl⟩
theorem d_9_isLong_7 : zD prog_11_method_73_code 7 (.ireturn) 1 8 := ⟨by decide +kernel, rfl⟩
theorem d_9_years_0 : zD prog_11_method_74_code 0 (.iload_n 1) 1 1 := ⟨by decide +kernel, rfl⟩
theorem d_9_years_1 : zD prog_11_method_74_code 1 (.invokestatic 403) 3 4 := ⟨by decide +kernel, rfl⟩
theorem d_9_years_4 : zD prog_11_method_74_code 4 (.ifCond .ne 5) 3 7 := ⟨by decide +kernel, rfl⟩
theorem d_9_years_7 : zD prog_11_method_74_code 7 (.iconst (-1)) 1 8 := ⟨by decide +kernel, rfl⟩
theorem d_9_years_8 : zD prog_11_method_74_code 8 (.ireturn) 1 9 := ⟨by decide +kernel, rfl⟩
theorem d_9_years_9 : zD prog_11_method_74_code 9 (.iload_n 1) 1 10 := ⟨by decide +kernel, rfl⟩
theorem d_9_years_10 : zD prog_11_method_74_code 10 (.ifCond .ne 11) 3 13 := ⟨by decide +kernel, rfl⟩
theorem d_9_years_13 : zD prog_11_method_74_code 13 (.aload_n 0) 1 14 := ⟨by decide +kernel, rfl⟩
theorem d_9_years_14 : zD prog_11_method_74_code 14 (.getfield 110) 3 17 := ⟨by decide +kernel, rfl⟩
theorem d_9_years_17 : zD prog_11_method_74_code 17 (.bipush 33) 2 19 := ⟨by decide +kernel, rfl⟩
theorem d_9_years_19 : zD prog_11_method_74_code 19 (.iaload) 1 20 := ⟨by decide +kernel, rfl⟩
theorem d_9_years_20 : zD prog_11_method_74_code 20 (.ireturn) 1 21 := ⟨by decide +kernel, rfl⟩
theorem d_9_years_21 : zD prog_11_method_74_code 21 (.aload_n 0) 1 22 := ⟨by decide +kernel, rfl⟩
theorem d_9_years_22 : zD prog_11_method_74_code 22 (.invokevirtual 325) 3 25 := ⟨by decide +kernel, rfl⟩
theorem d_9_years_25 : zD prog_11_method_74_code 25 (.aload_n 0) 1 26 := ⟨by decide +kernel, rfl⟩
theorem d_9_years_26 : zD prog_11_method_74_code 26 (.iload_n 1) 1 27 := ⟨by decide +kernel, rfl⟩
theorem d_9_years_27 : zD prog_11_method_74_code 27 (.invokevirtual 406) 3 30 := ⟨by decide +kernel, rfl⟩
theorem d_9_years_30 : zD prog_11_method_74_code 30 (.aload_n 0) 1 31 := ⟨by decide +kernel, rfl⟩
theorem d_9_years_31 : zD prog_11_method_74_code 31 (.invokevirtual 394) 3 34 := ⟨by decide +kernel, rfl⟩
theorem d_9_years_34 : zD prog_11_method_74_code 34 (.aload_n 0) 1 35 := ⟨by decide +kernel, rfl⟩
theorem d_9_years_35 : zD prog_11_method_74_code 35 (.getfield 110) 3 38 := ⟨by decide +kernel, rfl⟩
theorem d_9_years_38 : zD prog_11_method_74_code 38 (.bipush 33) 2 40 := ⟨by decide +kernel, rfl⟩
theorem d_9_years_40 : zD prog_11_method_74_code 40 (.iaload) 1 41 := ⟨by decide +kernel, rfl⟩
theorem d_9_years_41 : zD prog_11_method_74_code 41 (.ireturn) 1 42 := ⟨by decide +kernel, rfl⟩
theorem d_9_undo_0 : zD prog_11_method_75_code 0 (.aload_n 0) 1 1 := ⟨by decide +kernel, rfl⟩
theorem d_9_undo_1 : zD prog_11_method_75_code 1 (.getfield 251) 3 4 := ⟨by decide +kernel, rfl⟩
theorem d_9_undo_4 : zD prog_11_method_75_code 4 (.ifCond .ne 5) 3 7 := ⟨by decide +kernel, rfl⟩
theorem d_9_undo_7 : zD prog_11_method_75_code 7 (.iconst 0) 1 8 := ⟨by decide +kernel, rfl⟩
theorem d_9_undo_8 : zD prog_11_method_75_code 8 (.ireturn) 1 9 := ⟨by decide +kernel, rfl⟩
theorem d_9_undo_9 : zD prog_11_method_75_code 9 (.aload_n 0) 1 10 := ⟨by decide +kernel, rfl⟩
theorem d_9_undo_10 : zD prog_11_method_75_code 10 (.dup) 1 11 := ⟨by decide +kernel, rfl⟩
theorem d_9_undo_11 : zD prog_11_method_75_code 11 (.getfield 251) 3 14 := ⟨by decide +kernel, rfl⟩
theorem d_9_undo_14 : zD prog_11_method_75_code 14 (.iconst 1) 1 15 := ⟨by decide +kernel, rfl⟩
theorem d_9_undo_15 : zD prog_11_method_75_code 15 (.isub) 1 16 := ⟨by decide +kernel, rfl⟩
theorem d_9_undo_16 : zD prog_11_method_75_code 16 (.putfield 251) 3 19 := ⟨by decide +kernel, rfl⟩
theorem d_9_undo_19 : zD prog_11_method_75_code 19 (.iconst 0) 1 20 := ⟨by decide +kernel, rfl⟩
theorem d_9_undo_20 : zD prog_11_method_75_code 20 (.istore_n 1) 1 21 := ⟨by decide +kernel, rfl⟩
theorem d_9_undo_21 : zD prog_11_method_75_code 21 (.iload_n 1) 1 22 := ⟨by decide +kernel, rfl⟩
theorem d_9_undo_22 : zD prog_11_method_75_code 22 (.bipush 34) 2 24 := ⟨by decide +kernel, rfl⟩
theorem d_9_undo_24 : zD prog_11_method_75_code 24 (.if_icmp .ge 29) 3 27 := ⟨by decide +kernel, rfl⟩
theorem d_9_undo_27 : zD prog_11_method_75_code 27 (.aload_n 0) 1 28 := ⟨by decide +kernel, rfl⟩
theorem d_9_undo_28 : zD prog_11_method_75_code 28 (.getfield 110) 3 31 := ⟨by decide +kernel, rfl⟩
theorem d_9_undo_31 : zD prog_11_method_75_code 31 (.iload_n 1) 1 32 := ⟨by decide +kernel, rfl⟩
theorem d_9_undo_32 : zD prog_11_method_75_code 32 (.aload_n 0) 1 33 := ⟨by decide +kernel, rfl⟩
theorem d_9_undo_33 : zD prog_11_method_75_code 33 (.getfield 125) 3 36 := ⟨by decide +kernel, rfl⟩
theorem d_9_undo_36 : zD prog_11_method_75_code 36 (.bipush 34) 2 38 := ⟨by decide +kernel, rfl⟩
theorem d_9_undo_38 : zD prog_11_method_75_code 38 (.aload_n 0) 1 39 := ⟨by decide +kernel, rfl⟩
theorem d_9_undo_39 : zD prog_11_method_75_code 39 (.getfield 251) 3 42 := ⟨by decide +kernel, rfl⟩
theorem d_9_undo_42 : zD prog_11_method_75_code 42 (.imul) 1 43 := ⟨by decide +kernel, rfl⟩
theorem d_9_undo_43 : zD prog_11_method_75_code 43 (.iload_n 1) 1 44 := ⟨by decide +kernel, rfl⟩
theorem d_9_undo_44 : zD prog_11_method_75_code 44 (.iadd) 1 45 := ⟨by decide +kernel, rfl⟩
theorem d_9_undo_45 : zD prog_11_method_75_code 45 (.iaload) 1 46 := ⟨by decide +kernel, rfl⟩
theorem d_9_undo_46 : zD prog_11_method_75_code 46 (.iastore) 1 47 := ⟨by decide +kernel, rfl⟩
theorem d_9_undo_47 : zD prog_11_method_75_code 47 (.iinc 1 1) 3 50 := ⟨by decide +kernel, rfl⟩
theorem d_9_undo_50 : zD prog_11_method_75_code 50 (.goto (-29)) 3 53 := ⟨by decide +kernel, rfl⟩
theorem d_9_undo_53 : zD prog_11_method_75_code 53 (.iconst 1) 1 54 := ⟨by decide +kernel, rfl⟩
theorem d_9_undo_54 : zD prog_11_method_75_code 54 (.ireturn) 1 55 := ⟨by decide +kernel, rfl⟩
theorem d_9_heirOf_0 : zD prog_11_method_76_code 0 (.aload_n 0) 1 1 := ⟨by decide +kernel, rfl⟩
theorem d_9_heirOf_1 : zD prog_11_method_76_code 1 (.iload_n 1) 1 2 := ⟨by decide +kernel, rfl⟩
theorem d_9_heirOf_2 : zD prog_11_method_76_code 2 (.invokevirtual 340) 3 5 := ⟨by decide +kernel, rfl⟩
theorem d_9_heirOf_5 : zD prog_11_method_76_code 5 (.istore_n 2) 1 6 := ⟨by decide +kernel, rfl⟩
theorem d_9_heirOf_6 : zD prog_11_method_76_code 6 (.iload_n 2) 1 7 := ⟨by decide +kernel, rfl⟩
theorem d_9_heirOf_7 : zD prog_11_method_76_code 7 (.ifCond .ge 8) 3 10 := ⟨by decide +kernel, rfl⟩
theorem d_9_heirOf_10 : zD prog_11_method_76_code 10 (.bipush (-2)) 2 12 := ⟨by decide +kernel, rfl⟩
theorem d_9_heirOf_12 : zD prog_11_method_76_code 12 (.goto 9) 3 15 := ⟨by decide +kernel, rfl⟩
theorem d_9_heirOf_15 : zD prog_11_method_76_code 15 (.aload_n 0) 1 16 := ⟨by decide +kernel, rfl⟩
theorem d_9_heirOf_16 : zD prog_11_method_76_code 16 (.iload_n 1) 1 17 := ⟨by decide +kernel, rfl⟩
theorem d_9_heirOf_17 : zD prog_11_method_76_code 17 (.iload_n 2) 1 18 := ⟨by decide +kernel, rfl⟩
theorem d_9_heirOf_18 : zD prog_11_method_76_code 18 (.invokevirtual 337) 3 21 := ⟨by decide +kernel, rfl⟩
theorem d_9_heirOf_21 : zD prog_11_method_76_code 21 (.ireturn) 1 22 := ⟨by decide +kernel, rfl⟩
theorem d_9_heir_0 : zD prog_11_method_77_code 0 (.aload_n 0) 1 1 := ⟨by decide +kernel, rfl⟩
theorem d_9_heir_1 : zD prog_11_method_77_code 1 (.iload_n 1) 1 2 := ⟨by decide +kernel, rfl⟩
theorem d_9_heir_2 : zD prog_11_method_77_code 2 (.invokevirtual 391) 3 5 := ⟨by decide +kernel, rfl⟩
theorem d_9_heir_5 : zD prog_11_method_77_code 5 (.ifCond .ne 5) 3 8 := ⟨by decide +kernel, rfl⟩
theorem d_9_heir_8 : zD prog_11_method_77_code 8 (.iconst (-1)) 1 9 := ⟨by decide +kernel, rfl⟩
theorem d_9_heir_9 : zD prog_11_method_77_code 9 (.ireturn) 1 10 := ⟨by decide +kernel, rfl⟩
theorem d_9_heir_10 : zD prog_11_method_77_code 10 (.aload_n 0) 1 11 := ⟨by decide +kernel, rfl⟩
theorem d_9_heir_11 : zD prog_11_method_77_code 11 (.invokevirtual 325) 3 14 := ⟨by decide +kernel, rfl⟩
theorem d_9_heir_14 : zD prog_11_method_77_code 14 (.aload_n 0) 1 15 := ⟨by decide +kernel, rfl⟩
theorem d_9_heir_15 : zD prog_11_method_77_code 15 (.iload_n 1) 1 16 := ⟨by decide +kernel, rfl⟩
theorem d_9_heir_16 : zD prog_11_method_77_code 16 (.invokevirtual 409) 3 19 := ⟨by decide +kernel, rfl⟩
theorem d_9_heir_19 : zD prog_11_method_77_code 19 (.ireturn) 1 20 := ⟨by decide +kernel, rfl⟩
theorem d_9_race_0 : zD prog_11_method_78_code 0 (.aload_n 0) 1 1 := ⟨by decide +kernel, rfl⟩
theorem d_9_race_1 : zD prog_11_method_78_code 1 (.iload_n 1) 1 2 := ⟨by decide +kernel, rfl⟩
theorem d_9_race_2 : zD prog_11_method_78_code 2 (.invokevirtual 391) 3 5 := ⟨by decide +kernel, rfl⟩
theorem d_9_race_5 : zD prog_11_method_78_code 5 (.ifCond .ne 5) 3 8 := ⟨by decide +kernel, rfl⟩
theorem d_9_race_8 : zD prog_11_method_78_code 8 (.iconst (-1)) 1 9 := ⟨by decide +kernel, rfl⟩
theorem d_9_race_9 : zD prog_11_method_78_code 9 (.ireturn) 1 10 := ⟨by decide +kernel, rfl⟩
theorem d_9_race_10 : zD prog_11_method_78_code 10 (.aload_n 0) 1 11 := ⟨by decide +kernel, rfl⟩
theorem d_9_race_11 : zD prog_11_method_78_code 11 (.invokevirtual 325) 3 14 := ⟨by decide +kernel, rfl⟩
theorem d_9_race_14 : zD prog_11_method_78_code 14 (.aload_n 0) 1 15 := ⟨by decide +kernel, rfl⟩
theorem d_9_race_15 : zD prog_11_method_78_code 15 (.iload_n 1) 1 16 := ⟨by decide +kernel, rfl⟩
theorem d_9_race_16 : zD prog_11_method_78_code 16 (.invokevirtual 409) 3 19 := ⟨by decide +kernel, rfl⟩
theorem d_9_race_19 : zD prog_11_method_78_code 19 (.istore_n 2) 1 20 := ⟨by decide +kernel, rfl⟩
theorem d_9_race_20 : zD prog_11_method_78_code 20 (.iload_n 2) 1 21 := ⟨by decide +kernel, rfl⟩
theorem d_9_race_21 : zD prog_11_method_78_code 21 (.ifCond .ge 8) 3 24 := ⟨by decide +kernel, rfl⟩
theorem d_9_race_24 : zD prog_11_method_78_code 24 (.bipush (-2)) 2 26 := ⟨by decide +kernel, rfl⟩
theorem d_9_race_26 : zD prog_11_method_78_code 26 (.goto 26) 3 29 := ⟨by decide +kernel, rfl⟩
theorem d_9_race_29 : zD prog_11_method_78_code 29 (.aload_n 0) 1 30 := ⟨by decide +kernel, rfl⟩
theorem d_9_race_30 : zD prog_11_method_78_code 30 (.getfield 113) 3 33 := ⟨by decide +kernel, rfl⟩
theorem d_9_race_33 : zD prog_11_method_78_code 33 (.bipush 7) 2 35 := ⟨by decide +kernel, rfl⟩
theorem d_9_race_35 : zD prog_11_method_78_code 35 (.aload_n 0) 1 36 := ⟨by decide +kernel, rfl⟩
theorem d_9_race_36 : zD prog_11_method_78_code 36 (.iload_n 1) 1 37 := ⟨by decide +kernel, rfl⟩
theorem d_9_race_37 : zD prog_11_method_78_code 37 (.invokevirtual 340) 3 40 := ⟨by decide +kernel, rfl⟩
theorem d_9_race_40 : zD prog_11_method_78_code 40 (.iadd) 1 41 := ⟨by decide +kernel, rfl⟩
theorem d_9_race_41 : zD prog_11_method_78_code 41 (.iaload) 1 42 := ⟨by decide +kernel, rfl⟩
theorem d_9_race_42 : zD prog_11_method_78_code 42 (.aload_n 0) 1 43 := ⟨by decide +kernel, rfl⟩
theorem d_9_race_43 : zD prog_11_method_78_code 43 (.getfield 113) 3 46 := ⟨by decide +kernel, rfl⟩
theorem d_9_race_46 : zD prog_11_method_78_code 46 (.bipush 7) 2 48 := ⟨by decide +kernel, rfl⟩
theorem d_9_race_48 : zD prog_11_method_78_code 48 (.iload_n 2) 1 49 := ⟨by decide +kernel, rfl⟩
theorem d_9_race_49 : zD prog_11_method_78_code 49 (.iadd) 1 50 := ⟨by decide +kernel, rfl⟩
theorem d_9_race_50 : zD prog_11_method_78_code 50 (.iaload) 1 51 := ⟨by decide +kernel, rfl⟩
theorem d_9_race_51 : zD prog_11_method_78_code 51 (.isub) 1 52 := ⟨by decide +kernel, rfl⟩
theorem d_9_race_52 : zD prog_11_method_78_code 52 (.ireturn) 1 53 := ⟨by decide +kernel, rfl⟩
theorem d_9_gain_0 : zD prog_11_method_79_code 0 (.aload_n 0) 1 1 := ⟨by decide +kernel, rfl⟩
theorem d_9_gain_1 : zD prog_11_method_79_code 1 (.iload_n 1) 1 2 := ⟨by decide +kernel, rfl⟩
theorem d_9_gain_2 : zD prog_11_method_79_code 2 (.invokevirtual 316) 3 5 := ⟨by decide +kernel, rfl⟩
theorem d_9_gain_5 : zD prog_11_method_79_code 5 (.ifCond .eq 10) 3 8 := ⟨by decide +kernel, rfl⟩
theorem d_9_gain_8 : zD prog_11_method_79_code 8 (.iload_n 2) 1 9 := ⟨by decide +kernel, rfl⟩
theorem d_9_gain_9 : zD prog_11_method_79_code 9 (.invokestatic 403) 3 12 := ⟨by decide +kernel, rfl⟩
theorem d_9_gain_12 : zD prog_11_method_79_code 12 (.ifCond .ne 5) 3 15 := ⟨by decide +kernel, rfl⟩
theorem d_9_gain_15 : zD prog_11_method_79_code 15 (.iconst (-1)) 1 16 := ⟨by decide +kernel, rfl⟩
theorem d_9_gain_16 : zD prog_11_method_79_code 16 (.ireturn) 1 17 := ⟨by decide +kernel, rfl⟩
theorem d_9_gain_17 : zD prog_11_method_79_code 17 (.aload_n 0) 1 18 := ⟨by decide +kernel, rfl⟩
theorem d_9_gain_18 : zD prog_11_method_79_code 18 (.invokevirtual 412) 3 21 := ⟨by decide +kernel, rfl⟩
theorem d_9_gain_21 : zD prog_11_method_79_code 21 (.aload_n 0) 1 22 := ⟨by decide +kernel, rfl⟩
theorem d_9_gain_22 : zD prog_11_method_79_code 22 (.iload_n 2) 1 23 := ⟨by decide +kernel, rfl⟩
theorem d_9_gain_23 : zD prog_11_method_79_code 23 (.invokevirtual 406) 3 26 := ⟨by decide +kernel, rfl⟩
theorem d_9_gain_26 : zD prog_11_method_79_code 26 (.aload_n 0) 1 27 := ⟨by decide +kernel, rfl⟩
theorem d_9_gain_27 : zD prog_11_method_79_code 27 (.getfield 113) 3 30 := ⟨by decide +kernel, rfl⟩
theorem d_9_gain_30 : zD prog_11_method_79_code 30 (.bipush 14) 2 32 := ⟨by decide +kernel, rfl⟩
theorem d_9_gain_32 : zD prog_11_method_79_code 32 (.iload_n 1) 1 33 := ⟨by decide +kernel, rfl⟩
theorem d_9_gain_33 : zD prog_11_method_79_code 33 (.iadd) 1 34 := ⟨by decide +kernel, rfl⟩
theorem d_9_gain_34 : zD prog_11_method_79_code 34 (.iaload) 1 35 := ⟨by decide +kernel, rfl⟩
theorem d_9_gain_35 : zD prog_11_method_79_code 35 (.aload_n 0) 1 36 := ⟨by decide +kernel, rfl⟩
theorem d_9_gain_36 : zD prog_11_method_79_code 36 (.getfield 110) 3 39 := ⟨by decide +kernel, rfl⟩
theorem d_9_gain_39 : zD prog_11_method_79_code 39 (.bipush 14) 2 41 := ⟨by decide +kernel, rfl⟩
theorem d_9_gain_41 : zD prog_11_method_79_code 41 (.iload_n 1) 1 42 := ⟨by decide +kernel, rfl⟩
theorem d_9_gain_42 : zD prog_11_method_79_code 42 (.iadd) 1 43 := ⟨by decide +kernel, rfl⟩
theorem d_9_gain_43 : zD prog_11_method_79_code 43 (.iaload) 1 44 := ⟨by decide +kernel, rfl⟩
theorem d_9_gain_44 : zD prog_11_method_79_code 44 (.isub) 1 45 := ⟨by decide +kernel, rfl⟩
theorem d_9_gain_45 : zD prog_11_method_79_code 45 (.ireturn) 1 46 := ⟨by decide +kernel, rfl⟩
theorem d_9_gainBy_0 : zD prog_11_method_80_code 0 (.aload_n 0) 1 1 := ⟨by decide +kernel, rfl⟩
theorem d_9_gainBy_1 : zD prog_11_method_80_code 1 (.invokevirtual 412) 3 4 := ⟨by decide +kernel, rfl⟩
theorem d_9_gainBy_4 : zD prog_11_method_80_code 4 (.aload_n 0) 1 5 := ⟨by decide +kernel, rfl⟩
theorem d_9_gainBy_5 : zD prog_11_method_80_code 5 (.iload_n 3) 1 6 := ⟨by decide +kernel, rfl⟩
theorem d_9_gainBy_6 : zD prog_11_method_80_code 6 (.invokevirtual 406) 3 9 := ⟨by decide +kernel, rfl⟩
theorem d_9_gainBy_9 : zD prog_11_method_80_code 9 (.aload_n 0) 1 10 := ⟨by decide +kernel, rfl⟩
theorem d_9_gainBy_10 : zD prog_11_method_80_code 10 (.iload_n 1) 1 11 := ⟨by decide +kernel, rfl⟩
theorem d_9_gainBy_11 : zD prog_11_method_80_code 11 (.iconst 1) 1 12 := ⟨by decide +kernel, rfl⟩
theorem d_9_gainBy_12 : zD prog_11_method_80_code 12 (.invokevirtual 376) 3 15 := ⟨by decide +kernel, rfl⟩
theorem d_9_gainBy_15 : zD prog_11_method_80_code 15 (.aload_n 0) 1 16 := ⟨by decide +kernel, rfl⟩
theorem d_9_gainBy_16 : zD prog_11_method_80_code 16 (.iload_n 2) 1 17 := ⟨by decide +kernel, rfl⟩
theorem d_9_gainBy_17 : zD prog_11_method_80_code 17 (.iload_n 3) 1 18 := ⟨by decide +kernel, rfl⟩
theorem d_9_gainBy_18 : zD prog_11_method_80_code 18 (.isub) 1 19 := ⟨by decide +kernel, rfl⟩
theorem d_9_gainBy_19 : zD prog_11_method_80_code 19 (.invokevirtual 406) 3 22 := ⟨by decide +kernel, rfl⟩
theorem d_9_gainBy_22 : zD prog_11_method_80_code 22 (.aload_n 0) 1 23 := ⟨by decide +kernel, rfl⟩
theorem d_9_gainBy_23 : zD prog_11_method_80_code 23 (.getfield 113) 3 26 := ⟨by decide +kernel, rfl⟩
theorem d_9_gainBy_26 : zD prog_11_method_80_code 26 (.bipush 14) 2 28 := ⟨by decide +kernel, rfl⟩
theorem d_9_gainBy_28 : zD prog_11_method_80_code 28 (.iload_n 1) 1 29 := ⟨by decide +kernel, rfl⟩
theorem d_9_gainBy_29 : zD prog_11_method_80_code 29 (.iadd) 1 30 := ⟨by decide +kernel, rfl⟩
theorem d_9_gainBy_30 : zD prog_11_method_80_code 30 (.iaload) 1 31 := ⟨by decide +kernel, rfl⟩
theorem d_9_gainBy_31 : zD prog_11_method_80_code 31 (.aload_n 0) 1 32 := ⟨by decide +kernel, rfl⟩
theorem d_9_gainBy_32 : zD prog_11_method_80_code 32 (.getfield 110) 3 35 := ⟨by decide +kernel, rfl⟩
theorem d_9_gainBy_35 : zD prog_11_method_80_code 35 (.bipush 14) 2 37 := ⟨by decide +kernel, rfl⟩
theorem d_9_gainBy_37 : zD prog_11_method_80_code 37 (.iload_n 1) 1 38 := ⟨by decide +kernel, rfl⟩
theorem d_9_gainBy_38 : zD prog_11_method_80_code 38 (.iadd) 1 39 := ⟨by decide +kernel, rfl⟩
theorem d_9_gainBy_39 : zD prog_11_method_80_code 39 (.iaload) 1 40 := ⟨by decide +kernel, rfl⟩
theorem d_9_gainBy_40 : zD prog_11_method_80_code 40 (.isub) 1 41 := ⟨by decide +kernel, rfl⟩
theorem d_9_gainBy_41 : zD prog_11_method_80_code 41 (.ireturn) 1 42 := ⟨by decide +kernel, rfl⟩
theorem d_9_isSpan_0 : zD prog_11_method_81_code 0 (.iload_n 0) 1 1 := ⟨by decide +kernel, rfl⟩
theorem d_9_isSpan_1 : zD prog_11_method_81_code 1 (.iconst 1) 1 2 := ⟨by decide +kernel, rfl⟩
theorem d_9_isSpan_2 : zD prog_11_method_81_code 2 (.bipush 40) 2 4 := ⟨by decide +kernel, rfl⟩
theorem d_9_isSpan_4 : zD prog_11_method_81_code 4 (.invokestatic 312) 3 7 := ⟨by decide +kernel, rfl⟩
theorem d_9_isSpan_7 : zD prog_11_method_81_code 7 (.ireturn) 1 8 := ⟨by decide +kernel, rfl⟩
theorem d_9_best_0 : zD prog_11_method_82_code 0 (.aload_n 0) 1 1 := ⟨by decide +kernel, rfl⟩
theorem d_9_best_1 : zD prog_11_method_82_code 1 (.iload_n 1) 1 2 := ⟨by decide +kernel, rfl⟩
theorem d_9_best_2 : zD prog_11_method_82_code 2 (.iconst 0) 1 3 := ⟨by decide +kernel, rfl⟩
theorem d_9_best_3 : zD prog_11_method_82_code 3 (.invokevirtual 397) 3 6 := ⟨by decide +kernel, rfl⟩
theorem d_9_best_6 : zD prog_11_method_82_code 6 (.ifCond .eq 19) 3 9 := ⟨by decide +kernel, rfl⟩
theorem d_9_best_9 : zD prog_11_method_82_code 9 (.iload_n 2) 1 10 := ⟨by decide +kernel, rfl⟩
theorem d_9_best_10 : zD prog_11_method_82_code 10 (.invokestatic 415) 3 13 := ⟨by decide +kernel, rfl⟩
theorem d_9_best_13 : zD prog_11_method_82_code 13 (.ifCond .eq 12) 3 16 := ⟨by decide +kernel, rfl⟩
theorem d_9_best_16 : zD prog_11_method_82_code 16 (.iload_n 3) 1 17 := ⟨by decide +kernel, rfl⟩
theorem d_9_best_17 : zD prog_11_method_82_code 17 (.iconst 0) 1 18 := ⟨by decide +kernel, rfl⟩
theorem d_9_best_18 : zD prog_11_method_82_code 18 (.iconst 1) 1 19 := ⟨by decide +kernel, rfl⟩
theorem d_9_best_19 : zD prog_11_method_82_code 19 (.invokestatic 312) 3 22 := ⟨by decide +kernel, rfl⟩
theorem d_9_best_22 : zD prog_11_method_82_code 22 (.ifCond .ne 5) 3 25 := ⟨by decide +kernel, rfl⟩
theorem d_9_best_25 : zD prog_11_method_82_code 25 (.iconst (-1)) 1 26 := ⟨by decide +kernel, rfl⟩
theorem d_9_best_26 : zD prog_11_method_82_code 26 (.ireturn) 1 27 := ⟨by decide +kernel, rfl⟩
theorem d_9_best_27 : zD prog_11_method_82_code 27 (.iconst 0) 1 28 := ⟨by decide +kernel, rfl⟩
theorem d_9_best_28 : zD prog_11_method_82_code 28 (.istore 4) 2 30 := ⟨by decide +kernel, rfl⟩
theorem d_9_best_30 : zD prog_11_method_82_code 30 (.iconst 1) 1 31 := ⟨by decide +kernel, rfl⟩
theorem d_9_best_31 : zD prog_11_method_82_code 31 (.istore 5) 2 33 := ⟨by decide +kernel, rfl⟩
theorem d_9_best_33 : zD prog_11_method_82_code 33 (.iload 5) 2 35 := ⟨by decide +kernel, rfl⟩
theorem d_9_best_35 : zD prog_11_method_82_code 35 (.iload_n 2) 1 36 := ⟨by decide +kernel, rfl⟩
theorem d_9_best_36 : zD prog_11_method_82_code 36 (.if_icmp .ge 32) 3 39 := ⟨by decide +kernel, rfl⟩
theorem d_9_best_39 : zD prog_11_method_82_code 39 (.aload_n 0) 1 40 := ⟨by decide +kernel, rfl⟩
theorem d_9_best_40 : zD prog_11_method_82_code 40 (.iload_n 1) 1 41 := ⟨by decide +kernel, rfl⟩
theorem d_9_best_41 : zD prog_11_method_82_code 41 (.iload_n 2) 1 42 := ⟨by decide +kernel, rfl⟩
theorem d_9_best_42 : zD prog_11_method_82_code 42 (.iload 5) 2 44 := ⟨by decide +kernel, rfl⟩
theorem d_9_best_44 : zD prog_11_method_82_code 44 (.invokevirtual 418) 3 47 := ⟨by decide +kernel, rfl⟩
theorem d_9_best_47 : zD prog_11_method_82_code 47 (.aload_n 0) 1 48 := ⟨by decide +kernel, rfl⟩
theorem d_9_best_48 : zD prog_11_method_82_code 48 (.iload_n 1) 1 49 := ⟨by decide +kernel, rfl⟩
theorem d_9_best_49 : zD prog_11_method_82_code 49 (.iload_n 2) 1 50 := ⟨by decide +kernel, rfl⟩
theorem d_9_best_50 : zD prog_11_method_82_code 50 (.iload 4) 2 52 := ⟨by decide +kernel, rfl⟩
theorem d_9_best_52 : zD prog_11_method_82_code 52 (.invokevirtual 418) 3 55 := ⟨by decide +kernel, rfl⟩
theorem d_9_best_55 : zD prog_11_method_82_code 55 (.if_icmp .le 7) 3 58 := ⟨by decide +kernel, rfl⟩
theorem d_9_best_58 : zD prog_11_method_82_code 58 (.iload 5) 2 60 := ⟨by decide +kernel, rfl⟩
theorem d_9_best_60 : zD prog_11_method_82_code 60 (.istore 4) 2 62 := ⟨by decide +kernel, rfl⟩
theorem d_9_best_62 : zD prog_11_method_82_code 62 (.iinc 5 1) 3 65 := ⟨by decide +kernel, rfl⟩
theorem d_9_best_65 : zD prog_11_method_82_code 65 (.goto (-32)) 3 68 := ⟨by decide +kernel, rfl⟩
theorem d_9_best_68 : zD prog_11_method_82_code 68 (.iload_n 3) 1 69 := ⟨by decide +kernel, rfl⟩
theorem d_9_best_69 : zD prog_11_method_82_code 69 (.ifCond .ne 8) 3 72 := ⟨by decide +kernel, rfl⟩
theorem d_9_best_72 : zD prog_11_method_82_code 72 (.iload 4) 2 74 := ⟨by decide +kernel, rfl⟩
theorem d_9_best_74 : zD prog_11_method_82_code 74 (.goto 11) 3 77 := ⟨by decide +kernel, rfl⟩
theorem d_9_best_77 : zD prog_11_method_82_code 77 (.aload_n 0) 1 78 := ⟨by decide +kernel, rfl⟩
theorem d_9_best_78 : zD prog_11_method_82_code 78 (.iload_n 1) 1 79 := ⟨by decide +kernel, rfl⟩
theorem d_9_best_79 : zD prog_11_method_82_code 79 (.iload_n 2) 1 80 := ⟨by decide +kernel, rfl⟩
theorem d_9_best_80 : zD prog_11_method_82_code 80 (.iload 4) 2 82 := ⟨by decide +kernel, rfl⟩
theorem d_9_best_82 : zD prog_11_method_82_code 82 (.invokevirtual 418) 3 85 := ⟨by decide +kernel, rfl⟩
theorem d_9_best_85 : zD prog_11_method_82_code 85 (.ireturn) 1 86 := ⟨by decide +kernel, rfl⟩
theorem d_9_gotBy_0 : zD prog_11_method_83_code 0 (.aload_n 0) 1 1 := ⟨by decide +kernel, rfl⟩
theorem d_9_gotBy_1 : zD prog_11_method_83_code 1 (.iload_n 1) 1 2 := ⟨by decide +kernel, rfl⟩
theorem d_9_gotBy_2 : zD prog_11_method_83_code 2 (.invokevirtual 406) 3 5 := ⟨by decide +kernel, rfl⟩
theorem d_9_gotBy_5 : zD prog_11_method_83_code 5 (.iconst 0) 1 6 := ⟨by decide +kernel, rfl⟩
theorem d_9_gotBy_6 : zD prog_11_method_83_code 6 (.istore_n 3) 1 7 := ⟨by decide +kernel, rfl⟩
theorem d_9_gotBy_7 : zD prog_11_method_83_code 7 (.iconst 0) 1 8 := ⟨by decide +kernel, rfl⟩
theorem d_9_gotBy_8 : zD prog_11_method_83_code 8 (.istore 4) 2 10 := ⟨by decide +kernel, rfl⟩
theorem d_9_gotBy_10 : zD prog_11_method_83_code 10 (.iload 4) 2 12 := ⟨by decide +kernel, rfl⟩
theorem d_9_gotBy_12 : zD prog_11_method_83_code 12 (.aload_n 0) 1 13 := ⟨by decide +kernel, rfl⟩
theorem d_9_gotBy_13 : zD prog_11_method_83_code 13 (.getfield 55) 3 16 := ⟨by decide +kernel, rfl⟩
theorem d_9_gotBy_16 : zD prog_11_method_83_code 16 (.aload_n 0) 1 17 := ⟨by decide +kernel, rfl⟩
theorem d_9_gotBy_17 : zD prog_11_method_83_code 17 (.getfield 233) 3 20 := ⟨by decide +kernel, rfl⟩
theorem d_9_gotBy_20 : zD prog_11_method_83_code 20 (.iaload) 1 21 := ⟨by decide +kernel, rfl⟩
theorem d_9_gotBy_21 : zD prog_11_method_83_code 21 (.if_icmp .ge 28) 3 24 := ⟨by decide +kernel, rfl⟩
theorem d_9_gotBy_24 : zD prog_11_method_83_code 24 (.iload 4) 2 26 := ⟨by decide +kernel, rfl⟩
theorem d_9_gotBy_26 : zD prog_11_method_83_code 26 (.iload_n 2) 1 27 := ⟨by decide +kernel, rfl⟩
theorem d_9_gotBy_27 : zD prog_11_method_83_code 27 (.if_icmp .eq 16) 3 30 := ⟨by decide +kernel, rfl⟩
theorem d_9_gotBy_30 : zD prog_11_method_83_code 30 (.iload_n 3) 1 31 := ⟨by decide +kernel, rfl⟩
theorem d_9_gotBy_31 : zD prog_11_method_83_code 31 (.aload_n 0) 1 32 := ⟨by decide +kernel, rfl⟩
theorem d_9_gotBy_32 : zD prog_11_method_83_code 32 (.getfield 113) 3 35 := ⟨by decide +kernel, rfl⟩
theorem d_9_gotBy_35 : zD prog_11_method_83_code 35 (.bipush 14) 2 37 := ⟨by decide +kernel, rfl⟩
theorem d_9_gotBy_37 : zD prog_11_method_83_code 37 (.iload 4) 2 39 := ⟨by decide +kernel, rfl⟩
theorem d_9_gotBy_39 : zD prog_11_method_83_code 39 (.iadd) 1 40 := ⟨by decide +kernel, rfl⟩
theorem d_9_gotBy_40 : zD prog_11_method_83_code 40 (.iaload) 1 41 := ⟨by decide +kernel, rfl⟩
theorem d_9_gotBy_41 : zD prog_11_method_83_code 41 (.iadd) 1 42 := ⟨by decide +kernel, rfl⟩
theorem d_9_gotBy_42 : zD prog_11_method_83_code 42 (.istore_n 3) 1 43 := ⟨by decide +kernel, rfl⟩
theorem d_9_gotBy_43 : zD prog_11_method_83_code 43 (.iinc 4 1) 3 46 := ⟨by decide +kernel, rfl⟩
theorem d_9_gotBy_46 : zD prog_11_method_83_code 46 (.goto (-36)) 3 49 := ⟨by decide +kernel, rfl⟩
theorem d_9_gotBy_49 : zD prog_11_method_83_code 49 (.iload_n 3) 1 50 := ⟨by decide +kernel, rfl⟩
theorem d_9_gotBy_50 : zD prog_11_method_83_code 50 (.ireturn) 1 51 := ⟨by decide +kernel, rfl⟩
def f9_in (a0 : Int32) (a1 : Int32) (a2 : Int32) : Int32 :=
  (if a0 < a1 then (0 : Int32) else (if a2 < a0 then (0 : Int32) else (1 : Int32)))
theorem s9_in {P : zP} {μ : zMem} {a0 : Int32} {a1 : Int32} {a2 : Int32} {r : Int32} (h : f9_in a0 a1 a2 = r) : z_Sp P y_9_in M_9_in 1 [zI a0, zI a1, zI a2] μ (some (zI r)) μ := by
  refine z_Sp.of (plainFor_of_name (by decide)) rfl (l0 := [some (zI a0), some (zI a1), some (zI a2)]) rfl (Nat.le_of_ble_eq_true rfl) ?_
  unfold f9_in at h
  refine zr_iload_n (i := 0) d_9_in_0 rfl rfl ?_
  refine zr_iload_n (i := 1) d_9_in_1 rfl rfl ?_
  refine zr_icmp_lt (tgt := 14) d_9_in_2 rfl (fun hc1 => ?_) (fun hc1 => ?_)
  · replace h := z_ip h hc1
    refine zr_iconst (v := (0 : Int32)) d_9_in_14 rfl ?_
    obtain rfl := h
    exact ze_z d_9_in_15 rfl rfl
  · replace h := z_im h hc1
    refine zr_iload_n (i := 0) d_9_in_5 rfl rfl ?_
    refine zr_iload_n (i := 2) d_9_in_6 rfl rfl ?_
    refine zr_icmp_gt (tgt := 14) d_9_in_7 rfl (fun hc2 => ?_) (fun hc2 => ?_)
    · replace h := z_ip h hc2
      refine zr_iconst (v := (0 : Int32)) d_9_in_14 rfl ?_
      obtain rfl := h
      exact ze_z d_9_in_15 rfl rfl
    · replace h := z_im h hc2
      refine zr_iconst (v := (1 : Int32)) d_9_in_10 rfl ?_
      refine zr_goto (tgt := 15) d_9_in_11 rfl ?_
      obtain rfl := h
      exact ze_z d_9_in_15 rfl rfl
def f9_within (a0 : Int32) (a1 : Int32) (a2 : Int32) : Int32 :=
  (if a0 < a1 then a1 else (if a2 < a0 then a2 else a0))
theorem s9_within {P : zP} {μ : zMem} {a0 : Int32} {a1 : Int32} {a2 : Int32} {r : Int32} (h : f9_within a0 a1 a2 = r) : z_Sp P y_9_within M_9_within 1 [zI a0, zI a1, zI a2] μ (some (zI r)) μ := by
  refine z_Sp.of (plainFor_of_name (by decide)) rfl (l0 := [some (zI a0), some (zI a1), some (zI a2)]) rfl (Nat.le_of_ble_eq_true rfl) ?_
  unfold f9_within at h
  refine zr_iload_n (i := 0) d_9_within_0 rfl rfl ?_
  refine zr_iload_n (i := 1) d_9_within_1 rfl rfl ?_
  refine zr_icmp_ge (tgt := 9) d_9_within_2 rfl (fun hc1 => ?_) (fun hc1 => ?_)
  · replace h := z_ip h hc1
    refine zr_iload_n (i := 1) d_9_within_5 rfl rfl ?_
    refine zr_goto (tgt := 19) d_9_within_6 rfl ?_
    obtain rfl := h
    exact ze_i d_9_within_19 rfl
  · replace h := z_im h hc1
    refine zr_iload_n (i := 0) d_9_within_9 rfl rfl ?_
    refine zr_iload_n (i := 2) d_9_within_10 rfl rfl ?_
    refine zr_icmp_le (tgt := 18) d_9_within_11 rfl (fun hc2 => ?_) (fun hc2 => ?_)
    · replace h := z_ip h hc2
      refine zr_iload_n (i := 2) d_9_within_14 rfl rfl ?_
      refine zr_goto (tgt := 19) d_9_within_15 rfl ?_
      obtain rfl := h
      exact ze_i d_9_within_19 rfl
    · replace h := z_im h hc2
      refine zr_iload_n (i := 0) d_9_within_18 rfl rfl ?_
      obtain rfl := h
      exact ze_i d_9_within_19 rfl
def f9_bits_L1 (a0 : Int32) : (Int32 × Int32) → Option ((Int32 × Int32) ⊕ (Int32)) := (z_u2 fun x2 x3 => 
  (if x3 < (7 : Int32) then z_let (x2 + ((a0 >>> (x3 &&& 31)) &&& (1 : Int32))) fun v5 => some (.inl (v5, (x3 + (1 : Int32)))) else some (.inr x2)))
def f9_bits (a0 : Int32) : Option (Int32) :=
  (z_it (f9_bits_L1 a0) z_fu ((0 : Int32), (0 : Int32))).bind (fun e7 => some e7)
theorem s9_bits_L1 {P : zP} {ro : Option zV} {μo : zMem} (a0 : Int32) (μ : zMem) (x2 : Int32) (x3 : Int32) (K : (Int32 × Int32) ⊕ (Int32)) (h : f9_bits_L1 a0 (x2, x3) = some K) (hI : ∀ (y0 : Int32) (y1 : Int32), K = .inl (y0, y1) → z_RQ P M_9_bits (z_rm 1) (z_mq P ro μo) 0 0 4 [some (zI a0), some (zI y0), some (zI y1)] [] μ) (hE : ∀ (z0 : Int32), K = .inr z0 → z_RQ P M_9_bits (z_rm 1) (z_mq P ro μo) 0 0 24 [none, some (zI z0), none] [] μ)  : z_RQ P M_9_bits (z_rm 1) (z_mq P ro μo) 0 0 4 [some (zI a0), some (zI x2), some (zI x3)] [] μ := by
  unfold f9_bits_L1 at h
  replace h := z_h2 h
  refine zr_iload_n (i := 2) d_9_bits_4 rfl rfl ?_
  refine zr_bipush (v := (7 : Int32)) d_9_bits_5 rfl ?_
  refine zr_icmp_ge (tgt := 24) d_9_bits_7 rfl (fun hc4 => ?_) (fun hc4 => ?_)
  · replace h := z_ip h hc4
    refine zr_iload_n (i := 1) d_9_bits_10 rfl rfl ?_
    refine zr_iload_n (i := 0) d_9_bits_11 rfl rfl ?_
    refine zr_iload_n (i := 2) d_9_bits_12 rfl rfl ?_
    refine zr_ishr d_9_bits_13 ?_
    refine zr_iconst (v := (1 : Int32)) d_9_bits_14 rfl ?_
    refine zr_iand d_9_bits_15 ?_
    refine zr_iadd d_9_bits_16 ?_
    obtain ⟨v5, hv6, h⟩ := z_lt h
    refine zr_nm hv6 ?_
    refine zr_istore_n (i := 1) (l' := [some (zI a0), some (zI v5), some (zI x3)]) d_9_bits_17 rfl (by decide) rfl ?_
    refine zr_iinc (v := (x3 + (1 : Int32))) (l' := [some (zI a0), some (zI v5), some (zI (x3 + (1 : Int32)))]) d_9_bits_18 (by decide) rfl rfl rfl ?_
    refine zr_goto (tgt := 4) d_9_bits_21 rfl ?_
    obtain rfl := Option.some.inj h
    exact zr_wk2 (hI v5 (x3 + (1 : Int32)) rfl) ⟨rfl, ⟨rfl, ⟨rfl, trivial⟩⟩⟩
  · replace h := z_im h hc4
    obtain rfl := Option.some.inj h
    exact zr_wk2 (hE x2 rfl) ⟨rfl, trivial⟩
theorem s9_bits {P : zP} {μ : zMem} {a0 : Int32} {r : Int32} (h : f9_bits a0 = some r) : z_Sp P y_9_bits M_9_bits 1 [zI a0] μ (some (zI r)) μ := by
  refine z_Sp.of (plainFor_of_name (by decide)) rfl (l0 := [some (zI a0), none, none]) rfl (Nat.le_of_ble_eq_true rfl) ?_
  unfold f9_bits at h
  refine zr_iconst (v := (0 : Int32)) d_9_bits_0 rfl ?_
  refine zr_istore_n (i := 1) (l' := [some (zI a0), some (zI (0 : Int32)), none]) d_9_bits_1 rfl (by decide) rfl ?_
  refine zr_iconst (v := (0 : Int32)) d_9_bits_2 rfl ?_
  refine zr_istore_n (i := 2) (l' := [some (zI a0), some (zI (0 : Int32)), some (zI (0 : Int32))]) d_9_bits_3 rfl (by decide) rfl ?_
  obtain ⟨e7, hl8, h⟩ := z_bd h
  refine zr_wk (l' := [some (zI a0), some (zI (0 : Int32)), some (zI (0 : Int32))]) ⟨rfl, ⟨rfl, ⟨rfl, trivial⟩⟩⟩ ?_
  refine z_loop (Hd := (z_u2 fun y0 y1 => z_RQ P M_9_bits (z_rm 1) (z_mq P (some (zI r)) μ) 0 0 4 [some (zI a0), some (zI y0), some (zI y1)] [] μ)) (Ex := (fun z0 => z_RQ P M_9_bits (z_rm 1) (z_mq P (some (zI r)) μ) 0 0 24 [none, some (zI z0), none] [] μ)) (fun ⟨x2, x3⟩ K h hI hE => s9_bits_L1 a0 μ x2 x3 K h (fun y0 y1 e => hI (y0, y1) e) (fun z0 e => hE z0 e) ) _ _ _ hl8 ?_
  refine zr_iload_n (i := 1) d_9_bits_24 rfl rfl ?_
  obtain rfl := Option.some.inj h
  exact ze_i d_9_bits_25 rfl
def f9_isHouse (a1 : Int32) (μ : zMem) : Option (Int32) :=
  if z_in (μ.1 9 0 18) 2 = true then if z_b (f9_in a1 (0 : Int32) ((μ.1 123 0 (μ.1 9 0 18).toNatClampNeg) - (1 : Int32))) = true then some (f9_in a1 (0 : Int32) ((μ.1 123 0 (μ.1 9 0 18).toNatClampNeg) - (1 : Int32))) else none else none
theorem s9_isHouse {P : zP} {μ : zMem} {a1 : Int32} {r : Int32} (h : f9_isHouse a1 μ = some r) : z_Sp P y_9_isHouse M_9_isHouse 2 [zA 9 0, zI a1] μ (some (zI r)) μ := by
  refine z_Sp.of (plainFor_of_name (by decide)) rfl (l0 := [some (zA 9 0), some (zI a1)]) rfl (Nat.le_of_ble_eq_true rfl) ?_
  unfold f9_isHouse at h
  refine zr_iload_n (i := 1) d_9_isHouse_0 rfl rfl ?_
  refine zr_iconst (v := (0 : Int32)) d_9_isHouse_1 rfl ?_
  refine zr_aload_n (i := 0) d_9_isHouse_2 rfl rfl ?_
  refine zr_gets (i' := 0) d_9_isHouse_3 fw_9_46 rfl ?_
  refine zr_aload_n (i := 0) d_9_isHouse_6 rfl rfl ?_
  refine zr_geti d_9_isHouse_7 fw_9_233 (by decide) ?_
  obtain ⟨hb1, h⟩ := z_gd h
  refine zr_iald d_9_isHouse_10 sa_123 rfl hb1 ?_
  refine zr_iconst (v := (1 : Int32)) d_9_isHouse_11 rfl ?_
  refine zr_isub d_9_isHouse_12 ?_
  refine zr_callSi (av := [zI a1, zI (0 : Int32), zI ((μ.1 123 0 (μ.1 9 0 18).toNatClampNeg) - (1 : Int32))]) (st := []) d_9_isHouse_13 mw_9_in ml_9_312 is_9_in rfl rfl (Nat.le_of_ble_eq_true rfl) fit_1_3_2 (s9_in rfl) ?_
  obtain ⟨hzb, h⟩ := z_gd h
  obtain rfl := Option.some.inj h
  exact ze_z d_9_isHouse_16 rfl (z_b_ok hzb)
def f9_isPerson (a1 : Int32) (μ : zMem) : Option (Int32) :=
  if z_in (μ.1 9 0 18) 2 = true then if z_b (f9_in a1 (0 : Int32) ((μ.1 126 0 (μ.1 9 0 18).toNatClampNeg) - (1 : Int32))) = true then some (f9_in a1 (0 : Int32) ((μ.1 126 0 (μ.1 9 0 18).toNatClampNeg) - (1 : Int32))) else none else none
theorem s9_isPerson {P : zP} {μ : zMem} {a1 : Int32} {r : Int32} (h : f9_isPerson a1 μ = some r) : z_Sp P y_9_isPerson M_9_isPerson 2 [zA 9 0, zI a1] μ (some (zI r)) μ := by
  refine z_Sp.of (plainFor_of_name (by decide)) rfl (l0 := [some (zA 9 0), some (zI a1)]) rfl (Nat.le_of_ble_eq_true rfl) ?_
  unfold f9_isPerson at h
  refine zr_iload_n (i := 1) d_9_isPerson_0 rfl rfl ?_
  refine zr_iconst (v := (0 : Int32)) d_9_isPerson_1 rfl ?_
  refine zr_aload_n (i := 0) d_9_isPerson_2 rfl rfl ?_
  refine zr_gets (i' := 0) d_9_isPerson_3 fw_9_55 rfl ?_
  refine zr_aload_n (i := 0) d_9_isPerson_6 rfl rfl ?_
  refine zr_geti d_9_isPerson_7 fw_9_233 (by decide) ?_
  obtain ⟨hb1, h⟩ := z_gd h
  refine zr_iald d_9_isPerson_10 sa_126 rfl hb1 ?_
  refine zr_iconst (v := (1 : Int32)) d_9_isPerson_11 rfl ?_
  refine zr_isub d_9_isPerson_12 ?_
  refine zr_callSi (av := [zI a1, zI (0 : Int32), zI ((μ.1 126 0 (μ.1 9 0 18).toNatClampNeg) - (1 : Int32))]) (st := []) d_9_isPerson_13 mw_9_in ml_9_312 is_9_in rfl rfl (Nat.le_of_ble_eq_true rfl) fit_1_3_2 (s9_in rfl) ?_
  obtain ⟨hzb, h⟩ := z_gd h
  obtain rfl := Option.some.inj h
  exact ze_z d_9_isPerson_16 rfl (z_b_ok hzb)
def f9_isNow (a1 : Int32) (a2 : Int32) (μ : zMem) : Option (Int32) :=
  (f9_isPerson a1 μ).bind (fun q1 => (if q1 = 0 then some (0 : Int32) else if z_in a1 34 = true then (if (μ.1 148 0 a1.toNatClampNeg) = a2 then some (1 : Int32) else some (0 : Int32)) else none))
theorem s9_isNow {P : zP} {μ : zMem} {a1 : Int32} {a2 : Int32} {r : Int32} (h : f9_isNow a1 a2 μ = some r) : z_Sp P y_9_isNow M_9_isNow 3 [zA 9 0, zI a1, zI a2] μ (some (zI r)) μ := by
  refine z_Sp.of (plainFor_of_name (by decide)) rfl (l0 := [some (zA 9 0), some (zI a1), some (zI a2)]) rfl (Nat.le_of_ble_eq_true rfl) ?_
  unfold f9_isNow at h
  refine zr_aload_n (i := 0) d_9_isNow_0 rfl rfl ?_
  refine zr_iload_n (i := 1) d_9_isNow_1 rfl rfl ?_
  obtain ⟨q1, hq2, h⟩ := z_bd h
  refine zr_callVi (av := [zI a1]) (st := []) d_9_isNow_2 mw_9_isPerson ml_9_316 im_9_isPerson se_9_isPerson rfl rfl (Nat.le_of_ble_eq_true rfl) fit_2_2_3 rfl rfl rfl (s9_isPerson hq2) ?_
  refine zr_if_eq (tgt := 22) d_9_isNow_5 rfl (fun hc3 => ?_) (fun hc3 => ?_)
  · replace h := z_ip h hc3
    refine zr_iconst (v := (0 : Int32)) d_9_isNow_22 rfl ?_
    obtain rfl := Option.some.inj h
    exact ze_z d_9_isNow_23 rfl rfl
  · replace h := z_im h hc3
    refine zr_aload_n (i := 0) d_9_isNow_8 rfl rfl ?_
    refine zr_gets (i' := 0) d_9_isNow_9 fw_9_110 rfl ?_
    refine zr_iload_n (i := 1) d_9_isNow_12 rfl rfl ?_
    obtain ⟨hb4, h⟩ := z_gd h
    refine zr_iald d_9_isNow_13 sa_148 rfl hb4 ?_
    refine zr_iload_n (i := 2) d_9_isNow_14 rfl rfl ?_
    refine zr_icmp_ne (tgt := 22) d_9_isNow_15 rfl (fun hc5 => ?_) (fun hc5 => ?_)
    · replace h := z_ip h hc5
      refine zr_iconst (v := (1 : Int32)) d_9_isNow_18 rfl ?_
      refine zr_goto (tgt := 23) d_9_isNow_19 rfl ?_
      obtain rfl := Option.some.inj h
      exact ze_z d_9_isNow_23 rfl rfl
    · replace h := z_im h hc5
      refine zr_iconst (v := (0 : Int32)) d_9_isNow_22 rfl ?_
      obtain rfl := Option.some.inj h
      exact ze_z d_9_isNow_23 rfl rfl
def f9_copies_L1  : (Int32 × zMem) → Option ((Int32 × zMem) ⊕ (zMem)) := (z_u2 fun x2 xm3 => 
  (if x2 < (34 : Int32) then if z_in x2 34 = true then z_let (z_sI xm3 149 0 x2.toNatClampNeg (xm3.1 148 0 x2.toNatClampNeg)) fun m6 => some (.inl ((x2 + (1 : Int32)), m6)) else none else some (.inr xm3)))
def f9_copies  (μ : zMem) : Option (zMem) :=
  (z_it (f9_copies_L1) z_fu ((0 : Int32), μ)).bind (fun e8 => if z_in (e8.1 9 0 18) 2 = true then z_let (z_sI e8 9 0 50 (e8.1 131 0 (e8.1 9 0 18).toNatClampNeg)) fun m11 => z_let (z_sI m11 9 0 51 (0 : Int32)) fun m13 => some m13 else none)
theorem s9_copies_L1 {P : zP} {ro : Option zV} {μo : zMem}  (x2 : Int32) (xm3 : zMem) (K : (Int32 × zMem) ⊕ (zMem)) (h : f9_copies_L1  (x2, xm3) = some K) (hI : ∀ (y0 : Int32) (y1 : zMem), K = .inl (y0, y1) → z_RQ P M_9_copies (z_rm 1) (z_mq P ro μo) 0 0 2 [some (zA 9 0), some (zI y0)] [] y1) (hE : ∀ (z0 : zMem), K = .inr z0 → z_RQ P M_9_copies (z_rm 1) (z_mq P ro μo) 0 0 26 [some (zA 9 0), none] [] z0)  : z_RQ P M_9_copies (z_rm 1) (z_mq P ro μo) 0 0 2 [some (zA 9 0), some (zI x2)] [] xm3 := by
  unfold f9_copies_L1 at h
  replace h := z_h2 h
  refine zr_iload_n (i := 1) d_9_copies_2 rfl rfl ?_
  refine zr_bipush (v := (34 : Int32)) d_9_copies_3 rfl ?_
  refine zr_icmp_ge (tgt := 26) d_9_copies_5 rfl (fun hc4 => ?_) (fun hc4 => ?_)
  · replace h := z_ip h hc4
    refine zr_aload_n (i := 0) d_9_copies_8 rfl rfl ?_
    refine zr_gets (i' := 0) d_9_copies_9 fw_9_113 rfl ?_
    refine zr_iload_n (i := 1) d_9_copies_12 rfl rfl ?_
    refine zr_aload_n (i := 0) d_9_copies_13 rfl rfl ?_
    refine zr_gets (i' := 0) d_9_copies_14 fw_9_110 rfl ?_
    refine zr_iload_n (i := 1) d_9_copies_17 rfl rfl ?_
    obtain ⟨hb5, h⟩ := z_gd h
    refine zr_iald d_9_copies_18 sa_148 rfl hb5 ?_
    obtain ⟨m6, hm7, h⟩ := z_lt h
    refine zr_iast d_9_copies_19 sa_149 rfl hb5 hm7 ?_
    refine zr_iinc (v := (x2 + (1 : Int32))) (l' := [some (zA 9 0), some (zI (x2 + (1 : Int32)))]) d_9_copies_20 (by decide) rfl rfl rfl ?_
    refine zr_goto (tgt := 2) d_9_copies_23 rfl ?_
    obtain rfl := Option.some.inj h
    exact zr_wk2 (hI (x2 + (1 : Int32)) m6 rfl) ⟨rfl, ⟨rfl, trivial⟩⟩
  · replace h := z_im h hc4
    obtain rfl := Option.some.inj h
    exact zr_wk2 (hE xm3 rfl) ⟨rfl, trivial⟩
theorem s9_copies {P : zP} {μ : zMem} {μ' : zMem} (h : f9_copies μ = some μ') : z_Sp P y_9_copies M_9_copies 1 [zA 9 0] μ none μ' := by
  refine z_Sp.of (plainFor_of_name (by decide)) rfl (l0 := [some (zA 9 0), none]) rfl (Nat.le_of_ble_eq_true rfl) ?_
  unfold f9_copies at h
  refine zr_iconst (v := (0 : Int32)) d_9_copies_0 rfl ?_
  refine zr_istore_n (i := 1) (l' := [some (zA 9 0), some (zI (0 : Int32))]) d_9_copies_1 rfl (by decide) rfl ?_
  obtain ⟨e8, hl9, h⟩ := z_bd h
  refine zr_wk (l' := [some (zA 9 0), some (zI (0 : Int32))]) ⟨rfl, ⟨rfl, trivial⟩⟩ ?_
  refine z_loop (Hd := (z_u2 fun y0 y1 => z_RQ P M_9_copies (z_rm 1) (z_mq P none μ') 0 0 2 [some (zA 9 0), some (zI y0)] [] y1)) (Ex := (fun z0 => z_RQ P M_9_copies (z_rm 1) (z_mq P none μ') 0 0 26 [some (zA 9 0), none] [] z0)) (fun ⟨x2, xm3⟩ K h hI hE => s9_copies_L1  x2 xm3 K h (fun y0 y1 e => hI (y0, y1) e) (fun z0 e => hE z0 e) ) _ _ _ hl9 ?_
  refine zr_aload_n (i := 0) d_9_copies_26 rfl rfl ?_
  refine zr_aload_n (i := 0) d_9_copies_27 rfl rfl ?_
  refine zr_gets (i' := 0) d_9_copies_28 fw_9_70 rfl ?_
  refine zr_aload_n (i := 0) d_9_copies_31 rfl rfl ?_
  refine zr_geti d_9_copies_32 fw_9_233 (by decide) ?_
  obtain ⟨hb10, h⟩ := z_gd h
  refine zr_iald d_9_copies_35 sa_131 rfl hb10 ?_
  obtain ⟨m11, hm12, h⟩ := z_lt h
  refine zr_puti d_9_copies_36 fw_9_319 pw_9_50 hm12 ?_
  refine zr_aload_n (i := 0) d_9_copies_39 rfl rfl ?_
  refine zr_iconst (v := (0 : Int32)) d_9_copies_40 rfl ?_
  obtain ⟨m13, hm14, h⟩ := z_lt h
  refine zr_putb d_9_copies_41 fw_9_322 pw_9_51 rfl rfl hm14 ?_
  obtain rfl := Option.some.inj h
  exact ze_v d_9_copies_44 rfl
def f9_copiesStill  (μ : zMem) : Option (zMem) :=
  (f9_copies μ).bind (fun qm1 => z_let (z_sI qm1 9 0 51 (1 : Int32)) fun m3 => some m3)
theorem s9_copiesStill {P : zP} {μ : zMem} {μ' : zMem} (h : f9_copiesStill μ = some μ') : z_Sp P y_9_copiesStill M_9_copiesStill 2 [zA 9 0] μ none μ' := by
  refine z_Sp.of (plainFor_of_name (by decide)) rfl (l0 := [some (zA 9 0)]) rfl (Nat.le_of_ble_eq_true rfl) ?_
  unfold f9_copiesStill at h
  refine zr_aload_n (i := 0) d_9_copiesStill_0 rfl rfl ?_
  obtain ⟨qm1, hq2, h⟩ := z_bd h
  refine zr_callVv (av := []) (st := []) d_9_copiesStill_1 mw_9_copies ml_9_325 im_9_copies se_9_copies rfl rfl (Nat.le_of_ble_eq_true rfl) fit_1_2_2 rfl rfl rfl (s9_copies hq2) ?_
  refine zr_aload_n (i := 0) d_9_copiesStill_4 rfl rfl ?_
  refine zr_iconst (v := (1 : Int32)) d_9_copiesStill_5 rfl ?_
  obtain ⟨m3, hm4, h⟩ := z_lt h
  refine zr_putb d_9_copiesStill_6 fw_9_322 pw_9_51 rfl rfl hm4 ?_
  obtain rfl := Option.some.inj h
  exact ze_v d_9_copiesStill_9 rfl
def f9_mixed (a0 : Int32) (a1 : Int32) : Int32 :=
  z_let (((a0 ^^^ a1) * (1103515245 : Int32)) + (12345 : Int32)) fun v1 => (v1 ^^^ (v1.toUInt32 >>> ((15 : Int32).toUInt32 &&& Int32.toUInt32 31)).toInt32)
theorem s9_mixed {P : zP} {μ : zMem} {a0 : Int32} {a1 : Int32} {r : Int32} (h : f9_mixed a0 a1 = r) : z_Sp P y_9_mixed M_9_mixed 1 [zI a0, zI a1] μ (some (zI r)) μ := by
  refine z_Sp.of (plainFor_of_name (by decide)) rfl (l0 := [some (zI a0), some (zI a1), none]) rfl (Nat.le_of_ble_eq_true rfl) ?_
  unfold f9_mixed at h
  refine zr_iload_n (i := 0) d_9_mixed_0 rfl rfl ?_
  refine zr_iload_n (i := 1) d_9_mixed_1 rfl rfl ?_
  refine zr_ixor d_9_mixed_2 ?_
  refine zr_ldcw (v := (1103515245 : Int32)) d_9_mixed_3 kc_9_328 ?_
  refine zr_imul d_9_mixed_6 ?_
  refine zr_sipush (v := (12345 : Int32)) d_9_mixed_7 rfl ?_
  refine zr_iadd d_9_mixed_10 ?_
  obtain ⟨v1, hv2, h⟩ := z_lt h
  refine zr_nm hv2 ?_
  refine zr_istore_n (i := 2) (l' := [some (zI a0), some (zI a1), some (zI v1)]) d_9_mixed_11 rfl (by decide) rfl ?_
  refine zr_iload_n (i := 2) d_9_mixed_12 rfl rfl ?_
  refine zr_iload_n (i := 2) d_9_mixed_13 rfl rfl ?_
  refine zr_bipush (v := (15 : Int32)) d_9_mixed_14 rfl ?_
  refine zr_iushr d_9_mixed_16 ?_
  refine zr_ixor d_9_mixed_17 ?_
  obtain rfl := h
  exact ze_i d_9_mixed_18 rfl
def f9_isLot (a1 : Int32) (a2 : Int32) (μ : zMem) : Int32 :=
  (if (μ.1 9 0 51) = 0 then (if (((f9_mixed (f9_mixed (μ.1 9 0 50) (181 : Int32)) a1).toUInt32 >>> ((1 : Int32).toUInt32 &&& Int32.toUInt32 31)).toInt32 - ((f9_mixed (f9_mixed (μ.1 9 0 50) (181 : Int32)) a1).toUInt32 >>> ((1 : Int32).toUInt32 &&& Int32.toUInt32 31)).toInt32 / (100 : Int32) * (100 : Int32)) < a2 then (1 : Int32) else (0 : Int32)) else (0 : Int32))
theorem s9_isLot {P : zP} {μ : zMem} {a1 : Int32} {a2 : Int32} {r : Int32} (h : f9_isLot a1 a2 μ = r) : z_Sp P y_9_isLot M_9_isLot 2 [zA 9 0, zI a1, zI a2] μ (some (zI r)) μ := by
  refine z_Sp.of (plainFor_of_name (by decide)) rfl (l0 := [some (zA 9 0), some (zI a1), some (zI a2)]) rfl (Nat.le_of_ble_eq_true rfl) ?_
  unfold f9_isLot at h
  refine zr_aload_n (i := 0) d_9_isLot_0 rfl rfl ?_
  refine zr_geti d_9_isLot_1 fw_9_322 (by decide) ?_
  refine zr_if_ne (tgt := 34) d_9_isLot_4 rfl (fun hc1 => ?_) (fun hc1 => ?_)
  · replace h := z_ip h hc1
    refine zr_aload_n (i := 0) d_9_isLot_7 rfl rfl ?_
    refine zr_geti d_9_isLot_8 fw_9_319 (by decide) ?_
    refine zr_sipush (v := (181 : Int32)) d_9_isLot_11 rfl ?_
    refine zr_callSi (av := [zI (μ.1 9 0 50), zI (181 : Int32)]) (st := []) d_9_isLot_14 mw_9_mixed ml_9_329 is_9_mixed rfl rfl (Nat.le_of_ble_eq_true rfl) fit_1_3_2 (s9_mixed rfl) ?_
    refine zr_iload_n (i := 1) d_9_isLot_17 rfl rfl ?_
    refine zr_callSi (av := [zI (f9_mixed (μ.1 9 0 50) (181 : Int32)), zI a1]) (st := []) d_9_isLot_18 mw_9_mixed ml_9_329 is_9_mixed rfl rfl (Nat.le_of_ble_eq_true rfl) fit_1_3_2 (s9_mixed rfl) ?_
    refine zr_iconst (v := (1 : Int32)) d_9_isLot_21 rfl ?_
    refine zr_iushr d_9_isLot_22 ?_
    refine zr_bipush (v := (100 : Int32)) d_9_isLot_23 rfl ?_
    refine zr_irem d_9_isLot_25 (by decide) ?_
    refine zr_iload_n (i := 2) d_9_isLot_26 rfl rfl ?_
    refine zr_icmp_ge (tgt := 34) d_9_isLot_27 rfl (fun hc4 => ?_) (fun hc4 => ?_)
    · replace h := z_ip h hc4
      refine zr_iconst (v := (1 : Int32)) d_9_isLot_30 rfl ?_
      refine zr_goto (tgt := 35) d_9_isLot_31 rfl ?_
      obtain rfl := h
      exact ze_z d_9_isLot_35 rfl rfl
    · replace h := z_im h hc4
      refine zr_iconst (v := (0 : Int32)) d_9_isLot_34 rfl ?_
      obtain rfl := h
      exact ze_z d_9_isLot_35 rfl rfl
  · replace h := z_im h hc1
    refine zr_iconst (v := (0 : Int32)) d_9_isLot_34 rfl ?_
    obtain rfl := h
    exact ze_z d_9_isLot_35 rfl rfl
def f9_hasRight (a1 : Int32) (a2 : Int32) (μ : zMem) : Option (Int32) :=
  if z_in ((28 : Int32) + a2) 34 = true then (if (((μ.1 149 0 ((28 : Int32) + a2).toNatClampNeg) >>> (a1 &&& 31)) &&& (1 : Int32)) = (1 : Int32) then some (1 : Int32) else some (0 : Int32)) else none
theorem s9_hasRight {P : zP} {μ : zMem} {a1 : Int32} {a2 : Int32} {r : Int32} (h : f9_hasRight a1 a2 μ = some r) : z_Sp P y_9_hasRight M_9_hasRight 1 [zA 9 0, zI a1, zI a2] μ (some (zI r)) μ := by
  refine z_Sp.of (plainFor_of_name (by decide)) rfl (l0 := [some (zA 9 0), some (zI a1), some (zI a2)]) rfl (Nat.le_of_ble_eq_true rfl) ?_
  unfold f9_hasRight at h
  refine zr_aload_n (i := 0) d_9_hasRight_0 rfl rfl ?_
  refine zr_gets (i' := 0) d_9_hasRight_1 fw_9_113 rfl ?_
  refine zr_bipush (v := (28 : Int32)) d_9_hasRight_4 rfl ?_
  refine zr_iload_n (i := 2) d_9_hasRight_6 rfl rfl ?_
  refine zr_iadd d_9_hasRight_7 ?_
  obtain ⟨hb1, h⟩ := z_gd h
  refine zr_iald d_9_hasRight_8 sa_149 rfl hb1 ?_
  refine zr_iload_n (i := 1) d_9_hasRight_9 rfl rfl ?_
  refine zr_ishr d_9_hasRight_10 ?_
  refine zr_iconst (v := (1 : Int32)) d_9_hasRight_11 rfl ?_
  refine zr_iand d_9_hasRight_12 ?_
  refine zr_iconst (v := (1 : Int32)) d_9_hasRight_13 rfl ?_
  refine zr_icmp_ne (tgt := 21) d_9_hasRight_14 rfl (fun hc2 => ?_) (fun hc2 => ?_)
  · replace h := z_ip h hc2
    refine zr_iconst (v := (1 : Int32)) d_9_hasRight_17 rfl ?_
    refine zr_goto (tgt := 22) d_9_hasRight_18 rfl ?_
    obtain rfl := Option.some.inj h
    exact ze_z d_9_hasRight_22 rfl rfl
  · replace h := z_im h hc2
    refine zr_iconst (v := (0 : Int32)) d_9_hasRight_21 rfl ?_
    obtain rfl := Option.some.inj h
    exact ze_z d_9_hasRight_22 rfl rfl
def f9_longestBut_L1 (a1 : Int32) (a2 : Int32) (μ : zMem) : (Int32 × Int32) → Option ((Int32 × Int32) ⊕ (Int32)) := (z_u2 fun x2 x3 => 
  if z_in (μ.1 9 0 18) 2 = true then (if x3 < (μ.1 126 0 (μ.1 9 0 18).toNatClampNeg) then ((if x3 = a2 then some x2 else if z_in x3 34 = true then (if (μ.1 149 0 x3.toNatClampNeg) = (1 : Int32) then (f9_hasRight x3 a1 μ).bind (fun q11 => (if q11 = 0 then some x2 else (if x2 < 0 then some x3 else if z_in ((7 : Int32) + x3) 34 = true then if z_in ((7 : Int32) + x2) 34 = true then (if (μ.1 149 0 ((7 : Int32) + x2).toNatClampNeg) < (μ.1 149 0 ((7 : Int32) + x3).toNatClampNeg) then some x3 else some x2) else none else none))) else some x2) else none) : Option (Int32)).bind (fun j18 => some (.inl (j18, (x3 + (1 : Int32))))) else some (.inr x2)) else none)
def f9_longestBut (a1 : Int32) (a2 : Int32) (μ : zMem) : Option (Int32) :=
  (z_it (f9_longestBut_L1 a1 a2 μ) z_fu ((-2 : Int32), (0 : Int32))).bind (fun e19 => some e19)
theorem s9_longestBut_L1 {P : zP} {ro : Option zV} {μo : zMem} (a1 : Int32) (a2 : Int32) (μ : zMem) (x2 : Int32) (x3 : Int32) (K : (Int32 × Int32) ⊕ (Int32)) (h : f9_longestBut_L1 a1 a2 μ (x2, x3) = some K) (hI : ∀ (y0 : Int32) (y1 : Int32), K = .inl (y0, y1) → z_RQ P M_9_longestBut (z_rm 2) (z_mq P ro μo) 0 0 6 [some (zA 9 0), some (zI a1), some (zI a2), some (zI y0), some (zI y1)] [] μ) (hE : ∀ (z0 : Int32), K = .inr z0 → z_RQ P M_9_longestBut (z_rm 2) (z_mq P ro μo) 0 0 85 [none, none, none, some (zI z0), none] [] μ)  : z_RQ P M_9_longestBut (z_rm 2) (z_mq P ro μo) 0 0 6 [some (zA 9 0), some (zI a1), some (zI a2), some (zI x2), some (zI x3)] [] μ := by
  unfold f9_longestBut_L1 at h
  replace h := z_h2 h
  refine zr_iload d_9_longestBut_6 rfl ?_
  refine zr_aload_n (i := 0) d_9_longestBut_8 rfl rfl ?_
  refine zr_gets (i' := 0) d_9_longestBut_9 fw_9_55 rfl ?_
  refine zr_aload_n (i := 0) d_9_longestBut_12 rfl rfl ?_
  refine zr_geti d_9_longestBut_13 fw_9_233 (by decide) ?_
  obtain ⟨hb4, h⟩ := z_gd h
  refine zr_iald d_9_longestBut_16 sa_126 rfl hb4 ?_
  refine zr_icmp_ge (tgt := 85) d_9_longestBut_17 rfl (fun hc5 => ?_) (fun hc5 => ?_)
  · replace h := z_ip h hc5
    refine zr_iload d_9_longestBut_20 rfl ?_
    refine zr_iload_n (i := 2) d_9_longestBut_22 rfl rfl ?_
    obtain ⟨j18, hT6, h⟩ := z_bd h
    have hJ7 : z_RQ P M_9_longestBut (z_rm 2) (z_mq P ro μo) 0 0 79 [some (zA 9 0), some (zI a1), some (zI a2), some (zI j18), some (zI x3)] [] μ := by
      refine zr_iinc (v := (x3 + (1 : Int32))) (l' := [some (zA 9 0), some (zI a1), some (zI a2), some (zI j18), some (zI (x3 + (1 : Int32)))]) d_9_longestBut_79 (by decide) rfl rfl rfl ?_
      refine zr_goto (tgt := 6) d_9_longestBut_82 rfl ?_
      obtain rfl := Option.some.inj h
      exact zr_wk2 (hI j18 (x3 + (1 : Int32)) rfl) ⟨rfl, ⟨rfl, ⟨rfl, ⟨rfl, ⟨rfl, trivial⟩⟩⟩⟩⟩
    refine zr_icmp_eq (tgt := 79) d_9_longestBut_23 rfl (fun hc8 => ?_) (fun hc8 => ?_)
    · replace hT6 := z_ip hT6 hc8
      obtain rfl := Option.some.inj hT6
      exact zr_wk2 hJ7 ⟨rfl, ⟨rfl, ⟨rfl, ⟨rfl, ⟨rfl, trivial⟩⟩⟩⟩⟩
    · replace hT6 := z_im hT6 hc8
      refine zr_aload_n (i := 0) d_9_longestBut_26 rfl rfl ?_
      refine zr_gets (i' := 0) d_9_longestBut_27 fw_9_113 rfl ?_
      refine zr_iload d_9_longestBut_30 rfl ?_
      obtain ⟨hb9, hT6⟩ := z_gd hT6
      refine zr_iald d_9_longestBut_32 sa_149 rfl hb9 ?_
      refine zr_iconst (v := (1 : Int32)) d_9_longestBut_33 rfl ?_
      refine zr_icmp_ne (tgt := 79) d_9_longestBut_34 rfl (fun hc10 => ?_) (fun hc10 => ?_)
      · replace hT6 := z_ip hT6 hc10
        refine zr_aload_n (i := 0) d_9_longestBut_37 rfl rfl ?_
        refine zr_iload d_9_longestBut_38 rfl ?_
        refine zr_iload_n (i := 1) d_9_longestBut_40 rfl rfl ?_
        obtain ⟨q11, hq12, hT6⟩ := z_bd hT6
        refine zr_callVi (av := [zI x3, zI a1]) (st := []) d_9_longestBut_41 mw_9_hasRight ml_9_333 im_9_hasRight se_9_hasRight rfl rfl (Nat.le_of_ble_eq_true rfl) fit_1_3_2 rfl rfl rfl (s9_hasRight hq12) ?_
        refine zr_if_ne (tgt := 50) d_9_longestBut_44 rfl (fun hc13 => ?_) (fun hc13 => ?_)
        · replace hT6 := z_ip hT6 hc13
          refine zr_goto (tgt := 79) d_9_longestBut_47 rfl ?_
          obtain rfl := Option.some.inj hT6
          exact zr_wk2 hJ7 ⟨rfl, ⟨rfl, ⟨rfl, ⟨rfl, ⟨rfl, trivial⟩⟩⟩⟩⟩
        · replace hT6 := z_im hT6 hc13
          refine zr_iload_n (i := 3) d_9_longestBut_50 rfl rfl ?_
          refine zr_if_lt (tgt := 76) d_9_longestBut_51 rfl (fun hc14 => ?_) (fun hc14 => ?_)
          · replace hT6 := z_ip hT6 hc14
            refine zr_iload d_9_longestBut_76 rfl ?_
            refine zr_istore_n (i := 3) (l' := [some (zA 9 0), some (zI a1), some (zI a2), some (zI x3), some (zI x3)]) d_9_longestBut_78 rfl (by decide) rfl ?_
            obtain rfl := Option.some.inj hT6
            exact zr_wk2 hJ7 ⟨rfl, ⟨rfl, ⟨rfl, ⟨rfl, ⟨rfl, trivial⟩⟩⟩⟩⟩
          · replace hT6 := z_im hT6 hc14
            refine zr_aload_n (i := 0) d_9_longestBut_54 rfl rfl ?_
            refine zr_gets (i' := 0) d_9_longestBut_55 fw_9_113 rfl ?_
            refine zr_bipush (v := (7 : Int32)) d_9_longestBut_58 rfl ?_
            refine zr_iload d_9_longestBut_60 rfl ?_
            refine zr_iadd d_9_longestBut_62 ?_
            obtain ⟨hb15, hT6⟩ := z_gd hT6
            refine zr_iald d_9_longestBut_63 sa_149 rfl hb15 ?_
            refine zr_aload_n (i := 0) d_9_longestBut_64 rfl rfl ?_
            refine zr_gets (i' := 0) d_9_longestBut_65 fw_9_113 rfl ?_
            refine zr_bipush (v := (7 : Int32)) d_9_longestBut_68 rfl ?_
            refine zr_iload_n (i := 3) d_9_longestBut_70 rfl rfl ?_
            refine zr_iadd d_9_longestBut_71 ?_
            obtain ⟨hb16, hT6⟩ := z_gd hT6
            refine zr_iald d_9_longestBut_72 sa_149 rfl hb16 ?_
            refine zr_icmp_le (tgt := 79) d_9_longestBut_73 rfl (fun hc17 => ?_) (fun hc17 => ?_)
            · replace hT6 := z_ip hT6 hc17
              refine zr_iload d_9_longestBut_76 rfl ?_
              refine zr_istore_n (i := 3) (l' := [some (zA 9 0), some (zI a1), some (zI a2), some (zI x3), some (zI x3)]) d_9_longestBut_78 rfl (by decide) rfl ?_
              obtain rfl := Option.some.inj hT6
              exact zr_wk2 hJ7 ⟨rfl, ⟨rfl, ⟨rfl, ⟨rfl, ⟨rfl, trivial⟩⟩⟩⟩⟩
            · replace hT6 := z_im hT6 hc17
              obtain rfl := Option.some.inj hT6
              exact zr_wk2 hJ7 ⟨rfl, ⟨rfl, ⟨rfl, ⟨rfl, ⟨rfl, trivial⟩⟩⟩⟩⟩
      · replace hT6 := z_im hT6 hc10
        obtain rfl := Option.some.inj hT6
        exact zr_wk2 hJ7 ⟨rfl, ⟨rfl, ⟨rfl, ⟨rfl, ⟨rfl, trivial⟩⟩⟩⟩⟩
  · replace h := z_im h hc5
    obtain rfl := Option.some.inj h
    exact zr_wk2 (hE x2 rfl) ⟨rfl, trivial⟩
theorem s9_longestBut {P : zP} {μ : zMem} {a1 : Int32} {a2 : Int32} {r : Int32} (h : f9_longestBut a1 a2 μ = some r) : z_Sp P y_9_longestBut M_9_longestBut 2 [zA 9 0, zI a1, zI a2] μ (some (zI r)) μ := by
  refine z_Sp.of (plainFor_of_name (by decide)) rfl (l0 := [some (zA 9 0), some (zI a1), some (zI a2), none, none]) rfl (Nat.le_of_ble_eq_true rfl) ?_
  unfold f9_longestBut at h
  refine zr_bipush (v := (-2 : Int32)) d_9_longestBut_0 (by decide) ?_
  refine zr_istore_n (i := 3) (l' := [some (zA 9 0), some (zI a1), some (zI a2), some (zI (-2 : Int32)), none]) d_9_longestBut_2 rfl (by decide) rfl ?_
  refine zr_iconst (v := (0 : Int32)) d_9_longestBut_3 rfl ?_
  refine zr_istore (i := 4) (l' := [some (zA 9 0), some (zI a1), some (zI a2), some (zI (-2 : Int32)), some (zI (0 : Int32))]) d_9_longestBut_4 (by decide) rfl ?_
  obtain ⟨e19, hl20, h⟩ := z_bd h
  refine zr_wk (l' := [some (zA 9 0), some (zI a1), some (zI a2), some (zI (-2 : Int32)), some (zI (0 : Int32))]) ⟨rfl, ⟨rfl, ⟨rfl, ⟨rfl, ⟨rfl, trivial⟩⟩⟩⟩⟩ ?_
  refine z_loop (Hd := (z_u2 fun y0 y1 => z_RQ P M_9_longestBut (z_rm 2) (z_mq P (some (zI r)) μ) 0 0 6 [some (zA 9 0), some (zI a1), some (zI a2), some (zI y0), some (zI y1)] [] μ)) (Ex := (fun z0 => z_RQ P M_9_longestBut (z_rm 2) (z_mq P (some (zI r)) μ) 0 0 85 [none, none, none, some (zI z0), none] [] μ)) (fun ⟨x2, x3⟩ K h hI hE => s9_longestBut_L1 a1 a2 μ x2 x3 K h (fun y0 y1 e => hI (y0, y1) e) (fun z0 e => hE z0 e) ) _ _ _ hl20 ?_
  refine zr_iload_n (i := 3) d_9_longestBut_85 rfl rfl ?_
  obtain rfl := Option.some.inj h
  exact ze_i d_9_longestBut_86 rfl
def f9_lordOf (a1 : Int32) (μ : zMem) : Option (Int32) :=
  (f9_longestBut a1 (-1 : Int32) μ).bind (fun q1 => some q1)
theorem s9_lordOf {P : zP} {μ : zMem} {a1 : Int32} {r : Int32} (h : f9_lordOf a1 μ = some r) : z_Sp P y_9_lordOf M_9_lordOf 3 [zA 9 0, zI a1] μ (some (zI r)) μ := by
  refine z_Sp.of (plainFor_of_name (by decide)) rfl (l0 := [some (zA 9 0), some (zI a1)]) rfl (Nat.le_of_ble_eq_true rfl) ?_
  unfold f9_lordOf at h
  refine zr_aload_n (i := 0) d_9_lordOf_0 rfl rfl ?_
  refine zr_iload_n (i := 1) d_9_lordOf_1 rfl rfl ?_
  refine zr_iconst (v := (-1 : Int32)) d_9_lordOf_2 rfl ?_
  obtain ⟨q1, hq2, h⟩ := z_bd h
  refine zr_callVi (av := [zI a1, zI (-1 : Int32)]) (st := []) d_9_lordOf_3 mw_9_longestBut ml_9_337 im_9_longestBut se_9_longestBut rfl rfl (Nat.le_of_ble_eq_true rfl) fit_2_5_3 rfl rfl rfl (s9_longestBut hq2) ?_
  obtain rfl := Option.some.inj h
  exact ze_i d_9_lordOf_6 rfl
def f9_lordBits_L1 (a1 : Int32) (μ : zMem) : (Int32 × Int32) → Option ((Int32 × Int32) ⊕ (Int32)) := (z_u2 fun x2 x3 => 
  if z_in (μ.1 9 0 18) 2 = true then (if x3 < (μ.1 123 0 (μ.1 9 0 18).toNatClampNeg) then (f9_lordOf x3 μ).bind (fun q6 => ((if q6 = a1 then z_let (x2 ||| ((1 : Int32) <<< (x3 &&& 31))) fun v11 => some v11 else some x2) : Option (Int32)).bind (fun j13 => some (.inl (j13, (x3 + (1 : Int32)))))) else some (.inr x2)) else none)
def f9_lordBits (a1 : Int32) (μ : zMem) : Option (Int32) :=
  (z_it (f9_lordBits_L1 a1 μ) z_fu ((0 : Int32), (0 : Int32))).bind (fun e14 => some e14)
theorem s9_lordBits_L1 {P : zP} {ro : Option zV} {μo : zMem} (a1 : Int32) (μ : zMem) (x2 : Int32) (x3 : Int32) (K : (Int32 × Int32) ⊕ (Int32)) (h : f9_lordBits_L1 a1 μ (x2, x3) = some K) (hI : ∀ (y0 : Int32) (y1 : Int32), K = .inl (y0, y1) → z_RQ P M_9_lordBits (z_rm 4) (z_mq P ro μo) 0 0 4 [some (zA 9 0), some (zI a1), some (zI y0), some (zI y1)] [] μ) (hE : ∀ (z0 : Int32), K = .inr z0 → z_RQ P M_9_lordBits (z_rm 4) (z_mq P ro μo) 0 0 38 [none, none, some (zI z0), none] [] μ)  : z_RQ P M_9_lordBits (z_rm 4) (z_mq P ro μo) 0 0 4 [some (zA 9 0), some (zI a1), some (zI x2), some (zI x3)] [] μ := by
  unfold f9_lordBits_L1 at h
  replace h := z_h2 h
  refine zr_iload_n (i := 3) d_9_lordBits_4 rfl rfl ?_
  refine zr_aload_n (i := 0) d_9_lordBits_5 rfl rfl ?_
  refine zr_gets (i' := 0) d_9_lordBits_6 fw_9_46 rfl ?_
  refine zr_aload_n (i := 0) d_9_lordBits_9 rfl rfl ?_
  refine zr_geti d_9_lordBits_10 fw_9_233 (by decide) ?_
  obtain ⟨hb4, h⟩ := z_gd h
  refine zr_iald d_9_lordBits_13 sa_123 rfl hb4 ?_
  refine zr_icmp_ge (tgt := 38) d_9_lordBits_14 rfl (fun hc5 => ?_) (fun hc5 => ?_)
  · replace h := z_ip h hc5
    refine zr_aload_n (i := 0) d_9_lordBits_17 rfl rfl ?_
    refine zr_iload_n (i := 3) d_9_lordBits_18 rfl rfl ?_
    obtain ⟨q6, hq7, h⟩ := z_bd h
    refine zr_callVi (av := [zI x3]) (st := []) d_9_lordBits_19 mw_9_lordOf ml_9_340 im_9_lordOf se_9_lordOf rfl rfl (Nat.le_of_ble_eq_true rfl) fit_3_2_4 rfl rfl rfl (s9_lordOf hq7) ?_
    refine zr_iload_n (i := 1) d_9_lordBits_22 rfl rfl ?_
    obtain ⟨j13, hT8, h⟩ := z_bd h
    have hJ9 : z_RQ P M_9_lordBits (z_rm 4) (z_mq P ro μo) 0 0 32 [some (zA 9 0), some (zI a1), some (zI j13), some (zI x3)] [] μ := by
      refine zr_iinc (v := (x3 + (1 : Int32))) (l' := [some (zA 9 0), some (zI a1), some (zI j13), some (zI (x3 + (1 : Int32)))]) d_9_lordBits_32 (by decide) rfl rfl rfl ?_
      refine zr_goto (tgt := 4) d_9_lordBits_35 rfl ?_
      obtain rfl := Option.some.inj h
      exact zr_wk2 (hI j13 (x3 + (1 : Int32)) rfl) ⟨rfl, ⟨rfl, ⟨rfl, ⟨rfl, trivial⟩⟩⟩⟩
    refine zr_icmp_ne (tgt := 32) d_9_lordBits_23 rfl (fun hc10 => ?_) (fun hc10 => ?_)
    · replace hT8 := z_ip hT8 hc10
      refine zr_iload_n (i := 2) d_9_lordBits_26 rfl rfl ?_
      refine zr_iconst (v := (1 : Int32)) d_9_lordBits_27 rfl ?_
      refine zr_iload_n (i := 3) d_9_lordBits_28 rfl rfl ?_
      refine zr_ishl d_9_lordBits_29 ?_
      refine zr_ior d_9_lordBits_30 ?_
      obtain ⟨v11, hv12, hT8⟩ := z_lt hT8
      refine zr_nm hv12 ?_
      refine zr_istore_n (i := 2) (l' := [some (zA 9 0), some (zI a1), some (zI v11), some (zI x3)]) d_9_lordBits_31 rfl (by decide) rfl ?_
      obtain rfl := Option.some.inj hT8
      exact zr_wk2 hJ9 ⟨rfl, ⟨rfl, ⟨rfl, ⟨rfl, trivial⟩⟩⟩⟩
    · replace hT8 := z_im hT8 hc10
      obtain rfl := Option.some.inj hT8
      exact zr_wk2 hJ9 ⟨rfl, ⟨rfl, ⟨rfl, ⟨rfl, trivial⟩⟩⟩⟩
  · replace h := z_im h hc5
    obtain rfl := Option.some.inj h
    exact zr_wk2 (hE x2 rfl) ⟨rfl, trivial⟩
theorem s9_lordBits {P : zP} {μ : zMem} {a1 : Int32} {r : Int32} (h : f9_lordBits a1 μ = some r) : z_Sp P y_9_lordBits M_9_lordBits 4 [zA 9 0, zI a1] μ (some (zI r)) μ := by
  refine z_Sp.of (plainFor_of_name (by decide)) rfl (l0 := [some (zA 9 0), some (zI a1), none, none]) rfl (Nat.le_of_ble_eq_true rfl) ?_
  unfold f9_lordBits at h
  refine zr_iconst (v := (0 : Int32)) d_9_lordBits_0 rfl ?_
  refine zr_istore_n (i := 2) (l' := [some (zA 9 0), some (zI a1), some (zI (0 : Int32)), none]) d_9_lordBits_1 rfl (by decide) rfl ?_
  refine zr_iconst (v := (0 : Int32)) d_9_lordBits_2 rfl ?_
  refine zr_istore_n (i := 3) (l' := [some (zA 9 0), some (zI a1), some (zI (0 : Int32)), some (zI (0 : Int32))]) d_9_lordBits_3 rfl (by decide) rfl ?_
  obtain ⟨e14, hl15, h⟩ := z_bd h
  refine zr_wk (l' := [some (zA 9 0), some (zI a1), some (zI (0 : Int32)), some (zI (0 : Int32))]) ⟨rfl, ⟨rfl, ⟨rfl, ⟨rfl, trivial⟩⟩⟩⟩ ?_
  refine z_loop (Hd := (z_u2 fun y0 y1 => z_RQ P M_9_lordBits (z_rm 4) (z_mq P (some (zI r)) μ) 0 0 4 [some (zA 9 0), some (zI a1), some (zI y0), some (zI y1)] [] μ)) (Ex := (fun z0 => z_RQ P M_9_lordBits (z_rm 4) (z_mq P (some (zI r)) μ) 0 0 38 [none, none, some (zI z0), none] [] μ)) (fun ⟨x2, x3⟩ K h hI hE => s9_lordBits_L1 a1 μ x2 x3 K h (fun y0 y1 e => hI (y0, y1) e) (fun z0 e => hE z0 e) ) _ _ _ hl15 ?_
  refine zr_iload_n (i := 2) d_9_lordBits_38 rfl rfl ?_
  obtain rfl := Option.some.inj h
  exact ze_i d_9_lordBits_39 rfl
def f9_rightBits_L1 (a1 : Int32) (μ : zMem) : (Int32 × Int32) → Option ((Int32 × Int32) ⊕ (Int32)) := (z_u2 fun x2 x3 => 
  if z_in (μ.1 9 0 18) 2 = true then (if x3 < (μ.1 123 0 (μ.1 9 0 18).toNatClampNeg) then (f9_hasRight a1 x3 μ).bind (fun q6 => ((if q6 = 0 then some x2 else z_let (x2 ||| ((1 : Int32) <<< (x3 &&& 31))) fun v11 => some v11) : Option (Int32)).bind (fun j13 => some (.inl (j13, (x3 + (1 : Int32)))))) else some (.inr x2)) else none)
def f9_rightBits (a1 : Int32) (μ : zMem) : Option (Int32) :=
  (z_it (f9_rightBits_L1 a1 μ) z_fu ((0 : Int32), (0 : Int32))).bind (fun e14 => some e14)
theorem s9_rightBits_L1 {P : zP} {ro : Option zV} {μo : zMem} (a1 : Int32) (μ : zMem) (x2 : Int32) (x3 : Int32) (K : (Int32 × Int32) ⊕ (Int32)) (h : f9_rightBits_L1 a1 μ (x2, x3) = some K) (hI : ∀ (y0 : Int32) (y1 : Int32), K = .inl (y0, y1) → z_RQ P M_9_rightBits (z_rm 2) (z_mq P ro μo) 0 0 4 [some (zA 9 0), some (zI a1), some (zI y0), some (zI y1)] [] μ) (hE : ∀ (z0 : Int32), K = .inr z0 → z_RQ P M_9_rightBits (z_rm 2) (z_mq P ro μo) 0 0 38 [none, none, some (zI z0), none] [] μ)  : z_RQ P M_9_rightBits (z_rm 2) (z_mq P ro μo) 0 0 4 [some (zA 9 0), some (zI a1), some (zI x2), some (zI x3)] [] μ := by
  unfold f9_rightBits_L1 at h
  replace h := z_h2 h
  refine zr_iload_n (i := 3) d_9_rightBits_4 rfl rfl ?_
  refine zr_aload_n (i := 0) d_9_rightBits_5 rfl rfl ?_
  refine zr_gets (i' := 0) d_9_rightBits_6 fw_9_46 rfl ?_
  refine zr_aload_n (i := 0) d_9_rightBits_9 rfl rfl ?_
  refine zr_geti d_9_rightBits_10 fw_9_233 (by decide) ?_
  obtain ⟨hb4, h⟩ := z_gd h
  refine zr_iald d_9_rightBits_13 sa_123 rfl hb4 ?_
  refine zr_icmp_ge (tgt := 38) d_9_rightBits_14 rfl (fun hc5 => ?_) (fun hc5 => ?_)
  · replace h := z_ip h hc5
    refine zr_aload_n (i := 0) d_9_rightBits_17 rfl rfl ?_
    refine zr_iload_n (i := 1) d_9_rightBits_18 rfl rfl ?_
    refine zr_iload_n (i := 3) d_9_rightBits_19 rfl rfl ?_
    obtain ⟨q6, hq7, h⟩ := z_bd h
    refine zr_callVi (av := [zI a1, zI x3]) (st := []) d_9_rightBits_20 mw_9_hasRight ml_9_333 im_9_hasRight se_9_hasRight rfl rfl (Nat.le_of_ble_eq_true rfl) fit_1_3_2 rfl rfl rfl (s9_hasRight hq7) ?_
    obtain ⟨j13, hT8, h⟩ := z_bd h
    have hJ9 : z_RQ P M_9_rightBits (z_rm 2) (z_mq P ro μo) 0 0 32 [some (zA 9 0), some (zI a1), some (zI j13), some (zI x3)] [] μ := by
      refine zr_iinc (v := (x3 + (1 : Int32))) (l' := [some (zA 9 0), some (zI a1), some (zI j13), some (zI (x3 + (1 : Int32)))]) d_9_rightBits_32 (by decide) rfl rfl rfl ?_
      refine zr_goto (tgt := 4) d_9_rightBits_35 rfl ?_
      obtain rfl := Option.some.inj h
      exact zr_wk2 (hI j13 (x3 + (1 : Int32)) rfl) ⟨rfl, ⟨rfl, ⟨rfl, ⟨rfl, trivial⟩⟩⟩⟩
    refine zr_if_eq (tgt := 32) d_9_rightBits_23 rfl (fun hc10 => ?_) (fun hc10 => ?_)
    · replace hT8 := z_ip hT8 hc10
      obtain rfl := Option.some.inj hT8
      exact zr_wk2 hJ9 ⟨rfl, ⟨rfl, ⟨rfl, ⟨rfl, trivial⟩⟩⟩⟩
    · replace hT8 := z_im hT8 hc10
      refine zr_iload_n (i := 2) d_9_rightBits_26 rfl rfl ?_
      refine zr_iconst (v := (1 : Int32)) d_9_rightBits_27 rfl ?_
      refine zr_iload_n (i := 3) d_9_rightBits_28 rfl rfl ?_
      refine zr_ishl d_9_rightBits_29 ?_
      refine zr_ior d_9_rightBits_30 ?_
      obtain ⟨v11, hv12, hT8⟩ := z_lt hT8
      refine zr_nm hv12 ?_
      refine zr_istore_n (i := 2) (l' := [some (zA 9 0), some (zI a1), some (zI v11), some (zI x3)]) d_9_rightBits_31 rfl (by decide) rfl ?_
      obtain rfl := Option.some.inj hT8
      exact zr_wk2 hJ9 ⟨rfl, ⟨rfl, ⟨rfl, ⟨rfl, trivial⟩⟩⟩⟩
  · replace h := z_im h hc5
    obtain rfl := Option.some.inj h
    exact zr_wk2 (hE x2 rfl) ⟨rfl, trivial⟩
theorem s9_rightBits {P : zP} {μ : zMem} {a1 : Int32} {r : Int32} (h : f9_rightBits a1 μ = some r) : z_Sp P y_9_rightBits M_9_rightBits 2 [zA 9 0, zI a1] μ (some (zI r)) μ := by
  refine z_Sp.of (plainFor_of_name (by decide)) rfl (l0 := [some (zA 9 0), some (zI a1), none, none]) rfl (Nat.le_of_ble_eq_true rfl) ?_
  unfold f9_rightBits at h
  refine zr_iconst (v := (0 : Int32)) d_9_rightBits_0 rfl ?_
  refine zr_istore_n (i := 2) (l' := [some (zA 9 0), some (zI a1), some (zI (0 : Int32)), none]) d_9_rightBits_1 rfl (by decide) rfl ?_
  refine zr_iconst (v := (0 : Int32)) d_9_rightBits_2 rfl ?_
  refine zr_istore_n (i := 3) (l' := [some (zA 9 0), some (zI a1), some (zI (0 : Int32)), some (zI (0 : Int32))]) d_9_rightBits_3 rfl (by decide) rfl ?_
  obtain ⟨e14, hl15, h⟩ := z_bd h
  refine zr_wk (l' := [some (zA 9 0), some (zI a1), some (zI (0 : Int32)), some (zI (0 : Int32))]) ⟨rfl, ⟨rfl, ⟨rfl, ⟨rfl, trivial⟩⟩⟩⟩ ?_
  refine z_loop (Hd := (z_u2 fun y0 y1 => z_RQ P M_9_rightBits (z_rm 2) (z_mq P (some (zI r)) μ) 0 0 4 [some (zA 9 0), some (zI a1), some (zI y0), some (zI y1)] [] μ)) (Ex := (fun z0 => z_RQ P M_9_rightBits (z_rm 2) (z_mq P (some (zI r)) μ) 0 0 38 [none, none, some (zI z0), none] [] μ)) (fun ⟨x2, x3⟩ K h hI hE => s9_rightBits_L1 a1 μ x2 x3 K h (fun y0 y1 e => hI (y0, y1) e) (fun z0 e => hE z0 e) ) _ _ _ hl15 ?_
  refine zr_iload_n (i := 2) d_9_rightBits_38 rfl rfl ?_
  obtain rfl := Option.some.inj h
  exact ze_i d_9_rightBits_39 rfl
def f9_inState_L1 (a1 : Int32) (μ : zMem) : (Int32 × Int32) → Option ((Int32 × Int32) ⊕ (Int32)) := (z_u2 fun x2 x3 => 
  if z_in (μ.1 9 0 18) 2 = true then (if x3 < (μ.1 126 0 (μ.1 9 0 18).toNatClampNeg) then if z_in x3 34 = true then ((if (μ.1 149 0 x3.toNatClampNeg) = a1 then z_let (x2 ||| ((1 : Int32) <<< (x3 &&& 31))) fun v10 => some v10 else some x2) : Option (Int32)).bind (fun j12 => some (.inl (j12, (x3 + (1 : Int32))))) else none else some (.inr x2)) else none)
def f9_inState (a1 : Int32) (μ : zMem) : Option (Int32) :=
  (z_it (f9_inState_L1 a1 μ) z_fu ((0 : Int32), (0 : Int32))).bind (fun e13 => some e13)
theorem s9_inState_L1 {P : zP} {ro : Option zV} {μo : zMem} (a1 : Int32) (μ : zMem) (x2 : Int32) (x3 : Int32) (K : (Int32 × Int32) ⊕ (Int32)) (h : f9_inState_L1 a1 μ (x2, x3) = some K) (hI : ∀ (y0 : Int32) (y1 : Int32), K = .inl (y0, y1) → z_RQ P M_9_inState (z_rm 1) (z_mq P ro μo) 0 0 4 [some (zA 9 0), some (zI a1), some (zI y0), some (zI y1)] [] μ) (hE : ∀ (z0 : Int32), K = .inr z0 → z_RQ P M_9_inState (z_rm 1) (z_mq P ro μo) 0 0 39 [none, none, some (zI z0), none] [] μ)  : z_RQ P M_9_inState (z_rm 1) (z_mq P ro μo) 0 0 4 [some (zA 9 0), some (zI a1), some (zI x2), some (zI x3)] [] μ := by
  unfold f9_inState_L1 at h
  replace h := z_h2 h
  refine zr_iload_n (i := 3) d_9_inState_4 rfl rfl ?_
  refine zr_aload_n (i := 0) d_9_inState_5 rfl rfl ?_
  refine zr_gets (i' := 0) d_9_inState_6 fw_9_55 rfl ?_
  refine zr_aload_n (i := 0) d_9_inState_9 rfl rfl ?_
  refine zr_geti d_9_inState_10 fw_9_233 (by decide) ?_
  obtain ⟨hb4, h⟩ := z_gd h
  refine zr_iald d_9_inState_13 sa_126 rfl hb4 ?_
  refine zr_icmp_ge (tgt := 39) d_9_inState_14 rfl (fun hc5 => ?_) (fun hc5 => ?_)
  · replace h := z_ip h hc5
    refine zr_aload_n (i := 0) d_9_inState_17 rfl rfl ?_
    refine zr_gets (i' := 0) d_9_inState_18 fw_9_113 rfl ?_
    refine zr_iload_n (i := 3) d_9_inState_21 rfl rfl ?_
    obtain ⟨hb6, h⟩ := z_gd h
    refine zr_iald d_9_inState_22 sa_149 rfl hb6 ?_
    refine zr_iload_n (i := 1) d_9_inState_23 rfl rfl ?_
    obtain ⟨j12, hT7, h⟩ := z_bd h
    have hJ8 : z_RQ P M_9_inState (z_rm 1) (z_mq P ro μo) 0 0 33 [some (zA 9 0), some (zI a1), some (zI j12), some (zI x3)] [] μ := by
      refine zr_iinc (v := (x3 + (1 : Int32))) (l' := [some (zA 9 0), some (zI a1), some (zI j12), some (zI (x3 + (1 : Int32)))]) d_9_inState_33 (by decide) rfl rfl rfl ?_
      refine zr_goto (tgt := 4) d_9_inState_36 rfl ?_
      obtain rfl := Option.some.inj h
      exact zr_wk2 (hI j12 (x3 + (1 : Int32)) rfl) ⟨rfl, ⟨rfl, ⟨rfl, ⟨rfl, trivial⟩⟩⟩⟩
    refine zr_icmp_ne (tgt := 33) d_9_inState_24 rfl (fun hc9 => ?_) (fun hc9 => ?_)
    · replace hT7 := z_ip hT7 hc9
      refine zr_iload_n (i := 2) d_9_inState_27 rfl rfl ?_
      refine zr_iconst (v := (1 : Int32)) d_9_inState_28 rfl ?_
      refine zr_iload_n (i := 3) d_9_inState_29 rfl rfl ?_
      refine zr_ishl d_9_inState_30 ?_
      refine zr_ior d_9_inState_31 ?_
      obtain ⟨v10, hv11, hT7⟩ := z_lt hT7
      refine zr_nm hv11 ?_
      refine zr_istore_n (i := 2) (l' := [some (zA 9 0), some (zI a1), some (zI v10), some (zI x3)]) d_9_inState_32 rfl (by decide) rfl ?_
      obtain rfl := Option.some.inj hT7
      exact zr_wk2 hJ8 ⟨rfl, ⟨rfl, ⟨rfl, ⟨rfl, trivial⟩⟩⟩⟩
    · replace hT7 := z_im hT7 hc9
      obtain rfl := Option.some.inj hT7
      exact zr_wk2 hJ8 ⟨rfl, ⟨rfl, ⟨rfl, ⟨rfl, trivial⟩⟩⟩⟩
  · replace h := z_im h hc5
    obtain rfl := Option.some.inj h
    exact zr_wk2 (hE x2 rfl) ⟨rfl, trivial⟩
theorem s9_inState {P : zP} {μ : zMem} {a1 : Int32} {r : Int32} (h : f9_inState a1 μ = some r) : z_Sp P y_9_inState M_9_inState 1 [zA 9 0, zI a1] μ (some (zI r)) μ := by
  refine z_Sp.of (plainFor_of_name (by decide)) rfl (l0 := [some (zA 9 0), some (zI a1), none, none]) rfl (Nat.le_of_ble_eq_true rfl) ?_
  unfold f9_inState at h
  refine zr_iconst (v := (0 : Int32)) d_9_inState_0 rfl ?_
  refine zr_istore_n (i := 2) (l' := [some (zA 9 0), some (zI a1), some (zI (0 : Int32)), none]) d_9_inState_1 rfl (by decide) rfl ?_
  refine zr_iconst (v := (0 : Int32)) d_9_inState_2 rfl ?_
  refine zr_istore_n (i := 3) (l' := [some (zA 9 0), some (zI a1), some (zI (0 : Int32)), some (zI (0 : Int32))]) d_9_inState_3 rfl (by decide) rfl ?_
  obtain ⟨e13, hl14, h⟩ := z_bd h
  refine zr_wk (l' := [some (zA 9 0), some (zI a1), some (zI (0 : Int32)), some (zI (0 : Int32))]) ⟨rfl, ⟨rfl, ⟨rfl, ⟨rfl, trivial⟩⟩⟩⟩ ?_
  refine z_loop (Hd := (z_u2 fun y0 y1 => z_RQ P M_9_inState (z_rm 1) (z_mq P (some (zI r)) μ) 0 0 4 [some (zA 9 0), some (zI a1), some (zI y0), some (zI y1)] [] μ)) (Ex := (fun z0 => z_RQ P M_9_inState (z_rm 1) (z_mq P (some (zI r)) μ) 0 0 39 [none, none, some (zI z0), none] [] μ)) (fun ⟨x2, x3⟩ K h hI hE => s9_inState_L1 a1 μ x2 x3 K h (fun y0 y1 e => hI (y0, y1) e) (fun z0 e => hE z0 e) ) _ _ _ hl14 ?_
  refine zr_iload_n (i := 2) d_9_inState_39 rfl rfl ?_
  obtain rfl := Option.some.inj h
  exact ze_i d_9_inState_40 rfl
def f9_ageNow (a1 : Int32) (μ : zMem) : Option (Int32) :=
  if z_in (((7 : Int32) * (μ.1 9 0 18)) + a1) 14 = true then if z_in a1 34 = true then (if (μ.1 149 0 a1.toNatClampNeg) = (2 : Int32) then if z_in ((21 : Int32) + a1) 34 = true then some ((μ.1 127 0 (((7 : Int32) * (μ.1 9 0 18)) + a1).toNatClampNeg) + (μ.1 149 0 ((21 : Int32) + a1).toNatClampNeg)) else none else some ((μ.1 127 0 (((7 : Int32) * (μ.1 9 0 18)) + a1).toNatClampNeg) + (μ.1 149 0 (33 : Int32).toNatClampNeg))) else none else none
theorem s9_ageNow {P : zP} {μ : zMem} {a1 : Int32} {r : Int32} (h : f9_ageNow a1 μ = some r) : z_Sp P y_9_ageNow M_9_ageNow 1 [zA 9 0, zI a1] μ (some (zI r)) μ := by
  refine z_Sp.of (plainFor_of_name (by decide)) rfl (l0 := [some (zA 9 0), some (zI a1)]) rfl (Nat.le_of_ble_eq_true rfl) ?_
  unfold f9_ageNow at h
  refine zr_aload_n (i := 0) d_9_ageNow_0 rfl rfl ?_
  refine zr_gets (i' := 0) d_9_ageNow_1 fw_9_58 rfl ?_
  refine zr_bipush (v := (7 : Int32)) d_9_ageNow_4 rfl ?_
  refine zr_aload_n (i := 0) d_9_ageNow_6 rfl rfl ?_
  refine zr_geti d_9_ageNow_7 fw_9_233 (by decide) ?_
  refine zr_imul d_9_ageNow_10 ?_
  refine zr_iload_n (i := 1) d_9_ageNow_11 rfl rfl ?_
  refine zr_iadd d_9_ageNow_12 ?_
  obtain ⟨hb1, h⟩ := z_gd h
  refine zr_iald d_9_ageNow_13 sa_127 rfl hb1 ?_
  refine zr_aload_n (i := 0) d_9_ageNow_14 rfl rfl ?_
  refine zr_gets (i' := 0) d_9_ageNow_15 fw_9_113 rfl ?_
  refine zr_iload_n (i := 1) d_9_ageNow_18 rfl rfl ?_
  obtain ⟨hb2, h⟩ := z_gd h
  refine zr_iald d_9_ageNow_19 sa_149 rfl hb2 ?_
  refine zr_iconst (v := (2 : Int32)) d_9_ageNow_20 rfl ?_
  refine zr_icmp_ne (tgt := 36) d_9_ageNow_21 rfl (fun hc3 => ?_) (fun hc3 => ?_)
  · replace h := z_ip h hc3
    refine zr_aload_n (i := 0) d_9_ageNow_24 rfl rfl ?_
    refine zr_gets (i' := 0) d_9_ageNow_25 fw_9_113 rfl ?_
    refine zr_bipush (v := (21 : Int32)) d_9_ageNow_28 rfl ?_
    refine zr_iload_n (i := 1) d_9_ageNow_30 rfl rfl ?_
    refine zr_iadd d_9_ageNow_31 ?_
    obtain ⟨hb4, h⟩ := z_gd h
    refine zr_iald d_9_ageNow_32 sa_149 rfl hb4 ?_
    refine zr_goto (tgt := 43) d_9_ageNow_33 rfl ?_
    refine zr_iadd d_9_ageNow_43 ?_
    obtain rfl := Option.some.inj h
    exact ze_i d_9_ageNow_44 rfl
  · replace h := z_im h hc3
    refine zr_aload_n (i := 0) d_9_ageNow_36 rfl rfl ?_
    refine zr_gets (i' := 0) d_9_ageNow_37 fw_9_113 rfl ?_
    refine zr_bipush (v := (33 : Int32)) d_9_ageNow_40 rfl ?_
    refine zr_iald d_9_ageNow_42 sa_149 rfl rfl ?_
    refine zr_iadd d_9_ageNow_43 ?_
    obtain rfl := Option.some.inj h
    exact ze_i d_9_ageNow_44 rfl
def f9_lawTells_L9 (v1 : Int32) : (Int32 × zMem) → Option ((Int32 × zMem) ⊕ ((zMem) ⊕ (Int32 × zMem))) := (z_u2 fun x10 xm11 => 
  if z_in v1 8 = true then (if x10 < (xm11.1 133 0 v1.toNatClampNeg) then if z_in x10 260 = true then (if (xm11.1 135 0 x10.toNatClampNeg) = 0 then (f9_termOf (xm11.1 138 0 x10.toNatClampNeg) (xm11.1 139 0 x10.toNatClampNeg) xm11).bind (z_u2 fun q16 qm17 => (if (qm17.1 9 0 47) = 0 then some (.inr (.inr (q16, qm17))) else some (.inr (.inr ((0 : Int32), qm17))))) else (f9_termOf (xm11.1 136 0 x10.toNatClampNeg) (xm11.1 137 0 x10.toNatClampNeg) xm11).bind (z_u2 fun q20 qm21 => (f9_termOf (qm21.1 137 0 x10.toNatClampNeg) (qm21.1 138 0 x10.toNatClampNeg) qm21).bind (z_u2 fun q23 qm24 => (if (qm24.1 9 0 47) = 0 then (if q20 < q23 then (f9_termOf (qm24.1 138 0 x10.toNatClampNeg) (qm24.1 139 0 x10.toNatClampNeg) qm24).bind (z_u2 fun q28 qm29 => (if (qm29.1 9 0 47) = 0 then some (.inr (.inr (q28, qm29))) else some (.inr (.inr ((0 : Int32), qm29))))) else some (.inl ((x10 + (1 : Int32)), qm24))) else some (.inr (.inr ((0 : Int32), qm24))))))) else none else some (.inr (.inl xm11))) else none)
def f9_lawTells (a1 : Int32) (a2 : Int32) (μ : zMem) : Option (Int32 × zMem) :=
  z_let (((4 : Int32) * (μ.1 9 0 18)) + a1) fun v1 => if z_in v1 8 = true then (if (μ.1 132 0 v1.toNatClampNeg) = (μ.1 133 0 v1.toNatClampNeg) then some (a2, μ) else z_let (z_sI μ 9 0 47 (0 : Int32)) fun m5 => z_let (m5.1 132 0 v1.toNatClampNeg) fun v7 => (z_it (f9_lawTells_L9 v1) z_fu (v7, m5)).bind (Sum.elim (fun e32 => some ((0 : Int32), e32)) (z_u2 fun qr34 qr35 => some (qr34, qr35)))) else none
theorem s9_lawTells_L9 {P : zP} {ro : Option zV} {μo : zMem} (v1 : Int32) (x10 : Int32) (xm11 : zMem) (K : (Int32 × zMem) ⊕ ((zMem) ⊕ (Int32 × zMem))) (h : f9_lawTells_L9 v1 (x10, xm11) = some K) (hI : ∀ (y0 : Int32) (y1 : zMem), K = .inl (y0, y1) → z_RQ P M_9_lawTells (z_rm 2) (z_mq P ro μo) 0 0 39 [some (zA 9 0), none, none, some (zI v1), some (zI y0), none, none] [] y1) (hE : ∀ (z0 : zMem), K = .inr (.inl z0) → z_RQ P M_9_lawTells (z_rm 2) (z_mq P ro μo) 0 0 159 [none, none, none, none, none, none, none] [] z0) (hR : ∀ (qr : Int32) (qm : zMem), K = .inr (.inr (qr, qm)) → ro = some (zI qr) ∧ μo = qm) : z_RQ P M_9_lawTells (z_rm 2) (z_mq P ro μo) 0 0 39 [some (zA 9 0), none, none, some (zI v1), some (zI x10), none, none] [] xm11 := by
  unfold f9_lawTells_L9 at h
  replace h := z_h2 h
  refine zr_iload d_9_lawTells_39 rfl ?_
  refine zr_aload_n (i := 0) d_9_lawTells_41 rfl rfl ?_
  refine zr_gets (i' := 0) d_9_lawTells_42 fw_9_76 rfl ?_
  refine zr_iload_n (i := 3) d_9_lawTells_45 rfl rfl ?_
  obtain ⟨hb12, h⟩ := z_gd h
  refine zr_iald d_9_lawTells_46 sa_133 rfl hb12 ?_
  refine zr_icmp_ge (tgt := 159) d_9_lawTells_47 rfl (fun hc13 => ?_) (fun hc13 => ?_)
  · replace h := z_ip h hc13
    refine zr_aload_n (i := 0) d_9_lawTells_50 rfl rfl ?_
    refine zr_gets (i' := 0) d_9_lawTells_51 fw_9_79 rfl ?_
    refine zr_iload d_9_lawTells_54 rfl ?_
    obtain ⟨hb14, h⟩ := z_gd h
    refine zr_zald d_9_lawTells_56 sa_135 rfl hb14 ?_
    refine zr_if_eq (tgt := 119) d_9_lawTells_57 rfl (fun hc15 => ?_) (fun hc15 => ?_)
    · replace h := z_ip h hc15
      refine zr_aload_n (i := 0) d_9_lawTells_119 rfl rfl ?_
      refine zr_aload_n (i := 0) d_9_lawTells_120 rfl rfl ?_
      refine zr_gets (i' := 0) d_9_lawTells_121 fw_9_89 rfl ?_
      refine zr_iload d_9_lawTells_124 rfl ?_
      refine zr_iald d_9_lawTells_126 sa_138 rfl hb14 ?_
      refine zr_aload_n (i := 0) d_9_lawTells_127 rfl rfl ?_
      refine zr_gets (i' := 0) d_9_lawTells_128 fw_9_92 rfl ?_
      refine zr_iload d_9_lawTells_131 rfl ?_
      refine zr_iald d_9_lawTells_133 sa_139 rfl hb14 ?_
      obtain ⟨⟨q16, qm17⟩, hq18, h⟩ := z_bd h
      replace h := z_h2 h
      refine zr_callVi (av := [zI (xm11.1 138 0 x10.toNatClampNeg), zI (xm11.1 139 0 x10.toNatClampNeg)]) (st := []) d_9_lawTells_134 mw_9_termOf ml_9_343 im_9_termOf se_9_termOf rfl rfl (Nat.le_of_ble_eq_true rfl) fit_1_8_2 rfl rfl rfl (s9_termOf hq18) ?_
      refine zr_istore (i := 5) (l' := [some (zA 9 0), none, none, some (zI v1), some (zI x10), some (zI q16), none]) d_9_lawTells_137 (by decide) rfl ?_
      refine zr_aload_n (i := 0) d_9_lawTells_139 rfl rfl ?_
      refine zr_geti d_9_lawTells_140 fw_9_308 (by decide) ?_
      refine zr_if_eq (tgt := 150) d_9_lawTells_143 rfl (fun hc19 => ?_) (fun hc19 => ?_)
      · replace h := z_ip h hc19
        refine zr_iload d_9_lawTells_150 rfl ?_
        obtain rfl := Option.some.inj h
        obtain ⟨rfl, rfl⟩ := hR q16 qm17 rfl
        exact ze_i d_9_lawTells_152 rfl
      · replace h := z_im h hc19
        refine zr_iconst (v := (0 : Int32)) d_9_lawTells_146 rfl ?_
        refine zr_goto (tgt := 152) d_9_lawTells_147 rfl ?_
        obtain rfl := Option.some.inj h
        obtain ⟨rfl, rfl⟩ := hR (0 : Int32) qm17 rfl
        exact ze_i d_9_lawTells_152 rfl
    · replace h := z_im h hc15
      refine zr_aload_n (i := 0) d_9_lawTells_60 rfl rfl ?_
      refine zr_aload_n (i := 0) d_9_lawTells_61 rfl rfl ?_
      refine zr_gets (i' := 0) d_9_lawTells_62 fw_9_83 rfl ?_
      refine zr_iload d_9_lawTells_65 rfl ?_
      refine zr_iald d_9_lawTells_67 sa_136 rfl hb14 ?_
      refine zr_aload_n (i := 0) d_9_lawTells_68 rfl rfl ?_
      refine zr_gets (i' := 0) d_9_lawTells_69 fw_9_86 rfl ?_
      refine zr_iload d_9_lawTells_72 rfl ?_
      refine zr_iald d_9_lawTells_74 sa_137 rfl hb14 ?_
      obtain ⟨⟨q20, qm21⟩, hq22, h⟩ := z_bd h
      replace h := z_h2 h
      refine zr_callVi (av := [zI (xm11.1 136 0 x10.toNatClampNeg), zI (xm11.1 137 0 x10.toNatClampNeg)]) (st := []) d_9_lawTells_75 mw_9_termOf ml_9_343 im_9_termOf se_9_termOf rfl rfl (Nat.le_of_ble_eq_true rfl) fit_1_8_2 rfl rfl rfl (s9_termOf hq22) ?_
      refine zr_istore (i := 5) (l' := [some (zA 9 0), none, none, some (zI v1), some (zI x10), some (zI q20), none]) d_9_lawTells_78 (by decide) rfl ?_
      refine zr_aload_n (i := 0) d_9_lawTells_80 rfl rfl ?_
      refine zr_aload_n (i := 0) d_9_lawTells_81 rfl rfl ?_
      refine zr_gets (i' := 0) d_9_lawTells_82 fw_9_86 rfl ?_
      refine zr_iload d_9_lawTells_85 rfl ?_
      refine zr_iald d_9_lawTells_87 sa_137 rfl hb14 ?_
      refine zr_aload_n (i := 0) d_9_lawTells_88 rfl rfl ?_
      refine zr_gets (i' := 0) d_9_lawTells_89 fw_9_89 rfl ?_
      refine zr_iload d_9_lawTells_92 rfl ?_
      refine zr_iald d_9_lawTells_94 sa_138 rfl hb14 ?_
      obtain ⟨⟨q23, qm24⟩, hq25, h⟩ := z_bd h
      replace h := z_h2 h
      refine zr_callVi (av := [zI (qm21.1 137 0 x10.toNatClampNeg), zI (qm21.1 138 0 x10.toNatClampNeg)]) (st := []) d_9_lawTells_95 mw_9_termOf ml_9_343 im_9_termOf se_9_termOf rfl rfl (Nat.le_of_ble_eq_true rfl) fit_1_8_2 rfl rfl rfl (s9_termOf hq25) ?_
      refine zr_istore (i := 6) (l' := [some (zA 9 0), none, none, some (zI v1), some (zI x10), some (zI q20), some (zI q23)]) d_9_lawTells_98 (by decide) rfl ?_
      refine zr_aload_n (i := 0) d_9_lawTells_100 rfl rfl ?_
      refine zr_geti d_9_lawTells_101 fw_9_308 (by decide) ?_
      refine zr_if_eq (tgt := 109) d_9_lawTells_104 rfl (fun hc26 => ?_) (fun hc26 => ?_)
      · replace h := z_ip h hc26
        refine zr_iload d_9_lawTells_109 rfl ?_
        refine zr_iload d_9_lawTells_111 rfl ?_
        refine zr_icmp_lt (tgt := 119) d_9_lawTells_113 rfl (fun hc27 => ?_) (fun hc27 => ?_)
        · replace h := z_ip h hc27
          refine zr_aload_n (i := 0) d_9_lawTells_119 rfl rfl ?_
          refine zr_aload_n (i := 0) d_9_lawTells_120 rfl rfl ?_
          refine zr_gets (i' := 0) d_9_lawTells_121 fw_9_89 rfl ?_
          refine zr_iload d_9_lawTells_124 rfl ?_
          refine zr_iald d_9_lawTells_126 sa_138 rfl hb14 ?_
          refine zr_aload_n (i := 0) d_9_lawTells_127 rfl rfl ?_
          refine zr_gets (i' := 0) d_9_lawTells_128 fw_9_92 rfl ?_
          refine zr_iload d_9_lawTells_131 rfl ?_
          refine zr_iald d_9_lawTells_133 sa_139 rfl hb14 ?_
          obtain ⟨⟨q28, qm29⟩, hq30, h⟩ := z_bd h
          replace h := z_h2 h
          refine zr_callVi (av := [zI (qm24.1 138 0 x10.toNatClampNeg), zI (qm24.1 139 0 x10.toNatClampNeg)]) (st := []) d_9_lawTells_134 mw_9_termOf ml_9_343 im_9_termOf se_9_termOf rfl rfl (Nat.le_of_ble_eq_true rfl) fit_1_8_2 rfl rfl rfl (s9_termOf hq30) ?_
          refine zr_istore (i := 5) (l' := [some (zA 9 0), none, none, some (zI v1), some (zI x10), some (zI q28), some (zI q23)]) d_9_lawTells_137 (by decide) rfl ?_
          refine zr_aload_n (i := 0) d_9_lawTells_139 rfl rfl ?_
          refine zr_geti d_9_lawTells_140 fw_9_308 (by decide) ?_
          refine zr_if_eq (tgt := 150) d_9_lawTells_143 rfl (fun hc31 => ?_) (fun hc31 => ?_)
          · replace h := z_ip h hc31
            refine zr_iload d_9_lawTells_150 rfl ?_
            obtain rfl := Option.some.inj h
            obtain ⟨rfl, rfl⟩ := hR q28 qm29 rfl
            exact ze_i d_9_lawTells_152 rfl
          · replace h := z_im h hc31
            refine zr_iconst (v := (0 : Int32)) d_9_lawTells_146 rfl ?_
            refine zr_goto (tgt := 152) d_9_lawTells_147 rfl ?_
            obtain rfl := Option.some.inj h
            obtain ⟨rfl, rfl⟩ := hR (0 : Int32) qm29 rfl
            exact ze_i d_9_lawTells_152 rfl
        · replace h := z_im h hc27
          refine zr_goto (tgt := 153) d_9_lawTells_116 rfl ?_
          refine zr_iinc (v := (x10 + (1 : Int32))) (l' := [some (zA 9 0), none, none, some (zI v1), some (zI (x10 + (1 : Int32))), some (zI q20), some (zI q23)]) d_9_lawTells_153 (by decide) rfl rfl rfl ?_
          refine zr_goto (tgt := 39) d_9_lawTells_156 rfl ?_
          obtain rfl := Option.some.inj h
          exact zr_wk2 (hI (x10 + (1 : Int32)) qm24 rfl) ⟨rfl, ⟨rfl, ⟨rfl, trivial⟩⟩⟩
      · replace h := z_im h hc26
        refine zr_iconst (v := (0 : Int32)) d_9_lawTells_107 rfl ?_
        obtain rfl := Option.some.inj h
        obtain ⟨rfl, rfl⟩ := hR (0 : Int32) qm24 rfl
        exact ze_i d_9_lawTells_108 rfl
  · replace h := z_im h hc13
    obtain rfl := Option.some.inj h
    exact zr_wk2 (hE xm11 rfl) trivial
theorem s9_lawTells {P : zP} {μ : zMem} {a1 : Int32} {a2 : Int32} {r : Int32} {μ' : zMem} (h : f9_lawTells a1 a2 μ = some (r, μ')) : z_Sp P y_9_lawTells M_9_lawTells 2 [zA 9 0, zI a1, zI a2] μ (some (zI r)) μ' := by
  refine z_Sp.of (plainFor_of_name (by decide)) rfl (l0 := [some (zA 9 0), some (zI a1), some (zI a2), none, none, none, none]) rfl (Nat.le_of_ble_eq_true rfl) ?_
  unfold f9_lawTells at h
  refine zr_iconst (v := (4 : Int32)) d_9_lawTells_0 rfl ?_
  refine zr_aload_n (i := 0) d_9_lawTells_1 rfl rfl ?_
  refine zr_geti d_9_lawTells_2 fw_9_233 (by decide) ?_
  refine zr_imul d_9_lawTells_5 ?_
  refine zr_iload_n (i := 1) d_9_lawTells_6 rfl rfl ?_
  refine zr_iadd d_9_lawTells_7 ?_
  obtain ⟨v1, hv2, h⟩ := z_lt h
  refine zr_nm hv2 ?_
  refine zr_istore_n (i := 3) (l' := [some (zA 9 0), some (zI a1), some (zI a2), some (zI v1), none, none, none]) d_9_lawTells_8 rfl (by decide) rfl ?_
  refine zr_aload_n (i := 0) d_9_lawTells_9 rfl rfl ?_
  refine zr_gets (i' := 0) d_9_lawTells_10 fw_9_73 rfl ?_
  refine zr_iload_n (i := 3) d_9_lawTells_13 rfl rfl ?_
  obtain ⟨hb3, h⟩ := z_gd h
  refine zr_iald d_9_lawTells_14 sa_132 rfl hb3 ?_
  refine zr_aload_n (i := 0) d_9_lawTells_15 rfl rfl ?_
  refine zr_gets (i' := 0) d_9_lawTells_16 fw_9_76 rfl ?_
  refine zr_iload_n (i := 3) d_9_lawTells_19 rfl rfl ?_
  refine zr_iald d_9_lawTells_20 sa_133 rfl hb3 ?_
  refine zr_icmp_ne (tgt := 26) d_9_lawTells_21 rfl (fun hc4 => ?_) (fun hc4 => ?_)
  · replace h := z_ip h hc4
    refine zr_iload_n (i := 2) d_9_lawTells_24 rfl rfl ?_
    obtain ⟨rfl, rfl⟩ := Prod.mk.inj (Option.some.inj h)
    exact ze_i d_9_lawTells_25 rfl
  · replace h := z_im h hc4
    refine zr_aload_n (i := 0) d_9_lawTells_26 rfl rfl ?_
    refine zr_iconst (v := (0 : Int32)) d_9_lawTells_27 rfl ?_
    obtain ⟨m5, hm6, h⟩ := z_lt h
    refine zr_putb d_9_lawTells_28 fw_9_308 pw_9_47 rfl rfl hm6 ?_
    refine zr_aload_n (i := 0) d_9_lawTells_31 rfl rfl ?_
    refine zr_gets (i' := 0) d_9_lawTells_32 fw_9_73 rfl ?_
    refine zr_iload_n (i := 3) d_9_lawTells_35 rfl rfl ?_
    refine zr_iald d_9_lawTells_36 sa_132 rfl hb3 ?_
    obtain ⟨v7, hv8, h⟩ := z_lt h
    refine zr_nm hv8 ?_
    refine zr_istore (i := 4) (l' := [some (zA 9 0), some (zI a1), some (zI a2), some (zI v1), some (zI v7), none, none]) d_9_lawTells_37 (by decide) rfl ?_
    rcases z_bs h with ⟨e32, hl33, h⟩ | ⟨⟨qr34, qr35⟩, hl33, h⟩
    · refine zr_wk (l' := [some (zA 9 0), none, none, some (zI v1), some (zI v7), none, none]) ⟨rfl, ⟨rfl, ⟨rfl, trivial⟩⟩⟩ ?_
      refine z_loop (Hd := (z_u2 fun y0 y1 => z_RQ P M_9_lawTells (z_rm 2) (z_mq P (some (zI r)) μ') 0 0 39 [some (zA 9 0), none, none, some (zI v1), some (zI y0), none, none] [] y1)) (Ex := (Sum.elim (fun z0 => z_RQ P M_9_lawTells (z_rm 2) (z_mq P (some (zI r)) μ') 0 0 159 [none, none, none, none, none, none, none] [] z0) (z_u2 fun qr qm => (some (zI r)) = some (zI qr) ∧ μ' = qm))) (fun ⟨x10, xm11⟩ K h hI hE => s9_lawTells_L9 v1 x10 xm11 K h (fun y0 y1 e => hI (y0, y1) e) (fun z0 e => hE (.inl z0) e) (fun qr qm e => hE (.inr (qr, qm)) e)) _ _ _ hl33 ?_
      refine zr_iconst (v := (0 : Int32)) d_9_lawTells_159 rfl ?_
      obtain ⟨rfl, rfl⟩ := Prod.mk.inj (Option.some.inj h)
      exact ze_i d_9_lawTells_160 rfl
    · replace h := z_h2 h
      refine zr_wk (l' := [some (zA 9 0), none, none, some (zI v1), some (zI v7), none, none]) ⟨rfl, ⟨rfl, ⟨rfl, trivial⟩⟩⟩ ?_
      refine z_loop (Hd := (z_u2 fun y0 y1 => z_RQ P M_9_lawTells (z_rm 2) (z_mq P (some (zI r)) μ') 0 0 39 [some (zA 9 0), none, none, some (zI v1), some (zI y0), none, none] [] y1)) (Ex := (Sum.elim (fun z0 => z_RQ P M_9_lawTells (z_rm 2) (z_mq P (some (zI r)) μ') 0 0 159 [none, none, none, none, none, none, none] [] z0) (z_u2 fun qr qm => (some (zI r)) = some (zI qr) ∧ μ' = qm))) (fun ⟨x10, xm11⟩ K h hI hE => s9_lawTells_L9 v1 x10 xm11 K h (fun y0 y1 e => hI (y0, y1) e) (fun z0 e => hE (.inl z0) e) (fun qr qm e => hE (.inr (qr, qm)) e)) _ _ _ hl33 ?_
      obtain ⟨rfl, rfl⟩ := Prod.mk.inj (Option.some.inj h)
      exact ⟨rfl, rfl⟩
def f9_looks_L5 (q1 : Int32) : (Int32 × zMem) → Option ((Int32 × zMem) ⊕ (zMem)) := (z_u2 fun x6 xm7 => 
  if z_in (xm7.1 9 0 18) 2 = true then (if x6 < (xm7.1 123 0 (xm7.1 9 0 18).toNatClampNeg) then ((if ((q1 >>> (x6 &&& 31)) &&& (1 : Int32)) = (1 : Int32) then if z_in (((5 : Int32) * (xm7.1 9 0 18)) + x6) 10 = true then z_let (z_sI xm7 145 0 (0 : Int32).toNatClampNeg ((xm7.1 145 0 (0 : Int32).toNatClampNeg) + (xm7.1 124 0 (((5 : Int32) * (xm7.1 9 0 18)) + x6).toNatClampNeg))) fun m14 => some m14 else none else some xm7) : Option (zMem)).bind (fun jm16 => some (.inl ((x6 + (1 : Int32)), jm16))) else some (.inr xm7)) else none)
def f9_looks (a1 : Int32) (μ : zMem) : Option (zMem) :=
  (f9_lordBits a1 μ).bind (fun q1 => z_let (z_sI μ 145 0 (0 : Int32).toNatClampNeg (0 : Int32)) fun m3 => (z_it (f9_looks_L5 q1) z_fu ((0 : Int32), m3)).bind (fun e17 => (f9_ageNow a1 e17).bind (fun q19 => z_let (z_sI e17 145 0 (1 : Int32).toNatClampNeg q19) fun m21 => if z_in ((7 : Int32) + a1) 34 = true then z_let (z_sI m21 145 0 (2 : Int32).toNatClampNeg (m21.1 149 0 ((7 : Int32) + a1).toNatClampNeg)) fun m24 => if z_in ((14 : Int32) + a1) 34 = true then z_let (z_sI m24 145 0 (3 : Int32).toNatClampNeg (m24.1 149 0 ((14 : Int32) + a1).toNatClampNeg)) fun m27 => z_let (z_sI m27 145 0 (4 : Int32).toNatClampNeg (m27.1 149 0 (33 : Int32).toNatClampNeg)) fun m29 => (f9_rightBits a1 m29).bind (fun q31 => (f9_bits q31).bind (fun q33 => z_let (z_sI m29 145 0 (5 : Int32).toNatClampNeg q33) fun m35 => (f9_bits q1).bind (fun q37 => z_let (z_sI m35 145 0 (6 : Int32).toNatClampNeg q37) fun m39 => z_let (z_sI m39 145 0 (7 : Int32).toNatClampNeg a1) fun m41 => (f9_inState (0 : Int32) m41).bind (fun q43 => (f9_bits q43).bind (fun q45 => z_let (z_sI m41 145 0 (8 : Int32).toNatClampNeg q45) fun m47 => some m47))))) else none else none)))
theorem s9_looks_L5 {P : zP} {ro : Option zV} {μo : zMem} (a1 : Int32) (q1 : Int32) (x6 : Int32) (xm7 : zMem) (K : (Int32 × zMem) ⊕ (zMem)) (h : f9_looks_L5 q1 (x6, xm7) = some K) (hI : ∀ (y0 : Int32) (y1 : zMem), K = .inl (y0, y1) → z_RQ P M_9_looks (z_rm 5) (z_mq P ro μo) 0 0 15 [some (zA 9 0), some (zI a1), some (zI q1), some (zI y0)] [] y1) (hE : ∀ (z0 : zMem), K = .inr z0 → z_RQ P M_9_looks (z_rm 5) (z_mq P ro μo) 0 0 65 [some (zA 9 0), some (zI a1), some (zI q1), none] [] z0)  : z_RQ P M_9_looks (z_rm 5) (z_mq P ro μo) 0 0 15 [some (zA 9 0), some (zI a1), some (zI q1), some (zI x6)] [] xm7 := by
  unfold f9_looks_L5 at h
  replace h := z_h2 h
  refine zr_iload_n (i := 3) d_9_looks_15 rfl rfl ?_
  refine zr_aload_n (i := 0) d_9_looks_16 rfl rfl ?_
  refine zr_gets (i' := 0) d_9_looks_17 fw_9_46 rfl ?_
  refine zr_aload_n (i := 0) d_9_looks_20 rfl rfl ?_
  refine zr_geti d_9_looks_21 fw_9_233 (by decide) ?_
  obtain ⟨hb8, h⟩ := z_gd h
  refine zr_iald d_9_looks_24 sa_123 rfl hb8 ?_
  refine zr_icmp_ge (tgt := 65) d_9_looks_25 rfl (fun hc9 => ?_) (fun hc9 => ?_)
  · replace h := z_ip h hc9
    refine zr_iload_n (i := 2) d_9_looks_28 rfl rfl ?_
    refine zr_iload_n (i := 3) d_9_looks_29 rfl rfl ?_
    refine zr_ishr d_9_looks_30 ?_
    refine zr_iconst (v := (1 : Int32)) d_9_looks_31 rfl ?_
    refine zr_iand d_9_looks_32 ?_
    refine zr_iconst (v := (1 : Int32)) d_9_looks_33 rfl ?_
    obtain ⟨jm16, hT10, h⟩ := z_bd h
    have hJ11 : z_RQ P M_9_looks (z_rm 5) (z_mq P ro μo) 0 0 59 [some (zA 9 0), some (zI a1), some (zI q1), some (zI x6)] [] jm16 := by
      refine zr_iinc (v := (x6 + (1 : Int32))) (l' := [some (zA 9 0), some (zI a1), some (zI q1), some (zI (x6 + (1 : Int32)))]) d_9_looks_59 (by decide) rfl rfl rfl ?_
      refine zr_goto (tgt := 15) d_9_looks_62 rfl ?_
      obtain rfl := Option.some.inj h
      exact zr_wk2 (hI (x6 + (1 : Int32)) jm16 rfl) ⟨rfl, ⟨rfl, ⟨rfl, ⟨rfl, trivial⟩⟩⟩⟩
    refine zr_icmp_ne (tgt := 59) d_9_looks_34 rfl (fun hc12 => ?_) (fun hc12 => ?_)
    · replace hT10 := z_ip hT10 hc12
      refine zr_aload_n (i := 0) d_9_looks_37 rfl rfl ?_
      refine zr_gets (i' := 0) d_9_looks_38 fw_9_104 rfl ?_
      refine zr_iconst (v := (0 : Int32)) d_9_looks_41 rfl ?_
      refine zr_dup2 d_9_looks_42 ?_
      refine zr_iald d_9_looks_43 sa_145 rfl rfl ?_
      refine zr_aload_n (i := 0) d_9_looks_44 rfl rfl ?_
      refine zr_gets (i' := 0) d_9_looks_45 fw_9_49 rfl ?_
      refine zr_iconst (v := (5 : Int32)) d_9_looks_48 rfl ?_
      refine zr_aload_n (i := 0) d_9_looks_49 rfl rfl ?_
      refine zr_geti d_9_looks_50 fw_9_233 (by decide) ?_
      refine zr_imul d_9_looks_53 ?_
      refine zr_iload_n (i := 3) d_9_looks_54 rfl rfl ?_
      refine zr_iadd d_9_looks_55 ?_
      obtain ⟨hb13, hT10⟩ := z_gd hT10
      refine zr_iald d_9_looks_56 sa_124 rfl hb13 ?_
      refine zr_iadd d_9_looks_57 ?_
      obtain ⟨m14, hm15, hT10⟩ := z_lt hT10
      refine zr_iast d_9_looks_58 sa_145 rfl rfl hm15 ?_
      obtain rfl := Option.some.inj hT10
      exact zr_wk2 hJ11 ⟨rfl, ⟨rfl, ⟨rfl, ⟨rfl, trivial⟩⟩⟩⟩
    · replace hT10 := z_im hT10 hc12
      obtain rfl := Option.some.inj hT10
      exact zr_wk2 hJ11 ⟨rfl, ⟨rfl, ⟨rfl, ⟨rfl, trivial⟩⟩⟩⟩
  · replace h := z_im h hc9
    obtain rfl := Option.some.inj h
    exact zr_wk2 (hE xm7 rfl) ⟨rfl, ⟨rfl, ⟨rfl, trivial⟩⟩⟩
theorem s9_looks {P : zP} {μ : zMem} {a1 : Int32} {μ' : zMem} (h : f9_looks a1 μ = some μ') : z_Sp P y_9_looks M_9_looks 5 [zA 9 0, zI a1] μ none μ' := by
  refine z_Sp.of (plainFor_of_name (by decide)) rfl (l0 := [some (zA 9 0), some (zI a1), none, none]) rfl (Nat.le_of_ble_eq_true rfl) ?_
  unfold f9_looks at h
  refine zr_aload_n (i := 0) d_9_looks_0 rfl rfl ?_
  refine zr_iload_n (i := 1) d_9_looks_1 rfl rfl ?_
  obtain ⟨q1, hq2, h⟩ := z_bd h
  refine zr_callVi (av := [zI a1]) (st := []) d_9_looks_2 mw_9_lordBits ml_9_346 im_9_lordBits se_9_lordBits rfl rfl (Nat.le_of_ble_eq_true rfl) fit_4_4_5 rfl rfl rfl (s9_lordBits hq2) ?_
  refine zr_istore_n (i := 2) (l' := [some (zA 9 0), some (zI a1), some (zI q1), none]) d_9_looks_5 rfl (by decide) rfl ?_
  refine zr_aload_n (i := 0) d_9_looks_6 rfl rfl ?_
  refine zr_gets (i' := 0) d_9_looks_7 fw_9_104 rfl ?_
  refine zr_iconst (v := (0 : Int32)) d_9_looks_10 rfl ?_
  refine zr_iconst (v := (0 : Int32)) d_9_looks_11 rfl ?_
  obtain ⟨m3, hm4, h⟩ := z_lt h
  refine zr_iast d_9_looks_12 sa_145 rfl rfl hm4 ?_
  refine zr_iconst (v := (0 : Int32)) d_9_looks_13 rfl ?_
  refine zr_istore_n (i := 3) (l' := [some (zA 9 0), some (zI a1), some (zI q1), some (zI (0 : Int32))]) d_9_looks_14 rfl (by decide) rfl ?_
  obtain ⟨e17, hl18, h⟩ := z_bd h
  refine zr_wk (l' := [some (zA 9 0), some (zI a1), some (zI q1), some (zI (0 : Int32))]) ⟨rfl, ⟨rfl, ⟨rfl, ⟨rfl, trivial⟩⟩⟩⟩ ?_
  refine z_loop (Hd := (z_u2 fun y0 y1 => z_RQ P M_9_looks (z_rm 5) (z_mq P none μ') 0 0 15 [some (zA 9 0), some (zI a1), some (zI q1), some (zI y0)] [] y1)) (Ex := (fun z0 => z_RQ P M_9_looks (z_rm 5) (z_mq P none μ') 0 0 65 [some (zA 9 0), some (zI a1), some (zI q1), none] [] z0)) (fun ⟨x6, xm7⟩ K h hI hE => s9_looks_L5 a1 q1 x6 xm7 K h (fun y0 y1 e => hI (y0, y1) e) (fun z0 e => hE z0 e) ) _ _ _ hl18 ?_
  refine zr_aload_n (i := 0) d_9_looks_65 rfl rfl ?_
  refine zr_gets (i' := 0) d_9_looks_66 fw_9_104 rfl ?_
  refine zr_iconst (v := (1 : Int32)) d_9_looks_69 rfl ?_
  refine zr_aload_n (i := 0) d_9_looks_70 rfl rfl ?_
  refine zr_iload_n (i := 1) d_9_looks_71 rfl rfl ?_
  obtain ⟨q19, hq20, h⟩ := z_bd h
  refine zr_callVi (av := [zI a1]) (st := [zI (1 : Int32), zA 145 0]) d_9_looks_72 mw_9_ageNow ml_9_349 im_9_ageNow se_9_ageNow rfl rfl (Nat.le_of_ble_eq_true rfl) fit_1_2_5 rfl rfl rfl (s9_ageNow hq20) ?_
  obtain ⟨m21, hm22, h⟩ := z_lt h
  refine zr_iast d_9_looks_75 sa_145 rfl rfl hm22 ?_
  refine zr_aload_n (i := 0) d_9_looks_76 rfl rfl ?_
  refine zr_gets (i' := 0) d_9_looks_77 fw_9_104 rfl ?_
  refine zr_iconst (v := (2 : Int32)) d_9_looks_80 rfl ?_
  refine zr_aload_n (i := 0) d_9_looks_81 rfl rfl ?_
  refine zr_gets (i' := 0) d_9_looks_82 fw_9_113 rfl ?_
  refine zr_bipush (v := (7 : Int32)) d_9_looks_85 rfl ?_
  refine zr_iload_n (i := 1) d_9_looks_87 rfl rfl ?_
  refine zr_iadd d_9_looks_88 ?_
  obtain ⟨hb23, h⟩ := z_gd h
  refine zr_iald d_9_looks_89 sa_149 rfl hb23 ?_
  obtain ⟨m24, hm25, h⟩ := z_lt h
  refine zr_iast d_9_looks_90 sa_145 rfl rfl hm25 ?_
  refine zr_aload_n (i := 0) d_9_looks_91 rfl rfl ?_
  refine zr_gets (i' := 0) d_9_looks_92 fw_9_104 rfl ?_
  refine zr_iconst (v := (3 : Int32)) d_9_looks_95 rfl ?_
  refine zr_aload_n (i := 0) d_9_looks_96 rfl rfl ?_
  refine zr_gets (i' := 0) d_9_looks_97 fw_9_113 rfl ?_
  refine zr_bipush (v := (14 : Int32)) d_9_looks_100 rfl ?_
  refine zr_iload_n (i := 1) d_9_looks_102 rfl rfl ?_
  refine zr_iadd d_9_looks_103 ?_
  obtain ⟨hb26, h⟩ := z_gd h
  refine zr_iald d_9_looks_104 sa_149 rfl hb26 ?_
  obtain ⟨m27, hm28, h⟩ := z_lt h
  refine zr_iast d_9_looks_105 sa_145 rfl rfl hm28 ?_
  refine zr_aload_n (i := 0) d_9_looks_106 rfl rfl ?_
  refine zr_gets (i' := 0) d_9_looks_107 fw_9_104 rfl ?_
  refine zr_iconst (v := (4 : Int32)) d_9_looks_110 rfl ?_
  refine zr_aload_n (i := 0) d_9_looks_111 rfl rfl ?_
  refine zr_gets (i' := 0) d_9_looks_112 fw_9_113 rfl ?_
  refine zr_bipush (v := (33 : Int32)) d_9_looks_115 rfl ?_
  refine zr_iald d_9_looks_117 sa_149 rfl rfl ?_
  obtain ⟨m29, hm30, h⟩ := z_lt h
  refine zr_iast d_9_looks_118 sa_145 rfl rfl hm30 ?_
  refine zr_aload_n (i := 0) d_9_looks_119 rfl rfl ?_
  refine zr_gets (i' := 0) d_9_looks_120 fw_9_104 rfl ?_
  refine zr_iconst (v := (5 : Int32)) d_9_looks_123 rfl ?_
  refine zr_aload_n (i := 0) d_9_looks_124 rfl rfl ?_
  refine zr_iload_n (i := 1) d_9_looks_125 rfl rfl ?_
  obtain ⟨q31, hq32, h⟩ := z_bd h
  refine zr_callVi (av := [zI a1]) (st := [zI (5 : Int32), zA 145 0]) d_9_looks_126 mw_9_rightBits ml_9_352 im_9_rightBits se_9_rightBits rfl rfl (Nat.le_of_ble_eq_true rfl) fit_2_4_5 rfl rfl rfl (s9_rightBits hq32) ?_
  obtain ⟨q33, hq34, h⟩ := z_bd h
  refine zr_callSi (av := [zI q31]) (st := [zI (5 : Int32), zA 145 0]) d_9_looks_129 mw_9_bits ml_9_355 is_9_bits rfl rfl (Nat.le_of_ble_eq_true rfl) fit_1_3_5 (s9_bits hq34) ?_
  obtain ⟨m35, hm36, h⟩ := z_lt h
  refine zr_iast d_9_looks_132 sa_145 rfl rfl hm36 ?_
  refine zr_aload_n (i := 0) d_9_looks_133 rfl rfl ?_
  refine zr_gets (i' := 0) d_9_looks_134 fw_9_104 rfl ?_
  refine zr_bipush (v := (6 : Int32)) d_9_looks_137 rfl ?_
  refine zr_iload_n (i := 2) d_9_looks_139 rfl rfl ?_
  obtain ⟨q37, hq38, h⟩ := z_bd h
  refine zr_callSi (av := [zI q1]) (st := [zI (6 : Int32), zA 145 0]) d_9_looks_140 mw_9_bits ml_9_355 is_9_bits rfl rfl (Nat.le_of_ble_eq_true rfl) fit_1_3_5 (s9_bits hq38) ?_
  obtain ⟨m39, hm40, h⟩ := z_lt h
  refine zr_iast d_9_looks_143 sa_145 rfl rfl hm40 ?_
  refine zr_aload_n (i := 0) d_9_looks_144 rfl rfl ?_
  refine zr_gets (i' := 0) d_9_looks_145 fw_9_104 rfl ?_
  refine zr_bipush (v := (7 : Int32)) d_9_looks_148 rfl ?_
  refine zr_iload_n (i := 1) d_9_looks_150 rfl rfl ?_
  obtain ⟨m41, hm42, h⟩ := z_lt h
  refine zr_iast d_9_looks_151 sa_145 rfl rfl hm42 ?_
  refine zr_aload_n (i := 0) d_9_looks_152 rfl rfl ?_
  refine zr_gets (i' := 0) d_9_looks_153 fw_9_104 rfl ?_
  refine zr_bipush (v := (8 : Int32)) d_9_looks_156 rfl ?_
  refine zr_aload_n (i := 0) d_9_looks_158 rfl rfl ?_
  refine zr_iconst (v := (0 : Int32)) d_9_looks_159 rfl ?_
  obtain ⟨q43, hq44, h⟩ := z_bd h
  refine zr_callVi (av := [zI (0 : Int32)]) (st := [zI (8 : Int32), zA 145 0]) d_9_looks_160 mw_9_inState ml_9_358 im_9_inState se_9_inState rfl rfl (Nat.le_of_ble_eq_true rfl) fit_1_4_5 rfl rfl rfl (s9_inState hq44) ?_
  obtain ⟨q45, hq46, h⟩ := z_bd h
  refine zr_callSi (av := [zI q43]) (st := [zI (8 : Int32), zA 145 0]) d_9_looks_163 mw_9_bits ml_9_355 is_9_bits rfl rfl (Nat.le_of_ble_eq_true rfl) fit_1_3_5 (s9_bits hq46) ?_
  obtain ⟨m47, hm48, h⟩ := z_lt h
  refine zr_iast d_9_looks_166 sa_145 rfl rfl hm48 ?_
  obtain rfl := Option.some.inj h
  exact ze_v d_9_looks_167 rfl
def f9_chanceOf (a1 : Int32) (a2 : Int32) (μ : zMem) : Option (Int32 × zMem) :=
  (f9_looks a1 μ).bind (fun qm1 => (f9_lawTells a2 (0 : Int32) qm1).bind (z_u2 fun q3 qm4 => some ((f9_within q3 (0 : Int32) (100 : Int32)), qm4)))
theorem s9_chanceOf {P : zP} {μ : zMem} {a1 : Int32} {a2 : Int32} {r : Int32} {μ' : zMem} (h : f9_chanceOf a1 a2 μ = some (r, μ')) : z_Sp P y_9_chanceOf M_9_chanceOf 6 [zA 9 0, zI a1, zI a2] μ (some (zI r)) μ' := by
  refine z_Sp.of (plainFor_of_name (by decide)) rfl (l0 := [some (zA 9 0), some (zI a1), some (zI a2)]) rfl (Nat.le_of_ble_eq_true rfl) ?_
  unfold f9_chanceOf at h
  refine zr_aload_n (i := 0) d_9_chanceOf_0 rfl rfl ?_
  refine zr_iload_n (i := 1) d_9_chanceOf_1 rfl rfl ?_
  obtain ⟨qm1, hq2, h⟩ := z_bd h
  refine zr_callVv (av := [zI a1]) (st := []) d_9_chanceOf_2 mw_9_looks ml_9_361 im_9_looks se_9_looks rfl rfl (Nat.le_of_ble_eq_true rfl) fit_5_4_6 rfl rfl rfl (s9_looks hq2) ?_
  refine zr_aload_n (i := 0) d_9_chanceOf_5 rfl rfl ?_
  refine zr_iload_n (i := 2) d_9_chanceOf_6 rfl rfl ?_
  refine zr_iconst (v := (0 : Int32)) d_9_chanceOf_7 rfl ?_
  obtain ⟨⟨q3, qm4⟩, hq5, h⟩ := z_bd h
  replace h := z_h2 h
  refine zr_callVi (av := [zI a2, zI (0 : Int32)]) (st := []) d_9_chanceOf_8 mw_9_lawTells ml_9_364 im_9_lawTells se_9_lawTells rfl rfl (Nat.le_of_ble_eq_true rfl) fit_2_7_6 rfl rfl rfl (s9_lawTells hq5) ?_
  refine zr_iconst (v := (0 : Int32)) d_9_chanceOf_11 rfl ?_
  refine zr_bipush (v := (100 : Int32)) d_9_chanceOf_12 rfl ?_
  refine zr_callSi (av := [zI q3, zI (0 : Int32), zI (100 : Int32)]) (st := []) d_9_chanceOf_14 mw_9_within ml_9_367 is_9_within rfl rfl (Nat.le_of_ble_eq_true rfl) fit_1_3_6 (s9_within rfl) ?_
  obtain ⟨rfl, rfl⟩ := Prod.mk.inj (Option.some.inj h)
  exact ze_i d_9_chanceOf_17 rfl
def f9_rentsOf (a1 : Int32) (μ : zMem) : Option (Int32 × zMem) :=
  (f9_lordOf a1 μ).bind (fun q1 => (if q1 < 0 then some ((0 : Int32), μ) else (f9_looks q1 μ).bind (fun qm4 => if z_in (((5 : Int32) * (qm4.1 9 0 18)) + a1) 10 = true then z_let (z_sI qm4 145 0 (0 : Int32).toNatClampNeg (qm4.1 124 0 (((5 : Int32) * (qm4.1 9 0 18)) + a1).toNatClampNeg)) fun m7 => (f9_lawTells (3 : Int32) (m7.1 145 0 (0 : Int32).toNatClampNeg) m7).bind (z_u2 fun q9 qm10 => some ((f9_within q9 (0 : Int32) (99 : Int32)), qm10)) else none)))
theorem s9_rentsOf {P : zP} {μ : zMem} {a1 : Int32} {r : Int32} {μ' : zMem} (h : f9_rentsOf a1 μ = some (r, μ')) : z_Sp P y_9_rentsOf M_9_rentsOf 6 [zA 9 0, zI a1] μ (some (zI r)) μ' := by
  refine z_Sp.of (plainFor_of_name (by decide)) rfl (l0 := [some (zA 9 0), some (zI a1), none]) rfl (Nat.le_of_ble_eq_true rfl) ?_
  unfold f9_rentsOf at h
  refine zr_aload_n (i := 0) d_9_rentsOf_0 rfl rfl ?_
  refine zr_iload_n (i := 1) d_9_rentsOf_1 rfl rfl ?_
  obtain ⟨q1, hq2, h⟩ := z_bd h
  refine zr_callVi (av := [zI a1]) (st := []) d_9_rentsOf_2 mw_9_lordOf ml_9_340 im_9_lordOf se_9_lordOf rfl rfl (Nat.le_of_ble_eq_true rfl) fit_3_2_6 rfl rfl rfl (s9_lordOf hq2) ?_
  refine zr_istore_n (i := 2) (l' := [some (zA 9 0), some (zI a1), some (zI q1)]) d_9_rentsOf_5 rfl (by decide) rfl ?_
  refine zr_iload_n (i := 2) d_9_rentsOf_6 rfl rfl ?_
  refine zr_if_ge (tgt := 12) d_9_rentsOf_7 rfl (fun hc3 => ?_) (fun hc3 => ?_)
  · replace h := z_ip h hc3
    refine zr_iconst (v := (0 : Int32)) d_9_rentsOf_10 rfl ?_
    obtain ⟨rfl, rfl⟩ := Prod.mk.inj (Option.some.inj h)
    exact ze_i d_9_rentsOf_11 rfl
  · replace h := z_im h hc3
    refine zr_aload_n (i := 0) d_9_rentsOf_12 rfl rfl ?_
    refine zr_iload_n (i := 2) d_9_rentsOf_13 rfl rfl ?_
    obtain ⟨qm4, hq5, h⟩ := z_bd h
    refine zr_callVv (av := [zI q1]) (st := []) d_9_rentsOf_14 mw_9_looks ml_9_361 im_9_looks se_9_looks rfl rfl (Nat.le_of_ble_eq_true rfl) fit_5_4_6 rfl rfl rfl (s9_looks hq5) ?_
    refine zr_aload_n (i := 0) d_9_rentsOf_17 rfl rfl ?_
    refine zr_gets (i' := 0) d_9_rentsOf_18 fw_9_104 rfl ?_
    refine zr_iconst (v := (0 : Int32)) d_9_rentsOf_21 rfl ?_
    refine zr_aload_n (i := 0) d_9_rentsOf_22 rfl rfl ?_
    refine zr_gets (i' := 0) d_9_rentsOf_23 fw_9_49 rfl ?_
    refine zr_iconst (v := (5 : Int32)) d_9_rentsOf_26 rfl ?_
    refine zr_aload_n (i := 0) d_9_rentsOf_27 rfl rfl ?_
    refine zr_geti d_9_rentsOf_28 fw_9_233 (by decide) ?_
    refine zr_imul d_9_rentsOf_31 ?_
    refine zr_iload_n (i := 1) d_9_rentsOf_32 rfl rfl ?_
    refine zr_iadd d_9_rentsOf_33 ?_
    obtain ⟨hb6, h⟩ := z_gd h
    refine zr_iald d_9_rentsOf_34 sa_124 rfl hb6 ?_
    obtain ⟨m7, hm8, h⟩ := z_lt h
    refine zr_iast d_9_rentsOf_35 sa_145 rfl rfl hm8 ?_
    refine zr_aload_n (i := 0) d_9_rentsOf_36 rfl rfl ?_
    refine zr_iconst (v := (3 : Int32)) d_9_rentsOf_37 rfl ?_
    refine zr_aload_n (i := 0) d_9_rentsOf_38 rfl rfl ?_
    refine zr_gets (i' := 0) d_9_rentsOf_39 fw_9_104 rfl ?_
    refine zr_iconst (v := (0 : Int32)) d_9_rentsOf_42 rfl ?_
    refine zr_iald d_9_rentsOf_43 sa_145 rfl rfl ?_
    obtain ⟨⟨q9, qm10⟩, hq11, h⟩ := z_bd h
    replace h := z_h2 h
    refine zr_callVi (av := [zI (3 : Int32), zI (m7.1 145 0 (0 : Int32).toNatClampNeg)]) (st := []) d_9_rentsOf_44 mw_9_lawTells ml_9_364 im_9_lawTells se_9_lawTells rfl rfl (Nat.le_of_ble_eq_true rfl) fit_2_7_6 rfl rfl rfl (s9_lawTells hq11) ?_
    refine zr_iconst (v := (0 : Int32)) d_9_rentsOf_47 rfl ?_
    refine zr_bipush (v := (99 : Int32)) d_9_rentsOf_48 rfl ?_
    refine zr_callSi (av := [zI q9, zI (0 : Int32), zI (99 : Int32)]) (st := []) d_9_rentsOf_50 mw_9_within ml_9_367 is_9_within rfl rfl (Nat.le_of_ble_eq_true rfl) fit_1_3_6 (s9_within rfl) ?_
    obtain ⟨rfl, rfl⟩ := Prod.mk.inj (Option.some.inj h)
    exact ze_i d_9_rentsOf_53 rfl
def f9_whatDoes (a1 : Int32) (μ : zMem) : Option (Int32 × zMem) :=
  if z_in a1 34 = true then (if (μ.1 149 0 a1.toNatClampNeg) = (2 : Int32) then some ((0 : Int32), μ) else (f9_chanceOf a1 (2 : Int32) μ).bind (z_u2 fun q3 qm4 => (if (f9_isLot (((32 : Int32) * (μ.1 149 0 (33 : Int32).toNatClampNeg)) + a1) q3 qm4) = 0 then ((if (qm4.1 149 0 a1.toNatClampNeg) = 0 then some (8 : Int32) else some (16 : Int32)) : Option (Int32)).bind (fun j11 => ((if (qm4.1 149 0 a1.toNatClampNeg) = 0 then some (0 : Int32) else some (1 : Int32)) : Option (Int32)).bind (fun j15 => (f9_chanceOf a1 j15 qm4).bind (z_u2 fun q16 qm17 => (if (f9_isLot ((((32 : Int32) * (qm4.1 149 0 (33 : Int32).toNatClampNeg)) + j11) + a1) q16 qm17) = 0 then some ((0 : Int32), qm17) else some ((1 : Int32), qm17))))) else some ((2 : Int32), qm4)))) else none
theorem s9_whatDoes {P : zP} {μ : zMem} {a1 : Int32} {r : Int32} {μ' : zMem} (h : f9_whatDoes a1 μ = some (r, μ')) : z_Sp P y_9_whatDoes M_9_whatDoes 7 [zA 9 0, zI a1] μ (some (zI r)) μ' := by
  refine z_Sp.of (plainFor_of_name (by decide)) rfl (l0 := [some (zA 9 0), some (zI a1), none]) rfl (Nat.le_of_ble_eq_true rfl) ?_
  unfold f9_whatDoes at h
  refine zr_aload_n (i := 0) d_9_whatDoes_0 rfl rfl ?_
  refine zr_gets (i' := 0) d_9_whatDoes_1 fw_9_113 rfl ?_
  refine zr_iload_n (i := 1) d_9_whatDoes_4 rfl rfl ?_
  obtain ⟨hb1, h⟩ := z_gd h
  refine zr_iald d_9_whatDoes_5 sa_149 rfl hb1 ?_
  refine zr_iconst (v := (2 : Int32)) d_9_whatDoes_6 rfl ?_
  refine zr_icmp_ne (tgt := 12) d_9_whatDoes_7 rfl (fun hc2 => ?_) (fun hc2 => ?_)
  · replace h := z_ip h hc2
    refine zr_iconst (v := (0 : Int32)) d_9_whatDoes_10 rfl ?_
    obtain ⟨rfl, rfl⟩ := Prod.mk.inj (Option.some.inj h)
    exact ze_i d_9_whatDoes_11 rfl
  · replace h := z_im h hc2
    refine zr_aload_n (i := 0) d_9_whatDoes_12 rfl rfl ?_
    refine zr_bipush (v := (32 : Int32)) d_9_whatDoes_13 rfl ?_
    refine zr_aload_n (i := 0) d_9_whatDoes_15 rfl rfl ?_
    refine zr_gets (i' := 0) d_9_whatDoes_16 fw_9_113 rfl ?_
    refine zr_bipush (v := (33 : Int32)) d_9_whatDoes_19 rfl ?_
    refine zr_iald d_9_whatDoes_21 sa_149 rfl rfl ?_
    refine zr_imul d_9_whatDoes_22 ?_
    refine zr_iload_n (i := 1) d_9_whatDoes_23 rfl rfl ?_
    refine zr_iadd d_9_whatDoes_24 ?_
    refine zr_aload_n (i := 0) d_9_whatDoes_25 rfl rfl ?_
    refine zr_iload_n (i := 1) d_9_whatDoes_26 rfl rfl ?_
    refine zr_iconst (v := (2 : Int32)) d_9_whatDoes_27 rfl ?_
    obtain ⟨⟨q3, qm4⟩, hq5, h⟩ := z_bd h
    replace h := z_h2 h
    refine zr_callVi (av := [zI a1, zI (2 : Int32)]) (st := [zI (((32 : Int32) * (μ.1 149 0 (33 : Int32).toNatClampNeg)) + a1), zA 9 0]) d_9_whatDoes_28 mw_9_chanceOf ml_9_370 im_9_chanceOf se_9_chanceOf rfl rfl (Nat.le_of_ble_eq_true rfl) fit_6_3_7 rfl rfl rfl (s9_chanceOf hq5) ?_
    refine zr_callVi (av := [zI (((32 : Int32) * (μ.1 149 0 (33 : Int32).toNatClampNeg)) + a1), zI q3]) (st := []) d_9_whatDoes_31 mw_9_isLot ml_9_373 im_9_isLot se_9_isLot rfl rfl (Nat.le_of_ble_eq_true rfl) fit_2_3_7 rfl rfl rfl (s9_isLot rfl) ?_
    refine zr_if_eq (tgt := 39) d_9_whatDoes_34 rfl (fun hc7 => ?_) (fun hc7 => ?_)
    · replace h := z_ip h hc7
      refine zr_aload_n (i := 0) d_9_whatDoes_39 rfl rfl ?_
      refine zr_gets (i' := 0) d_9_whatDoes_40 fw_9_113 rfl ?_
      refine zr_iload_n (i := 1) d_9_whatDoes_43 rfl rfl ?_
      refine zr_iald d_9_whatDoes_44 sa_149 rfl hb1 ?_
      obtain ⟨j11, hT8, h⟩ := z_bd h
      have hJ9 : z_RQ P M_9_whatDoes (z_rm 7) (z_mq P (some (zI r)) μ') 0 0 55 [some (zA 9 0), some (zI a1), none] [zI j11] qm4 := by
        refine zr_istore_n (i := 2) (l' := [some (zA 9 0), some (zI a1), some (zI j11)]) d_9_whatDoes_55 rfl (by decide) rfl ?_
        refine zr_aload_n (i := 0) d_9_whatDoes_56 rfl rfl ?_
        refine zr_bipush (v := (32 : Int32)) d_9_whatDoes_57 rfl ?_
        refine zr_aload_n (i := 0) d_9_whatDoes_59 rfl rfl ?_
        refine zr_gets (i' := 0) d_9_whatDoes_60 fw_9_113 rfl ?_
        refine zr_bipush (v := (33 : Int32)) d_9_whatDoes_63 rfl ?_
        refine zr_iald d_9_whatDoes_65 sa_149 rfl rfl ?_
        refine zr_imul d_9_whatDoes_66 ?_
        refine zr_iload_n (i := 2) d_9_whatDoes_67 rfl rfl ?_
        refine zr_iadd d_9_whatDoes_68 ?_
        refine zr_iload_n (i := 1) d_9_whatDoes_69 rfl rfl ?_
        refine zr_iadd d_9_whatDoes_70 ?_
        refine zr_aload_n (i := 0) d_9_whatDoes_71 rfl rfl ?_
        refine zr_iload_n (i := 1) d_9_whatDoes_72 rfl rfl ?_
        refine zr_aload_n (i := 0) d_9_whatDoes_73 rfl rfl ?_
        refine zr_gets (i' := 0) d_9_whatDoes_74 fw_9_113 rfl ?_
        refine zr_iload_n (i := 1) d_9_whatDoes_77 rfl rfl ?_
        refine zr_iald d_9_whatDoes_78 sa_149 rfl hb1 ?_
        obtain ⟨j15, hT12, h⟩ := z_bd h
        have hJ13 : z_RQ P M_9_whatDoes (z_rm 7) (z_mq P (some (zI r)) μ') 0 0 87 [none, none, none] [zI j15, zI a1, zA 9 0, zI ((((32 : Int32) * (qm4.1 149 0 (33 : Int32).toNatClampNeg)) + j11) + a1), zA 9 0] qm4 := by
          obtain ⟨⟨q16, qm17⟩, hq18, h⟩ := z_bd h
          replace h := z_h2 h
          refine zr_callVi (av := [zI a1, zI j15]) (st := [zI ((((32 : Int32) * (qm4.1 149 0 (33 : Int32).toNatClampNeg)) + j11) + a1), zA 9 0]) d_9_whatDoes_87 mw_9_chanceOf ml_9_370 im_9_chanceOf se_9_chanceOf rfl rfl (Nat.le_of_ble_eq_true rfl) fit_6_3_7 rfl rfl rfl (s9_chanceOf hq18) ?_
          refine zr_callVi (av := [zI ((((32 : Int32) * (qm4.1 149 0 (33 : Int32).toNatClampNeg)) + j11) + a1), zI q16]) (st := []) d_9_whatDoes_90 mw_9_isLot ml_9_373 im_9_isLot se_9_isLot rfl rfl (Nat.le_of_ble_eq_true rfl) fit_2_3_7 rfl rfl rfl (s9_isLot rfl) ?_
          refine zr_if_eq (tgt := 100) d_9_whatDoes_93 rfl (fun hc20 => ?_) (fun hc20 => ?_)
          · replace h := z_ip h hc20
            refine zr_iconst (v := (0 : Int32)) d_9_whatDoes_100 rfl ?_
            obtain ⟨rfl, rfl⟩ := Prod.mk.inj (Option.some.inj h)
            exact ze_i d_9_whatDoes_101 rfl
          · replace h := z_im h hc20
            refine zr_iconst (v := (1 : Int32)) d_9_whatDoes_96 rfl ?_
            refine zr_goto (tgt := 101) d_9_whatDoes_97 rfl ?_
            obtain ⟨rfl, rfl⟩ := Prod.mk.inj (Option.some.inj h)
            exact ze_i d_9_whatDoes_101 rfl
        refine zr_if_ne (tgt := 86) d_9_whatDoes_79 rfl (fun hc14 => ?_) (fun hc14 => ?_)
        · replace hT12 := z_ip hT12 hc14
          refine zr_iconst (v := (0 : Int32)) d_9_whatDoes_82 rfl ?_
          refine zr_goto (tgt := 87) d_9_whatDoes_83 rfl ?_
          obtain rfl := Option.some.inj hT12
          exact zr_wk2 hJ13 trivial
        · replace hT12 := z_im hT12 hc14
          refine zr_iconst (v := (1 : Int32)) d_9_whatDoes_86 rfl ?_
          obtain rfl := Option.some.inj hT12
          exact zr_wk2 hJ13 trivial
      refine zr_if_ne (tgt := 53) d_9_whatDoes_45 rfl (fun hc10 => ?_) (fun hc10 => ?_)
      · replace hT8 := z_ip hT8 hc10
        refine zr_bipush (v := (8 : Int32)) d_9_whatDoes_48 rfl ?_
        refine zr_goto (tgt := 55) d_9_whatDoes_50 rfl ?_
        obtain rfl := Option.some.inj hT8
        exact zr_wk2 hJ9 ⟨rfl, ⟨rfl, trivial⟩⟩
      · replace hT8 := z_im hT8 hc10
        refine zr_bipush (v := (16 : Int32)) d_9_whatDoes_53 rfl ?_
        obtain rfl := Option.some.inj hT8
        exact zr_wk2 hJ9 ⟨rfl, ⟨rfl, trivial⟩⟩
    · replace h := z_im h hc7
      refine zr_iconst (v := (2 : Int32)) d_9_whatDoes_37 rfl ?_
      obtain ⟨rfl, rfl⟩ := Prod.mk.inj (Option.some.inj h)
      exact ze_i d_9_whatDoes_38 rfl
def f9_becomes (a1 : Int32) (a2 : Int32) (μ : zMem) : Option (zMem) :=
  if z_in a1 34 = true then z_let (z_sI μ 149 0 a1.toNatClampNeg a2) fun m1 => if z_in ((7 : Int32) + a1) 34 = true then z_let (z_sI m1 149 0 ((7 : Int32) + a1).toNatClampNeg (0 : Int32)) fun m4 => (if a2 = (2 : Int32) then if z_in ((21 : Int32) + a1) 34 = true then z_let (z_sI m4 149 0 ((21 : Int32) + a1).toNatClampNeg (m4.1 149 0 (33 : Int32).toNatClampNeg)) fun m8 => some m8 else none else some m4) else none else none
theorem s9_becomes {P : zP} {μ : zMem} {a1 : Int32} {a2 : Int32} {μ' : zMem} (h : f9_becomes a1 a2 μ = some μ') : z_Sp P y_9_becomes M_9_becomes 1 [zA 9 0, zI a1, zI a2] μ none μ' := by
  refine z_Sp.of (plainFor_of_name (by decide)) rfl (l0 := [some (zA 9 0), some (zI a1), some (zI a2)]) rfl (Nat.le_of_ble_eq_true rfl) ?_
  unfold f9_becomes at h
  refine zr_aload_n (i := 0) d_9_becomes_0 rfl rfl ?_
  refine zr_gets (i' := 0) d_9_becomes_1 fw_9_113 rfl ?_
  refine zr_iload_n (i := 1) d_9_becomes_4 rfl rfl ?_
  refine zr_iload_n (i := 2) d_9_becomes_5 rfl rfl ?_
  obtain ⟨hb3, h⟩ := z_gd h
  obtain ⟨m1, hm2, h⟩ := z_lt h
  refine zr_iast d_9_becomes_6 sa_149 rfl hb3 hm2 ?_
  refine zr_aload_n (i := 0) d_9_becomes_7 rfl rfl ?_
  refine zr_gets (i' := 0) d_9_becomes_8 fw_9_113 rfl ?_
  refine zr_bipush (v := (7 : Int32)) d_9_becomes_11 rfl ?_
  refine zr_iload_n (i := 1) d_9_becomes_13 rfl rfl ?_
  refine zr_iadd d_9_becomes_14 ?_
  refine zr_iconst (v := (0 : Int32)) d_9_becomes_15 rfl ?_
  obtain ⟨hb6, h⟩ := z_gd h
  obtain ⟨m4, hm5, h⟩ := z_lt h
  refine zr_iast d_9_becomes_16 sa_149 rfl hb6 hm5 ?_
  refine zr_iload_n (i := 2) d_9_becomes_17 rfl rfl ?_
  refine zr_iconst (v := (2 : Int32)) d_9_becomes_18 rfl ?_
  refine zr_icmp_ne (tgt := 38) d_9_becomes_19 rfl (fun hc7 => ?_) (fun hc7 => ?_)
  · replace h := z_ip h hc7
    refine zr_aload_n (i := 0) d_9_becomes_22 rfl rfl ?_
    refine zr_gets (i' := 0) d_9_becomes_23 fw_9_113 rfl ?_
    refine zr_bipush (v := (21 : Int32)) d_9_becomes_26 rfl ?_
    refine zr_iload_n (i := 1) d_9_becomes_28 rfl rfl ?_
    refine zr_iadd d_9_becomes_29 ?_
    refine zr_aload_n (i := 0) d_9_becomes_30 rfl rfl ?_
    refine zr_gets (i' := 0) d_9_becomes_31 fw_9_113 rfl ?_
    refine zr_bipush (v := (33 : Int32)) d_9_becomes_34 rfl ?_
    refine zr_iald d_9_becomes_36 sa_149 rfl rfl ?_
    obtain ⟨hb10, h⟩ := z_gd h
    obtain ⟨m8, hm9, h⟩ := z_lt h
    refine zr_iast d_9_becomes_37 sa_149 rfl hb10 hm9 ?_
    obtain rfl := Option.some.inj h
    exact ze_v d_9_becomes_38 rfl
  · replace h := z_im h hc7
    obtain rfl := Option.some.inj h
    exact ze_v d_9_becomes_38 rfl
def f9_does (a1 : Int32) (μ : zMem) : Option (zMem) :=
  if z_in a1 7 = true then (if (μ.1 154 0 a1.toNatClampNeg) = (2 : Int32) then (f9_becomes a1 (2 : Int32) μ).bind (fun qm3 => some qm3) else (if (μ.1 154 0 a1.toNatClampNeg) = (1 : Int32) then if z_in a1 34 = true then (f9_becomes a1 ((1 : Int32) - (μ.1 149 0 a1.toNatClampNeg)) μ).bind (fun qm7 => some qm7) else none else if z_in a1 34 = true then (if (μ.1 149 0 a1.toNatClampNeg) = (1 : Int32) then if z_in ((7 : Int32) + a1) 34 = true then z_let (z_sI μ 149 0 ((7 : Int32) + a1).toNatClampNeg ((μ.1 149 0 ((7 : Int32) + a1).toNatClampNeg) + (1 : Int32))) fun m12 => some m12 else none else some μ) else none)) else none
theorem s9_does {P : zP} {μ : zMem} {a1 : Int32} {μ' : zMem} (h : f9_does a1 μ = some μ') : z_Sp P y_9_does M_9_does 2 [zA 9 0, zI a1] μ none μ' := by
  refine z_Sp.of (plainFor_of_name (by decide)) rfl (l0 := [some (zA 9 0), some (zI a1)]) rfl (Nat.le_of_ble_eq_true rfl) ?_
  unfold f9_does at h
  refine zr_aload_n (i := 0) d_9_does_0 rfl rfl ?_
  refine zr_gets (i' := 0) d_9_does_1 fw_9_122 rfl ?_
  refine zr_iload_n (i := 1) d_9_does_4 rfl rfl ?_
  obtain ⟨hb1, h⟩ := z_gd h
  refine zr_iald d_9_does_5 sa_154 rfl hb1 ?_
  refine zr_iconst (v := (2 : Int32)) d_9_does_6 rfl ?_
  refine zr_icmp_ne (tgt := 19) d_9_does_7 rfl (fun hc2 => ?_) (fun hc2 => ?_)
  · replace h := z_ip h hc2
    refine zr_aload_n (i := 0) d_9_does_10 rfl rfl ?_
    refine zr_iload_n (i := 1) d_9_does_11 rfl rfl ?_
    refine zr_iconst (v := (2 : Int32)) d_9_does_12 rfl ?_
    obtain ⟨qm3, hq4, h⟩ := z_bd h
    refine zr_callVv (av := [zI a1, zI (2 : Int32)]) (st := []) d_9_does_13 mw_9_becomes ml_9_376 im_9_becomes se_9_becomes rfl rfl (Nat.le_of_ble_eq_true rfl) fit_1_3_2 rfl rfl rfl (s9_becomes hq4) ?_
    refine zr_goto (tgt := 68) d_9_does_16 rfl ?_
    obtain rfl := Option.some.inj h
    exact ze_v d_9_does_68 rfl
  · replace h := z_im h hc2
    refine zr_aload_n (i := 0) d_9_does_19 rfl rfl ?_
    refine zr_gets (i' := 0) d_9_does_20 fw_9_122 rfl ?_
    refine zr_iload_n (i := 1) d_9_does_23 rfl rfl ?_
    refine zr_iald d_9_does_24 sa_154 rfl hb1 ?_
    refine zr_iconst (v := (1 : Int32)) d_9_does_25 rfl ?_
    refine zr_icmp_ne (tgt := 45) d_9_does_26 rfl (fun hc5 => ?_) (fun hc5 => ?_)
    · replace h := z_ip h hc5
      refine zr_aload_n (i := 0) d_9_does_29 rfl rfl ?_
      refine zr_iload_n (i := 1) d_9_does_30 rfl rfl ?_
      refine zr_iconst (v := (1 : Int32)) d_9_does_31 rfl ?_
      refine zr_aload_n (i := 0) d_9_does_32 rfl rfl ?_
      refine zr_gets (i' := 0) d_9_does_33 fw_9_113 rfl ?_
      refine zr_iload_n (i := 1) d_9_does_36 rfl rfl ?_
      obtain ⟨hb6, h⟩ := z_gd h
      refine zr_iald d_9_does_37 sa_149 rfl hb6 ?_
      refine zr_isub d_9_does_38 ?_
      obtain ⟨qm7, hq8, h⟩ := z_bd h
      refine zr_callVv (av := [zI a1, zI ((1 : Int32) - (μ.1 149 0 a1.toNatClampNeg))]) (st := []) d_9_does_39 mw_9_becomes ml_9_376 im_9_becomes se_9_becomes rfl rfl (Nat.le_of_ble_eq_true rfl) fit_1_3_2 rfl rfl rfl (s9_becomes hq8) ?_
      refine zr_goto (tgt := 68) d_9_does_42 rfl ?_
      obtain rfl := Option.some.inj h
      exact ze_v d_9_does_68 rfl
    · replace h := z_im h hc5
      refine zr_aload_n (i := 0) d_9_does_45 rfl rfl ?_
      refine zr_gets (i' := 0) d_9_does_46 fw_9_113 rfl ?_
      refine zr_iload_n (i := 1) d_9_does_49 rfl rfl ?_
      obtain ⟨hb9, h⟩ := z_gd h
      refine zr_iald d_9_does_50 sa_149 rfl hb9 ?_
      refine zr_iconst (v := (1 : Int32)) d_9_does_51 rfl ?_
      refine zr_icmp_ne (tgt := 68) d_9_does_52 rfl (fun hc10 => ?_) (fun hc10 => ?_)
      · replace h := z_ip h hc10
        refine zr_aload_n (i := 0) d_9_does_55 rfl rfl ?_
        refine zr_gets (i' := 0) d_9_does_56 fw_9_113 rfl ?_
        refine zr_bipush (v := (7 : Int32)) d_9_does_59 rfl ?_
        refine zr_iload_n (i := 1) d_9_does_61 rfl rfl ?_
        refine zr_iadd d_9_does_62 ?_
        refine zr_dup2 d_9_does_63 ?_
        obtain ⟨hb11, h⟩ := z_gd h
        refine zr_iald d_9_does_64 sa_149 rfl hb11 ?_
        refine zr_iconst (v := (1 : Int32)) d_9_does_65 rfl ?_
        refine zr_iadd d_9_does_66 ?_
        obtain ⟨m12, hm13, h⟩ := z_lt h
        refine zr_iast d_9_does_67 sa_149 rfl hb11 hm13 ?_
        obtain rfl := Option.some.inj h
        exact ze_v d_9_does_68 rfl
      · replace h := z_im h hc10
        obtain rfl := Option.some.inj h
        exact ze_v d_9_does_68 rfl
def f9_yearGoes_L1  : (Int32 × zMem) → Option ((Int32 × zMem) ⊕ (zMem)) := (z_u2 fun x2 xm3 => 
  if z_in (xm3.1 9 0 18) 2 = true then (if x2 < (xm3.1 123 0 (xm3.1 9 0 18).toNatClampNeg) then (f9_lordOf x2 xm3).bind (fun q6 => if z_in x2 5 = true then z_let (z_sI xm3 153 0 x2.toNatClampNeg q6) fun m8 => (f9_rentsOf x2 m8).bind (z_u2 fun q11 qm12 => z_let (z_sI qm12 152 0 x2.toNatClampNeg q11) fun m14 => some (.inl ((x2 + (1 : Int32)), m14))) else none) else some (.inr xm3)) else none)
def f9_yearGoes_L18  : (Int32 × zMem) → Option ((Int32 × zMem) ⊕ (zMem)) := (z_u2 fun x19 xm20 => 
  if z_in (xm20.1 9 0 18) 2 = true then (if x19 < (xm20.1 126 0 (xm20.1 9 0 18).toNatClampNeg) then (f9_whatDoes x19 xm20).bind (z_u2 fun q23 qm24 => if z_in x19 7 = true then z_let (z_sI qm24 154 0 x19.toNatClampNeg q23) fun m26 => some (.inl ((x19 + (1 : Int32)), m26)) else none) else some (.inr xm20)) else none)
def f9_yearGoes_L31  : (Int32 × zMem) → Option ((Int32 × zMem) ⊕ (zMem)) := (z_u2 fun x32 xm33 => 
  if z_in (xm33.1 9 0 18) 2 = true then (if x32 < (xm33.1 123 0 (xm33.1 9 0 18).toNatClampNeg) then if z_in x32 5 = true then ((if (xm33.1 153 0 x32.toNatClampNeg) < 0 then some xm33 else if z_in ((14 : Int32) + (xm33.1 153 0 x32.toNatClampNeg)) 34 = true then z_let (z_sI xm33 149 0 ((14 : Int32) + (xm33.1 153 0 x32.toNatClampNeg)).toNatClampNeg ((xm33.1 149 0 ((14 : Int32) + (xm33.1 153 0 x32.toNatClampNeg)).toNatClampNeg) + (xm33.1 152 0 x32.toNatClampNeg))) fun m41 => some m41 else none) : Option (zMem)).bind (fun jm43 => some (.inl ((x32 + (1 : Int32)), jm43))) else none else some (.inr xm33)) else none)
def f9_yearGoes_L46  : (Int32 × zMem) → Option ((Int32 × zMem) ⊕ (zMem)) := (z_u2 fun x47 xm48 => 
  if z_in (xm48.1 9 0 18) 2 = true then (if x47 < (xm48.1 126 0 (xm48.1 9 0 18).toNatClampNeg) then (f9_does x47 xm48).bind (fun qm51 => some (.inl ((x47 + (1 : Int32)), qm51))) else some (.inr xm48)) else none)
def f9_yearGoes  (μ : zMem) : Option (zMem) :=
  (z_it (f9_yearGoes_L1) z_fu ((0 : Int32), μ)).bind (fun e16 => (z_it (f9_yearGoes_L18) z_fu ((0 : Int32), e16)).bind (fun e29 => (z_it (f9_yearGoes_L31) z_fu ((0 : Int32), e29)).bind (fun e44 => (z_it (f9_yearGoes_L46) z_fu ((0 : Int32), e44)).bind (fun e53 => z_let (z_sI e53 149 0 (33 : Int32).toNatClampNeg ((e53.1 149 0 (33 : Int32).toNatClampNeg) + (1 : Int32))) fun m55 => some m55))))
theorem s9_yearGoes_L1 {P : zP} {ro : Option zV} {μo : zMem}  (x2 : Int32) (xm3 : zMem) (K : (Int32 × zMem) ⊕ (zMem)) (h : f9_yearGoes_L1  (x2, xm3) = some K) (hI : ∀ (y0 : Int32) (y1 : zMem), K = .inl (y0, y1) → z_RQ P M_9_yearGoes (z_rm 8) (z_mq P ro μo) 0 0 2 [some (zA 9 0), some (zI y0)] [] y1) (hE : ∀ (z0 : zMem), K = .inr z0 → z_RQ P M_9_yearGoes (z_rm 8) (z_mq P ro μo) 0 0 43 [some (zA 9 0), none] [] z0)  : z_RQ P M_9_yearGoes (z_rm 8) (z_mq P ro μo) 0 0 2 [some (zA 9 0), some (zI x2)] [] xm3 := by
  unfold f9_yearGoes_L1 at h
  replace h := z_h2 h
  refine zr_iload_n (i := 1) d_9_yearGoes_2 rfl rfl ?_
  refine zr_aload_n (i := 0) d_9_yearGoes_3 rfl rfl ?_
  refine zr_gets (i' := 0) d_9_yearGoes_4 fw_9_46 rfl ?_
  refine zr_aload_n (i := 0) d_9_yearGoes_7 rfl rfl ?_
  refine zr_geti d_9_yearGoes_8 fw_9_233 (by decide) ?_
  obtain ⟨hb4, h⟩ := z_gd h
  refine zr_iald d_9_yearGoes_11 sa_123 rfl hb4 ?_
  refine zr_icmp_ge (tgt := 43) d_9_yearGoes_12 rfl (fun hc5 => ?_) (fun hc5 => ?_)
  · replace h := z_ip h hc5
    refine zr_aload_n (i := 0) d_9_yearGoes_15 rfl rfl ?_
    refine zr_gets (i' := 0) d_9_yearGoes_16 fw_9_119 rfl ?_
    refine zr_iload_n (i := 1) d_9_yearGoes_19 rfl rfl ?_
    refine zr_aload_n (i := 0) d_9_yearGoes_20 rfl rfl ?_
    refine zr_iload_n (i := 1) d_9_yearGoes_21 rfl rfl ?_
    obtain ⟨q6, hq7, h⟩ := z_bd h
    refine zr_callVi (av := [zI x2]) (st := [zI x2, zA 153 0]) d_9_yearGoes_22 mw_9_lordOf ml_9_340 im_9_lordOf se_9_lordOf rfl rfl (Nat.le_of_ble_eq_true rfl) fit_3_2_8 rfl rfl rfl (s9_lordOf hq7) ?_
    obtain ⟨hb10, h⟩ := z_gd h
    obtain ⟨m8, hm9, h⟩ := z_lt h
    refine zr_iast d_9_yearGoes_25 sa_153 rfl hb10 hm9 ?_
    refine zr_aload_n (i := 0) d_9_yearGoes_26 rfl rfl ?_
    refine zr_gets (i' := 0) d_9_yearGoes_27 fw_9_116 rfl ?_
    refine zr_iload_n (i := 1) d_9_yearGoes_30 rfl rfl ?_
    refine zr_aload_n (i := 0) d_9_yearGoes_31 rfl rfl ?_
    refine zr_iload_n (i := 1) d_9_yearGoes_32 rfl rfl ?_
    obtain ⟨⟨q11, qm12⟩, hq13, h⟩ := z_bd h
    replace h := z_h2 h
    refine zr_callVi (av := [zI x2]) (st := [zI x2, zA 152 0]) d_9_yearGoes_33 mw_9_rentsOf ml_9_379 im_9_rentsOf se_9_rentsOf rfl rfl (Nat.le_of_ble_eq_true rfl) fit_6_3_8 rfl rfl rfl (s9_rentsOf hq13) ?_
    obtain ⟨m14, hm15, h⟩ := z_lt h
    refine zr_iast d_9_yearGoes_36 sa_152 rfl hb10 hm15 ?_
    refine zr_iinc (v := (x2 + (1 : Int32))) (l' := [some (zA 9 0), some (zI (x2 + (1 : Int32)))]) d_9_yearGoes_37 (by decide) rfl rfl rfl ?_
    refine zr_goto (tgt := 2) d_9_yearGoes_40 rfl ?_
    obtain rfl := Option.some.inj h
    exact zr_wk2 (hI (x2 + (1 : Int32)) m14 rfl) ⟨rfl, ⟨rfl, trivial⟩⟩
  · replace h := z_im h hc5
    obtain rfl := Option.some.inj h
    exact zr_wk2 (hE xm3 rfl) ⟨rfl, trivial⟩
theorem s9_yearGoes_L18 {P : zP} {ro : Option zV} {μo : zMem}  (x19 : Int32) (xm20 : zMem) (K : (Int32 × zMem) ⊕ (zMem)) (h : f9_yearGoes_L18  (x19, xm20) = some K) (hI : ∀ (y0 : Int32) (y1 : zMem), K = .inl (y0, y1) → z_RQ P M_9_yearGoes (z_rm 8) (z_mq P ro μo) 0 0 45 [some (zA 9 0), some (zI y0)] [] y1) (hE : ∀ (z0 : zMem), K = .inr z0 → z_RQ P M_9_yearGoes (z_rm 8) (z_mq P ro μo) 0 0 75 [some (zA 9 0), none] [] z0)  : z_RQ P M_9_yearGoes (z_rm 8) (z_mq P ro μo) 0 0 45 [some (zA 9 0), some (zI x19)] [] xm20 := by
  unfold f9_yearGoes_L18 at h
  replace h := z_h2 h
  refine zr_iload_n (i := 1) d_9_yearGoes_45 rfl rfl ?_
  refine zr_aload_n (i := 0) d_9_yearGoes_46 rfl rfl ?_
  refine zr_gets (i' := 0) d_9_yearGoes_47 fw_9_55 rfl ?_
  refine zr_aload_n (i := 0) d_9_yearGoes_50 rfl rfl ?_
  refine zr_geti d_9_yearGoes_51 fw_9_233 (by decide) ?_
  obtain ⟨hb21, h⟩ := z_gd h
  refine zr_iald d_9_yearGoes_54 sa_126 rfl hb21 ?_
  refine zr_icmp_ge (tgt := 75) d_9_yearGoes_55 rfl (fun hc22 => ?_) (fun hc22 => ?_)
  · replace h := z_ip h hc22
    refine zr_aload_n (i := 0) d_9_yearGoes_58 rfl rfl ?_
    refine zr_gets (i' := 0) d_9_yearGoes_59 fw_9_122 rfl ?_
    refine zr_iload_n (i := 1) d_9_yearGoes_62 rfl rfl ?_
    refine zr_aload_n (i := 0) d_9_yearGoes_63 rfl rfl ?_
    refine zr_iload_n (i := 1) d_9_yearGoes_64 rfl rfl ?_
    obtain ⟨⟨q23, qm24⟩, hq25, h⟩ := z_bd h
    replace h := z_h2 h
    refine zr_callVi (av := [zI x19]) (st := [zI x19, zA 154 0]) d_9_yearGoes_65 mw_9_whatDoes ml_9_382 im_9_whatDoes se_9_whatDoes rfl rfl (Nat.le_of_ble_eq_true rfl) fit_7_3_8 rfl rfl rfl (s9_whatDoes hq25) ?_
    obtain ⟨hb28, h⟩ := z_gd h
    obtain ⟨m26, hm27, h⟩ := z_lt h
    refine zr_iast d_9_yearGoes_68 sa_154 rfl hb28 hm27 ?_
    refine zr_iinc (v := (x19 + (1 : Int32))) (l' := [some (zA 9 0), some (zI (x19 + (1 : Int32)))]) d_9_yearGoes_69 (by decide) rfl rfl rfl ?_
    refine zr_goto (tgt := 45) d_9_yearGoes_72 rfl ?_
    obtain rfl := Option.some.inj h
    exact zr_wk2 (hI (x19 + (1 : Int32)) m26 rfl) ⟨rfl, ⟨rfl, trivial⟩⟩
  · replace h := z_im h hc22
    obtain rfl := Option.some.inj h
    exact zr_wk2 (hE xm20 rfl) ⟨rfl, trivial⟩
theorem s9_yearGoes_L31 {P : zP} {ro : Option zV} {μo : zMem}  (x32 : Int32) (xm33 : zMem) (K : (Int32 × zMem) ⊕ (zMem)) (h : f9_yearGoes_L31  (x32, xm33) = some K) (hI : ∀ (y0 : Int32) (y1 : zMem), K = .inl (y0, y1) → z_RQ P M_9_yearGoes (z_rm 8) (z_mq P ro μo) 0 0 77 [some (zA 9 0), some (zI y0)] [] y1) (hE : ∀ (z0 : zMem), K = .inr z0 → z_RQ P M_9_yearGoes (z_rm 8) (z_mq P ro μo) 0 0 128 [some (zA 9 0), none] [] z0)  : z_RQ P M_9_yearGoes (z_rm 8) (z_mq P ro μo) 0 0 77 [some (zA 9 0), some (zI x32)] [] xm33 := by
  unfold f9_yearGoes_L31 at h
  replace h := z_h2 h
  refine zr_iload_n (i := 1) d_9_yearGoes_77 rfl rfl ?_
  refine zr_aload_n (i := 0) d_9_yearGoes_78 rfl rfl ?_
  refine zr_gets (i' := 0) d_9_yearGoes_79 fw_9_46 rfl ?_
  refine zr_aload_n (i := 0) d_9_yearGoes_82 rfl rfl ?_
  refine zr_geti d_9_yearGoes_83 fw_9_233 (by decide) ?_
  obtain ⟨hb34, h⟩ := z_gd h
  refine zr_iald d_9_yearGoes_86 sa_123 rfl hb34 ?_
  refine zr_icmp_ge (tgt := 128) d_9_yearGoes_87 rfl (fun hc35 => ?_) (fun hc35 => ?_)
  · replace h := z_ip h hc35
    refine zr_aload_n (i := 0) d_9_yearGoes_90 rfl rfl ?_
    refine zr_gets (i' := 0) d_9_yearGoes_91 fw_9_119 rfl ?_
    refine zr_iload_n (i := 1) d_9_yearGoes_94 rfl rfl ?_
    obtain ⟨hb36, h⟩ := z_gd h
    refine zr_iald d_9_yearGoes_95 sa_153 rfl hb36 ?_
    obtain ⟨jm43, hT37, h⟩ := z_bd h
    have hJ38 : z_RQ P M_9_yearGoes (z_rm 8) (z_mq P ro μo) 0 0 122 [some (zA 9 0), some (zI x32)] [] jm43 := by
      refine zr_iinc (v := (x32 + (1 : Int32))) (l' := [some (zA 9 0), some (zI (x32 + (1 : Int32)))]) d_9_yearGoes_122 (by decide) rfl rfl rfl ?_
      refine zr_goto (tgt := 77) d_9_yearGoes_125 rfl ?_
      obtain rfl := Option.some.inj h
      exact zr_wk2 (hI (x32 + (1 : Int32)) jm43 rfl) ⟨rfl, ⟨rfl, trivial⟩⟩
    refine zr_if_lt (tgt := 122) d_9_yearGoes_96 rfl (fun hc39 => ?_) (fun hc39 => ?_)
    · replace hT37 := z_ip hT37 hc39
      obtain rfl := Option.some.inj hT37
      exact zr_wk2 hJ38 ⟨rfl, ⟨rfl, trivial⟩⟩
    · replace hT37 := z_im hT37 hc39
      refine zr_aload_n (i := 0) d_9_yearGoes_99 rfl rfl ?_
      refine zr_gets (i' := 0) d_9_yearGoes_100 fw_9_113 rfl ?_
      refine zr_bipush (v := (14 : Int32)) d_9_yearGoes_103 rfl ?_
      refine zr_aload_n (i := 0) d_9_yearGoes_105 rfl rfl ?_
      refine zr_gets (i' := 0) d_9_yearGoes_106 fw_9_119 rfl ?_
      refine zr_iload_n (i := 1) d_9_yearGoes_109 rfl rfl ?_
      refine zr_iald d_9_yearGoes_110 sa_153 rfl hb36 ?_
      refine zr_iadd d_9_yearGoes_111 ?_
      refine zr_dup2 d_9_yearGoes_112 ?_
      obtain ⟨hb40, hT37⟩ := z_gd hT37
      refine zr_iald d_9_yearGoes_113 sa_149 rfl hb40 ?_
      refine zr_aload_n (i := 0) d_9_yearGoes_114 rfl rfl ?_
      refine zr_gets (i' := 0) d_9_yearGoes_115 fw_9_116 rfl ?_
      refine zr_iload_n (i := 1) d_9_yearGoes_118 rfl rfl ?_
      refine zr_iald d_9_yearGoes_119 sa_152 rfl hb36 ?_
      refine zr_iadd d_9_yearGoes_120 ?_
      obtain ⟨m41, hm42, hT37⟩ := z_lt hT37
      refine zr_iast d_9_yearGoes_121 sa_149 rfl hb40 hm42 ?_
      obtain rfl := Option.some.inj hT37
      exact zr_wk2 hJ38 ⟨rfl, ⟨rfl, trivial⟩⟩
  · replace h := z_im h hc35
    obtain rfl := Option.some.inj h
    exact zr_wk2 (hE xm33 rfl) ⟨rfl, trivial⟩
theorem s9_yearGoes_L46 {P : zP} {ro : Option zV} {μo : zMem}  (x47 : Int32) (xm48 : zMem) (K : (Int32 × zMem) ⊕ (zMem)) (h : f9_yearGoes_L46  (x47, xm48) = some K) (hI : ∀ (y0 : Int32) (y1 : zMem), K = .inl (y0, y1) → z_RQ P M_9_yearGoes (z_rm 8) (z_mq P ro μo) 0 0 130 [some (zA 9 0), some (zI y0)] [] y1) (hE : ∀ (z0 : zMem), K = .inr z0 → z_RQ P M_9_yearGoes (z_rm 8) (z_mq P ro μo) 0 0 154 [some (zA 9 0), none] [] z0)  : z_RQ P M_9_yearGoes (z_rm 8) (z_mq P ro μo) 0 0 130 [some (zA 9 0), some (zI x47)] [] xm48 := by
  unfold f9_yearGoes_L46 at h
  replace h := z_h2 h
  refine zr_iload_n (i := 1) d_9_yearGoes_130 rfl rfl ?_
  refine zr_aload_n (i := 0) d_9_yearGoes_131 rfl rfl ?_
  refine zr_gets (i' := 0) d_9_yearGoes_132 fw_9_55 rfl ?_
  refine zr_aload_n (i := 0) d_9_yearGoes_135 rfl rfl ?_
  refine zr_geti d_9_yearGoes_136 fw_9_233 (by decide) ?_
  obtain ⟨hb49, h⟩ := z_gd h
  refine zr_iald d_9_yearGoes_139 sa_126 rfl hb49 ?_
  refine zr_icmp_ge (tgt := 154) d_9_yearGoes_140 rfl (fun hc50 => ?_) (fun hc50 => ?_)
  · replace h := z_ip h hc50
    refine zr_aload_n (i := 0) d_9_yearGoes_143 rfl rfl ?_
    refine zr_iload_n (i := 1) d_9_yearGoes_144 rfl rfl ?_
    obtain ⟨qm51, hq52, h⟩ := z_bd h
    refine zr_callVv (av := [zI x47]) (st := []) d_9_yearGoes_145 mw_9_does ml_9_385 im_9_does se_9_does rfl rfl (Nat.le_of_ble_eq_true rfl) fit_2_2_8 rfl rfl rfl (s9_does hq52) ?_
    refine zr_iinc (v := (x47 + (1 : Int32))) (l' := [some (zA 9 0), some (zI (x47 + (1 : Int32)))]) d_9_yearGoes_148 (by decide) rfl rfl rfl ?_
    refine zr_goto (tgt := 130) d_9_yearGoes_151 rfl ?_
    obtain rfl := Option.some.inj h
    exact zr_wk2 (hI (x47 + (1 : Int32)) qm51 rfl) ⟨rfl, ⟨rfl, trivial⟩⟩
  · replace h := z_im h hc50
    obtain rfl := Option.some.inj h
    exact zr_wk2 (hE xm48 rfl) ⟨rfl, trivial⟩
theorem s9_yearGoes {P : zP} {μ : zMem} {μ' : zMem} (h : f9_yearGoes μ = some μ') : z_Sp P y_9_yearGoes M_9_yearGoes 8 [zA 9 0] μ none μ' := by
  refine z_Sp.of (plainFor_of_name (by decide)) rfl (l0 := [some (zA 9 0), none]) rfl (Nat.le_of_ble_eq_true rfl) ?_
  unfold f9_yearGoes at h
  refine zr_iconst (v := (0 : Int32)) d_9_yearGoes_0 rfl ?_
  refine zr_istore_n (i := 1) (l' := [some (zA 9 0), some (zI (0 : Int32))]) d_9_yearGoes_1 rfl (by decide) rfl ?_
  obtain ⟨e16, hl17, h⟩ := z_bd h
  refine zr_wk (l' := [some (zA 9 0), some (zI (0 : Int32))]) ⟨rfl, ⟨rfl, trivial⟩⟩ ?_
  refine z_loop (Hd := (z_u2 fun y0 y1 => z_RQ P M_9_yearGoes (z_rm 8) (z_mq P none μ') 0 0 2 [some (zA 9 0), some (zI y0)] [] y1)) (Ex := (fun z0 => z_RQ P M_9_yearGoes (z_rm 8) (z_mq P none μ') 0 0 43 [some (zA 9 0), none] [] z0)) (fun ⟨x2, xm3⟩ K h hI hE => s9_yearGoes_L1  x2 xm3 K h (fun y0 y1 e => hI (y0, y1) e) (fun z0 e => hE z0 e) ) _ _ _ hl17 ?_
  refine zr_iconst (v := (0 : Int32)) d_9_yearGoes_43 rfl ?_
  refine zr_istore_n (i := 1) (l' := [some (zA 9 0), some (zI (0 : Int32))]) d_9_yearGoes_44 rfl (by decide) rfl ?_
  obtain ⟨e29, hl30, h⟩ := z_bd h
  refine zr_wk (l' := [some (zA 9 0), some (zI (0 : Int32))]) ⟨rfl, ⟨rfl, trivial⟩⟩ ?_
  refine z_loop (Hd := (z_u2 fun y0 y1 => z_RQ P M_9_yearGoes (z_rm 8) (z_mq P none μ') 0 0 45 [some (zA 9 0), some (zI y0)] [] y1)) (Ex := (fun z0 => z_RQ P M_9_yearGoes (z_rm 8) (z_mq P none μ') 0 0 75 [some (zA 9 0), none] [] z0)) (fun ⟨x19, xm20⟩ K h hI hE => s9_yearGoes_L18  x19 xm20 K h (fun y0 y1 e => hI (y0, y1) e) (fun z0 e => hE z0 e) ) _ _ _ hl30 ?_
  refine zr_iconst (v := (0 : Int32)) d_9_yearGoes_75 rfl ?_
  refine zr_istore_n (i := 1) (l' := [some (zA 9 0), some (zI (0 : Int32))]) d_9_yearGoes_76 rfl (by decide) rfl ?_
  obtain ⟨e44, hl45, h⟩ := z_bd h
  refine zr_wk (l' := [some (zA 9 0), some (zI (0 : Int32))]) ⟨rfl, ⟨rfl, trivial⟩⟩ ?_
  refine z_loop (Hd := (z_u2 fun y0 y1 => z_RQ P M_9_yearGoes (z_rm 8) (z_mq P none μ') 0 0 77 [some (zA 9 0), some (zI y0)] [] y1)) (Ex := (fun z0 => z_RQ P M_9_yearGoes (z_rm 8) (z_mq P none μ') 0 0 128 [some (zA 9 0), none] [] z0)) (fun ⟨x32, xm33⟩ K h hI hE => s9_yearGoes_L31  x32 xm33 K h (fun y0 y1 e => hI (y0, y1) e) (fun z0 e => hE z0 e) ) _ _ _ hl45 ?_
  refine zr_iconst (v := (0 : Int32)) d_9_yearGoes_128 rfl ?_
  refine zr_istore_n (i := 1) (l' := [some (zA 9 0), some (zI (0 : Int32))]) d_9_yearGoes_129 rfl (by decide) rfl ?_
  obtain ⟨e53, hl54, h⟩ := z_bd h
  refine zr_wk (l' := [some (zA 9 0), some (zI (0 : Int32))]) ⟨rfl, ⟨rfl, trivial⟩⟩ ?_
  refine z_loop (Hd := (z_u2 fun y0 y1 => z_RQ P M_9_yearGoes (z_rm 8) (z_mq P none μ') 0 0 130 [some (zA 9 0), some (zI y0)] [] y1)) (Ex := (fun z0 => z_RQ P M_9_yearGoes (z_rm 8) (z_mq P none μ') 0 0 154 [some (zA 9 0), none] [] z0)) (fun ⟨x47, xm48⟩ K h hI hE => s9_yearGoes_L46  x47 xm48 K h (fun y0 y1 e => hI (y0, y1) e) (fun z0 e => hE z0 e) ) _ _ _ hl54 ?_
  refine zr_aload_n (i := 0) d_9_yearGoes_154 rfl rfl ?_
  refine zr_gets (i' := 0) d_9_yearGoes_155 fw_9_113 rfl ?_
  refine zr_bipush (v := (33 : Int32)) d_9_yearGoes_158 rfl ?_
  refine zr_dup2 d_9_yearGoes_160 ?_
  refine zr_iald d_9_yearGoes_161 sa_149 rfl rfl ?_
  refine zr_iconst (v := (1 : Int32)) d_9_yearGoes_162 rfl ?_
  refine zr_iadd d_9_yearGoes_163 ?_
  obtain ⟨m55, hm56, h⟩ := z_lt h
  refine zr_iast d_9_yearGoes_164 sa_149 rfl rfl hm56 ?_
  obtain rfl := Option.some.inj h
  exact ze_v d_9_yearGoes_165 rfl
def f9_goes_L1 (a1 : Int32) : (Int32 × zMem) → Option ((Int32 × zMem) ⊕ (zMem)) := (z_u2 fun x2 xm3 => 
  (if x2 < a1 then (f9_yearGoes xm3).bind (fun qm5 => some (.inl ((x2 + (1 : Int32)), qm5))) else some (.inr xm3)))
def f9_goes (a1 : Int32) (μ : zMem) : Option (zMem) :=
  (z_it (f9_goes_L1 a1) z_fu ((0 : Int32), μ)).bind (fun e7 => some e7)
theorem s9_goes_L1 {P : zP} {ro : Option zV} {μo : zMem} (a1 : Int32) (x2 : Int32) (xm3 : zMem) (K : (Int32 × zMem) ⊕ (zMem)) (h : f9_goes_L1 a1 (x2, xm3) = some K) (hI : ∀ (y0 : Int32) (y1 : zMem), K = .inl (y0, y1) → z_RQ P M_9_goes (z_rm 9) (z_mq P ro μo) 0 0 2 [some (zA 9 0), some (zI a1), some (zI y0)] [] y1) (hE : ∀ (z0 : zMem), K = .inr z0 → z_RQ P M_9_goes (z_rm 9) (z_mq P ro μo) 0 0 17 [none, none, none] [] z0)  : z_RQ P M_9_goes (z_rm 9) (z_mq P ro μo) 0 0 2 [some (zA 9 0), some (zI a1), some (zI x2)] [] xm3 := by
  unfold f9_goes_L1 at h
  replace h := z_h2 h
  refine zr_iload_n (i := 2) d_9_goes_2 rfl rfl ?_
  refine zr_iload_n (i := 1) d_9_goes_3 rfl rfl ?_
  refine zr_icmp_ge (tgt := 17) d_9_goes_4 rfl (fun hc4 => ?_) (fun hc4 => ?_)
  · replace h := z_ip h hc4
    refine zr_aload_n (i := 0) d_9_goes_7 rfl rfl ?_
    obtain ⟨qm5, hq6, h⟩ := z_bd h
    refine zr_callVv (av := []) (st := []) d_9_goes_8 mw_9_yearGoes ml_9_388 im_9_yearGoes se_9_yearGoes rfl rfl (Nat.le_of_ble_eq_true rfl) fit_8_2_9 rfl rfl rfl (s9_yearGoes hq6) ?_
    refine zr_iinc (v := (x2 + (1 : Int32))) (l' := [some (zA 9 0), some (zI a1), some (zI (x2 + (1 : Int32)))]) d_9_goes_11 (by decide) rfl rfl rfl ?_
    refine zr_goto (tgt := 2) d_9_goes_14 rfl ?_
    obtain rfl := Option.some.inj h
    exact zr_wk2 (hI (x2 + (1 : Int32)) qm5 rfl) ⟨rfl, ⟨rfl, ⟨rfl, trivial⟩⟩⟩
  · replace h := z_im h hc4
    obtain rfl := Option.some.inj h
    exact zr_wk2 (hE xm3 rfl) trivial
theorem s9_goes {P : zP} {μ : zMem} {a1 : Int32} {μ' : zMem} (h : f9_goes a1 μ = some μ') : z_Sp P y_9_goes M_9_goes 9 [zA 9 0, zI a1] μ none μ' := by
  refine z_Sp.of (plainFor_of_name (by decide)) rfl (l0 := [some (zA 9 0), some (zI a1), none]) rfl (Nat.le_of_ble_eq_true rfl) ?_
  unfold f9_goes at h
  refine zr_iconst (v := (0 : Int32)) d_9_goes_0 rfl ?_
  refine zr_istore_n (i := 2) (l' := [some (zA 9 0), some (zI a1), some (zI (0 : Int32))]) d_9_goes_1 rfl (by decide) rfl ?_
  obtain ⟨e7, hl8, h⟩ := z_bd h
  refine zr_wk (l' := [some (zA 9 0), some (zI a1), some (zI (0 : Int32))]) ⟨rfl, ⟨rfl, ⟨rfl, trivial⟩⟩⟩ ?_
  refine z_loop (Hd := (z_u2 fun y0 y1 => z_RQ P M_9_goes (z_rm 9) (z_mq P none μ') 0 0 2 [some (zA 9 0), some (zI a1), some (zI y0)] [] y1)) (Ex := (fun z0 => z_RQ P M_9_goes (z_rm 9) (z_mq P none μ') 0 0 17 [none, none, none] [] z0)) (fun ⟨x2, xm3⟩ K h hI hE => s9_goes_L1 a1 x2 xm3 K h (fun y0 y1 e => hI (y0, y1) e) (fun z0 e => hE z0 e) ) _ _ _ hl8 ?_
  obtain rfl := Option.some.inj h
  exact ze_v d_9_goes_17 rfl
def f9_house (a1 : Int32) (a2 : Int32) (μ : zMem) : Option (Int32 × zMem) :=
  (f9_isHouse a1 μ).bind (fun q1 => (if q1 = 0 then some ((-1 : Int32), μ) else (f9_copies μ).bind (fun qm4 => (if a2 = (0 : Int32) then if z_in (((5 : Int32) * (qm4.1 9 0 18)) + a1) 10 = true then some ((qm4.1 124 0 (((5 : Int32) * (qm4.1 9 0 18)) + a1).toNatClampNeg), qm4) else none else (if a2 = (1 : Int32) then (f9_lordOf a1 qm4).bind (fun q9 => some (q9, qm4)) else (if a2 = (2 : Int32) then if z_in ((28 : Int32) + a1) 34 = true then some ((qm4.1 149 0 ((28 : Int32) + a1).toNatClampNeg), qm4) else none else (if a2 = (3 : Int32) then (f9_rentsOf a1 qm4).bind (z_u2 fun q14 qm15 => some (q14, qm15)) else some ((-1 : Int32), qm4))))))))
theorem s9_house {P : zP} {μ : zMem} {a1 : Int32} {a2 : Int32} {r : Int32} {μ' : zMem} (h : f9_house a1 a2 μ = some (r, μ')) : z_Sp P y_9_house M_9_house 7 [zA 9 0, zI a1, zI a2] μ (some (zI r)) μ' := by
  refine z_Sp.of (plainFor_of_name (by decide)) rfl (l0 := [some (zA 9 0), some (zI a1), some (zI a2)]) rfl (Nat.le_of_ble_eq_true rfl) ?_
  unfold f9_house at h
  refine zr_aload_n (i := 0) d_9_house_0 rfl rfl ?_
  refine zr_iload_n (i := 1) d_9_house_1 rfl rfl ?_
  obtain ⟨q1, hq2, h⟩ := z_bd h
  refine zr_callVi (av := [zI a1]) (st := []) d_9_house_2 mw_9_isHouse ml_9_391 im_9_isHouse se_9_isHouse rfl rfl (Nat.le_of_ble_eq_true rfl) fit_2_2_7 rfl rfl rfl (s9_isHouse hq2) ?_
  refine zr_if_ne (tgt := 10) d_9_house_5 rfl (fun hc3 => ?_) (fun hc3 => ?_)
  · replace h := z_ip h hc3
    refine zr_iconst (v := (-1 : Int32)) d_9_house_8 rfl ?_
    obtain ⟨rfl, rfl⟩ := Prod.mk.inj (Option.some.inj h)
    exact ze_i d_9_house_9 rfl
  · replace h := z_im h hc3
    refine zr_aload_n (i := 0) d_9_house_10 rfl rfl ?_
    obtain ⟨qm4, hq5, h⟩ := z_bd h
    refine zr_callVv (av := []) (st := []) d_9_house_11 mw_9_copies ml_9_325 im_9_copies se_9_copies rfl rfl (Nat.le_of_ble_eq_true rfl) fit_1_2_7 rfl rfl rfl (s9_copies hq5) ?_
    refine zr_iload_n (i := 2) d_9_house_14 rfl rfl ?_
    by_cases hs6 : a2 = (0 : Int32)
    · replace h := z_ip h hs6
      refine zr_tbl (off := 29) (tgt := 44) hs6 d_9_house_15 (by decide) (by decide) rfl rfl ?_
      refine zr_aload_n (i := 0) d_9_house_44 rfl rfl ?_
      refine zr_gets (i' := 0) d_9_house_45 fw_9_49 rfl ?_
      refine zr_iconst (v := (5 : Int32)) d_9_house_48 rfl ?_
      refine zr_aload_n (i := 0) d_9_house_49 rfl rfl ?_
      refine zr_geti d_9_house_50 fw_9_233 (by decide) ?_
      refine zr_imul d_9_house_53 ?_
      refine zr_iload_n (i := 1) d_9_house_54 rfl rfl ?_
      refine zr_iadd d_9_house_55 ?_
      obtain ⟨hb7, h⟩ := z_gd h
      refine zr_iald d_9_house_56 sa_124 rfl hb7 ?_
      obtain ⟨rfl, rfl⟩ := Prod.mk.inj (Option.some.inj h)
      exact ze_i d_9_house_57 rfl
    · replace h := z_im h hs6
      by_cases hs8 : a2 = (1 : Int32)
      · replace h := z_ip h hs8
        refine zr_tbl (off := 43) (tgt := 58) hs8 d_9_house_15 (by decide) (by decide) rfl rfl ?_
        refine zr_aload_n (i := 0) d_9_house_58 rfl rfl ?_
        refine zr_iload_n (i := 1) d_9_house_59 rfl rfl ?_
        obtain ⟨q9, hq10, h⟩ := z_bd h
        refine zr_callVi (av := [zI a1]) (st := []) d_9_house_60 mw_9_lordOf ml_9_340 im_9_lordOf se_9_lordOf rfl rfl (Nat.le_of_ble_eq_true rfl) fit_3_2_7 rfl rfl rfl (s9_lordOf hq10) ?_
        obtain ⟨rfl, rfl⟩ := Prod.mk.inj (Option.some.inj h)
        exact ze_i d_9_house_63 rfl
      · replace h := z_im h hs8
        by_cases hs11 : a2 = (2 : Int32)
        · replace h := z_ip h hs11
          refine zr_tbl (off := 49) (tgt := 64) hs11 d_9_house_15 (by decide) (by decide) rfl rfl ?_
          refine zr_aload_n (i := 0) d_9_house_64 rfl rfl ?_
          refine zr_gets (i' := 0) d_9_house_65 fw_9_113 rfl ?_
          refine zr_bipush (v := (28 : Int32)) d_9_house_68 rfl ?_
          refine zr_iload_n (i := 1) d_9_house_70 rfl rfl ?_
          refine zr_iadd d_9_house_71 ?_
          obtain ⟨hb12, h⟩ := z_gd h
          refine zr_iald d_9_house_72 sa_149 rfl hb12 ?_
          obtain ⟨rfl, rfl⟩ := Prod.mk.inj (Option.some.inj h)
          exact ze_i d_9_house_73 rfl
        · replace h := z_im h hs11
          by_cases hs13 : a2 = (3 : Int32)
          · replace h := z_ip h hs13
            refine zr_tbl (off := 59) (tgt := 74) hs13 d_9_house_15 (by decide) (by decide) rfl rfl ?_
            refine zr_aload_n (i := 0) d_9_house_74 rfl rfl ?_
            refine zr_iload_n (i := 1) d_9_house_75 rfl rfl ?_
            obtain ⟨⟨q14, qm15⟩, hq16, h⟩ := z_bd h
            replace h := z_h2 h
            refine zr_callVi (av := [zI a1]) (st := []) d_9_house_76 mw_9_rentsOf ml_9_379 im_9_rentsOf se_9_rentsOf rfl rfl (Nat.le_of_ble_eq_true rfl) fit_6_3_7 rfl rfl rfl (s9_rentsOf hq16) ?_
            obtain ⟨rfl, rfl⟩ := Prod.mk.inj (Option.some.inj h)
            exact ze_i d_9_house_79 rfl
          · replace h := z_im h hs13
            have hs6t := z_ti hs6
            have hs8t := z_ti hs8
            have hs11t := z_ti hs11
            have hs13t := z_ti hs13
            simp only [show ((0 : Int32)).toInt = 0 from rfl, show ((1 : Int32)).toInt = 1 from rfl, show ((2 : Int32)).toInt = 2 from rfl, show ((3 : Int32)).toInt = 3 from rfl] at hs6t hs8t hs11t hs13t
            refine zr_tableOut (tgt := 80) d_9_house_15 (by omega) rfl ?_
            refine zr_iconst (v := (-1 : Int32)) d_9_house_80 rfl ?_
            obtain ⟨rfl, rfl⟩ := Prod.mk.inj (Option.some.inj h)
            exact ze_i d_9_house_81 rfl
def f9_person (a1 : Int32) (a2 : Int32) (μ : zMem) : Option (Int32 × zMem) :=
  (f9_isPerson a1 μ).bind (fun q1 => (if q1 = 0 then some ((-1 : Int32), μ) else (f9_copies μ).bind (fun qm4 => (if a2 = (0 : Int32) then (f9_ageNow a1 qm4).bind (fun q7 => some (q7, qm4)) else (if a2 = (1 : Int32) then if z_in a1 34 = true then some ((qm4.1 149 0 a1.toNatClampNeg), qm4) else none else (if a2 = (2 : Int32) then if z_in ((7 : Int32) + a1) 34 = true then some ((qm4.1 149 0 ((7 : Int32) + a1).toNatClampNeg), qm4) else none else (if a2 = (3 : Int32) then if z_in ((14 : Int32) + a1) 34 = true then some ((qm4.1 149 0 ((14 : Int32) + a1).toNatClampNeg), qm4) else none else (if a2 = (4 : Int32) then (f9_rightBits a1 qm4).bind (fun q16 => some (q16, qm4)) else (if a2 = (5 : Int32) then (f9_lordBits a1 qm4).bind (fun q19 => some (q19, qm4)) else (if a2 = (6 : Int32) then (f9_chanceOf a1 (0 : Int32) qm4).bind (z_u2 fun q22 qm23 => some (q22, qm23)) else (if a2 = (7 : Int32) then (f9_chanceOf a1 (1 : Int32) qm4).bind (z_u2 fun q26 qm27 => some (q26, qm27)) else (if a2 = (8 : Int32) then (f9_chanceOf a1 (2 : Int32) qm4).bind (z_u2 fun q30 qm31 => some (q30, qm31)) else some ((-1 : Int32), qm4)))))))))))))
theorem s9_person {P : zP} {μ : zMem} {a1 : Int32} {a2 : Int32} {r : Int32} {μ' : zMem} (h : f9_person a1 a2 μ = some (r, μ')) : z_Sp P y_9_person M_9_person 7 [zA 9 0, zI a1, zI a2] μ (some (zI r)) μ' := by
  refine z_Sp.of (plainFor_of_name (by decide)) rfl (l0 := [some (zA 9 0), some (zI a1), some (zI a2)]) rfl (Nat.le_of_ble_eq_true rfl) ?_
  unfold f9_person at h
  refine zr_aload_n (i := 0) d_9_person_0 rfl rfl ?_
  refine zr_iload_n (i := 1) d_9_person_1 rfl rfl ?_
  obtain ⟨q1, hq2, h⟩ := z_bd h
  refine zr_callVi (av := [zI a1]) (st := []) d_9_person_2 mw_9_isPerson ml_9_316 im_9_isPerson se_9_isPerson rfl rfl (Nat.le_of_ble_eq_true rfl) fit_2_2_7 rfl rfl rfl (s9_isPerson hq2) ?_
  refine zr_if_ne (tgt := 10) d_9_person_5 rfl (fun hc3 => ?_) (fun hc3 => ?_)
  · replace h := z_ip h hc3
    refine zr_iconst (v := (-1 : Int32)) d_9_person_8 rfl ?_
    obtain ⟨rfl, rfl⟩ := Prod.mk.inj (Option.some.inj h)
    exact ze_i d_9_person_9 rfl
  · replace h := z_im h hc3
    refine zr_aload_n (i := 0) d_9_person_10 rfl rfl ?_
    obtain ⟨qm4, hq5, h⟩ := z_bd h
    refine zr_callVv (av := []) (st := []) d_9_person_11 mw_9_copies ml_9_325 im_9_copies se_9_copies rfl rfl (Nat.le_of_ble_eq_true rfl) fit_1_2_7 rfl rfl rfl (s9_copies hq5) ?_
    refine zr_iload_n (i := 2) d_9_person_14 rfl rfl ?_
    by_cases hs6 : a2 = (0 : Int32)
    · replace h := z_ip h hs6
      refine zr_tbl (off := 49) (tgt := 64) hs6 d_9_person_15 (by decide) (by decide) rfl rfl ?_
      refine zr_aload_n (i := 0) d_9_person_64 rfl rfl ?_
      refine zr_iload_n (i := 1) d_9_person_65 rfl rfl ?_
      obtain ⟨q7, hq8, h⟩ := z_bd h
      refine zr_callVi (av := [zI a1]) (st := []) d_9_person_66 mw_9_ageNow ml_9_349 im_9_ageNow se_9_ageNow rfl rfl (Nat.le_of_ble_eq_true rfl) fit_1_2_7 rfl rfl rfl (s9_ageNow hq8) ?_
      obtain ⟨rfl, rfl⟩ := Prod.mk.inj (Option.some.inj h)
      exact ze_i d_9_person_69 rfl
    · replace h := z_im h hs6
      by_cases hs9 : a2 = (1 : Int32)
      · replace h := z_ip h hs9
        refine zr_tbl (off := 55) (tgt := 70) hs9 d_9_person_15 (by decide) (by decide) rfl rfl ?_
        refine zr_aload_n (i := 0) d_9_person_70 rfl rfl ?_
        refine zr_gets (i' := 0) d_9_person_71 fw_9_113 rfl ?_
        refine zr_iload_n (i := 1) d_9_person_74 rfl rfl ?_
        obtain ⟨hb10, h⟩ := z_gd h
        refine zr_iald d_9_person_75 sa_149 rfl hb10 ?_
        obtain ⟨rfl, rfl⟩ := Prod.mk.inj (Option.some.inj h)
        exact ze_i d_9_person_76 rfl
      · replace h := z_im h hs9
        by_cases hs11 : a2 = (2 : Int32)
        · replace h := z_ip h hs11
          refine zr_tbl (off := 62) (tgt := 77) hs11 d_9_person_15 (by decide) (by decide) rfl rfl ?_
          refine zr_aload_n (i := 0) d_9_person_77 rfl rfl ?_
          refine zr_gets (i' := 0) d_9_person_78 fw_9_113 rfl ?_
          refine zr_bipush (v := (7 : Int32)) d_9_person_81 rfl ?_
          refine zr_iload_n (i := 1) d_9_person_83 rfl rfl ?_
          refine zr_iadd d_9_person_84 ?_
          obtain ⟨hb12, h⟩ := z_gd h
          refine zr_iald d_9_person_85 sa_149 rfl hb12 ?_
          obtain ⟨rfl, rfl⟩ := Prod.mk.inj (Option.some.inj h)
          exact ze_i d_9_person_86 rfl
        · replace h := z_im h hs11
          by_cases hs13 : a2 = (3 : Int32)
          · replace h := z_ip h hs13
            refine zr_tbl (off := 72) (tgt := 87) hs13 d_9_person_15 (by decide) (by decide) rfl rfl ?_
            refine zr_aload_n (i := 0) d_9_person_87 rfl rfl ?_
            refine zr_gets (i' := 0) d_9_person_88 fw_9_113 rfl ?_
            refine zr_bipush (v := (14 : Int32)) d_9_person_91 rfl ?_
            refine zr_iload_n (i := 1) d_9_person_93 rfl rfl ?_
            refine zr_iadd d_9_person_94 ?_
            obtain ⟨hb14, h⟩ := z_gd h
            refine zr_iald d_9_person_95 sa_149 rfl hb14 ?_
            obtain ⟨rfl, rfl⟩ := Prod.mk.inj (Option.some.inj h)
            exact ze_i d_9_person_96 rfl
          · replace h := z_im h hs13
            by_cases hs15 : a2 = (4 : Int32)
            · replace h := z_ip h hs15
              refine zr_tbl (off := 82) (tgt := 97) hs15 d_9_person_15 (by decide) (by decide) rfl rfl ?_
              refine zr_aload_n (i := 0) d_9_person_97 rfl rfl ?_
              refine zr_iload_n (i := 1) d_9_person_98 rfl rfl ?_
              obtain ⟨q16, hq17, h⟩ := z_bd h
              refine zr_callVi (av := [zI a1]) (st := []) d_9_person_99 mw_9_rightBits ml_9_352 im_9_rightBits se_9_rightBits rfl rfl (Nat.le_of_ble_eq_true rfl) fit_2_4_7 rfl rfl rfl (s9_rightBits hq17) ?_
              obtain ⟨rfl, rfl⟩ := Prod.mk.inj (Option.some.inj h)
              exact ze_i d_9_person_102 rfl
            · replace h := z_im h hs15
              by_cases hs18 : a2 = (5 : Int32)
              · replace h := z_ip h hs18
                refine zr_tbl (off := 88) (tgt := 103) hs18 d_9_person_15 (by decide) (by decide) rfl rfl ?_
                refine zr_aload_n (i := 0) d_9_person_103 rfl rfl ?_
                refine zr_iload_n (i := 1) d_9_person_104 rfl rfl ?_
                obtain ⟨q19, hq20, h⟩ := z_bd h
                refine zr_callVi (av := [zI a1]) (st := []) d_9_person_105 mw_9_lordBits ml_9_346 im_9_lordBits se_9_lordBits rfl rfl (Nat.le_of_ble_eq_true rfl) fit_4_4_7 rfl rfl rfl (s9_lordBits hq20) ?_
                obtain ⟨rfl, rfl⟩ := Prod.mk.inj (Option.some.inj h)
                exact ze_i d_9_person_108 rfl
              · replace h := z_im h hs18
                by_cases hs21 : a2 = (6 : Int32)
                · replace h := z_ip h hs21
                  refine zr_tbl (off := 94) (tgt := 109) hs21 d_9_person_15 (by decide) (by decide) rfl rfl ?_
                  refine zr_aload_n (i := 0) d_9_person_109 rfl rfl ?_
                  refine zr_iload_n (i := 1) d_9_person_110 rfl rfl ?_
                  refine zr_iconst (v := (0 : Int32)) d_9_person_111 rfl ?_
                  obtain ⟨⟨q22, qm23⟩, hq24, h⟩ := z_bd h
                  replace h := z_h2 h
                  refine zr_callVi (av := [zI a1, zI (0 : Int32)]) (st := []) d_9_person_112 mw_9_chanceOf ml_9_370 im_9_chanceOf se_9_chanceOf rfl rfl (Nat.le_of_ble_eq_true rfl) fit_6_3_7 rfl rfl rfl (s9_chanceOf hq24) ?_
                  obtain ⟨rfl, rfl⟩ := Prod.mk.inj (Option.some.inj h)
                  exact ze_i d_9_person_115 rfl
                · replace h := z_im h hs21
                  by_cases hs25 : a2 = (7 : Int32)
                  · replace h := z_ip h hs25
                    refine zr_tbl (off := 101) (tgt := 116) hs25 d_9_person_15 (by decide) (by decide) rfl rfl ?_
                    refine zr_aload_n (i := 0) d_9_person_116 rfl rfl ?_
                    refine zr_iload_n (i := 1) d_9_person_117 rfl rfl ?_
                    refine zr_iconst (v := (1 : Int32)) d_9_person_118 rfl ?_
                    obtain ⟨⟨q26, qm27⟩, hq28, h⟩ := z_bd h
                    replace h := z_h2 h
                    refine zr_callVi (av := [zI a1, zI (1 : Int32)]) (st := []) d_9_person_119 mw_9_chanceOf ml_9_370 im_9_chanceOf se_9_chanceOf rfl rfl (Nat.le_of_ble_eq_true rfl) fit_6_3_7 rfl rfl rfl (s9_chanceOf hq28) ?_
                    obtain ⟨rfl, rfl⟩ := Prod.mk.inj (Option.some.inj h)
                    exact ze_i d_9_person_122 rfl
                  · replace h := z_im h hs25
                    by_cases hs29 : a2 = (8 : Int32)
                    · replace h := z_ip h hs29
                      refine zr_tbl (off := 108) (tgt := 123) hs29 d_9_person_15 (by decide) (by decide) rfl rfl ?_
                      refine zr_aload_n (i := 0) d_9_person_123 rfl rfl ?_
                      refine zr_iload_n (i := 1) d_9_person_124 rfl rfl ?_
                      refine zr_iconst (v := (2 : Int32)) d_9_person_125 rfl ?_
                      obtain ⟨⟨q30, qm31⟩, hq32, h⟩ := z_bd h
                      replace h := z_h2 h
                      refine zr_callVi (av := [zI a1, zI (2 : Int32)]) (st := []) d_9_person_126 mw_9_chanceOf ml_9_370 im_9_chanceOf se_9_chanceOf rfl rfl (Nat.le_of_ble_eq_true rfl) fit_6_3_7 rfl rfl rfl (s9_chanceOf hq32) ?_
                      obtain ⟨rfl, rfl⟩ := Prod.mk.inj (Option.some.inj h)
                      exact ze_i d_9_person_129 rfl
                    · replace h := z_im h hs29
                      have hs6t := z_ti hs6
                      have hs9t := z_ti hs9
                      have hs11t := z_ti hs11
                      have hs13t := z_ti hs13
                      have hs15t := z_ti hs15
                      have hs18t := z_ti hs18
                      have hs21t := z_ti hs21
                      have hs25t := z_ti hs25
                      have hs29t := z_ti hs29
                      simp only [show ((0 : Int32)).toInt = 0 from rfl, show ((1 : Int32)).toInt = 1 from rfl, show ((2 : Int32)).toInt = 2 from rfl, show ((3 : Int32)).toInt = 3 from rfl, show ((4 : Int32)).toInt = 4 from rfl, show ((5 : Int32)).toInt = 5 from rfl, show ((6 : Int32)).toInt = 6 from rfl, show ((7 : Int32)).toInt = 7 from rfl, show ((8 : Int32)).toInt = 8 from rfl] at hs6t hs9t hs11t hs13t hs15t hs18t hs21t hs25t hs29t
                      refine zr_tableOut (tgt := 130) d_9_person_15 (by omega) rfl ?_
                      refine zr_iconst (v := (-1 : Int32)) d_9_person_130 rfl ?_
                      obtain ⟨rfl, rfl⟩ := Prod.mk.inj (Option.some.inj h)
                      exact ze_i d_9_person_131 rfl
def f9_records_L4  : (Int32 × zMem) → Option ((Int32 × zMem) ⊕ (zMem)) := (z_u2 fun x5 xm6 => 
  (if x5 < (1326 : Int32) then if z_in (x5 + (34 : Int32)) 1360 = true then if z_in x5 1360 = true then z_let (z_sI xm6 156 0 x5.toNatClampNeg (xm6.1 156 0 (x5 + (34 : Int32)).toNatClampNeg)) fun m9 => some (.inl ((x5 + (1 : Int32)), m9)) else none else none else some (.inr xm6)))
def f9_records_L17  : (Int32 × zMem) → Option ((Int32 × zMem) ⊕ (zMem)) := (z_u2 fun x18 xm19 => 
  (if x18 < (34 : Int32) then if z_in x18 34 = true then if z_in (((34 : Int32) * (xm19.1 9 0 55)) + x18) 1360 = true then z_let (z_sI xm19 156 0 (((34 : Int32) * (xm19.1 9 0 55)) + x18).toNatClampNeg (xm19.1 148 0 x18.toNatClampNeg)) fun m22 => some (.inl ((x18 + (1 : Int32)), m22)) else none else none else some (.inr xm19)))
def f9_records  (μ : zMem) : Option (zMem) :=
  ((if (μ.1 9 0 55) = (40 : Int32) then (z_it (f9_records_L4) z_fu ((0 : Int32), μ)).bind (fun e12 => z_let (z_sI e12 9 0 55 ((e12.1 9 0 55) - (1 : Int32))) fun m14 => some m14) else some μ) : Option (zMem)).bind (fun jm16 => (z_it (f9_records_L17) z_fu ((0 : Int32), jm16)).bind (fun e25 => z_let (z_sI e25 9 0 55 ((e25.1 9 0 55) + (1 : Int32))) fun m27 => (f9_keepsRow m27).bind (fun qm29 => some qm29)))
theorem s9_records_L4 {P : zP} {ro : Option zV} {μo : zMem}  (x5 : Int32) (xm6 : zMem) (K : (Int32 × zMem) ⊕ (zMem)) (h : f9_records_L4  (x5, xm6) = some K) (hI : ∀ (y0 : Int32) (y1 : zMem), K = .inl (y0, y1) → z_RQ P M_9_records (z_rm 2) (z_mq P ro μo) 0 0 11 [some (zA 9 0), some (zI y0)] [] y1) (hE : ∀ (z0 : zMem), K = .inr z0 → z_RQ P M_9_records (z_rm 2) (z_mq P ro μo) 0 0 39 [some (zA 9 0), none] [] z0)  : z_RQ P M_9_records (z_rm 2) (z_mq P ro μo) 0 0 11 [some (zA 9 0), some (zI x5)] [] xm6 := by
  unfold f9_records_L4 at h
  replace h := z_h2 h
  refine zr_iload_n (i := 1) d_9_records_11 rfl rfl ?_
  refine zr_sipush (v := (1326 : Int32)) d_9_records_12 rfl ?_
  refine zr_icmp_ge (tgt := 39) d_9_records_15 rfl (fun hc7 => ?_) (fun hc7 => ?_)
  · replace h := z_ip h hc7
    refine zr_aload_n (i := 0) d_9_records_18 rfl rfl ?_
    refine zr_gets (i' := 0) d_9_records_19 fw_9_125 rfl ?_
    refine zr_iload_n (i := 1) d_9_records_22 rfl rfl ?_
    refine zr_aload_n (i := 0) d_9_records_23 rfl rfl ?_
    refine zr_gets (i' := 0) d_9_records_24 fw_9_125 rfl ?_
    refine zr_iload_n (i := 1) d_9_records_27 rfl rfl ?_
    refine zr_bipush (v := (34 : Int32)) d_9_records_28 rfl ?_
    refine zr_iadd d_9_records_30 ?_
    obtain ⟨hb8, h⟩ := z_gd h
    refine zr_iald d_9_records_31 sa_156 rfl hb8 ?_
    obtain ⟨hb11, h⟩ := z_gd h
    obtain ⟨m9, hm10, h⟩ := z_lt h
    refine zr_iast d_9_records_32 sa_156 rfl hb11 hm10 ?_
    refine zr_iinc (v := (x5 + (1 : Int32))) (l' := [some (zA 9 0), some (zI (x5 + (1 : Int32)))]) d_9_records_33 (by decide) rfl rfl rfl ?_
    refine zr_goto (tgt := 11) d_9_records_36 rfl ?_
    obtain rfl := Option.some.inj h
    exact zr_wk2 (hI (x5 + (1 : Int32)) m9 rfl) ⟨rfl, ⟨rfl, trivial⟩⟩
  · replace h := z_im h hc7
    obtain rfl := Option.some.inj h
    exact zr_wk2 (hE xm6 rfl) ⟨rfl, trivial⟩
theorem s9_records_L17 {P : zP} {ro : Option zV} {μo : zMem}  (x18 : Int32) (xm19 : zMem) (K : (Int32 × zMem) ⊕ (zMem)) (h : f9_records_L17  (x18, xm19) = some K) (hI : ∀ (y0 : Int32) (y1 : zMem), K = .inl (y0, y1) → z_RQ P M_9_records (z_rm 2) (z_mq P ro μo) 0 0 51 [some (zA 9 0), some (zI y0)] [] y1) (hE : ∀ (z0 : zMem), K = .inr z0 → z_RQ P M_9_records (z_rm 2) (z_mq P ro μo) 0 0 83 [some (zA 9 0), none] [] z0)  : z_RQ P M_9_records (z_rm 2) (z_mq P ro μo) 0 0 51 [some (zA 9 0), some (zI x18)] [] xm19 := by
  unfold f9_records_L17 at h
  replace h := z_h2 h
  refine zr_iload_n (i := 1) d_9_records_51 rfl rfl ?_
  refine zr_bipush (v := (34 : Int32)) d_9_records_52 rfl ?_
  refine zr_icmp_ge (tgt := 83) d_9_records_54 rfl (fun hc20 => ?_) (fun hc20 => ?_)
  · replace h := z_ip h hc20
    refine zr_aload_n (i := 0) d_9_records_57 rfl rfl ?_
    refine zr_gets (i' := 0) d_9_records_58 fw_9_125 rfl ?_
    refine zr_bipush (v := (34 : Int32)) d_9_records_61 rfl ?_
    refine zr_aload_n (i := 0) d_9_records_63 rfl rfl ?_
    refine zr_geti d_9_records_64 fw_9_251 (by decide) ?_
    refine zr_imul d_9_records_67 ?_
    refine zr_iload_n (i := 1) d_9_records_68 rfl rfl ?_
    refine zr_iadd d_9_records_69 ?_
    refine zr_aload_n (i := 0) d_9_records_70 rfl rfl ?_
    refine zr_gets (i' := 0) d_9_records_71 fw_9_110 rfl ?_
    refine zr_iload_n (i := 1) d_9_records_74 rfl rfl ?_
    obtain ⟨hb21, h⟩ := z_gd h
    refine zr_iald d_9_records_75 sa_148 rfl hb21 ?_
    obtain ⟨hb24, h⟩ := z_gd h
    obtain ⟨m22, hm23, h⟩ := z_lt h
    refine zr_iast d_9_records_76 sa_156 rfl hb24 hm23 ?_
    refine zr_iinc (v := (x18 + (1 : Int32))) (l' := [some (zA 9 0), some (zI (x18 + (1 : Int32)))]) d_9_records_77 (by decide) rfl rfl rfl ?_
    refine zr_goto (tgt := 51) d_9_records_80 rfl ?_
    obtain rfl := Option.some.inj h
    exact zr_wk2 (hI (x18 + (1 : Int32)) m22 rfl) ⟨rfl, ⟨rfl, trivial⟩⟩
  · replace h := z_im h hc20
    obtain rfl := Option.some.inj h
    exact zr_wk2 (hE xm19 rfl) ⟨rfl, trivial⟩
theorem s9_records {P : zP} {μ : zMem} {μ' : zMem} (h : f9_records μ = some μ') : z_Sp P y_9_records M_9_records 2 [zA 9 0] μ none μ' := by
  refine z_Sp.of (plainFor_of_name (by decide)) rfl (l0 := [some (zA 9 0), none]) rfl (Nat.le_of_ble_eq_true rfl) ?_
  unfold f9_records at h
  refine zr_aload_n (i := 0) d_9_records_0 rfl rfl ?_
  refine zr_geti d_9_records_1 fw_9_251 (by decide) ?_
  refine zr_bipush (v := (40 : Int32)) d_9_records_4 rfl ?_
  obtain ⟨jm16, hT1, h⟩ := z_bd h
  have hJ2 : z_RQ P M_9_records (z_rm 2) (z_mq P none μ') 0 0 49 [some (zA 9 0), none] [] jm16 := by
    refine zr_iconst (v := (0 : Int32)) d_9_records_49 rfl ?_
    refine zr_istore_n (i := 1) (l' := [some (zA 9 0), some (zI (0 : Int32))]) d_9_records_50 rfl (by decide) rfl ?_
    obtain ⟨e25, hl26, h⟩ := z_bd h
    refine zr_wk (l' := [some (zA 9 0), some (zI (0 : Int32))]) ⟨rfl, ⟨rfl, trivial⟩⟩ ?_
    refine z_loop (Hd := (z_u2 fun y0 y1 => z_RQ P M_9_records (z_rm 2) (z_mq P none μ') 0 0 51 [some (zA 9 0), some (zI y0)] [] y1)) (Ex := (fun z0 => z_RQ P M_9_records (z_rm 2) (z_mq P none μ') 0 0 83 [some (zA 9 0), none] [] z0)) (fun ⟨x18, xm19⟩ K h hI hE => s9_records_L17  x18 xm19 K h (fun y0 y1 e => hI (y0, y1) e) (fun z0 e => hE z0 e) ) _ _ _ hl26 ?_
    refine zr_aload_n (i := 0) d_9_records_83 rfl rfl ?_
    refine zr_dupa d_9_records_84 ?_
    refine zr_geti d_9_records_85 fw_9_251 (by decide) ?_
    refine zr_iconst (v := (1 : Int32)) d_9_records_88 rfl ?_
    refine zr_iadd d_9_records_89 ?_
    obtain ⟨m27, hm28, h⟩ := z_lt h
    refine zr_puti d_9_records_90 fw_9_251 pw_9_55 hm28 ?_
    refine zr_aload_n (i := 0) d_9_records_93 rfl rfl ?_
    obtain ⟨qm29, hq30, h⟩ := z_bd h
    refine zr_callVv (av := []) (st := []) d_9_records_94 mw_9_keepsRow ml_9_163 im_9_keepsRow se_9_keepsRow rfl rfl (Nat.le_of_ble_eq_true rfl) fit_1_2_2 rfl rfl rfl (s9_keepsRow hq30) ?_
    obtain rfl := Option.some.inj h
    exact ze_v d_9_records_97 rfl
  refine zr_icmp_ne (tgt := 49) d_9_records_6 rfl (fun hc3 => ?_) (fun hc3 => ?_)
  · replace hT1 := z_ip hT1 hc3
    refine zr_iconst (v := (0 : Int32)) d_9_records_9 rfl ?_
    refine zr_istore_n (i := 1) (l' := [some (zA 9 0), some (zI (0 : Int32))]) d_9_records_10 rfl (by decide) rfl ?_
    obtain ⟨e12, hl13, hT1⟩ := z_bd hT1
    refine zr_wk (l' := [some (zA 9 0), some (zI (0 : Int32))]) ⟨rfl, ⟨rfl, trivial⟩⟩ ?_
    refine z_loop (Hd := (z_u2 fun y0 y1 => z_RQ P M_9_records (z_rm 2) (z_mq P none μ') 0 0 11 [some (zA 9 0), some (zI y0)] [] y1)) (Ex := (fun z0 => z_RQ P M_9_records (z_rm 2) (z_mq P none μ') 0 0 39 [some (zA 9 0), none] [] z0)) (fun ⟨x5, xm6⟩ K h hI hE => s9_records_L4  x5 xm6 K h (fun y0 y1 e => hI (y0, y1) e) (fun z0 e => hE z0 e) ) _ _ _ hl13 ?_
    refine zr_aload_n (i := 0) d_9_records_39 rfl rfl ?_
    refine zr_dupa d_9_records_40 ?_
    refine zr_geti d_9_records_41 fw_9_251 (by decide) ?_
    refine zr_iconst (v := (1 : Int32)) d_9_records_44 rfl ?_
    refine zr_isub d_9_records_45 ?_
    obtain ⟨m14, hm15, hT1⟩ := z_lt hT1
    refine zr_puti d_9_records_46 fw_9_251 pw_9_55 hm15 ?_
    obtain rfl := Option.some.inj hT1
    exact zr_wk2 hJ2 ⟨rfl, trivial⟩
  · replace hT1 := z_im hT1 hc3
    obtain rfl := Option.some.inj hT1
    exact zr_wk2 hJ2 ⟨rfl, trivial⟩
def f9_turns (a1 : Int32) (a2 : Int32) (μ : zMem) : Option (Int32 × zMem) :=
  (f9_copies μ).bind (fun qm1 => (f9_becomes a1 a2 qm1).bind (fun qm3 => (f9_records qm3).bind (fun qm5 => some ((1 : Int32), qm5))))
theorem s9_turns {P : zP} {μ : zMem} {a1 : Int32} {a2 : Int32} {r : Int32} {μ' : zMem} (h : f9_turns a1 a2 μ = some (r, μ')) : z_Sp P y_9_turns M_9_turns 3 [zA 9 0, zI a1, zI a2] μ (some (zI r)) μ' := by
  refine z_Sp.of (plainFor_of_name (by decide)) rfl (l0 := [some (zA 9 0), some (zI a1), some (zI a2)]) rfl (Nat.le_of_ble_eq_true rfl) ?_
  unfold f9_turns at h
  refine zr_aload_n (i := 0) d_9_turns_0 rfl rfl ?_
  obtain ⟨qm1, hq2, h⟩ := z_bd h
  refine zr_callVv (av := []) (st := []) d_9_turns_1 mw_9_copies ml_9_325 im_9_copies se_9_copies rfl rfl (Nat.le_of_ble_eq_true rfl) fit_1_2_3 rfl rfl rfl (s9_copies hq2) ?_
  refine zr_aload_n (i := 0) d_9_turns_4 rfl rfl ?_
  refine zr_iload_n (i := 1) d_9_turns_5 rfl rfl ?_
  refine zr_iload_n (i := 2) d_9_turns_6 rfl rfl ?_
  obtain ⟨qm3, hq4, h⟩ := z_bd h
  refine zr_callVv (av := [zI a1, zI a2]) (st := []) d_9_turns_7 mw_9_becomes ml_9_376 im_9_becomes se_9_becomes rfl rfl (Nat.le_of_ble_eq_true rfl) fit_1_3_3 rfl rfl rfl (s9_becomes hq4) ?_
  refine zr_aload_n (i := 0) d_9_turns_10 rfl rfl ?_
  obtain ⟨qm5, hq6, h⟩ := z_bd h
  refine zr_callVv (av := []) (st := []) d_9_turns_11 mw_9_records ml_9_394 im_9_records se_9_records rfl rfl (Nat.le_of_ble_eq_true rfl) fit_2_2_3 rfl rfl rfl (s9_records hq6) ?_
  refine zr_iconst (v := (1 : Int32)) d_9_turns_14 rfl ?_
  obtain ⟨rfl, rfl⟩ := Prod.mk.inj (Option.some.inj h)
  exact ze_z d_9_turns_15 rfl rfl
def f9_send (a1 : Int32) (μ : zMem) : Option (Int32 × zMem) :=
  (f9_isNow a1 (0 : Int32) μ).bind (fun q1 => (if q1 = 0 then some ((0 : Int32), μ) else (f9_turns a1 (1 : Int32) μ).bind (z_u2 fun q4 qm5 => (if q4 = 0 then some ((0 : Int32), qm5) else some ((1 : Int32), qm5)))))
theorem s9_send {P : zP} {μ : zMem} {a1 : Int32} {r : Int32} {μ' : zMem} (h : f9_send a1 μ = some (r, μ')) : z_Sp P y_9_send M_9_send 4 [zA 9 0, zI a1] μ (some (zI r)) μ' := by
  refine z_Sp.of (plainFor_of_name (by decide)) rfl (l0 := [some (zA 9 0), some (zI a1)]) rfl (Nat.le_of_ble_eq_true rfl) ?_
  unfold f9_send at h
  refine zr_aload_n (i := 0) d_9_send_0 rfl rfl ?_
  refine zr_iload_n (i := 1) d_9_send_1 rfl rfl ?_
  refine zr_iconst (v := (0 : Int32)) d_9_send_2 rfl ?_
  obtain ⟨q1, hq2, h⟩ := z_bd h
  refine zr_callVi (av := [zI a1, zI (0 : Int32)]) (st := []) d_9_send_3 mw_9_isNow ml_9_397 im_9_isNow se_9_isNow rfl rfl (Nat.le_of_ble_eq_true rfl) fit_3_3_4 rfl rfl rfl (s9_isNow hq2) ?_
  refine zr_if_eq (tgt := 22) d_9_send_6 rfl (fun hc3 => ?_) (fun hc3 => ?_)
  · replace h := z_ip h hc3
    refine zr_iconst (v := (0 : Int32)) d_9_send_22 rfl ?_
    obtain ⟨rfl, rfl⟩ := Prod.mk.inj (Option.some.inj h)
    exact ze_z d_9_send_23 rfl rfl
  · replace h := z_im h hc3
    refine zr_aload_n (i := 0) d_9_send_9 rfl rfl ?_
    refine zr_iload_n (i := 1) d_9_send_10 rfl rfl ?_
    refine zr_iconst (v := (1 : Int32)) d_9_send_11 rfl ?_
    obtain ⟨⟨q4, qm5⟩, hq6, h⟩ := z_bd h
    replace h := z_h2 h
    refine zr_callVi (av := [zI a1, zI (1 : Int32)]) (st := []) d_9_send_12 mw_9_turns ml_9_400 im_9_turns se_9_turns rfl rfl (Nat.le_of_ble_eq_true rfl) fit_3_3_4 rfl rfl rfl (s9_turns hq6) ?_
    refine zr_if_eq (tgt := 22) d_9_send_15 rfl (fun hc7 => ?_) (fun hc7 => ?_)
    · replace h := z_ip h hc7
      refine zr_iconst (v := (0 : Int32)) d_9_send_22 rfl ?_
      obtain ⟨rfl, rfl⟩ := Prod.mk.inj (Option.some.inj h)
      exact ze_z d_9_send_23 rfl rfl
    · replace h := z_im h hc7
      refine zr_iconst (v := (1 : Int32)) d_9_send_18 rfl ?_
      refine zr_goto (tgt := 23) d_9_send_19 rfl ?_
      obtain ⟨rfl, rfl⟩ := Prod.mk.inj (Option.some.inj h)
      exact ze_z d_9_send_23 rfl rfl
def f9_call (a1 : Int32) (μ : zMem) : Option (Int32 × zMem) :=
  (f9_isNow a1 (1 : Int32) μ).bind (fun q1 => (if q1 = 0 then some ((0 : Int32), μ) else (f9_turns a1 (0 : Int32) μ).bind (z_u2 fun q4 qm5 => (if q4 = 0 then some ((0 : Int32), qm5) else some ((1 : Int32), qm5)))))
theorem s9_call {P : zP} {μ : zMem} {a1 : Int32} {r : Int32} {μ' : zMem} (h : f9_call a1 μ = some (r, μ')) : z_Sp P y_9_call M_9_call 4 [zA 9 0, zI a1] μ (some (zI r)) μ' := by
  refine z_Sp.of (plainFor_of_name (by decide)) rfl (l0 := [some (zA 9 0), some (zI a1)]) rfl (Nat.le_of_ble_eq_true rfl) ?_
  unfold f9_call at h
  refine zr_aload_n (i := 0) d_9_call_0 rfl rfl ?_
  refine zr_iload_n (i := 1) d_9_call_1 rfl rfl ?_
  refine zr_iconst (v := (1 : Int32)) d_9_call_2 rfl ?_
  obtain ⟨q1, hq2, h⟩ := z_bd h
  refine zr_callVi (av := [zI a1, zI (1 : Int32)]) (st := []) d_9_call_3 mw_9_isNow ml_9_397 im_9_isNow se_9_isNow rfl rfl (Nat.le_of_ble_eq_true rfl) fit_3_3_4 rfl rfl rfl (s9_isNow hq2) ?_
  refine zr_if_eq (tgt := 22) d_9_call_6 rfl (fun hc3 => ?_) (fun hc3 => ?_)
  · replace h := z_ip h hc3
    refine zr_iconst (v := (0 : Int32)) d_9_call_22 rfl ?_
    obtain ⟨rfl, rfl⟩ := Prod.mk.inj (Option.some.inj h)
    exact ze_z d_9_call_23 rfl rfl
  · replace h := z_im h hc3
    refine zr_aload_n (i := 0) d_9_call_9 rfl rfl ?_
    refine zr_iload_n (i := 1) d_9_call_10 rfl rfl ?_
    refine zr_iconst (v := (0 : Int32)) d_9_call_11 rfl ?_
    obtain ⟨⟨q4, qm5⟩, hq6, h⟩ := z_bd h
    replace h := z_h2 h
    refine zr_callVi (av := [zI a1, zI (0 : Int32)]) (st := []) d_9_call_12 mw_9_turns ml_9_400 im_9_turns se_9_turns rfl rfl (Nat.le_of_ble_eq_true rfl) fit_3_3_4 rfl rfl rfl (s9_turns hq6) ?_
    refine zr_if_eq (tgt := 22) d_9_call_15 rfl (fun hc7 => ?_) (fun hc7 => ?_)
    · replace h := z_ip h hc7
      refine zr_iconst (v := (0 : Int32)) d_9_call_22 rfl ?_
      obtain ⟨rfl, rfl⟩ := Prod.mk.inj (Option.some.inj h)
      exact ze_z d_9_call_23 rfl rfl
    · replace h := z_im h hc7
      refine zr_iconst (v := (1 : Int32)) d_9_call_18 rfl ?_
      refine zr_goto (tgt := 23) d_9_call_19 rfl ?_
      obtain ⟨rfl, rfl⟩ := Prod.mk.inj (Option.some.inj h)
      exact ze_z d_9_call_23 rfl rfl
def f9_bury (a1 : Int32) (μ : zMem) : Option (Int32 × zMem) :=
  (f9_isPerson a1 μ).bind (fun q1 => (if q1 = 0 then some ((0 : Int32), μ) else if z_in a1 34 = true then (if (μ.1 148 0 a1.toNatClampNeg) = (2 : Int32) then some ((0 : Int32), μ) else (f9_turns a1 (2 : Int32) μ).bind (z_u2 fun q6 qm7 => (if q6 = 0 then some ((0 : Int32), qm7) else some ((1 : Int32), qm7)))) else none))
theorem s9_bury {P : zP} {μ : zMem} {a1 : Int32} {r : Int32} {μ' : zMem} (h : f9_bury a1 μ = some (r, μ')) : z_Sp P y_9_bury M_9_bury 4 [zA 9 0, zI a1] μ (some (zI r)) μ' := by
  refine z_Sp.of (plainFor_of_name (by decide)) rfl (l0 := [some (zA 9 0), some (zI a1)]) rfl (Nat.le_of_ble_eq_true rfl) ?_
  unfold f9_bury at h
  refine zr_aload_n (i := 0) d_9_bury_0 rfl rfl ?_
  refine zr_iload_n (i := 1) d_9_bury_1 rfl rfl ?_
  obtain ⟨q1, hq2, h⟩ := z_bd h
  refine zr_callVi (av := [zI a1]) (st := []) d_9_bury_2 mw_9_isPerson ml_9_316 im_9_isPerson se_9_isPerson rfl rfl (Nat.le_of_ble_eq_true rfl) fit_2_2_4 rfl rfl rfl (s9_isPerson hq2) ?_
  refine zr_if_eq (tgt := 31) d_9_bury_5 rfl (fun hc3 => ?_) (fun hc3 => ?_)
  · replace h := z_ip h hc3
    refine zr_iconst (v := (0 : Int32)) d_9_bury_31 rfl ?_
    obtain ⟨rfl, rfl⟩ := Prod.mk.inj (Option.some.inj h)
    exact ze_z d_9_bury_32 rfl rfl
  · replace h := z_im h hc3
    refine zr_aload_n (i := 0) d_9_bury_8 rfl rfl ?_
    refine zr_gets (i' := 0) d_9_bury_9 fw_9_110 rfl ?_
    refine zr_iload_n (i := 1) d_9_bury_12 rfl rfl ?_
    obtain ⟨hb4, h⟩ := z_gd h
    refine zr_iald d_9_bury_13 sa_148 rfl hb4 ?_
    refine zr_iconst (v := (2 : Int32)) d_9_bury_14 rfl ?_
    refine zr_icmp_eq (tgt := 31) d_9_bury_15 rfl (fun hc5 => ?_) (fun hc5 => ?_)
    · replace h := z_ip h hc5
      refine zr_iconst (v := (0 : Int32)) d_9_bury_31 rfl ?_
      obtain ⟨rfl, rfl⟩ := Prod.mk.inj (Option.some.inj h)
      exact ze_z d_9_bury_32 rfl rfl
    · replace h := z_im h hc5
      refine zr_aload_n (i := 0) d_9_bury_18 rfl rfl ?_
      refine zr_iload_n (i := 1) d_9_bury_19 rfl rfl ?_
      refine zr_iconst (v := (2 : Int32)) d_9_bury_20 rfl ?_
      obtain ⟨⟨q6, qm7⟩, hq8, h⟩ := z_bd h
      replace h := z_h2 h
      refine zr_callVi (av := [zI a1, zI (2 : Int32)]) (st := []) d_9_bury_21 mw_9_turns ml_9_400 im_9_turns se_9_turns rfl rfl (Nat.le_of_ble_eq_true rfl) fit_3_3_4 rfl rfl rfl (s9_turns hq8) ?_
      refine zr_if_eq (tgt := 31) d_9_bury_24 rfl (fun hc9 => ?_) (fun hc9 => ?_)
      · replace h := z_ip h hc9
        refine zr_iconst (v := (0 : Int32)) d_9_bury_31 rfl ?_
        obtain ⟨rfl, rfl⟩ := Prod.mk.inj (Option.some.inj h)
        exact ze_z d_9_bury_32 rfl rfl
      · replace h := z_im h hc9
        refine zr_iconst (v := (1 : Int32)) d_9_bury_27 rfl ?_
        refine zr_goto (tgt := 32) d_9_bury_28 rfl ?_
        obtain ⟨rfl, rfl⟩ := Prod.mk.inj (Option.some.inj h)
        exact ze_z d_9_bury_32 rfl rfl
def f9_give (a1 : Int32) (a2 : Int32) (a3 : Int32) (μ : zMem) : Option (Int32 × zMem) :=
  (f9_isPerson a1 μ).bind (fun q1 => (if q1 = 0 then some ((0 : Int32), μ) else (f9_isHouse a2 μ).bind (fun q4 => (if q4 = 0 then some ((0 : Int32), μ) else if z_in ((28 : Int32) + a2) 34 = true then ((if (((μ.1 148 0 ((28 : Int32) + a2).toNatClampNeg) >>> (a1 &&& 31)) &&& (1 : Int32)) = (1 : Int32) then some (1 : Int32) else some (0 : Int32)) : Option (Int32)).bind (fun j11 => (if j11 = a3 then some ((0 : Int32), μ) else (f9_copies μ).bind (fun qm13 => z_let (z_sI qm13 149 0 ((28 : Int32) + a2).toNatClampNeg ((qm13.1 149 0 ((28 : Int32) + a2).toNatClampNeg) ^^^ ((1 : Int32) <<< (a1 &&& 31)))) fun m15 => (f9_records m15).bind (fun qm17 => some ((1 : Int32), qm17))))) else none))))
theorem s9_give {P : zP} {μ : zMem} {a1 : Int32} {a2 : Int32} {a3 : Int32} {r : Int32} {μ' : zMem} (h : f9_give a1 a2 a3 μ = some (r, μ')) : z_Sp P y_9_give M_9_give 3 [zA 9 0, zI a1, zI a2, zI a3] μ (some (zI r)) μ' := by
  refine z_Sp.of (plainFor_of_name (by decide)) rfl (l0 := [some (zA 9 0), some (zI a1), some (zI a2), some (zI a3)]) rfl (Nat.le_of_ble_eq_true rfl) ?_
  unfold f9_give at h
  refine zr_aload_n (i := 0) d_9_give_0 rfl rfl ?_
  refine zr_iload_n (i := 1) d_9_give_1 rfl rfl ?_
  obtain ⟨q1, hq2, h⟩ := z_bd h
  refine zr_callVi (av := [zI a1]) (st := []) d_9_give_2 mw_9_isPerson ml_9_316 im_9_isPerson se_9_isPerson rfl rfl (Nat.le_of_ble_eq_true rfl) fit_2_2_3 rfl rfl rfl (s9_isPerson hq2) ?_
  refine zr_if_eq (tgt := 42) d_9_give_5 rfl (fun hc3 => ?_) (fun hc3 => ?_)
  · replace h := z_ip h hc3
    refine zr_iconst (v := (0 : Int32)) d_9_give_42 rfl ?_
    obtain ⟨rfl, rfl⟩ := Prod.mk.inj (Option.some.inj h)
    exact ze_z d_9_give_43 rfl rfl
  · replace h := z_im h hc3
    refine zr_aload_n (i := 0) d_9_give_8 rfl rfl ?_
    refine zr_iload_n (i := 2) d_9_give_9 rfl rfl ?_
    obtain ⟨q4, hq5, h⟩ := z_bd h
    refine zr_callVi (av := [zI a2]) (st := []) d_9_give_10 mw_9_isHouse ml_9_391 im_9_isHouse se_9_isHouse rfl rfl (Nat.le_of_ble_eq_true rfl) fit_2_2_3 rfl rfl rfl (s9_isHouse hq5) ?_
    refine zr_if_eq (tgt := 42) d_9_give_13 rfl (fun hc6 => ?_) (fun hc6 => ?_)
    · replace h := z_ip h hc6
      refine zr_iconst (v := (0 : Int32)) d_9_give_42 rfl ?_
      obtain ⟨rfl, rfl⟩ := Prod.mk.inj (Option.some.inj h)
      exact ze_z d_9_give_43 rfl rfl
    · replace h := z_im h hc6
      refine zr_aload_n (i := 0) d_9_give_16 rfl rfl ?_
      refine zr_gets (i' := 0) d_9_give_17 fw_9_110 rfl ?_
      refine zr_bipush (v := (28 : Int32)) d_9_give_20 rfl ?_
      refine zr_iload_n (i := 2) d_9_give_22 rfl rfl ?_
      refine zr_iadd d_9_give_23 ?_
      obtain ⟨hb7, h⟩ := z_gd h
      refine zr_iald d_9_give_24 sa_148 rfl hb7 ?_
      refine zr_iload_n (i := 1) d_9_give_25 rfl rfl ?_
      refine zr_ishr d_9_give_26 ?_
      refine zr_iconst (v := (1 : Int32)) d_9_give_27 rfl ?_
      refine zr_iand d_9_give_28 ?_
      refine zr_iconst (v := (1 : Int32)) d_9_give_29 rfl ?_
      obtain ⟨j11, hT8, h⟩ := z_bd h
      have hJ9 : z_RQ P M_9_give (z_rm 3) (z_mq P (some (zI r)) μ') 0 0 38 [some (zA 9 0), some (zI a1), some (zI a2), some (zI a3)] [zI j11] μ := by
        refine zr_iload_n (i := 3) d_9_give_38 rfl rfl ?_
        refine zr_icmp_ne (tgt := 44) d_9_give_39 rfl (fun hc12 => ?_) (fun hc12 => ?_)
        · replace h := z_ip h hc12
          refine zr_iconst (v := (0 : Int32)) d_9_give_42 rfl ?_
          obtain ⟨rfl, rfl⟩ := Prod.mk.inj (Option.some.inj h)
          exact ze_z d_9_give_43 rfl rfl
        · replace h := z_im h hc12
          refine zr_aload_n (i := 0) d_9_give_44 rfl rfl ?_
          obtain ⟨qm13, hq14, h⟩ := z_bd h
          refine zr_callVv (av := []) (st := []) d_9_give_45 mw_9_copies ml_9_325 im_9_copies se_9_copies rfl rfl (Nat.le_of_ble_eq_true rfl) fit_1_2_3 rfl rfl rfl (s9_copies hq14) ?_
          refine zr_aload_n (i := 0) d_9_give_48 rfl rfl ?_
          refine zr_gets (i' := 0) d_9_give_49 fw_9_113 rfl ?_
          refine zr_bipush (v := (28 : Int32)) d_9_give_52 rfl ?_
          refine zr_iload_n (i := 2) d_9_give_54 rfl rfl ?_
          refine zr_iadd d_9_give_55 ?_
          refine zr_dup2 d_9_give_56 ?_
          refine zr_iald d_9_give_57 sa_149 rfl hb7 ?_
          refine zr_iconst (v := (1 : Int32)) d_9_give_58 rfl ?_
          refine zr_iload_n (i := 1) d_9_give_59 rfl rfl ?_
          refine zr_ishl d_9_give_60 ?_
          refine zr_ixor d_9_give_61 ?_
          obtain ⟨m15, hm16, h⟩ := z_lt h
          refine zr_iast d_9_give_62 sa_149 rfl hb7 hm16 ?_
          refine zr_aload_n (i := 0) d_9_give_63 rfl rfl ?_
          obtain ⟨qm17, hq18, h⟩ := z_bd h
          refine zr_callVv (av := []) (st := []) d_9_give_64 mw_9_records ml_9_394 im_9_records se_9_records rfl rfl (Nat.le_of_ble_eq_true rfl) fit_2_2_3 rfl rfl rfl (s9_records hq18) ?_
          refine zr_iconst (v := (1 : Int32)) d_9_give_67 rfl ?_
          obtain ⟨rfl, rfl⟩ := Prod.mk.inj (Option.some.inj h)
          exact ze_z d_9_give_68 rfl rfl
      refine zr_icmp_ne (tgt := 37) d_9_give_30 rfl (fun hc10 => ?_) (fun hc10 => ?_)
      · replace hT8 := z_ip hT8 hc10
        refine zr_iconst (v := (1 : Int32)) d_9_give_33 rfl ?_
        refine zr_goto (tgt := 38) d_9_give_34 rfl ?_
        obtain rfl := Option.some.inj hT8
        exact zr_wk2 hJ9 ⟨rfl, ⟨rfl, ⟨rfl, ⟨rfl, trivial⟩⟩⟩⟩
      · replace hT8 := z_im hT8 hc10
        refine zr_iconst (v := (0 : Int32)) d_9_give_37 rfl ?_
        obtain rfl := Option.some.inj hT8
        exact zr_wk2 hJ9 ⟨rfl, ⟨rfl, ⟨rfl, ⟨rfl, trivial⟩⟩⟩⟩
def f9_isLong (a0 : Int32) : Option (Int32) :=
  if z_b (f9_in a0 (0 : Int32) (40 : Int32)) = true then some (f9_in a0 (0 : Int32) (40 : Int32)) else none
theorem s9_isLong {P : zP} {μ : zMem} {a0 : Int32} {r : Int32} (h : f9_isLong a0 = some r) : z_Sp P y_9_isLong M_9_isLong 2 [zI a0] μ (some (zI r)) μ := by
  refine z_Sp.of (plainFor_of_name (by decide)) rfl (l0 := [some (zI a0)]) rfl (Nat.le_of_ble_eq_true rfl) ?_
  unfold f9_isLong at h
  refine zr_iload_n (i := 0) d_9_isLong_0 rfl rfl ?_
  refine zr_iconst (v := (0 : Int32)) d_9_isLong_1 rfl ?_
  refine zr_bipush (v := (40 : Int32)) d_9_isLong_2 rfl ?_
  refine zr_callSi (av := [zI a0, zI (0 : Int32), zI (40 : Int32)]) (st := []) d_9_isLong_4 mw_9_in ml_9_312 is_9_in rfl rfl (Nat.le_of_ble_eq_true rfl) fit_1_3_2 (s9_in rfl) ?_
  obtain ⟨hzb, h⟩ := z_gd h
  obtain rfl := Option.some.inj h
  exact ze_z d_9_isLong_7 rfl (z_b_ok hzb)
def f9_years (a1 : Int32) (μ : zMem) : Option (Int32 × zMem) :=
  (f9_isLong a1).bind (fun q1 => (if q1 = 0 then some ((-1 : Int32), μ) else (if a1 = 0 then some ((μ.1 148 0 (33 : Int32).toNatClampNeg), μ) else (f9_copies μ).bind (fun qm5 => (f9_goes a1 qm5).bind (fun qm7 => (f9_records qm7).bind (fun qm9 => some ((qm9.1 148 0 (33 : Int32).toNatClampNeg), qm9)))))))
theorem s9_years {P : zP} {μ : zMem} {a1 : Int32} {r : Int32} {μ' : zMem} (h : f9_years a1 μ = some (r, μ')) : z_Sp P y_9_years M_9_years 10 [zA 9 0, zI a1] μ (some (zI r)) μ' := by
  refine z_Sp.of (plainFor_of_name (by decide)) rfl (l0 := [some (zA 9 0), some (zI a1)]) rfl (Nat.le_of_ble_eq_true rfl) ?_
  unfold f9_years at h
  refine zr_iload_n (i := 1) d_9_years_0 rfl rfl ?_
  obtain ⟨q1, hq2, h⟩ := z_bd h
  refine zr_callSi (av := [zI a1]) (st := []) d_9_years_1 mw_9_isLong ml_9_403 is_9_isLong rfl rfl (Nat.le_of_ble_eq_true rfl) fit_2_1_10 (s9_isLong hq2) ?_
  refine zr_if_ne (tgt := 9) d_9_years_4 rfl (fun hc3 => ?_) (fun hc3 => ?_)
  · replace h := z_ip h hc3
    refine zr_iconst (v := (-1 : Int32)) d_9_years_7 rfl ?_
    obtain ⟨rfl, rfl⟩ := Prod.mk.inj (Option.some.inj h)
    exact ze_i d_9_years_8 rfl
  · replace h := z_im h hc3
    refine zr_iload_n (i := 1) d_9_years_9 rfl rfl ?_
    refine zr_if_ne (tgt := 21) d_9_years_10 rfl (fun hc4 => ?_) (fun hc4 => ?_)
    · replace h := z_ip h hc4
      refine zr_aload_n (i := 0) d_9_years_13 rfl rfl ?_
      refine zr_gets (i' := 0) d_9_years_14 fw_9_110 rfl ?_
      refine zr_bipush (v := (33 : Int32)) d_9_years_17 rfl ?_
      refine zr_iald d_9_years_19 sa_148 rfl rfl ?_
      obtain ⟨rfl, rfl⟩ := Prod.mk.inj (Option.some.inj h)
      exact ze_i d_9_years_20 rfl
    · replace h := z_im h hc4
      refine zr_aload_n (i := 0) d_9_years_21 rfl rfl ?_
      obtain ⟨qm5, hq6, h⟩ := z_bd h
      refine zr_callVv (av := []) (st := []) d_9_years_22 mw_9_copies ml_9_325 im_9_copies se_9_copies rfl rfl (Nat.le_of_ble_eq_true rfl) fit_1_2_10 rfl rfl rfl (s9_copies hq6) ?_
      refine zr_aload_n (i := 0) d_9_years_25 rfl rfl ?_
      refine zr_iload_n (i := 1) d_9_years_26 rfl rfl ?_
      obtain ⟨qm7, hq8, h⟩ := z_bd h
      refine zr_callVv (av := [zI a1]) (st := []) d_9_years_27 mw_9_goes ml_9_406 im_9_goes se_9_goes rfl rfl (Nat.le_of_ble_eq_true rfl) fit_9_3_10 rfl rfl rfl (s9_goes hq8) ?_
      refine zr_aload_n (i := 0) d_9_years_30 rfl rfl ?_
      obtain ⟨qm9, hq10, h⟩ := z_bd h
      refine zr_callVv (av := []) (st := []) d_9_years_31 mw_9_records ml_9_394 im_9_records se_9_records rfl rfl (Nat.le_of_ble_eq_true rfl) fit_2_2_10 rfl rfl rfl (s9_records hq10) ?_
      refine zr_aload_n (i := 0) d_9_years_34 rfl rfl ?_
      refine zr_gets (i' := 0) d_9_years_35 fw_9_110 rfl ?_
      refine zr_bipush (v := (33 : Int32)) d_9_years_38 rfl ?_
      refine zr_iald d_9_years_40 sa_148 rfl rfl ?_
      obtain ⟨rfl, rfl⟩ := Prod.mk.inj (Option.some.inj h)
      exact ze_i d_9_years_41 rfl
def f9_undo_L4  : (Int32 × zMem) → Option ((Int32 × zMem) ⊕ (zMem)) := (z_u2 fun x5 xm6 => 
  (if x5 < (34 : Int32) then if z_in (((34 : Int32) * (xm6.1 9 0 55)) + x5) 1360 = true then if z_in x5 34 = true then z_let (z_sI xm6 148 0 x5.toNatClampNeg (xm6.1 156 0 (((34 : Int32) * (xm6.1 9 0 55)) + x5).toNatClampNeg)) fun m9 => some (.inl ((x5 + (1 : Int32)), m9)) else none else none else some (.inr xm6)))
def f9_undo  (μ : zMem) : Option (Int32 × zMem) :=
  (if (μ.1 9 0 55) = 0 then some ((0 : Int32), μ) else z_let (z_sI μ 9 0 55 ((μ.1 9 0 55) - (1 : Int32))) fun m2 => (z_it (f9_undo_L4) z_fu ((0 : Int32), m2)).bind (fun e12 => some ((1 : Int32), e12)))
theorem s9_undo_L4 {P : zP} {ro : Option zV} {μo : zMem}  (x5 : Int32) (xm6 : zMem) (K : (Int32 × zMem) ⊕ (zMem)) (h : f9_undo_L4  (x5, xm6) = some K) (hI : ∀ (y0 : Int32) (y1 : zMem), K = .inl (y0, y1) → z_RQ P M_9_undo (z_rm 1) (z_mq P ro μo) 0 0 21 [some (zA 9 0), some (zI y0)] [] y1) (hE : ∀ (z0 : zMem), K = .inr z0 → z_RQ P M_9_undo (z_rm 1) (z_mq P ro μo) 0 0 53 [none, none] [] z0)  : z_RQ P M_9_undo (z_rm 1) (z_mq P ro μo) 0 0 21 [some (zA 9 0), some (zI x5)] [] xm6 := by
  unfold f9_undo_L4 at h
  replace h := z_h2 h
  refine zr_iload_n (i := 1) d_9_undo_21 rfl rfl ?_
  refine zr_bipush (v := (34 : Int32)) d_9_undo_22 rfl ?_
  refine zr_icmp_ge (tgt := 53) d_9_undo_24 rfl (fun hc7 => ?_) (fun hc7 => ?_)
  · replace h := z_ip h hc7
    refine zr_aload_n (i := 0) d_9_undo_27 rfl rfl ?_
    refine zr_gets (i' := 0) d_9_undo_28 fw_9_110 rfl ?_
    refine zr_iload_n (i := 1) d_9_undo_31 rfl rfl ?_
    refine zr_aload_n (i := 0) d_9_undo_32 rfl rfl ?_
    refine zr_gets (i' := 0) d_9_undo_33 fw_9_125 rfl ?_
    refine zr_bipush (v := (34 : Int32)) d_9_undo_36 rfl ?_
    refine zr_aload_n (i := 0) d_9_undo_38 rfl rfl ?_
    refine zr_geti d_9_undo_39 fw_9_251 (by decide) ?_
    refine zr_imul d_9_undo_42 ?_
    refine zr_iload_n (i := 1) d_9_undo_43 rfl rfl ?_
    refine zr_iadd d_9_undo_44 ?_
    obtain ⟨hb8, h⟩ := z_gd h
    refine zr_iald d_9_undo_45 sa_156 rfl hb8 ?_
    obtain ⟨hb11, h⟩ := z_gd h
    obtain ⟨m9, hm10, h⟩ := z_lt h
    refine zr_iast d_9_undo_46 sa_148 rfl hb11 hm10 ?_
    refine zr_iinc (v := (x5 + (1 : Int32))) (l' := [some (zA 9 0), some (zI (x5 + (1 : Int32)))]) d_9_undo_47 (by decide) rfl rfl rfl ?_
    refine zr_goto (tgt := 21) d_9_undo_50 rfl ?_
    obtain rfl := Option.some.inj h
    exact zr_wk2 (hI (x5 + (1 : Int32)) m9 rfl) ⟨rfl, ⟨rfl, trivial⟩⟩
  · replace h := z_im h hc7
    obtain rfl := Option.some.inj h
    exact zr_wk2 (hE xm6 rfl) trivial
theorem s9_undo {P : zP} {μ : zMem} {r : Int32} {μ' : zMem} (h : f9_undo μ = some (r, μ')) : z_Sp P y_9_undo M_9_undo 1 [zA 9 0] μ (some (zI r)) μ' := by
  refine z_Sp.of (plainFor_of_name (by decide)) rfl (l0 := [some (zA 9 0), none]) rfl (Nat.le_of_ble_eq_true rfl) ?_
  unfold f9_undo at h
  refine zr_aload_n (i := 0) d_9_undo_0 rfl rfl ?_
  refine zr_geti d_9_undo_1 fw_9_251 (by decide) ?_
  refine zr_if_ne (tgt := 9) d_9_undo_4 rfl (fun hc1 => ?_) (fun hc1 => ?_)
  · replace h := z_ip h hc1
    refine zr_iconst (v := (0 : Int32)) d_9_undo_7 rfl ?_
    obtain ⟨rfl, rfl⟩ := Prod.mk.inj (Option.some.inj h)
    exact ze_z d_9_undo_8 rfl rfl
  · replace h := z_im h hc1
    refine zr_aload_n (i := 0) d_9_undo_9 rfl rfl ?_
    refine zr_dupa d_9_undo_10 ?_
    refine zr_geti d_9_undo_11 fw_9_251 (by decide) ?_
    refine zr_iconst (v := (1 : Int32)) d_9_undo_14 rfl ?_
    refine zr_isub d_9_undo_15 ?_
    obtain ⟨m2, hm3, h⟩ := z_lt h
    refine zr_puti d_9_undo_16 fw_9_251 pw_9_55 hm3 ?_
    refine zr_iconst (v := (0 : Int32)) d_9_undo_19 rfl ?_
    refine zr_istore_n (i := 1) (l' := [some (zA 9 0), some (zI (0 : Int32))]) d_9_undo_20 rfl (by decide) rfl ?_
    obtain ⟨e12, hl13, h⟩ := z_bd h
    refine zr_wk (l' := [some (zA 9 0), some (zI (0 : Int32))]) ⟨rfl, ⟨rfl, trivial⟩⟩ ?_
    refine z_loop (Hd := (z_u2 fun y0 y1 => z_RQ P M_9_undo (z_rm 1) (z_mq P (some (zI r)) μ') 0 0 21 [some (zA 9 0), some (zI y0)] [] y1)) (Ex := (fun z0 => z_RQ P M_9_undo (z_rm 1) (z_mq P (some (zI r)) μ') 0 0 53 [none, none] [] z0)) (fun ⟨x5, xm6⟩ K h hI hE => s9_undo_L4  x5 xm6 K h (fun y0 y1 e => hI (y0, y1) e) (fun z0 e => hE z0 e) ) _ _ _ hl13 ?_
    refine zr_iconst (v := (1 : Int32)) d_9_undo_53 rfl ?_
    obtain ⟨rfl, rfl⟩ := Prod.mk.inj (Option.some.inj h)
    exact ze_z d_9_undo_54 rfl rfl
def f9_heirOf (a1 : Int32) (μ : zMem) : Option (Int32) :=
  (f9_lordOf a1 μ).bind (fun q1 => (if q1 < 0 then some (-2 : Int32) else (f9_longestBut a1 q1 μ).bind (fun q4 => some q4)))
theorem s9_heirOf {P : zP} {μ : zMem} {a1 : Int32} {r : Int32} (h : f9_heirOf a1 μ = some r) : z_Sp P y_9_heirOf M_9_heirOf 4 [zA 9 0, zI a1] μ (some (zI r)) μ := by
  refine z_Sp.of (plainFor_of_name (by decide)) rfl (l0 := [some (zA 9 0), some (zI a1), none]) rfl (Nat.le_of_ble_eq_true rfl) ?_
  unfold f9_heirOf at h
  refine zr_aload_n (i := 0) d_9_heirOf_0 rfl rfl ?_
  refine zr_iload_n (i := 1) d_9_heirOf_1 rfl rfl ?_
  obtain ⟨q1, hq2, h⟩ := z_bd h
  refine zr_callVi (av := [zI a1]) (st := []) d_9_heirOf_2 mw_9_lordOf ml_9_340 im_9_lordOf se_9_lordOf rfl rfl (Nat.le_of_ble_eq_true rfl) fit_3_2_4 rfl rfl rfl (s9_lordOf hq2) ?_
  refine zr_istore_n (i := 2) (l' := [some (zA 9 0), some (zI a1), some (zI q1)]) d_9_heirOf_5 rfl (by decide) rfl ?_
  refine zr_iload_n (i := 2) d_9_heirOf_6 rfl rfl ?_
  refine zr_if_ge (tgt := 15) d_9_heirOf_7 rfl (fun hc3 => ?_) (fun hc3 => ?_)
  · replace h := z_ip h hc3
    refine zr_bipush (v := (-2 : Int32)) d_9_heirOf_10 (by decide) ?_
    refine zr_goto (tgt := 21) d_9_heirOf_12 rfl ?_
    obtain rfl := Option.some.inj h
    exact ze_i d_9_heirOf_21 rfl
  · replace h := z_im h hc3
    refine zr_aload_n (i := 0) d_9_heirOf_15 rfl rfl ?_
    refine zr_iload_n (i := 1) d_9_heirOf_16 rfl rfl ?_
    refine zr_iload_n (i := 2) d_9_heirOf_17 rfl rfl ?_
    obtain ⟨q4, hq5, h⟩ := z_bd h
    refine zr_callVi (av := [zI a1, zI q1]) (st := []) d_9_heirOf_18 mw_9_longestBut ml_9_337 im_9_longestBut se_9_longestBut rfl rfl (Nat.le_of_ble_eq_true rfl) fit_2_5_4 rfl rfl rfl (s9_longestBut hq5) ?_
    obtain rfl := Option.some.inj h
    exact ze_i d_9_heirOf_21 rfl
def f9_heir (a1 : Int32) (μ : zMem) : Option (Int32 × zMem) :=
  (f9_isHouse a1 μ).bind (fun q1 => (if q1 = 0 then some ((-1 : Int32), μ) else (f9_copies μ).bind (fun qm4 => (f9_heirOf a1 qm4).bind (fun q6 => some (q6, qm4)))))
theorem s9_heir {P : zP} {μ : zMem} {a1 : Int32} {r : Int32} {μ' : zMem} (h : f9_heir a1 μ = some (r, μ')) : z_Sp P y_9_heir M_9_heir 5 [zA 9 0, zI a1] μ (some (zI r)) μ' := by
  refine z_Sp.of (plainFor_of_name (by decide)) rfl (l0 := [some (zA 9 0), some (zI a1)]) rfl (Nat.le_of_ble_eq_true rfl) ?_
  unfold f9_heir at h
  refine zr_aload_n (i := 0) d_9_heir_0 rfl rfl ?_
  refine zr_iload_n (i := 1) d_9_heir_1 rfl rfl ?_
  obtain ⟨q1, hq2, h⟩ := z_bd h
  refine zr_callVi (av := [zI a1]) (st := []) d_9_heir_2 mw_9_isHouse ml_9_391 im_9_isHouse se_9_isHouse rfl rfl (Nat.le_of_ble_eq_true rfl) fit_2_2_5 rfl rfl rfl (s9_isHouse hq2) ?_
  refine zr_if_ne (tgt := 10) d_9_heir_5 rfl (fun hc3 => ?_) (fun hc3 => ?_)
  · replace h := z_ip h hc3
    refine zr_iconst (v := (-1 : Int32)) d_9_heir_8 rfl ?_
    obtain ⟨rfl, rfl⟩ := Prod.mk.inj (Option.some.inj h)
    exact ze_i d_9_heir_9 rfl
  · replace h := z_im h hc3
    refine zr_aload_n (i := 0) d_9_heir_10 rfl rfl ?_
    obtain ⟨qm4, hq5, h⟩ := z_bd h
    refine zr_callVv (av := []) (st := []) d_9_heir_11 mw_9_copies ml_9_325 im_9_copies se_9_copies rfl rfl (Nat.le_of_ble_eq_true rfl) fit_1_2_5 rfl rfl rfl (s9_copies hq5) ?_
    refine zr_aload_n (i := 0) d_9_heir_14 rfl rfl ?_
    refine zr_iload_n (i := 1) d_9_heir_15 rfl rfl ?_
    obtain ⟨q6, hq7, h⟩ := z_bd h
    refine zr_callVi (av := [zI a1]) (st := []) d_9_heir_16 mw_9_heirOf ml_9_409 im_9_heirOf se_9_heirOf rfl rfl (Nat.le_of_ble_eq_true rfl) fit_4_3_5 rfl rfl rfl (s9_heirOf hq7) ?_
    obtain ⟨rfl, rfl⟩ := Prod.mk.inj (Option.some.inj h)
    exact ze_i d_9_heir_19 rfl
def f9_race (a1 : Int32) (μ : zMem) : Option (Int32 × zMem) :=
  (f9_isHouse a1 μ).bind (fun q1 => (if q1 = 0 then some ((-1 : Int32), μ) else (f9_copies μ).bind (fun qm4 => (f9_heirOf a1 qm4).bind (fun q6 => (if q6 < 0 then some ((-2 : Int32), qm4) else (f9_lordOf a1 qm4).bind (fun q9 => if z_in ((7 : Int32) + q9) 34 = true then if z_in ((7 : Int32) + q6) 34 = true then some (((qm4.1 149 0 ((7 : Int32) + q9).toNatClampNeg) - (qm4.1 149 0 ((7 : Int32) + q6).toNatClampNeg)), qm4) else none else none))))))
theorem s9_race {P : zP} {μ : zMem} {a1 : Int32} {r : Int32} {μ' : zMem} (h : f9_race a1 μ = some (r, μ')) : z_Sp P y_9_race M_9_race 5 [zA 9 0, zI a1] μ (some (zI r)) μ' := by
  refine z_Sp.of (plainFor_of_name (by decide)) rfl (l0 := [some (zA 9 0), some (zI a1), none]) rfl (Nat.le_of_ble_eq_true rfl) ?_
  unfold f9_race at h
  refine zr_aload_n (i := 0) d_9_race_0 rfl rfl ?_
  refine zr_iload_n (i := 1) d_9_race_1 rfl rfl ?_
  obtain ⟨q1, hq2, h⟩ := z_bd h
  refine zr_callVi (av := [zI a1]) (st := []) d_9_race_2 mw_9_isHouse ml_9_391 im_9_isHouse se_9_isHouse rfl rfl (Nat.le_of_ble_eq_true rfl) fit_2_2_5 rfl rfl rfl (s9_isHouse hq2) ?_
  refine zr_if_ne (tgt := 10) d_9_race_5 rfl (fun hc3 => ?_) (fun hc3 => ?_)
  · replace h := z_ip h hc3
    refine zr_iconst (v := (-1 : Int32)) d_9_race_8 rfl ?_
    obtain ⟨rfl, rfl⟩ := Prod.mk.inj (Option.some.inj h)
    exact ze_i d_9_race_9 rfl
  · replace h := z_im h hc3
    refine zr_aload_n (i := 0) d_9_race_10 rfl rfl ?_
    obtain ⟨qm4, hq5, h⟩ := z_bd h
    refine zr_callVv (av := []) (st := []) d_9_race_11 mw_9_copies ml_9_325 im_9_copies se_9_copies rfl rfl (Nat.le_of_ble_eq_true rfl) fit_1_2_5 rfl rfl rfl (s9_copies hq5) ?_
    refine zr_aload_n (i := 0) d_9_race_14 rfl rfl ?_
    refine zr_iload_n (i := 1) d_9_race_15 rfl rfl ?_
    obtain ⟨q6, hq7, h⟩ := z_bd h
    refine zr_callVi (av := [zI a1]) (st := []) d_9_race_16 mw_9_heirOf ml_9_409 im_9_heirOf se_9_heirOf rfl rfl (Nat.le_of_ble_eq_true rfl) fit_4_3_5 rfl rfl rfl (s9_heirOf hq7) ?_
    refine zr_istore_n (i := 2) (l' := [some (zA 9 0), some (zI a1), some (zI q6)]) d_9_race_19 rfl (by decide) rfl ?_
    refine zr_iload_n (i := 2) d_9_race_20 rfl rfl ?_
    refine zr_if_ge (tgt := 29) d_9_race_21 rfl (fun hc8 => ?_) (fun hc8 => ?_)
    · replace h := z_ip h hc8
      refine zr_bipush (v := (-2 : Int32)) d_9_race_24 (by decide) ?_
      refine zr_goto (tgt := 52) d_9_race_26 rfl ?_
      obtain ⟨rfl, rfl⟩ := Prod.mk.inj (Option.some.inj h)
      exact ze_i d_9_race_52 rfl
    · replace h := z_im h hc8
      refine zr_aload_n (i := 0) d_9_race_29 rfl rfl ?_
      refine zr_gets (i' := 0) d_9_race_30 fw_9_113 rfl ?_
      refine zr_bipush (v := (7 : Int32)) d_9_race_33 rfl ?_
      refine zr_aload_n (i := 0) d_9_race_35 rfl rfl ?_
      refine zr_iload_n (i := 1) d_9_race_36 rfl rfl ?_
      obtain ⟨q9, hq10, h⟩ := z_bd h
      refine zr_callVi (av := [zI a1]) (st := [zI (7 : Int32), zA 149 0]) d_9_race_37 mw_9_lordOf ml_9_340 im_9_lordOf se_9_lordOf rfl rfl (Nat.le_of_ble_eq_true rfl) fit_3_2_5 rfl rfl rfl (s9_lordOf hq10) ?_
      refine zr_iadd d_9_race_40 ?_
      obtain ⟨hb11, h⟩ := z_gd h
      refine zr_iald d_9_race_41 sa_149 rfl hb11 ?_
      refine zr_aload_n (i := 0) d_9_race_42 rfl rfl ?_
      refine zr_gets (i' := 0) d_9_race_43 fw_9_113 rfl ?_
      refine zr_bipush (v := (7 : Int32)) d_9_race_46 rfl ?_
      refine zr_iload_n (i := 2) d_9_race_48 rfl rfl ?_
      refine zr_iadd d_9_race_49 ?_
      obtain ⟨hb12, h⟩ := z_gd h
      refine zr_iald d_9_race_50 sa_149 rfl hb12 ?_
      refine zr_isub d_9_race_51 ?_
      obtain ⟨rfl, rfl⟩ := Prod.mk.inj (Option.some.inj h)
      exact ze_i d_9_race_52 rfl
def f9_gain (a1 : Int32) (a2 : Int32) (μ : zMem) : Option (Int32 × zMem) :=
  (f9_isPerson a1 μ).bind (fun q1 => (if q1 = 0 then some ((-1 : Int32), μ) else (f9_isLong a2).bind (fun q4 => (if q4 = 0 then some ((-1 : Int32), μ) else (f9_copiesStill μ).bind (fun qm7 => (f9_goes a2 qm7).bind (fun qm9 => if z_in ((14 : Int32) + a1) 34 = true then some (((qm9.1 149 0 ((14 : Int32) + a1).toNatClampNeg) - (qm9.1 148 0 ((14 : Int32) + a1).toNatClampNeg)), qm9) else none))))))
theorem s9_gain {P : zP} {μ : zMem} {a1 : Int32} {a2 : Int32} {r : Int32} {μ' : zMem} (h : f9_gain a1 a2 μ = some (r, μ')) : z_Sp P y_9_gain M_9_gain 10 [zA 9 0, zI a1, zI a2] μ (some (zI r)) μ' := by
  refine z_Sp.of (plainFor_of_name (by decide)) rfl (l0 := [some (zA 9 0), some (zI a1), some (zI a2)]) rfl (Nat.le_of_ble_eq_true rfl) ?_
  unfold f9_gain at h
  refine zr_aload_n (i := 0) d_9_gain_0 rfl rfl ?_
  refine zr_iload_n (i := 1) d_9_gain_1 rfl rfl ?_
  obtain ⟨q1, hq2, h⟩ := z_bd h
  refine zr_callVi (av := [zI a1]) (st := []) d_9_gain_2 mw_9_isPerson ml_9_316 im_9_isPerson se_9_isPerson rfl rfl (Nat.le_of_ble_eq_true rfl) fit_2_2_10 rfl rfl rfl (s9_isPerson hq2) ?_
  refine zr_if_eq (tgt := 15) d_9_gain_5 rfl (fun hc3 => ?_) (fun hc3 => ?_)
  · replace h := z_ip h hc3
    refine zr_iconst (v := (-1 : Int32)) d_9_gain_15 rfl ?_
    obtain ⟨rfl, rfl⟩ := Prod.mk.inj (Option.some.inj h)
    exact ze_i d_9_gain_16 rfl
  · replace h := z_im h hc3
    refine zr_iload_n (i := 2) d_9_gain_8 rfl rfl ?_
    obtain ⟨q4, hq5, h⟩ := z_bd h
    refine zr_callSi (av := [zI a2]) (st := []) d_9_gain_9 mw_9_isLong ml_9_403 is_9_isLong rfl rfl (Nat.le_of_ble_eq_true rfl) fit_2_1_10 (s9_isLong hq5) ?_
    refine zr_if_ne (tgt := 17) d_9_gain_12 rfl (fun hc6 => ?_) (fun hc6 => ?_)
    · replace h := z_ip h hc6
      refine zr_iconst (v := (-1 : Int32)) d_9_gain_15 rfl ?_
      obtain ⟨rfl, rfl⟩ := Prod.mk.inj (Option.some.inj h)
      exact ze_i d_9_gain_16 rfl
    · replace h := z_im h hc6
      refine zr_aload_n (i := 0) d_9_gain_17 rfl rfl ?_
      obtain ⟨qm7, hq8, h⟩ := z_bd h
      refine zr_callVv (av := []) (st := []) d_9_gain_18 mw_9_copiesStill ml_9_412 im_9_copiesStill se_9_copiesStill rfl rfl (Nat.le_of_ble_eq_true rfl) fit_2_1_10 rfl rfl rfl (s9_copiesStill hq8) ?_
      refine zr_aload_n (i := 0) d_9_gain_21 rfl rfl ?_
      refine zr_iload_n (i := 2) d_9_gain_22 rfl rfl ?_
      obtain ⟨qm9, hq10, h⟩ := z_bd h
      refine zr_callVv (av := [zI a2]) (st := []) d_9_gain_23 mw_9_goes ml_9_406 im_9_goes se_9_goes rfl rfl (Nat.le_of_ble_eq_true rfl) fit_9_3_10 rfl rfl rfl (s9_goes hq10) ?_
      refine zr_aload_n (i := 0) d_9_gain_26 rfl rfl ?_
      refine zr_gets (i' := 0) d_9_gain_27 fw_9_113 rfl ?_
      refine zr_bipush (v := (14 : Int32)) d_9_gain_30 rfl ?_
      refine zr_iload_n (i := 1) d_9_gain_32 rfl rfl ?_
      refine zr_iadd d_9_gain_33 ?_
      obtain ⟨hb11, h⟩ := z_gd h
      refine zr_iald d_9_gain_34 sa_149 rfl hb11 ?_
      refine zr_aload_n (i := 0) d_9_gain_35 rfl rfl ?_
      refine zr_gets (i' := 0) d_9_gain_36 fw_9_110 rfl ?_
      refine zr_bipush (v := (14 : Int32)) d_9_gain_39 rfl ?_
      refine zr_iload_n (i := 1) d_9_gain_41 rfl rfl ?_
      refine zr_iadd d_9_gain_42 ?_
      refine zr_iald d_9_gain_43 sa_148 rfl hb11 ?_
      refine zr_isub d_9_gain_44 ?_
      obtain ⟨rfl, rfl⟩ := Prod.mk.inj (Option.some.inj h)
      exact ze_i d_9_gain_45 rfl
def f9_gainBy (a1 : Int32) (a2 : Int32) (a3 : Int32) (μ : zMem) : Option (Int32 × zMem) :=
  (f9_copiesStill μ).bind (fun qm1 => (f9_goes a3 qm1).bind (fun qm3 => (f9_becomes a1 (1 : Int32) qm3).bind (fun qm5 => (f9_goes (a2 - a3) qm5).bind (fun qm7 => if z_in ((14 : Int32) + a1) 34 = true then some (((qm7.1 149 0 ((14 : Int32) + a1).toNatClampNeg) - (qm7.1 148 0 ((14 : Int32) + a1).toNatClampNeg)), qm7) else none))))
theorem s9_gainBy {P : zP} {μ : zMem} {a1 : Int32} {a2 : Int32} {a3 : Int32} {r : Int32} {μ' : zMem} (h : f9_gainBy a1 a2 a3 μ = some (r, μ')) : z_Sp P y_9_gainBy M_9_gainBy 10 [zA 9 0, zI a1, zI a2, zI a3] μ (some (zI r)) μ' := by
  refine z_Sp.of (plainFor_of_name (by decide)) rfl (l0 := [some (zA 9 0), some (zI a1), some (zI a2), some (zI a3)]) rfl (Nat.le_of_ble_eq_true rfl) ?_
  unfold f9_gainBy at h
  refine zr_aload_n (i := 0) d_9_gainBy_0 rfl rfl ?_
  obtain ⟨qm1, hq2, h⟩ := z_bd h
  refine zr_callVv (av := []) (st := []) d_9_gainBy_1 mw_9_copiesStill ml_9_412 im_9_copiesStill se_9_copiesStill rfl rfl (Nat.le_of_ble_eq_true rfl) fit_2_1_10 rfl rfl rfl (s9_copiesStill hq2) ?_
  refine zr_aload_n (i := 0) d_9_gainBy_4 rfl rfl ?_
  refine zr_iload_n (i := 3) d_9_gainBy_5 rfl rfl ?_
  obtain ⟨qm3, hq4, h⟩ := z_bd h
  refine zr_callVv (av := [zI a3]) (st := []) d_9_gainBy_6 mw_9_goes ml_9_406 im_9_goes se_9_goes rfl rfl (Nat.le_of_ble_eq_true rfl) fit_9_3_10 rfl rfl rfl (s9_goes hq4) ?_
  refine zr_aload_n (i := 0) d_9_gainBy_9 rfl rfl ?_
  refine zr_iload_n (i := 1) d_9_gainBy_10 rfl rfl ?_
  refine zr_iconst (v := (1 : Int32)) d_9_gainBy_11 rfl ?_
  obtain ⟨qm5, hq6, h⟩ := z_bd h
  refine zr_callVv (av := [zI a1, zI (1 : Int32)]) (st := []) d_9_gainBy_12 mw_9_becomes ml_9_376 im_9_becomes se_9_becomes rfl rfl (Nat.le_of_ble_eq_true rfl) fit_1_3_10 rfl rfl rfl (s9_becomes hq6) ?_
  refine zr_aload_n (i := 0) d_9_gainBy_15 rfl rfl ?_
  refine zr_iload_n (i := 2) d_9_gainBy_16 rfl rfl ?_
  refine zr_iload_n (i := 3) d_9_gainBy_17 rfl rfl ?_
  refine zr_isub d_9_gainBy_18 ?_
  obtain ⟨qm7, hq8, h⟩ := z_bd h
  refine zr_callVv (av := [zI (a2 - a3)]) (st := []) d_9_gainBy_19 mw_9_goes ml_9_406 im_9_goes se_9_goes rfl rfl (Nat.le_of_ble_eq_true rfl) fit_9_3_10 rfl rfl rfl (s9_goes hq8) ?_
  refine zr_aload_n (i := 0) d_9_gainBy_22 rfl rfl ?_
  refine zr_gets (i' := 0) d_9_gainBy_23 fw_9_113 rfl ?_
  refine zr_bipush (v := (14 : Int32)) d_9_gainBy_26 rfl ?_
  refine zr_iload_n (i := 1) d_9_gainBy_28 rfl rfl ?_
  refine zr_iadd d_9_gainBy_29 ?_
  obtain ⟨hb9, h⟩ := z_gd h
  refine zr_iald d_9_gainBy_30 sa_149 rfl hb9 ?_
  refine zr_aload_n (i := 0) d_9_gainBy_31 rfl rfl ?_
  refine zr_gets (i' := 0) d_9_gainBy_32 fw_9_110 rfl ?_
  refine zr_bipush (v := (14 : Int32)) d_9_gainBy_35 rfl ?_
  refine zr_iload_n (i := 1) d_9_gainBy_37 rfl rfl ?_
  refine zr_iadd d_9_gainBy_38 ?_
  refine zr_iald d_9_gainBy_39 sa_148 rfl hb9 ?_
  refine zr_isub d_9_gainBy_40 ?_
  obtain ⟨rfl, rfl⟩ := Prod.mk.inj (Option.some.inj h)
  exact ze_i d_9_gainBy_41 rfl
def f9_isSpan (a0 : Int32) : Option (Int32) :=
  if z_b (f9_in a0 (1 : Int32) (40 : Int32)) = true then some (f9_in a0 (1 : Int32) (40 : Int32)) else none
theorem s9_isSpan {P : zP} {μ : zMem} {a0 : Int32} {r : Int32} (h : f9_isSpan a0 = some r) : z_Sp P y_9_isSpan M_9_isSpan 2 [zI a0] μ (some (zI r)) μ := by
  refine z_Sp.of (plainFor_of_name (by decide)) rfl (l0 := [some (zI a0)]) rfl (Nat.le_of_ble_eq_true rfl) ?_
  unfold f9_isSpan at h
  refine zr_iload_n (i := 0) d_9_isSpan_0 rfl rfl ?_
  refine zr_iconst (v := (1 : Int32)) d_9_isSpan_1 rfl ?_
  refine zr_bipush (v := (40 : Int32)) d_9_isSpan_2 rfl ?_
  refine zr_callSi (av := [zI a0, zI (1 : Int32), zI (40 : Int32)]) (st := []) d_9_isSpan_4 mw_9_in ml_9_312 is_9_in rfl rfl (Nat.le_of_ble_eq_true rfl) fit_1_3_2 (s9_in rfl) ?_
  obtain ⟨hzb, h⟩ := z_gd h
  obtain rfl := Option.some.inj h
  exact ze_z d_9_isSpan_7 rfl (z_b_ok hzb)
def f9_best_L9 (a1 : Int32) (a2 : Int32) : (Int32 × Int32 × zMem) → Option ((Int32 × Int32 × zMem) ⊕ (Int32 × zMem)) := (z_u3 fun x10 x11 xm12 => 
  (if x11 < a2 then (f9_gainBy a1 a2 x11 xm12).bind (z_u2 fun q14 qm15 => (f9_gainBy a1 a2 x10 qm15).bind (z_u2 fun q17 qm18 => ((if q17 < q14 then some x11 else some x10) : Option (Int32)).bind (fun j23 => some (.inl (j23, (x11 + (1 : Int32)), qm18))))) else some (.inr (x10, xm12))))
def f9_best (a1 : Int32) (a2 : Int32) (a3 : Int32) (μ : zMem) : Option (Int32 × zMem) :=
  (f9_isNow a1 (0 : Int32) μ).bind (fun q1 => (if q1 = 0 then some ((-1 : Int32), μ) else (f9_isSpan a2).bind (fun q4 => (if q4 = 0 then some ((-1 : Int32), μ) else (if (f9_in a3 (0 : Int32) (1 : Int32)) = 0 then some ((-1 : Int32), μ) else (z_it (f9_best_L9 a1 a2) z_fu ((0 : Int32), (1 : Int32), μ)).bind (z_u2 fun e24 e25 => (if a3 = 0 then some (e24, e25) else (f9_gainBy a1 a2 e24 e25).bind (z_u2 fun q28 qm29 => some (q28, qm29)))))))))
theorem s9_best_L9 {P : zP} {ro : Option zV} {μo : zMem} (a1 : Int32) (a2 : Int32) (a3 : Int32) (x10 : Int32) (x11 : Int32) (xm12 : zMem) (K : (Int32 × Int32 × zMem) ⊕ (Int32 × zMem)) (h : f9_best_L9 a1 a2 (x10, x11, xm12) = some K) (hI : ∀ (y0 : Int32) (y1 : Int32) (y2 : zMem), K = .inl (y0, y1, y2) → z_RQ P M_9_best (z_rm 11) (z_mq P ro μo) 0 0 33 [some (zA 9 0), some (zI a1), some (zI a2), some (zI a3), some (zI y0), some (zI y1)] [] y2) (hE : ∀ (z0 : Int32) (z1 : zMem), K = .inr (z0, z1) → z_RQ P M_9_best (z_rm 11) (z_mq P ro μo) 0 0 68 [some (zA 9 0), some (zI a1), some (zI a2), some (zI a3), some (zI z0), none] [] z1)  : z_RQ P M_9_best (z_rm 11) (z_mq P ro μo) 0 0 33 [some (zA 9 0), some (zI a1), some (zI a2), some (zI a3), some (zI x10), some (zI x11)] [] xm12 := by
  unfold f9_best_L9 at h
  replace h := z_h3 h
  refine zr_iload d_9_best_33 rfl ?_
  refine zr_iload_n (i := 2) d_9_best_35 rfl rfl ?_
  refine zr_icmp_ge (tgt := 68) d_9_best_36 rfl (fun hc13 => ?_) (fun hc13 => ?_)
  · replace h := z_ip h hc13
    refine zr_aload_n (i := 0) d_9_best_39 rfl rfl ?_
    refine zr_iload_n (i := 1) d_9_best_40 rfl rfl ?_
    refine zr_iload_n (i := 2) d_9_best_41 rfl rfl ?_
    refine zr_iload d_9_best_42 rfl ?_
    obtain ⟨⟨q14, qm15⟩, hq16, h⟩ := z_bd h
    replace h := z_h2 h
    refine zr_callVi (av := [zI a1, zI a2, zI x11]) (st := []) d_9_best_44 mw_9_gainBy ml_9_418 im_9_gainBy se_9_gainBy rfl rfl (Nat.le_of_ble_eq_true rfl) fit_10_4_11 rfl rfl rfl (s9_gainBy hq16) ?_
    refine zr_aload_n (i := 0) d_9_best_47 rfl rfl ?_
    refine zr_iload_n (i := 1) d_9_best_48 rfl rfl ?_
    refine zr_iload_n (i := 2) d_9_best_49 rfl rfl ?_
    refine zr_iload d_9_best_50 rfl ?_
    obtain ⟨⟨q17, qm18⟩, hq19, h⟩ := z_bd h
    replace h := z_h2 h
    refine zr_callVi (av := [zI a1, zI a2, zI x10]) (st := [zI q14]) d_9_best_52 mw_9_gainBy ml_9_418 im_9_gainBy se_9_gainBy rfl rfl (Nat.le_of_ble_eq_true rfl) fit_10_4_11 rfl rfl rfl (s9_gainBy hq19) ?_
    obtain ⟨j23, hT20, h⟩ := z_bd h
    have hJ21 : z_RQ P M_9_best (z_rm 11) (z_mq P ro μo) 0 0 62 [some (zA 9 0), some (zI a1), some (zI a2), some (zI a3), some (zI j23), some (zI x11)] [] qm18 := by
      refine zr_iinc (v := (x11 + (1 : Int32))) (l' := [some (zA 9 0), some (zI a1), some (zI a2), some (zI a3), some (zI j23), some (zI (x11 + (1 : Int32)))]) d_9_best_62 (by decide) rfl rfl rfl ?_
      refine zr_goto (tgt := 33) d_9_best_65 rfl ?_
      obtain rfl := Option.some.inj h
      exact zr_wk2 (hI j23 (x11 + (1 : Int32)) qm18 rfl) ⟨rfl, ⟨rfl, ⟨rfl, ⟨rfl, ⟨rfl, ⟨rfl, trivial⟩⟩⟩⟩⟩⟩
    refine zr_icmp_le (tgt := 62) d_9_best_55 rfl (fun hc22 => ?_) (fun hc22 => ?_)
    · replace hT20 := z_ip hT20 hc22
      refine zr_iload d_9_best_58 rfl ?_
      refine zr_istore (i := 4) (l' := [some (zA 9 0), some (zI a1), some (zI a2), some (zI a3), some (zI x11), some (zI x11)]) d_9_best_60 (by decide) rfl ?_
      obtain rfl := Option.some.inj hT20
      exact zr_wk2 hJ21 ⟨rfl, ⟨rfl, ⟨rfl, ⟨rfl, ⟨rfl, ⟨rfl, trivial⟩⟩⟩⟩⟩⟩
    · replace hT20 := z_im hT20 hc22
      obtain rfl := Option.some.inj hT20
      exact zr_wk2 hJ21 ⟨rfl, ⟨rfl, ⟨rfl, ⟨rfl, ⟨rfl, ⟨rfl, trivial⟩⟩⟩⟩⟩⟩
  · replace h := z_im h hc13
    obtain rfl := Option.some.inj h
    exact zr_wk2 (hE x10 xm12 rfl) ⟨rfl, ⟨rfl, ⟨rfl, ⟨rfl, ⟨rfl, trivial⟩⟩⟩⟩⟩
theorem s9_best {P : zP} {μ : zMem} {a1 : Int32} {a2 : Int32} {a3 : Int32} {r : Int32} {μ' : zMem} (h : f9_best a1 a2 a3 μ = some (r, μ')) : z_Sp P y_9_best M_9_best 11 [zA 9 0, zI a1, zI a2, zI a3] μ (some (zI r)) μ' := by
  refine z_Sp.of (plainFor_of_name (by decide)) rfl (l0 := [some (zA 9 0), some (zI a1), some (zI a2), some (zI a3), none, none]) rfl (Nat.le_of_ble_eq_true rfl) ?_
  unfold f9_best at h
  refine zr_aload_n (i := 0) d_9_best_0 rfl rfl ?_
  refine zr_iload_n (i := 1) d_9_best_1 rfl rfl ?_
  refine zr_iconst (v := (0 : Int32)) d_9_best_2 rfl ?_
  obtain ⟨q1, hq2, h⟩ := z_bd h
  refine zr_callVi (av := [zI a1, zI (0 : Int32)]) (st := []) d_9_best_3 mw_9_isNow ml_9_397 im_9_isNow se_9_isNow rfl rfl (Nat.le_of_ble_eq_true rfl) fit_3_3_11 rfl rfl rfl (s9_isNow hq2) ?_
  refine zr_if_eq (tgt := 25) d_9_best_6 rfl (fun hc3 => ?_) (fun hc3 => ?_)
  · replace h := z_ip h hc3
    refine zr_iconst (v := (-1 : Int32)) d_9_best_25 rfl ?_
    obtain ⟨rfl, rfl⟩ := Prod.mk.inj (Option.some.inj h)
    exact ze_i d_9_best_26 rfl
  · replace h := z_im h hc3
    refine zr_iload_n (i := 2) d_9_best_9 rfl rfl ?_
    obtain ⟨q4, hq5, h⟩ := z_bd h
    refine zr_callSi (av := [zI a2]) (st := []) d_9_best_10 mw_9_isSpan ml_9_415 is_9_isSpan rfl rfl (Nat.le_of_ble_eq_true rfl) fit_2_1_11 (s9_isSpan hq5) ?_
    refine zr_if_eq (tgt := 25) d_9_best_13 rfl (fun hc6 => ?_) (fun hc6 => ?_)
    · replace h := z_ip h hc6
      refine zr_iconst (v := (-1 : Int32)) d_9_best_25 rfl ?_
      obtain ⟨rfl, rfl⟩ := Prod.mk.inj (Option.some.inj h)
      exact ze_i d_9_best_26 rfl
    · replace h := z_im h hc6
      refine zr_iload_n (i := 3) d_9_best_16 rfl rfl ?_
      refine zr_iconst (v := (0 : Int32)) d_9_best_17 rfl ?_
      refine zr_iconst (v := (1 : Int32)) d_9_best_18 rfl ?_
      refine zr_callSi (av := [zI a3, zI (0 : Int32), zI (1 : Int32)]) (st := []) d_9_best_19 mw_9_in ml_9_312 is_9_in rfl rfl (Nat.le_of_ble_eq_true rfl) fit_1_3_11 (s9_in rfl) ?_
      refine zr_if_ne (tgt := 27) d_9_best_22 rfl (fun hc8 => ?_) (fun hc8 => ?_)
      · replace h := z_ip h hc8
        refine zr_iconst (v := (-1 : Int32)) d_9_best_25 rfl ?_
        obtain ⟨rfl, rfl⟩ := Prod.mk.inj (Option.some.inj h)
        exact ze_i d_9_best_26 rfl
      · replace h := z_im h hc8
        refine zr_iconst (v := (0 : Int32)) d_9_best_27 rfl ?_
        refine zr_istore (i := 4) (l' := [some (zA 9 0), some (zI a1), some (zI a2), some (zI a3), some (zI (0 : Int32)), none]) d_9_best_28 (by decide) rfl ?_
        refine zr_iconst (v := (1 : Int32)) d_9_best_30 rfl ?_
        refine zr_istore (i := 5) (l' := [some (zA 9 0), some (zI a1), some (zI a2), some (zI a3), some (zI (0 : Int32)), some (zI (1 : Int32))]) d_9_best_31 (by decide) rfl ?_
        obtain ⟨⟨e24, e25⟩, hl26, h⟩ := z_bd h
        replace h := z_h2 h
        refine zr_wk (l' := [some (zA 9 0), some (zI a1), some (zI a2), some (zI a3), some (zI (0 : Int32)), some (zI (1 : Int32))]) ⟨rfl, ⟨rfl, ⟨rfl, ⟨rfl, ⟨rfl, ⟨rfl, trivial⟩⟩⟩⟩⟩⟩ ?_
        refine z_loop (Hd := (z_u3 fun y0 y1 y2 => z_RQ P M_9_best (z_rm 11) (z_mq P (some (zI r)) μ') 0 0 33 [some (zA 9 0), some (zI a1), some (zI a2), some (zI a3), some (zI y0), some (zI y1)] [] y2)) (Ex := (z_u2 fun z0 z1 => z_RQ P M_9_best (z_rm 11) (z_mq P (some (zI r)) μ') 0 0 68 [some (zA 9 0), some (zI a1), some (zI a2), some (zI a3), some (zI z0), none] [] z1)) (fun ⟨x10, x11, xm12⟩ K h hI hE => s9_best_L9 a1 a2 a3 x10 x11 xm12 K h (fun y0 y1 y2 e => hI (y0, y1, y2) e) (fun z0 z1 e => hE (z0, z1) e) ) _ _ _ hl26 ?_
        refine zr_iload_n (i := 3) d_9_best_68 rfl rfl ?_
        refine zr_if_ne (tgt := 77) d_9_best_69 rfl (fun hc27 => ?_) (fun hc27 => ?_)
        · replace h := z_ip h hc27
          refine zr_iload d_9_best_72 rfl ?_
          refine zr_goto (tgt := 85) d_9_best_74 rfl ?_
          obtain ⟨rfl, rfl⟩ := Prod.mk.inj (Option.some.inj h)
          exact ze_i d_9_best_85 rfl
        · replace h := z_im h hc27
          refine zr_aload_n (i := 0) d_9_best_77 rfl rfl ?_
          refine zr_iload_n (i := 1) d_9_best_78 rfl rfl ?_
          refine zr_iload_n (i := 2) d_9_best_79 rfl rfl ?_
          refine zr_iload d_9_best_80 rfl ?_
          obtain ⟨⟨q28, qm29⟩, hq30, h⟩ := z_bd h
          replace h := z_h2 h
          refine zr_callVi (av := [zI a1, zI a2, zI e24]) (st := []) d_9_best_82 mw_9_gainBy ml_9_418 im_9_gainBy se_9_gainBy rfl rfl (Nat.le_of_ble_eq_true rfl) fit_10_4_11 rfl rfl rfl (s9_gainBy hq30) ?_
          obtain ⟨rfl, rfl⟩ := Prod.mk.inj (Option.some.inj h)
          exact ze_i d_9_best_85 rfl
def f9_gotBy_L3 (a2 : Int32) (qm1 : zMem) : (Int32 × Int32) → Option ((Int32 × Int32) ⊕ (Int32)) := (z_u2 fun x4 x5 => 
  if z_in (qm1.1 9 0 18) 2 = true then (if x5 < (qm1.1 126 0 (qm1.1 9 0 18).toNatClampNeg) then ((if x5 = a2 then some x4 else if z_in ((14 : Int32) + x5) 34 = true then z_let (x4 + (qm1.1 149 0 ((14 : Int32) + x5).toNatClampNeg)) fun v12 => some v12 else none) : Option (Int32)).bind (fun j14 => some (.inl (j14, (x5 + (1 : Int32))))) else some (.inr x4)) else none)
def f9_gotBy (a1 : Int32) (a2 : Int32) (μ : zMem) : Option (Int32 × zMem) :=
  (f9_goes a1 μ).bind (fun qm1 => (z_it (f9_gotBy_L3 a2 qm1) z_fu ((0 : Int32), (0 : Int32))).bind (fun e15 => some (e15, qm1)))
theorem s9_gotBy_L3 {P : zP} {ro : Option zV} {μo : zMem} (a2 : Int32) (qm1 : zMem) (x4 : Int32) (x5 : Int32) (K : (Int32 × Int32) ⊕ (Int32)) (h : f9_gotBy_L3 a2 qm1 (x4, x5) = some K) (hI : ∀ (y0 : Int32) (y1 : Int32), K = .inl (y0, y1) → z_RQ P M_9_gotBy (z_rm 10) (z_mq P ro μo) 0 0 10 [some (zA 9 0), none, some (zI a2), some (zI y0), some (zI y1)] [] qm1) (hE : ∀ (z0 : Int32), K = .inr z0 → z_RQ P M_9_gotBy (z_rm 10) (z_mq P ro μo) 0 0 49 [none, none, none, some (zI z0), none] [] qm1)  : z_RQ P M_9_gotBy (z_rm 10) (z_mq P ro μo) 0 0 10 [some (zA 9 0), none, some (zI a2), some (zI x4), some (zI x5)] [] qm1 := by
  unfold f9_gotBy_L3 at h
  replace h := z_h2 h
  refine zr_iload d_9_gotBy_10 rfl ?_
  refine zr_aload_n (i := 0) d_9_gotBy_12 rfl rfl ?_
  refine zr_gets (i' := 0) d_9_gotBy_13 fw_9_55 rfl ?_
  refine zr_aload_n (i := 0) d_9_gotBy_16 rfl rfl ?_
  refine zr_geti d_9_gotBy_17 fw_9_233 (by decide) ?_
  obtain ⟨hb6, h⟩ := z_gd h
  refine zr_iald d_9_gotBy_20 sa_126 rfl hb6 ?_
  refine zr_icmp_ge (tgt := 49) d_9_gotBy_21 rfl (fun hc7 => ?_) (fun hc7 => ?_)
  · replace h := z_ip h hc7
    refine zr_iload d_9_gotBy_24 rfl ?_
    refine zr_iload_n (i := 2) d_9_gotBy_26 rfl rfl ?_
    obtain ⟨j14, hT8, h⟩ := z_bd h
    have hJ9 : z_RQ P M_9_gotBy (z_rm 10) (z_mq P ro μo) 0 0 43 [some (zA 9 0), none, some (zI a2), some (zI j14), some (zI x5)] [] qm1 := by
      refine zr_iinc (v := (x5 + (1 : Int32))) (l' := [some (zA 9 0), none, some (zI a2), some (zI j14), some (zI (x5 + (1 : Int32)))]) d_9_gotBy_43 (by decide) rfl rfl rfl ?_
      refine zr_goto (tgt := 10) d_9_gotBy_46 rfl ?_
      obtain rfl := Option.some.inj h
      exact zr_wk2 (hI j14 (x5 + (1 : Int32)) rfl) ⟨rfl, ⟨rfl, ⟨rfl, ⟨rfl, trivial⟩⟩⟩⟩
    refine zr_icmp_eq (tgt := 43) d_9_gotBy_27 rfl (fun hc10 => ?_) (fun hc10 => ?_)
    · replace hT8 := z_ip hT8 hc10
      obtain rfl := Option.some.inj hT8
      exact zr_wk2 hJ9 ⟨rfl, ⟨rfl, ⟨rfl, ⟨rfl, trivial⟩⟩⟩⟩
    · replace hT8 := z_im hT8 hc10
      refine zr_iload_n (i := 3) d_9_gotBy_30 rfl rfl ?_
      refine zr_aload_n (i := 0) d_9_gotBy_31 rfl rfl ?_
      refine zr_gets (i' := 0) d_9_gotBy_32 fw_9_113 rfl ?_
      refine zr_bipush (v := (14 : Int32)) d_9_gotBy_35 rfl ?_
      refine zr_iload d_9_gotBy_37 rfl ?_
      refine zr_iadd d_9_gotBy_39 ?_
      obtain ⟨hb11, hT8⟩ := z_gd hT8
      refine zr_iald d_9_gotBy_40 sa_149 rfl hb11 ?_
      refine zr_iadd d_9_gotBy_41 ?_
      obtain ⟨v12, hv13, hT8⟩ := z_lt hT8
      refine zr_nm hv13 ?_
      refine zr_istore_n (i := 3) (l' := [some (zA 9 0), none, some (zI a2), some (zI v12), some (zI x5)]) d_9_gotBy_42 rfl (by decide) rfl ?_
      obtain rfl := Option.some.inj hT8
      exact zr_wk2 hJ9 ⟨rfl, ⟨rfl, ⟨rfl, ⟨rfl, trivial⟩⟩⟩⟩
  · replace h := z_im h hc7
    obtain rfl := Option.some.inj h
    exact zr_wk2 (hE x4 rfl) ⟨rfl, trivial⟩
theorem s9_gotBy {P : zP} {μ : zMem} {a1 : Int32} {a2 : Int32} {r : Int32} {μ' : zMem} (h : f9_gotBy a1 a2 μ = some (r, μ')) : z_Sp P y_9_gotBy M_9_gotBy 10 [zA 9 0, zI a1, zI a2] μ (some (zI r)) μ' := by
  refine z_Sp.of (plainFor_of_name (by decide)) rfl (l0 := [some (zA 9 0), some (zI a1), some (zI a2), none, none]) rfl (Nat.le_of_ble_eq_true rfl) ?_
  unfold f9_gotBy at h
  refine zr_aload_n (i := 0) d_9_gotBy_0 rfl rfl ?_
  refine zr_iload_n (i := 1) d_9_gotBy_1 rfl rfl ?_
  obtain ⟨qm1, hq2, h⟩ := z_bd h
  refine zr_callVv (av := [zI a1]) (st := []) d_9_gotBy_2 mw_9_goes ml_9_406 im_9_goes se_9_goes rfl rfl (Nat.le_of_ble_eq_true rfl) fit_9_3_10 rfl rfl rfl (s9_goes hq2) ?_
  refine zr_iconst (v := (0 : Int32)) d_9_gotBy_5 rfl ?_
  refine zr_istore_n (i := 3) (l' := [some (zA 9 0), some (zI a1), some (zI a2), some (zI (0 : Int32)), none]) d_9_gotBy_6 rfl (by decide) rfl ?_
  refine zr_iconst (v := (0 : Int32)) d_9_gotBy_7 rfl ?_
  refine zr_istore (i := 4) (l' := [some (zA 9 0), some (zI a1), some (zI a2), some (zI (0 : Int32)), some (zI (0 : Int32))]) d_9_gotBy_8 (by decide) rfl ?_
  obtain ⟨e15, hl16, h⟩ := z_bd h
  refine zr_wk (l' := [some (zA 9 0), none, some (zI a2), some (zI (0 : Int32)), some (zI (0 : Int32))]) ⟨rfl, ⟨rfl, ⟨rfl, ⟨rfl, trivial⟩⟩⟩⟩ ?_
  refine z_loop (Hd := (z_u2 fun y0 y1 => z_RQ P M_9_gotBy (z_rm 10) (z_mq P (some (zI r)) μ') 0 0 10 [some (zA 9 0), none, some (zI a2), some (zI y0), some (zI y1)] [] qm1)) (Ex := (fun z0 => z_RQ P M_9_gotBy (z_rm 10) (z_mq P (some (zI r)) μ') 0 0 49 [none, none, none, some (zI z0), none] [] qm1)) (fun ⟨x4, x5⟩ K h hI hE => s9_gotBy_L3 a2 qm1 x4 x5 K h (fun y0 y1 e => hI (y0, y1) e) (fun z0 e => hE z0 e) ) _ _ _ hl16 ?_
  refine zr_iload_n (i := 3) d_9_gotBy_49 rfl rfl ?_
  obtain ⟨rfl, rfl⟩ := Prod.mk.inj (Option.some.inj h)
  exact ze_i d_9_gotBy_50 rfl
