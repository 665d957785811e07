/-! 14.meth.lean.txt -/
def y_9_term : MethodName := ⟨zR9, "term", "()V"⟩
abbrev M_9_term : zM := (zR9, prog_11_method_31_code, 1, (Option.none : Option Jvm.ClassFile.FieldType))
def y_9_tellLaw : MethodName := ⟨zR9, "tellLaw", "(I)V"⟩
abbrev M_9_tellLaw : zM := (zR9, prog_11_method_30_code, 4, (Option.none : Option Jvm.ClassFile.FieldType))
def y_9_tellOne : MethodName := ⟨zR9, "tellOne", "()V"⟩
abbrev M_9_tellOne : zM := (zR9, prog_11_method_23_code, 2, (Option.none : Option Jvm.ClassFile.FieldType))
def y_9_read : MethodName := ⟨zR9, "read", "()I"⟩
abbrev M_9_read : zM := (zR9, prog_11_method_20_code, 2, (Option.some Jvm.ClassFile.FieldType.int))
def y_9_place : MethodName := ⟨zR9, "place", "()I"⟩
abbrev M_9_place : zM := (zR9, prog_11_method_21_code, 1, (Option.some Jvm.ClassFile.FieldType.int))
def y_9_termOf : MethodName := ⟨zR9, "termOf", "(II)I"⟩
abbrev M_9_termOf : zM := (zR9, prog_11_method_36_code, 8, (Option.some Jvm.ClassFile.FieldType.int))
def y_9_in : MethodName := ⟨zR9, "in", "(III)Z"⟩
abbrev M_9_in : zM := (zR9, prog_11_method_37_code, 3, (Option.some Jvm.ClassFile.FieldType.boolean))
def y_9_within : MethodName := ⟨zR9, "within", "(III)I"⟩
abbrev M_9_within : zM := (zR9, prog_11_method_38_code, 3, (Option.some Jvm.ClassFile.FieldType.int))
def y_9_bits : MethodName := ⟨zR9, "bits", "(I)I"⟩
abbrev M_9_bits : zM := (zR9, prog_11_method_39_code, 3, (Option.some Jvm.ClassFile.FieldType.int))
def y_9_isHouse : MethodName := ⟨zR9, "isHouse", "(I)Z"⟩
abbrev M_9_isHouse : zM := (zR9, prog_11_method_40_code, 2, (Option.some Jvm.ClassFile.FieldType.boolean))
def y_9_isPerson : MethodName := ⟨zR9, "isPerson", "(I)Z"⟩
abbrev M_9_isPerson : zM := (zR9, prog_11_method_41_code, 2, (Option.some Jvm.ClassFile.FieldType.boolean))
def y_9_isNow : MethodName := ⟨zR9, "isNow", "(II)Z"⟩
abbrev M_9_isNow : zM := (zR9, prog_11_method_42_code, 3, (Option.some Jvm.ClassFile.FieldType.boolean))
def y_9_copies : MethodName := ⟨zR9, "copies", "()V"⟩
abbrev M_9_copies : zM := (zR9, prog_11_method_45_code, 2, (Option.none : Option Jvm.ClassFile.FieldType))
def y_9_copiesStill : MethodName := ⟨zR9, "copiesStill", "()V"⟩
abbrev M_9_copiesStill : zM := (zR9, prog_11_method_46_code, 1, (Option.none : Option Jvm.ClassFile.FieldType))
def y_9_mixed : MethodName := ⟨zR9, "mixed", "(II)I"⟩
abbrev M_9_mixed : zM := (zR9, prog_11_method_47_code, 3, (Option.some Jvm.ClassFile.FieldType.int))
def y_9_isLot : MethodName := ⟨zR9, "isLot", "(II)Z"⟩
abbrev M_9_isLot : zM := (zR9, prog_11_method_48_code, 3, (Option.some Jvm.ClassFile.FieldType.boolean))
def y_9_hasRight : MethodName := ⟨zR9, "hasRight", "(II)Z"⟩
abbrev M_9_hasRight : zM := (zR9, prog_11_method_49_code, 3, (Option.some Jvm.ClassFile.FieldType.boolean))
def y_9_longestBut : MethodName := ⟨zR9, "longestBut", "(II)I"⟩
abbrev M_9_longestBut : zM := (zR9, prog_11_method_50_code, 5, (Option.some Jvm.ClassFile.FieldType.int))
def y_9_lordOf : MethodName := ⟨zR9, "lordOf", "(I)I"⟩
abbrev M_9_lordOf : zM := (zR9, prog_11_method_51_code, 2, (Option.some Jvm.ClassFile.FieldType.int))
def y_9_lordBits : MethodName := ⟨zR9, "lordBits", "(I)I"⟩
abbrev M_9_lordBits : zM := (zR9, prog_11_method_52_code, 4, (Option.some Jvm.ClassFile.FieldType.int))
def y_9_rightBits : MethodName := ⟨zR9, "rightBits", "(I)I"⟩
abbrev M_9_rightBits : zM := (zR9, prog_11_method_53_code, 4, (Option.some Jvm.ClassFile.FieldType.int))
def y_9_inState : MethodName := ⟨zR9, "inState", "(I)I"⟩
abbrev M_9_inState : zM := (zR9, prog_11_method_54_code, 4, (Option.some Jvm.ClassFile.FieldType.int))
def y_9_ageNow : MethodName := ⟨zR9, "ageNow", "(I)I"⟩
abbrev M_9_ageNow : zM := (zR9, prog_11_method_55_code, 2, (Option.some Jvm.ClassFile.FieldType.int))
def y_9_lawTells : MethodName := ⟨zR9, "lawTells", "(II)I"⟩
abbrev M_9_lawTells : zM := (zR9, prog_11_method_56_code, 7, (Option.some Jvm.ClassFile.FieldType.int))
def y_9_looks : MethodName := ⟨zR9, "looks", "(I)V"⟩
abbrev M_9_looks : zM := (zR9, prog_11_method_57_code, 4, (Option.none : Option Jvm.ClassFile.FieldType))
def y_9_chanceOf : MethodName := ⟨zR9, "chanceOf", "(II)I"⟩
abbrev M_9_chanceOf : zM := (zR9, prog_11_method_58_code, 3, (Option.some Jvm.ClassFile.FieldType.int))
def y_9_rentsOf : MethodName := ⟨zR9, "rentsOf", "(I)I"⟩
abbrev M_9_rentsOf : zM := (zR9, prog_11_method_59_code, 3, (Option.some Jvm.ClassFile.FieldType.int))
def y_9_whatDoes : MethodName := ⟨zR9, "whatDoes", "(I)I"⟩
abbrev M_9_whatDoes : zM := (zR9, prog_11_method_60_code, 3, (Option.some Jvm.ClassFile.FieldType.int))
def y_9_becomes : MethodName := ⟨zR9, "becomes", "(II)V"⟩
abbrev M_9_becomes : zM := (zR9, prog_11_method_61_code, 3, (Option.none : Option Jvm.ClassFile.FieldType))
def y_9_does : MethodName := ⟨zR9, "does", "(I)V"⟩
abbrev M_9_does : zM := (zR9, prog_11_method_62_code, 2, (Option.none : Option Jvm.ClassFile.FieldType))
def y_9_yearGoes : MethodName := ⟨zR9, "yearGoes", "()V"⟩
abbrev M_9_yearGoes : zM := (zR9, prog_11_method_63_code, 2, (Option.none : Option Jvm.ClassFile.FieldType))
theorem fw_9_89 : z_FW zR9 89 9 38 (2, 138, fun i => i) := ⟨_, _, rfl, rfl, rfl, by decide, z_m5 (List.mem_of_getElem? (i := 186) rfl) rfl⟩
theorem fw_9_242 : z_FW zR9 242 9 34 (0, 0, fun i => i) := ⟨_, _, rfl, rfl, rfl, by decide, z_m5 (List.mem_of_getElem? (i := 182) rfl) rfl⟩
theorem sa_138 : z_SA 138 0 := ⟨rfl, rfl, by decide⟩
theorem mw_9_expression : z_MW y_9_expression M_9_expression 0 := ⟨z_m1 (List.mem_of_getElem? (i := 10) rfl) rfl, z_m6 (List.mem_of_getElem? (i := 205) rfl) rfl, by decide, by decide, by decide +kernel⟩
theorem ml_9_289 : Cond.methodLink zR9 289 y_9_expression ∈ lw_gd := z_m6 (List.mem_of_getElem? (i := 202) rfl) rfl
theorem im_9_expression : Cond.instanceMethod y_9_expression ∈ lw_gd := z_m6 (List.mem_of_getElem? (i := 204) rfl) rfl
theorem se_9_expression : Cond.selects y_9_expression.cls y_9_expression y_9_expression ∈ lw_gd := z_s (q := (y_9_expression, _)) (List.mem_of_getElem? (i := 83) rfl)
theorem fw_9_92 : z_FW zR9 92 9 39 (2, 139, fun i => i) := ⟨_, _, rfl, rfl, rfl, by decide, z_m5 (List.mem_of_getElem? (i := 187) rfl) rfl⟩
theorem sa_139 : z_SA 139 0 := ⟨rfl, rfl, by decide⟩
theorem pw_9_34 : z_PW 9 34 (.int) := fun _ _ h1 h2 => by
  cases h1
  cases h2
  exact ⟨rfl, by decide +kernel⟩
theorem fit_3_2_6 : z_fit (z_rm 6) 0 0 3 2 := ⟨by decide, by decide, by decide, by decide⟩
theorem fit_2_1_6 : z_fit (z_rm 6) 0 0 2 1 := ⟨by decide, by decide, by decide, by decide⟩
theorem fw_9_79 : z_FW zR9 79 9 35 (2, 135, fun i => i) := ⟨_, _, rfl, rfl, rfl, by decide, z_m5 (List.mem_of_getElem? (i := 183) rfl) rfl⟩
theorem sa_135 : z_SA 135 2 := ⟨rfl, rfl, by decide⟩
theorem fw_9_83 : z_FW zR9 83 9 36 (2, 136, fun i => i) := ⟨_, _, rfl, rfl, rfl, by decide, z_m5 (List.mem_of_getElem? (i := 184) rfl) rfl⟩
theorem sa_136 : z_SA 136 0 := ⟨rfl, rfl, by decide⟩
theorem fit_4_3_6 : z_fit (z_rm 6) 0 0 4 3 := ⟨by decide, by decide, by decide, by decide⟩
theorem fw_9_86 : z_FW zR9 86 9 37 (2, 137, fun i => i) := ⟨_, _, rfl, rfl, rfl, by decide, z_m5 (List.mem_of_getElem? (i := 185) rfl) rfl⟩
theorem sa_137 : z_SA 137 0 := ⟨rfl, rfl, by decide⟩
theorem mw_9_term : z_MW y_9_term M_9_term 0 := ⟨z_m1 (List.mem_of_getElem? (i := 10) rfl) rfl, z_m6 (List.mem_of_getElem? (i := 221) rfl) rfl, by decide, by decide, by decide +kernel⟩
theorem fit_5_1_6 : z_fit (z_rm 6) 0 0 5 1 := ⟨by decide, by decide, by decide, by decide⟩
theorem ml_9_292 : Cond.methodLink zR9 292 y_9_term ∈ lw_gd := z_m6 (List.mem_of_getElem? (i := 218) rfl) rfl
theorem im_9_term : Cond.instanceMethod y_9_term ∈ lw_gd := z_m6 (List.mem_of_getElem? (i := 220) rfl) rfl
theorem se_9_term : Cond.selects y_9_term.cls y_9_term y_9_term ∈ lw_gd := z_s (q := (y_9_term, _)) (List.mem_of_getElem? (i := 87) rfl)
theorem mw_9_roomFor : z_MW y_9_roomFor M_9_roomFor 2 := ⟨z_m1 (List.mem_of_getElem? (i := 10) rfl) rfl, z_m6 (List.mem_of_getElem? (i := 157) rfl) rfl, by decide, by decide, by decide +kernel⟩
theorem fit_3_3_7 : z_fit (z_rm 7) 0 0 3 3 := ⟨by decide, by decide, by decide, by decide⟩
theorem ml_9_257 : Cond.methodLink zR9 257 y_9_roomFor ∈ lw_gd := z_m6 (List.mem_of_getElem? (i := 154) rfl) rfl
theorem im_9_roomFor : Cond.instanceMethod y_9_roomFor ∈ lw_gd := z_m6 (List.mem_of_getElem? (i := 156) rfl) rfl
theorem se_9_roomFor : Cond.selects y_9_roomFor.cls y_9_roomFor y_9_roomFor ∈ lw_gd := z_s (q := (y_9_roomFor, _)) (List.mem_of_getElem? (i := 71) rfl)
theorem mw_9_named : z_MW y_9_named M_9_named 0 := ⟨z_m1 (List.mem_of_getElem? (i := 10) rfl) rfl, z_m6 (List.mem_of_getElem? (i := 169) rfl) rfl, by decide, by decide, by decide +kernel⟩
theorem fit_4_3_7 : z_fit (z_rm 7) 0 0 4 3 := ⟨by decide, by decide, by decide, by decide⟩
theorem ml_9_261 : Cond.methodLink zR9 261 y_9_named ∈ lw_gd := z_m6 (List.mem_of_getElem? (i := 166) rfl) rfl
theorem im_9_named : Cond.instanceMethod y_9_named ∈ lw_gd := z_m6 (List.mem_of_getElem? (i := 168) rfl) rfl
theorem se_9_named : Cond.selects y_9_named.cls y_9_named y_9_named ∈ lw_gd := z_s (q := (y_9_named, _)) (List.mem_of_getElem? (i := 74) rfl)
theorem fw_9_49 : z_FW zR9 49 9 24 (2, 124, fun i => i) := ⟨_, _, rfl, rfl, rfl, by decide, z_m5 (List.mem_of_getElem? (i := 172) rfl) rfl⟩
theorem sa_124 : z_SA 124 0 := ⟨rfl, rfl, by decide⟩
theorem mw_9_endsName : z_MW y_9_endsName M_9_endsName 2 := ⟨z_m1 (List.mem_of_getElem? (i := 10) rfl) rfl, z_m6 (List.mem_of_getElem? (i := 185) rfl) rfl, by decide, by decide, by decide +kernel⟩
theorem ml_9_268 : Cond.methodLink zR9 268 y_9_endsName ∈ lw_gd := z_m6 (List.mem_of_getElem? (i := 182) rfl) rfl
theorem im_9_endsName : Cond.instanceMethod y_9_endsName ∈ lw_gd := z_m6 (List.mem_of_getElem? (i := 184) rfl) rfl
theorem se_9_endsName : Cond.selects y_9_endsName.cls y_9_endsName y_9_endsName ∈ lw_gd := z_s (q := (y_9_endsName, _)) (List.mem_of_getElem? (i := 78) rfl)
theorem fw_9_58 : z_FW zR9 58 9 27 (2, 127, fun i => i) := ⟨_, _, rfl, rfl, rfl, by decide, z_m5 (List.mem_of_getElem? (i := 175) rfl) rfl⟩
theorem sa_127 : z_SA 127 0 := ⟨rfl, rfl, by decide⟩
theorem mw_9_tellRight : z_MW y_9_tellRight M_9_tellRight 0 := ⟨z_m1 (List.mem_of_getElem? (i := 10) rfl) rfl, z_m6 (List.mem_of_getElem? (i := 189) rfl) rfl, by decide, by decide, by decide +kernel⟩
theorem fit_5_5_7 : z_fit (z_rm 7) 0 0 5 5 := ⟨by decide, by decide, by decide, by decide⟩
theorem ml_9_271 : Cond.methodLink zR9 271 y_9_tellRight ∈ lw_gd := z_m6 (List.mem_of_getElem? (i := 186) rfl) rfl
theorem im_9_tellRight : Cond.instanceMethod y_9_tellRight ∈ lw_gd := z_m6 (List.mem_of_getElem? (i := 188) rfl) rfl
theorem se_9_tellRight : Cond.selects y_9_tellRight.cls y_9_tellRight y_9_tellRight ∈ lw_gd := z_s (q := (y_9_tellRight, _)) (List.mem_of_getElem? (i := 79) rfl)
theorem mw_9_tellAway : z_MW y_9_tellAway M_9_tellAway 0 := ⟨z_m1 (List.mem_of_getElem? (i := 10) rfl) rfl, z_m6 (List.mem_of_getElem? (i := 197) rfl) rfl, by decide, by decide, by decide +kernel⟩
theorem fit_5_3_7 : z_fit (z_rm 7) 0 0 5 3 := ⟨by decide, by decide, by decide, by decide⟩
theorem ml_9_274 : Cond.methodLink zR9 274 y_9_tellAway ∈ lw_gd := z_m6 (List.mem_of_getElem? (i := 194) rfl) rfl
theorem im_9_tellAway : Cond.instanceMethod y_9_tellAway ∈ lw_gd := z_m6 (List.mem_of_getElem? (i := 196) rfl) rfl
theorem se_9_tellAway : Cond.selects y_9_tellAway.cls y_9_tellAway y_9_tellAway ∈ lw_gd := z_s (q := (y_9_tellAway, _)) (List.mem_of_getElem? (i := 81) rfl)
theorem fit_2_1_7 : z_fit (z_rm 7) 0 0 2 1 := ⟨by decide, by decide, by decide, by decide⟩
theorem mw_9_tellLaw : z_MW y_9_tellLaw M_9_tellLaw 1 := ⟨z_m1 (List.mem_of_getElem? (i := 10) rfl) rfl, z_m6 (List.mem_of_getElem? (i := 201) rfl) rfl, by decide, by decide, by decide +kernel⟩
theorem fit_6_4_7 : z_fit (z_rm 7) 0 0 6 4 := ⟨by decide, by decide, by decide, by decide⟩
theorem ml_9_280 : Cond.methodLink zR9 280 y_9_tellLaw ∈ lw_gd := z_m6 (List.mem_of_getElem? (i := 198) rfl) rfl
theorem im_9_tellLaw : Cond.instanceMethod y_9_tellLaw ∈ lw_gd := z_m6 (List.mem_of_getElem? (i := 200) rfl) rfl
theorem se_9_tellLaw : Cond.selects y_9_tellLaw.cls y_9_tellLaw y_9_tellLaw ∈ lw_gd := z_s (q := (y_9_tellLaw, _)) (List.mem_of_getElem? (i := 82) rfl)
theorem fit_3_2_7 : z_fit (z_rm 7) 0 0 3 2 := ⟨by decide, by decide, by decide, by decide⟩
theorem pw_9_4 : z_PW 9 4 (.int) := fun _ _ h1 h2 => by
  cases h1
  cases h2
  exact ⟨rfl, by decide +kernel⟩
theorem mw_9_cut : z_MW y_9_cut M_9_cut 0 := ⟨z_m1 (List.mem_of_getElem? (i := 10) rfl) rfl, z_m6 (List.mem_of_getElem? (i := 127) rfl) rfl, by decide, by decide, by decide +kernel⟩
theorem fit_3_8_8 : z_fit (z_rm 8) 0 0 3 8 := ⟨by decide, by decide, by decide, by decide⟩
theorem ml_9_227 : Cond.methodLink zR9 227 y_9_cut ∈ lw_gd := z_m6 (List.mem_of_getElem? (i := 124) rfl) rfl
theorem im_9_cut : Cond.instanceMethod y_9_cut ∈ lw_gd := z_m6 (List.mem_of_getElem? (i := 126) rfl) rfl
theorem se_9_cut : Cond.selects y_9_cut.cls y_9_cut y_9_cut ∈ lw_gd := z_s (q := (y_9_cut, _)) (List.mem_of_getElem? (i := 65) rfl)
theorem pw_9_19 : z_PW 9 19 (.int) := fun _ _ h1 h2 => by
  cases h1
  cases h2
  exact ⟨rfl, by decide +kernel⟩
theorem mw_9_plain : z_MW y_9_plain M_9_plain 1 := ⟨z_m1 (List.mem_of_getElem? (i := 10) rfl) rfl, z_m5 (List.mem_of_getElem? (i := 133) rfl) rfl, by decide, by decide, by decide +kernel⟩
theorem fit_1_3_8 : z_fit (z_rm 8) 0 0 1 3 := ⟨by decide, by decide, by decide, by decide⟩
theorem ml_9_152 : Cond.methodLink zR9 152 y_9_plain ∈ lw_gd := z_m5 (List.mem_of_getElem? (i := 130) rfl) rfl
theorem im_9_plain : Cond.instanceMethod y_9_plain ∈ lw_gd := z_m5 (List.mem_of_getElem? (i := 132) rfl) rfl
theorem se_9_plain : Cond.selects y_9_plain.cls y_9_plain y_9_plain ∈ lw_gd := z_s (q := (y_9_plain, _)) (List.mem_of_getElem? (i := 61) rfl)
theorem mw_9_tellOne : z_MW y_9_tellOne M_9_tellOne 0 := ⟨z_m1 (List.mem_of_getElem? (i := 10) rfl) rfl, z_m6 (List.mem_of_getElem? (i := 153) rfl) rfl, by decide, by decide, by decide +kernel⟩
theorem fit_7_2_8 : z_fit (z_rm 8) 0 0 7 2 := ⟨by decide, by decide, by decide, by decide⟩
theorem ml_9_248 : Cond.methodLink zR9 248 y_9_tellOne ∈ lw_gd := z_m6 (List.mem_of_getElem? (i := 150) rfl) rfl
theorem im_9_tellOne : Cond.instanceMethod y_9_tellOne ∈ lw_gd := z_m6 (List.mem_of_getElem? (i := 152) rfl) rfl
theorem se_9_tellOne : Cond.selects y_9_tellOne.cls y_9_tellOne y_9_tellOne ∈ lw_gd := z_s (q := (y_9_tellOne, _)) (List.mem_of_getElem? (i := 70) rfl)
theorem fw_9_37 : z_FW zR9 37 9 17 (0, 0, fun i => i) := ⟨_, _, rfl, rfl, rfl, by decide, z_m5 (List.mem_of_getElem? (i := 165) rfl) rfl⟩
theorem pw_9_17 : z_PW 9 17 (.int) := fun _ _ h1 h2 => by
  cases h1
  cases h2
  exact ⟨rfl, by decide +kernel⟩
theorem pw_9_18 : z_PW 9 18 (.int) := fun _ _ h1 h2 => by
  cases h1
  cases h2
  exact ⟨rfl, by decide +kernel⟩
theorem mw_9_begins : z_MW y_9_begins M_9_begins 0 := ⟨z_m1 (List.mem_of_getElem? (i := 10) rfl) rfl, z_m5 (List.mem_of_getElem? (i := 144) rfl) rfl, by decide, by decide, by decide +kernel⟩
theorem ml_9_160 : Cond.methodLink zR9 160 y_9_begins ∈ lw_gd := z_m5 (List.mem_of_getElem? (i := 141) rfl) rfl
theorem im_9_begins : Cond.instanceMethod y_9_begins ∈ lw_gd := z_m5 (List.mem_of_getElem? (i := 143) rfl) rfl
theorem se_9_begins : Cond.selects y_9_begins.cls y_9_begins y_9_begins ∈ lw_gd := z_s (q := (y_9_begins, _)) (List.mem_of_getElem? (i := 62) rfl)
theorem mw_9_keepsRow : z_MW y_9_keepsRow M_9_keepsRow 0 := ⟨z_m1 (List.mem_of_getElem? (i := 10) rfl) rfl, z_m5 (List.mem_of_getElem? (i := 148) rfl) rfl, by decide, by decide, by decide +kernel⟩
theorem ml_9_163 : Cond.methodLink zR9 163 y_9_keepsRow ∈ lw_gd := z_m5 (List.mem_of_getElem? (i := 145) rfl) rfl
theorem im_9_keepsRow : Cond.instanceMethod y_9_keepsRow ∈ lw_gd := z_m5 (List.mem_of_getElem? (i := 147) rfl) rfl
theorem se_9_keepsRow : Cond.selects y_9_keepsRow.cls y_9_keepsRow y_9_keepsRow ∈ lw_gd := z_s (q := (y_9_keepsRow, _)) (List.mem_of_getElem? (i := 63) rfl)
theorem fw_9_251 : z_FW zR9 251 9 55 (0, 0, fun i => i) := ⟨_, _, rfl, rfl, rfl, by decide, z_m5 (List.mem_of_getElem? (i := 203) rfl) rfl⟩
theorem pw_9_55 : z_PW 9 55 (.int) := fun _ _ h1 h2 => by
  cases h1
  cases h2
  exact ⟨rfl, by decide +kernel⟩
theorem fw_9_254 : z_FW zR9 254 9 58 (0, 0, fun i => i) := ⟨_, _, rfl, rfl, rfl, by decide, z_m5 (List.mem_of_getElem? (i := 206) rfl) rfl⟩
theorem pw_9_58 : z_PW 9 58 (.int) := fun _ _ h1 h2 => by
  cases h1
  cases h2
  exact ⟨rfl, by decide +kernel⟩
theorem fw_9_146 : z_FW zR9 146 9 64 (2, 164, fun i => i) := ⟨_, _, rfl, rfl, rfl, by decide, z_m5 (List.mem_of_getElem? (i := 212) rfl) rfl⟩
theorem sa_164 : z_SA 164 2 := ⟨rfl, rfl, by decide⟩
theorem fw_9_107 : z_FW zR9 107 9 46 (2, 146, fun i => i) := ⟨_, _, rfl, rfl, rfl, by decide, z_m5 (List.mem_of_getElem? (i := 194) rfl) rfl⟩
theorem fw_9_104 : z_FW zR9 104 9 45 (2, 145, fun i => i) := ⟨_, _, rfl, rfl, rfl, by decide, z_m5 (List.mem_of_getElem? (i := 193) rfl) rfl⟩
theorem sa_145 : z_SA 145 0 := ⟨rfl, rfl, by decide⟩
theorem sa_146 : z_SA 146 0 := ⟨rfl, rfl, by decide⟩
theorem fw_9_308 : z_FW zR9 308 9 47 (1, 0, fun i => i) := ⟨_, _, rfl, rfl, rfl, by decide, z_m5 (List.mem_of_getElem? (i := 195) rfl) rfl⟩
theorem pw_9_47 : z_PW 9 47 (.boolean) := fun _ _ h1 h2 => by
  cases h1
  cases h2
  exact ⟨rfl, by decide +kernel⟩
theorem mw_9_in : z_MW y_9_in M_9_in 3 := ⟨z_m1 (List.mem_of_getElem? (i := 10) rfl) rfl, z_m6 (List.mem_of_getElem? (i := 236) rfl) rfl, by decide, by decide, by decide +kernel⟩
theorem ml_9_312 : Cond.methodLink zR9 312 y_9_in ∈ lw_gd := z_m6 (List.mem_of_getElem? (i := 234) rfl) rfl
theorem is_9_in : Cond.static y_9_in ∈ lw_gd := z_m6 (List.mem_of_getElem? (i := 235) rfl) rfl
theorem mw_9_isPerson : z_MW y_9_isPerson M_9_isPerson 1 := ⟨z_m1 (List.mem_of_getElem? (i := 10) rfl) rfl, z_m7 (List.mem_of_getElem? (i := 58) rfl) rfl, by decide, by decide, by decide +kernel⟩
theorem ml_9_316 : Cond.methodLink zR9 316 y_9_isPerson ∈ lw_gd := z_m7 (List.mem_of_getElem? (i := 55) rfl) rfl
theorem im_9_isPerson : Cond.instanceMethod y_9_isPerson ∈ lw_gd := z_m7 (List.mem_of_getElem? (i := 57) rfl) rfl
theorem se_9_isPerson : Cond.selects y_9_isPerson.cls y_9_isPerson y_9_isPerson ∈ lw_gd := z_s (q := (y_9_isPerson, _)) (List.mem_of_getElem? (i := 101) rfl)
theorem mw_9_copies : z_MW y_9_copies M_9_copies 0 := ⟨z_m1 (List.mem_of_getElem? (i := 10) rfl) rfl, z_m7 (List.mem_of_getElem? (i := 0) rfl) rfl, by decide, by decide, by decide +kernel⟩
theorem ml_9_325 : Cond.methodLink zR9 325 y_9_copies ∈ lw_gd := z_m6 (List.mem_of_getElem? (i := 237) rfl) rfl
theorem im_9_copies : Cond.instanceMethod y_9_copies ∈ lw_gd := z_m6 (List.mem_of_getElem? (i := 239) rfl) rfl
theorem se_9_copies : Cond.selects y_9_copies.cls y_9_copies y_9_copies ∈ lw_gd := z_s (q := (y_9_copies, _)) (List.mem_of_getElem? (i := 89) rfl)
theorem kc_9_328 : Cond.constant zR9 328 (1103515245 : Int32) ∈ lw_gd := z_m7 (List.mem_of_getElem? (i := 121) rfl) rfl
theorem mw_9_mixed : z_MW y_9_mixed M_9_mixed 2 := ⟨z_m1 (List.mem_of_getElem? (i := 10) rfl) rfl, z_m7 (List.mem_of_getElem? (i := 120) rfl) rfl, by decide, by decide, by decide +kernel⟩
theorem ml_9_329 : Cond.methodLink zR9 329 y_9_mixed ∈ lw_gd := z_m7 (List.mem_of_getElem? (i := 118) rfl) rfl
theorem is_9_mixed : Cond.static y_9_mixed ∈ lw_gd := z_m7 (List.mem_of_getElem? (i := 119) rfl) rfl
theorem mw_9_hasRight : z_MW y_9_hasRight M_9_hasRight 2 := ⟨z_m1 (List.mem_of_getElem? (i := 10) rfl) rfl, z_m7 (List.mem_of_getElem? (i := 12) rfl) rfl, by decide, by decide, by decide +kernel⟩
theorem ml_9_333 : Cond.methodLink zR9 333 y_9_hasRight ∈ lw_gd := z_m7 (List.mem_of_getElem? (i := 9) rfl) rfl
theorem im_9_hasRight : Cond.instanceMethod y_9_hasRight ∈ lw_gd := z_m7 (List.mem_of_getElem? (i := 11) rfl) rfl
theorem se_9_hasRight : Cond.selects y_9_hasRight.cls y_9_hasRight y_9_hasRight ∈ lw_gd := z_s (q := (y_9_hasRight, _)) (List.mem_of_getElem? (i := 92) rfl)
theorem mw_9_longestBut : z_MW y_9_longestBut M_9_longestBut 2 := ⟨z_m1 (List.mem_of_getElem? (i := 10) rfl) rfl, z_m7 (List.mem_of_getElem? (i := 8) rfl) rfl, by decide, by decide, by decide +kernel⟩
theorem ml_9_337 : Cond.methodLink zR9 337 y_9_longestBut ∈ lw_gd := z_m7 (List.mem_of_getElem? (i := 5) rfl) rfl
theorem im_9_longestBut : Cond.instanceMethod y_9_longestBut ∈ lw_gd := z_m7 (List.mem_of_getElem? (i := 7) rfl) rfl
theorem se_9_longestBut : Cond.selects y_9_longestBut.cls y_9_longestBut y_9_longestBut ∈ lw_gd := z_s (q := (y_9_longestBut, _)) (List.mem_of_getElem? (i := 91) rfl)
theorem mw_9_lordOf : z_MW y_9_lordOf M_9_lordOf 1 := ⟨z_m1 (List.mem_of_getElem? (i := 10) rfl) rfl, z_m7 (List.mem_of_getElem? (i := 4) rfl) rfl, by decide, by decide, by decide +kernel⟩
theorem ml_9_340 : Cond.methodLink zR9 340 y_9_lordOf ∈ lw_gd := z_m7 (List.mem_of_getElem? (i := 1) rfl) rfl
theorem im_9_lordOf : Cond.instanceMethod y_9_lordOf ∈ lw_gd := z_m7 (List.mem_of_getElem? (i := 3) rfl) rfl
theorem se_9_lordOf : Cond.selects y_9_lordOf.cls y_9_lordOf y_9_lordOf ∈ lw_gd := z_s (q := (y_9_lordOf, _)) (List.mem_of_getElem? (i := 90) rfl)
theorem mw_9_termOf : z_MW y_9_termOf M_9_termOf 2 := ⟨z_m1 (List.mem_of_getElem? (i := 10) rfl) rfl, z_m7 (List.mem_of_getElem? (i := 47) rfl) rfl, by decide, by decide, by decide +kernel⟩
theorem fit_1_8_2 : z_fit (z_rm 2) 0 0 1 8 := ⟨by decide, by decide, by decide, by decide⟩
theorem ml_9_343 : Cond.methodLink zR9 343 y_9_termOf ∈ lw_gd := z_m7 (List.mem_of_getElem? (i := 44) rfl) rfl
theorem im_9_termOf : Cond.instanceMethod y_9_termOf ∈ lw_gd := z_m7 (List.mem_of_getElem? (i := 46) rfl) rfl
theorem se_9_termOf : Cond.selects y_9_termOf.cls y_9_termOf y_9_termOf ∈ lw_gd := z_s (q := (y_9_termOf, _)) (List.mem_of_getElem? (i := 100) rfl)
theorem mw_9_lordBits : z_MW y_9_lordBits M_9_lordBits 1 := ⟨z_m1 (List.mem_of_getElem? (i := 10) rfl) rfl, z_m7 (List.mem_of_getElem? (i := 24) rfl) rfl, by decide, by decide, by decide +kernel⟩
theorem ml_9_346 : Cond.methodLink zR9 346 y_9_lordBits ∈ lw_gd := z_m7 (List.mem_of_getElem? (i := 21) rfl) rfl
theorem im_9_lordBits : Cond.instanceMethod y_9_lordBits ∈ lw_gd := z_m7 (List.mem_of_getElem? (i := 23) rfl) rfl
theorem se_9_lordBits : Cond.selects y_9_lordBits.cls y_9_lordBits y_9_lordBits ∈ lw_gd := z_s (q := (y_9_lordBits, _)) (List.mem_of_getElem? (i := 95) rfl)
theorem mw_9_ageNow : z_MW y_9_ageNow M_9_ageNow 1 := ⟨z_m1 (List.mem_of_getElem? (i := 10) rfl) rfl, z_m7 (List.mem_of_getElem? (i := 28) rfl) rfl, by decide, by decide, by decide +kernel⟩
theorem ml_9_349 : Cond.methodLink zR9 349 y_9_ageNow ∈ lw_gd := z_m7 (List.mem_of_getElem? (i := 25) rfl) rfl
theorem im_9_ageNow : Cond.instanceMethod y_9_ageNow ∈ lw_gd := z_m7 (List.mem_of_getElem? (i := 27) rfl) rfl
theorem se_9_ageNow : Cond.selects y_9_ageNow.cls y_9_ageNow y_9_ageNow ∈ lw_gd := z_s (q := (y_9_ageNow, _)) (List.mem_of_getElem? (i := 96) rfl)
theorem mw_9_rightBits : z_MW y_9_rightBits M_9_rightBits 1 := ⟨z_m1 (List.mem_of_getElem? (i := 10) rfl) rfl, z_m7 (List.mem_of_getElem? (i := 32) rfl) rfl, by decide, by decide, by decide +kernel⟩
theorem fit_2_4_5 : z_fit (z_rm 5) 0 0 2 4 := ⟨by decide, by decide, by decide, by decide⟩
theorem ml_9_352 : Cond.methodLink zR9 352 y_9_rightBits ∈ lw_gd := z_m7 (List.mem_of_getElem? (i := 29) rfl) rfl
theorem im_9_rightBits : Cond.instanceMethod y_9_rightBits ∈ lw_gd := z_m7 (List.mem_of_getElem? (i := 31) rfl) rfl
theorem se_9_rightBits : Cond.selects y_9_rightBits.cls y_9_rightBits y_9_rightBits ∈ lw_gd := z_s (q := (y_9_rightBits, _)) (List.mem_of_getElem? (i := 97) rfl)
theorem mw_9_bits : z_MW y_9_bits M_9_bits 1 := ⟨z_m1 (List.mem_of_getElem? (i := 10) rfl) rfl, z_m7 (List.mem_of_getElem? (i := 35) rfl) rfl, by decide, by decide, by decide +kernel⟩
theorem fit_1_3_5 : z_fit (z_rm 5) 0 0 1 3 := ⟨by decide, by decide, by decide, by decide⟩
theorem ml_9_355 : Cond.methodLink zR9 355 y_9_bits ∈ lw_gd := z_m7 (List.mem_of_getElem? (i := 33) rfl) rfl
theorem is_9_bits : Cond.static y_9_bits ∈ lw_gd := z_m7 (List.mem_of_getElem? (i := 34) rfl) rfl
theorem mw_9_inState : z_MW y_9_inState M_9_inState 1 := ⟨z_m1 (List.mem_of_getElem? (i := 10) rfl) rfl, z_m7 (List.mem_of_getElem? (i := 39) rfl) rfl, by decide, by decide, by decide +kernel⟩
theorem ml_9_358 : Cond.methodLink zR9 358 y_9_inState ∈ lw_gd := z_m7 (List.mem_of_getElem? (i := 36) rfl) rfl
theorem im_9_inState : Cond.instanceMethod y_9_inState ∈ lw_gd := z_m7 (List.mem_of_getElem? (i := 38) rfl) rfl
theorem se_9_inState : Cond.selects y_9_inState.cls y_9_inState y_9_inState ∈ lw_gd := z_s (q := (y_9_inState, _)) (List.mem_of_getElem? (i := 98) rfl)
theorem mw_9_looks : z_MW y_9_looks M_9_looks 1 := ⟨z_m1 (List.mem_of_getElem? (i := 10) rfl) rfl, z_m7 (List.mem_of_getElem? (i := 20) rfl) rfl, by decide, by decide, by decide +kernel⟩
theorem fit_5_4_6 : z_fit (z_rm 6) 0 0 5 4 := ⟨by decide, by decide, by decide, by decide⟩
theorem ml_9_361 : Cond.methodLink zR9 361 y_9_looks ∈ lw_gd := z_m7 (List.mem_of_getElem? (i := 17) rfl) rfl
theorem im_9_looks : Cond.instanceMethod y_9_looks ∈ lw_gd := z_m7 (List.mem_of_getElem? (i := 19) rfl) rfl
theorem se_9_looks : Cond.selects y_9_looks.cls y_9_looks y_9_looks ∈ lw_gd := z_s (q := (y_9_looks, _)) (List.mem_of_getElem? (i := 94) rfl)
theorem mw_9_lawTells : z_MW y_9_lawTells M_9_lawTells 2 := ⟨z_m1 (List.mem_of_getElem? (i := 10) rfl) rfl, z_m7 (List.mem_of_getElem? (i := 43) rfl) rfl, by decide, by decide, by decide +kernel⟩
theorem ml_9_364 : Cond.methodLink zR9 364 y_9_lawTells ∈ lw_gd := z_m7 (List.mem_of_getElem? (i := 40) rfl) rfl
theorem im_9_lawTells : Cond.instanceMethod y_9_lawTells ∈ lw_gd := z_m7 (List.mem_of_getElem? (i := 42) rfl) rfl
theorem se_9_lawTells : Cond.selects y_9_lawTells.cls y_9_lawTells y_9_lawTells ∈ lw_gd := z_s (q := (y_9_lawTells, _)) (List.mem_of_getElem? (i := 99) rfl)
theorem mw_9_within : z_MW y_9_within M_9_within 3 := ⟨z_m1 (List.mem_of_getElem? (i := 10) rfl) rfl, z_m7 (List.mem_of_getElem? (i := 50) rfl) rfl, by decide, by decide, by decide +kernel⟩
theorem ml_9_367 : Cond.methodLink zR9 367 y_9_within ∈ lw_gd := z_m7 (List.mem_of_getElem? (i := 48) rfl) rfl
theorem is_9_within : Cond.static y_9_within ∈ lw_gd := z_m7 (List.mem_of_getElem? (i := 49) rfl) rfl
theorem mw_9_chanceOf : z_MW y_9_chanceOf M_9_chanceOf 2 := ⟨z_m1 (List.mem_of_getElem? (i := 10) rfl) rfl, z_m7 (List.mem_of_getElem? (i := 62) rfl) rfl, by decide, by decide, by decide +kernel⟩
theorem fit_6_3_7 : z_fit (z_rm 7) 0 0 6 3 := ⟨by decide, by decide, by decide, by decide⟩
theorem ml_9_370 : Cond.methodLink zR9 370 y_9_chanceOf ∈ lw_gd := z_m7 (List.mem_of_getElem? (i := 59) rfl) rfl
theorem im_9_chanceOf : Cond.instanceMethod y_9_chanceOf ∈ lw_gd := z_m7 (List.mem_of_getElem? (i := 61) rfl) rfl
theorem se_9_chanceOf : Cond.selects y_9_chanceOf.cls y_9_chanceOf y_9_chanceOf ∈ lw_gd := z_s (q := (y_9_chanceOf, _)) (List.mem_of_getElem? (i := 102) rfl)
theorem mw_9_isLot : z_MW y_9_isLot M_9_isLot 2 := ⟨z_m1 (List.mem_of_getElem? (i := 10) rfl) rfl, z_m7 (List.mem_of_getElem? (i := 117) rfl) rfl, by decide, by decide, by decide +kernel⟩
theorem fit_2_3_7 : z_fit (z_rm 7) 0 0 2 3 := ⟨by decide, by decide, by decide, by decide⟩
theorem ml_9_373 : Cond.methodLink zR9 373 y_9_isLot ∈ lw_gd := z_m7 (List.mem_of_getElem? (i := 114) rfl) rfl
theorem im_9_isLot : Cond.instanceMethod y_9_isLot ∈ lw_gd := z_m7 (List.mem_of_getElem? (i := 116) rfl) rfl
theorem se_9_isLot : Cond.selects y_9_isLot.cls y_9_isLot y_9_isLot ∈ lw_gd := z_s (q := (y_9_isLot, _)) (List.mem_of_getElem? (i := 110) rfl)
theorem fw_9_122 : z_FW zR9 122 9 54 (2, 154, fun i => i) := ⟨_, _, rfl, rfl, rfl, by decide, z_m5 (List.mem_of_getElem? (i := 202) rfl) rfl⟩
theorem sa_154 : z_SA 154 0 := ⟨rfl, rfl, by decide⟩
theorem mw_9_becomes : z_MW y_9_becomes M_9_becomes 2 := ⟨z_m1 (List.mem_of_getElem? (i := 10) rfl) rfl, z_m7 (List.mem_of_getElem? (i := 78) rfl) rfl, by decide, by decide, by decide +kernel⟩
theorem ml_9_376 : Cond.methodLink zR9 376 y_9_becomes ∈ lw_gd := z_m7 (List.mem_of_getElem? (i := 75) rfl) rfl
theorem im_9_becomes : Cond.instanceMethod y_9_becomes ∈ lw_gd := z_m7 (List.mem_of_getElem? (i := 77) rfl) rfl
theorem se_9_becomes : Cond.selects y_9_becomes.cls y_9_becomes y_9_becomes ∈ lw_gd := z_s (q := (y_9_becomes, _)) (List.mem_of_getElem? (i := 105) rfl)
theorem fw_9_119 : z_FW zR9 119 9 53 (2, 153, fun i => i) := ⟨_, _, rfl, rfl, rfl, by decide, z_m5 (List.mem_of_getElem? (i := 201) rfl) rfl⟩
theorem fit_3_2_8 : z_fit (z_rm 8) 0 0 3 2 := ⟨by decide, by decide, by decide, by decide⟩
theorem sa_153 : z_SA 153 0 := ⟨rfl, rfl, by decide⟩
theorem fw_9_116 : z_FW zR9 116 9 52 (2, 152, fun i => i) := ⟨_, _, rfl, rfl, rfl, by decide, z_m5 (List.mem_of_getElem? (i := 200) rfl) rfl⟩
theorem mw_9_rentsOf : z_MW y_9_rentsOf M_9_rentsOf 1 := ⟨z_m1 (List.mem_of_getElem? (i := 10) rfl) rfl, z_m7 (List.mem_of_getElem? (i := 16) rfl) rfl, by decide, by decide, by decide +kernel⟩
theorem fit_6_3_8 : z_fit (z_rm 8) 0 0 6 3 := ⟨by decide, by decide, by decide, by decide⟩
theorem ml_9_379 : Cond.methodLink zR9 379 y_9_rentsOf ∈ lw_gd := z_m7 (List.mem_of_getElem? (i := 13) rfl) rfl
theorem im_9_rentsOf : Cond.instanceMethod y_9_rentsOf ∈ lw_gd := z_m7 (List.mem_of_getElem? (i := 15) rfl) rfl
theorem se_9_rentsOf : Cond.selects y_9_rentsOf.cls y_9_rentsOf y_9_rentsOf ∈ lw_gd := z_s (q := (y_9_rentsOf, _)) (List.mem_of_getElem? (i := 93) rfl)
theorem sa_152 : z_SA 152 0 := ⟨rfl, rfl, by decide⟩
theorem mw_9_whatDoes : z_MW y_9_whatDoes M_9_whatDoes 1 := ⟨z_m1 (List.mem_of_getElem? (i := 10) rfl) rfl, z_m7 (List.mem_of_getElem? (i := 113) rfl) rfl, by decide, by decide, by decide +kernel⟩
theorem ml_9_382 : Cond.methodLink zR9 382 y_9_whatDoes ∈ lw_gd := z_m7 (List.mem_of_getElem? (i := 110) rfl) rfl
theorem im_9_whatDoes : Cond.instanceMethod y_9_whatDoes ∈ lw_gd := z_m7 (List.mem_of_getElem? (i := 112) rfl) rfl
theorem se_9_whatDoes : Cond.selects y_9_whatDoes.cls y_9_whatDoes y_9_whatDoes ∈ lw_gd := z_s (q := (y_9_whatDoes, _)) (List.mem_of_getElem? (i := 109) rfl)
theorem mw_9_does : z_MW y_9_does M_9_does 1 := ⟨z_m1 (List.mem_of_getElem? (i := 10) rfl) rfl, z_m7 (List.mem_of_getElem? (i := 125) rfl) rfl, by decide, by decide, by decide +kernel⟩
theorem fit_2_2_8 : z_fit (z_rm 8) 0 0 2 2 := ⟨by decide, by decide, by decide, by decide⟩
theorem ml_9_385 : Cond.methodLink zR9 385 y_9_does ∈ lw_gd := z_m7 (List.mem_of_getElem? (i := 122) rfl) rfl
theorem im_9_does : Cond.instanceMethod y_9_does ∈ lw_gd := z_m7 (List.mem_of_getElem? (i := 124) rfl) rfl
theorem se_9_does : Cond.selects y_9_does.cls y_9_does y_9_does ∈ lw_gd := z_s (q := (y_9_does, _)) (List.mem_of_getElem? (i := 111) rfl)
theorem d_9_term_0 : zD prog_11_method_31_code 0 (.aload_n 0) 1 1 := ⟨by decide +kernel, rfl⟩
theorem d_9_term_1 : zD prog_11_method_31_code 1 (.getfield 89) 3 4 := ⟨by decide +kernel, rfl⟩
theorem d_9_term_4 : zD prog_11_method_31_code 4 (.aload_n 0) 1 5 := ⟨by decide +kernel, rfl⟩
theorem d_9_term_5 : zD prog_11_method_31_code 5 (.getfield 242) 3 8 := ⟨by decide +kernel, rfl⟩
theorem d_9_term_8 : zD prog_11_method_31_code 8 (.aload_n 0) 1 9 := ⟨by decide +kernel, rfl⟩
theorem d_9_term_9 : zD prog_11_method_31_code 9 (.getfield 245) 3 12 := ⟨by decide +kernel, rfl⟩
theorem d_9_term_12 : zD prog_11_method_31_code 12 (.iastore) 1 13 := ⟨by decide +kernel, rfl⟩
theorem d_9_term_13 : zD prog_11_method_31_code 13 (.aload_n 0) 1 14 := ⟨by decide +kernel, rfl⟩
theorem d_9_term_14 : zD prog_11_method_31_code 14 (.getfield 203) 3 17 := ⟨by decide +kernel, rfl⟩
theorem d_9_term_17 : zD prog_11_method_31_code 17 (.ifCond .ne 7) 3 20 := ⟨by decide +kernel, rfl⟩
theorem d_9_term_20 : zD prog_11_method_31_code 20 (.aload_n 0) 1 21 := ⟨by decide +kernel, rfl⟩
theorem d_9_term_21 : zD prog_11_method_31_code 21 (.invokevirtual 289) 3 24 := ⟨by decide +kernel, rfl⟩
theorem d_9_term_24 : zD prog_11_method_31_code 24 (.aload_n 0) 1 25 := ⟨by decide +kernel, rfl⟩
theorem d_9_term_25 : zD prog_11_method_31_code 25 (.getfield 92) 3 28 := ⟨by decide +kernel, rfl⟩
theorem d_9_term_28 : zD prog_11_method_31_code 28 (.aload_n 0) 1 29 := ⟨by decide +kernel, rfl⟩
theorem d_9_term_29 : zD prog_11_method_31_code 29 (.getfield 242) 3 32 := ⟨by decide +kernel, rfl⟩
theorem d_9_term_32 : zD prog_11_method_31_code 32 (.aload_n 0) 1 33 := ⟨by decide +kernel, rfl⟩
theorem d_9_term_33 : zD prog_11_method_31_code 33 (.getfield 245) 3 36 := ⟨by decide +kernel, rfl⟩
theorem d_9_term_36 : zD prog_11_method_31_code 36 (.iastore) 1 37 := ⟨by decide +kernel, rfl⟩
theorem d_9_term_37 : zD prog_11_method_31_code 37 (.aload_n 0) 1 38 := ⟨by decide +kernel, rfl⟩
theorem d_9_term_38 : zD prog_11_method_31_code 38 (.dup) 1 39 := ⟨by decide +kernel, rfl⟩
theorem d_9_term_39 : zD prog_11_method_31_code 39 (.getfield 242) 3 42 := ⟨by decide +kernel, rfl⟩
theorem d_9_term_42 : zD prog_11_method_31_code 42 (.iconst 1) 1 43 := ⟨by decide +kernel, rfl⟩
theorem d_9_term_43 : zD prog_11_method_31_code 43 (.iadd) 1 44 := ⟨by decide +kernel, rfl⟩
theorem d_9_term_44 : zD prog_11_method_31_code 44 (.putfield 242) 3 47 := ⟨by decide +kernel, rfl⟩
theorem d_9_term_47 : zD prog_11_method_31_code 47 (.return_) 1 48 := ⟨by decide +kernel, rfl⟩
theorem d_9_tellLaw_0 : zD prog_11_method_30_code 0 (.aload_n 0) 1 1 := ⟨by decide +kernel, rfl⟩
theorem d_9_tellLaw_1 : zD prog_11_method_30_code 1 (.iconst 5) 1 2 := ⟨by decide +kernel, rfl⟩
theorem d_9_tellLaw_2 : zD prog_11_method_30_code 2 (.invokevirtual 277) 3 5 := ⟨by decide +kernel, rfl⟩
theorem d_9_tellLaw_5 : zD prog_11_method_30_code 5 (.aload_n 0) 1 6 := ⟨by decide +kernel, rfl⟩
theorem d_9_tellLaw_6 : zD prog_11_method_30_code 6 (.getfield 242) 3 9 := ⟨by decide +kernel, rfl⟩
theorem d_9_tellLaw_9 : zD prog_11_method_30_code 9 (.istore_n 2) 1 10 := ⟨by decide +kernel, rfl⟩
theorem d_9_tellLaw_10 : zD prog_11_method_30_code 10 (.iconst 0) 1 11 := ⟨by decide +kernel, rfl⟩
theorem d_9_tellLaw_11 : zD prog_11_method_30_code 11 (.istore_n 3) 1 12 := ⟨by decide +kernel, rfl⟩
theorem d_9_tellLaw_12 : zD prog_11_method_30_code 12 (.aload_n 0) 1 13 := ⟨by decide +kernel, rfl⟩
theorem d_9_tellLaw_13 : zD prog_11_method_30_code 13 (.getfield 203) 3 16 := ⟨by decide +kernel, rfl⟩
theorem d_9_tellLaw_16 : zD prog_11_method_30_code 16 (.ifCond .ne 113) 3 19 := ⟨by decide +kernel, rfl⟩
theorem d_9_tellLaw_19 : zD prog_11_method_30_code 19 (.aload_n 0) 1 20 := ⟨by decide +kernel, rfl⟩
theorem d_9_tellLaw_20 : zD prog_11_method_30_code 20 (.bipush 29) 2 22 := ⟨by decide +kernel, rfl⟩
theorem d_9_tellLaw_22 : zD prog_11_method_30_code 22 (.invokevirtual 221) 3 25 := ⟨by decide +kernel, rfl⟩
theorem d_9_tellLaw_25 : zD prog_11_method_30_code 25 (.ifCond .eq 104) 3 28 := ⟨by decide +kernel, rfl⟩
theorem d_9_tellLaw_28 : zD prog_11_method_30_code 28 (.iload_n 3) 1 29 := ⟨by decide +kernel, rfl⟩
theorem d_9_tellLaw_29 : zD prog_11_method_30_code 29 (.iconst 4) 1 30 := ⟨by decide +kernel, rfl⟩
theorem d_9_tellLaw_30 : zD prog_11_method_30_code 30 (.if_icmp .ne 8) 3 33 := ⟨by decide +kernel, rfl⟩
theorem d_9_tellLaw_33 : zD prog_11_method_30_code 33 (.aload_n 0) 1 34 := ⟨by decide +kernel, rfl⟩
theorem d_9_tellLaw_34 : zD prog_11_method_30_code 34 (.iconst 2) 1 35 := ⟨by decide +kernel, rfl⟩
theorem d_9_tellLaw_35 : zD prog_11_method_30_code 35 (.invokevirtual 218) 3 38 := ⟨by decide +kernel, rfl⟩
theorem d_9_tellLaw_38 : zD prog_11_method_30_code 38 (.aload_n 0) 1 39 := ⟨by decide +kernel, rfl⟩
theorem d_9_tellLaw_39 : zD prog_11_method_30_code 39 (.getfield 203) 3 42 := ⟨by decide +kernel, rfl⟩
theorem d_9_tellLaw_42 : zD prog_11_method_30_code 42 (.ifCond .le 4) 3 45 := ⟨by decide +kernel, rfl⟩
theorem d_9_tellLaw_45 : zD prog_11_method_30_code 45 (.return_) 1 46 := ⟨by decide +kernel, rfl⟩
theorem d_9_tellLaw_46 : zD prog_11_method_30_code 46 (.iinc 3 1) 3 49 := ⟨by decide +kernel, rfl⟩
theorem d_9_tellLaw_49 : zD prog_11_method_30_code 49 (.aload_n 0) 1 50 := ⟨by decide +kernel, rfl⟩
theorem d_9_tellLaw_50 : zD prog_11_method_30_code 50 (.invokevirtual 224) 3 53 := ⟨by decide +kernel, rfl⟩
theorem d_9_tellLaw_53 : zD prog_11_method_30_code 53 (.aload_n 0) 1 54 := ⟨by decide +kernel, rfl⟩
theorem d_9_tellLaw_54 : zD prog_11_method_30_code 54 (.getfield 79) 3 57 := ⟨by decide +kernel, rfl⟩
theorem d_9_tellLaw_57 : zD prog_11_method_30_code 57 (.aload_n 0) 1 58 := ⟨by decide +kernel, rfl⟩
theorem d_9_tellLaw_58 : zD prog_11_method_30_code 58 (.getfield 242) 3 61 := ⟨by decide +kernel, rfl⟩
theorem d_9_tellLaw_61 : zD prog_11_method_30_code 61 (.iconst 1) 1 62 := ⟨by decide +kernel, rfl⟩
theorem d_9_tellLaw_62 : zD prog_11_method_30_code 62 (.bastore) 1 63 := ⟨by decide +kernel, rfl⟩
theorem d_9_tellLaw_63 : zD prog_11_method_30_code 63 (.aload_n 0) 1 64 := ⟨by decide +kernel, rfl⟩
theorem d_9_tellLaw_64 : zD prog_11_method_30_code 64 (.getfield 83) 3 67 := ⟨by decide +kernel, rfl⟩
theorem d_9_tellLaw_67 : zD prog_11_method_30_code 67 (.aload_n 0) 1 68 := ⟨by decide +kernel, rfl⟩
theorem d_9_tellLaw_68 : zD prog_11_method_30_code 68 (.getfield 242) 3 71 := ⟨by decide +kernel, rfl⟩
theorem d_9_tellLaw_71 : zD prog_11_method_30_code 71 (.aload_n 0) 1 72 := ⟨by decide +kernel, rfl⟩
theorem d_9_tellLaw_72 : zD prog_11_method_30_code 72 (.getfield 245) 3 75 := ⟨by decide +kernel, rfl⟩
theorem d_9_tellLaw_75 : zD prog_11_method_30_code 75 (.iastore) 1 76 := ⟨by decide +kernel, rfl⟩
theorem d_9_tellLaw_76 : zD prog_11_method_30_code 76 (.aload_n 0) 1 77 := ⟨by decide +kernel, rfl⟩
theorem d_9_tellLaw_77 : zD prog_11_method_30_code 77 (.invokevirtual 289) 3 80 := ⟨by decide +kernel, rfl⟩
theorem d_9_tellLaw_80 : zD prog_11_method_30_code 80 (.aload_n 0) 1 81 := ⟨by decide +kernel, rfl⟩
theorem d_9_tellLaw_81 : zD prog_11_method_30_code 81 (.bipush 13) 2 83 := ⟨by decide +kernel, rfl⟩
theorem d_9_tellLaw_83 : zD prog_11_method_30_code 83 (.invokevirtual 277) 3 86 := ⟨by decide +kernel, rfl⟩
theorem d_9_tellLaw_86 : zD prog_11_method_30_code 86 (.aload_n 0) 1 87 := ⟨by decide +kernel, rfl⟩
theorem d_9_tellLaw_87 : zD prog_11_method_30_code 87 (.getfield 86) 3 90 := ⟨by decide +kernel, rfl⟩
theorem d_9_tellLaw_90 : zD prog_11_method_30_code 90 (.aload_n 0) 1 91 := ⟨by decide +kernel, rfl⟩
theorem d_9_tellLaw_91 : zD prog_11_method_30_code 91 (.getfield 242) 3 94 := ⟨by decide +kernel, rfl⟩
theorem d_9_tellLaw_94 : zD prog_11_method_30_code 94 (.aload_n 0) 1 95 := ⟨by decide +kernel, rfl⟩
theorem d_9_tellLaw_95 : zD prog_11_method_30_code 95 (.getfield 245) 3 98 := ⟨by decide +kernel, rfl⟩
theorem d_9_tellLaw_98 : zD prog_11_method_30_code 98 (.iastore) 1 99 := ⟨by decide +kernel, rfl⟩
theorem d_9_tellLaw_99 : zD prog_11_method_30_code 99 (.aload_n 0) 1 100 := ⟨by decide +kernel, rfl⟩
theorem d_9_tellLaw_100 : zD prog_11_method_30_code 100 (.getfield 203) 3 103 := ⟨by decide +kernel, rfl⟩
theorem d_9_tellLaw_103 : zD prog_11_method_30_code 103 (.ifCond .ne 7) 3 106 := ⟨by decide +kernel, rfl⟩
theorem d_9_tellLaw_106 : zD prog_11_method_30_code 106 (.aload_n 0) 1 107 := ⟨by decide +kernel, rfl⟩
theorem d_9_tellLaw_107 : zD prog_11_method_30_code 107 (.invokevirtual 289) 3 110 := ⟨by decide +kernel, rfl⟩
theorem d_9_tellLaw_110 : zD prog_11_method_30_code 110 (.aload_n 0) 1 111 := ⟨by decide +kernel, rfl⟩
theorem d_9_tellLaw_111 : zD prog_11_method_30_code 111 (.bipush 30) 2 113 := ⟨by decide +kernel, rfl⟩
theorem d_9_tellLaw_113 : zD prog_11_method_30_code 113 (.invokevirtual 277) 3 116 := ⟨by decide +kernel, rfl⟩
theorem d_9_tellLaw_116 : zD prog_11_method_30_code 116 (.aload_n 0) 1 117 := ⟨by decide +kernel, rfl⟩
theorem d_9_tellLaw_117 : zD prog_11_method_30_code 117 (.invokevirtual 292) 3 120 := ⟨by decide +kernel, rfl⟩
theorem d_9_tellLaw_120 : zD prog_11_method_30_code 120 (.aload_n 0) 1 121 := ⟨by decide +kernel, rfl⟩
theorem d_9_tellLaw_121 : zD prog_11_method_30_code 121 (.bipush 31) 2 123 := ⟨by decide +kernel, rfl⟩
theorem d_9_tellLaw_123 : zD prog_11_method_30_code 123 (.invokevirtual 277) 3 126 := ⟨by decide +kernel, rfl⟩
theorem d_9_tellLaw_126 : zD prog_11_method_30_code 126 (.goto (-114)) 3 129 := ⟨by decide +kernel, rfl⟩
theorem d_9_tellLaw_129 : zD prog_11_method_30_code 129 (.aload_n 0) 1 130 := ⟨by decide +kernel, rfl⟩
theorem d_9_tellLaw_130 : zD prog_11_method_30_code 130 (.getfield 79) 3 133 := ⟨by decide +kernel, rfl⟩
theorem d_9_tellLaw_133 : zD prog_11_method_30_code 133 (.aload_n 0) 1 134 := ⟨by decide +kernel, rfl⟩
theorem d_9_tellLaw_134 : zD prog_11_method_30_code 134 (.getfield 242) 3 137 := ⟨by decide +kernel, rfl⟩
theorem d_9_tellLaw_137 : zD prog_11_method_30_code 137 (.iconst 0) 1 138 := ⟨by decide +kernel, rfl⟩
theorem d_9_tellLaw_138 : zD prog_11_method_30_code 138 (.bastore) 1 139 := ⟨by decide +kernel, rfl⟩
theorem d_9_tellLaw_139 : zD prog_11_method_30_code 139 (.aload_n 0) 1 140 := ⟨by decide +kernel, rfl⟩
theorem d_9_tellLaw_140 : zD prog_11_method_30_code 140 (.invokevirtual 292) 3 143 := ⟨by decide +kernel, rfl⟩
theorem d_9_tellLaw_143 : zD prog_11_method_30_code 143 (.aload_n 0) 1 144 := ⟨by decide +kernel, rfl⟩
theorem d_9_tellLaw_144 : zD prog_11_method_30_code 144 (.iconst 4) 1 145 := ⟨by decide +kernel, rfl⟩
theorem d_9_tellLaw_145 : zD prog_11_method_30_code 145 (.invokevirtual 277) 3 148 := ⟨by decide +kernel, rfl⟩
theorem d_9_tellLaw_148 : zD prog_11_method_30_code 148 (.aload_n 0) 1 149 := ⟨by decide +kernel, rfl⟩
theorem d_9_tellLaw_149 : zD prog_11_method_30_code 149 (.getfield 203) 3 152 := ⟨by decide +kernel, rfl⟩
theorem d_9_tellLaw_152 : zD prog_11_method_30_code 152 (.ifCond .le 4) 3 155 := ⟨by decide +kernel, rfl⟩
theorem d_9_tellLaw_155 : zD prog_11_method_30_code 155 (.return_) 1 156 := ⟨by decide +kernel, rfl⟩
theorem d_9_tellLaw_156 : zD prog_11_method_30_code 156 (.aload_n 0) 1 157 := ⟨by decide +kernel, rfl⟩
theorem d_9_tellLaw_157 : zD prog_11_method_30_code 157 (.getfield 73) 3 160 := ⟨by decide +kernel, rfl⟩
theorem d_9_tellLaw_160 : zD prog_11_method_30_code 160 (.iconst 4) 1 161 := ⟨by decide +kernel, rfl⟩
theorem d_9_tellLaw_161 : zD prog_11_method_30_code 161 (.aload_n 0) 1 162 := ⟨by decide +kernel, rfl⟩
theorem d_9_tellLaw_162 : zD prog_11_method_30_code 162 (.getfield 236) 3 165 := ⟨by decide +kernel, rfl⟩
theorem d_9_tellLaw_165 : zD prog_11_method_30_code 165 (.imul) 1 166 := ⟨by decide +kernel, rfl⟩
theorem d_9_tellLaw_166 : zD prog_11_method_30_code 166 (.iload_n 1) 1 167 := ⟨by decide +kernel, rfl⟩
theorem d_9_tellLaw_167 : zD prog_11_method_30_code 167 (.iadd) 1 168 := ⟨by decide +kernel, rfl⟩
theorem d_9_tellLaw_168 : zD prog_11_method_30_code 168 (.iload_n 2) 1 169 := ⟨by decide +kernel, rfl⟩
theorem d_9_tellLaw_169 : zD prog_11_method_30_code 169 (.iastore) 1 170 := ⟨by decide +kernel, rfl⟩
theorem d_9_tellLaw_170 : zD prog_11_method_30_code 170 (.aload_n 0) 1 171 := ⟨by decide +kernel, rfl⟩
theorem d_9_tellLaw_171 : zD prog_11_method_30_code 171 (.getfield 76) 3 174 := ⟨by decide +kernel, rfl⟩
theorem d_9_tellLaw_174 : zD prog_11_method_30_code 174 (.iconst 4) 1 175 := ⟨by decide +kernel, rfl⟩
theorem d_9_tellLaw_175 : zD prog_11_method_30_code 175 (.aload_n 0) 1 176 := ⟨by decide +kernel, rfl⟩
theorem d_9_tellLaw_176 : zD prog_11_method_30_code 176 (.getfield 236) 3 179 := ⟨by decide +kernel, rfl⟩
theorem d_9_tellLaw_179 : zD prog_11_method_30_code 179 (.imul) 1 180 := ⟨by decide +kernel, rfl⟩
theorem d_9_tellLaw_180 : zD prog_11_method_30_code 180 (.iload_n 1) 1 181 := ⟨by decide +kernel, rfl⟩
theorem d_9_tellLaw_181 : zD prog_11_method_30_code 181 (.iadd) 1 182 := ⟨by decide +kernel, rfl⟩
theorem d_9_tellLaw_182 : zD prog_11_method_30_code 182 (.aload_n 0) 1 183 := ⟨by decide +kernel, rfl⟩
theorem d_9_tellLaw_183 : zD prog_11_method_30_code 183 (.getfield 242) 3 186 := ⟨by decide +kernel, rfl⟩
theorem d_9_tellLaw_186 : zD prog_11_method_30_code 186 (.iastore) 1 187 := ⟨by decide +kernel, rfl⟩
theorem d_9_tellLaw_187 : zD prog_11_method_30_code 187 (.return_) 1 188 := ⟨by decide +kernel, rfl⟩
theorem d_9_tellOne_0 : zD prog_11_method_23_code 0 (.aload_n 0) 1 1 := ⟨by decide +kernel, rfl⟩
theorem d_9_tellOne_1 : zD prog_11_method_23_code 1 (.getfield 20) 3 4 := ⟨by decide +kernel, rfl⟩
theorem d_9_tellOne_4 : zD prog_11_method_23_code 4 (.aload_n 0) 1 5 := ⟨by decide +kernel, rfl⟩
theorem d_9_tellOne_5 : zD prog_11_method_23_code 5 (.getfield 206) 3 8 := ⟨by decide +kernel, rfl⟩
theorem d_9_tellOne_8 : zD prog_11_method_23_code 8 (.iaload) 1 9 := ⟨by decide +kernel, rfl⟩
theorem d_9_tellOne_9 : zD prog_11_method_23_code 9 (.tableswitch 324 20 28 #[51, 142, 238, 267, 324, 324, 324, 324, 296]) 51 60 := ⟨by decide +kernel, rfl⟩
theorem d_9_tellOne_60 : zD prog_11_method_23_code 60 (.aload_n 0) 1 61 := ⟨by decide +kernel, rfl⟩
theorem d_9_tellOne_61 : zD prog_11_method_23_code 61 (.aload_n 0) 1 62 := ⟨by decide +kernel, rfl⟩
theorem d_9_tellOne_62 : zD prog_11_method_23_code 62 (.getfield 46) 3 65 := ⟨by decide +kernel, rfl⟩
theorem d_9_tellOne_65 : zD prog_11_method_23_code 65 (.aload_n 0) 1 66 := ⟨by decide +kernel, rfl⟩
theorem d_9_tellOne_66 : zD prog_11_method_23_code 66 (.getfield 236) 3 69 := ⟨by decide +kernel, rfl⟩
theorem d_9_tellOne_69 : zD prog_11_method_23_code 69 (.iaload) 1 70 := ⟨by decide +kernel, rfl⟩
theorem d_9_tellOne_70 : zD prog_11_method_23_code 70 (.iconst 5) 1 71 := ⟨by decide +kernel, rfl⟩
theorem d_9_tellOne_71 : zD prog_11_method_23_code 71 (.invokevirtual 257) 3 74 := ⟨by decide +kernel, rfl⟩
theorem d_9_tellOne_74 : zD prog_11_method_23_code 74 (.aload_n 0) 1 75 := ⟨by decide +kernel, rfl⟩
theorem d_9_tellOne_75 : zD prog_11_method_23_code 75 (.getfield 203) 3 78 := ⟨by decide +kernel, rfl⟩
theorem d_9_tellOne_78 : zD prog_11_method_23_code 78 (.ifCond .le 4) 3 81 := ⟨by decide +kernel, rfl⟩
theorem d_9_tellOne_81 : zD prog_11_method_23_code 81 (.return_) 1 82 := ⟨by decide +kernel, rfl⟩
theorem d_9_tellOne_82 : zD prog_11_method_23_code 82 (.aload_n 0) 1 83 := ⟨by decide +kernel, rfl⟩
theorem d_9_tellOne_83 : zD prog_11_method_23_code 83 (.invokevirtual 261) 3 86 := ⟨by decide +kernel, rfl⟩
theorem d_9_tellOne_86 : zD prog_11_method_23_code 86 (.istore_n 1) 1 87 := ⟨by decide +kernel, rfl⟩
theorem d_9_tellOne_87 : zD prog_11_method_23_code 87 (.aload_n 0) 1 88 := ⟨by decide +kernel, rfl⟩
theorem d_9_tellOne_88 : zD prog_11_method_23_code 88 (.getfield 49) 3 91 := ⟨by decide +kernel, rfl⟩
theorem d_9_tellOne_91 : zD prog_11_method_23_code 91 (.iconst 5) 1 92 := ⟨by decide +kernel, rfl⟩
theorem d_9_tellOne_92 : zD prog_11_method_23_code 92 (.aload_n 0) 1 93 := ⟨by decide +kernel, rfl⟩
theorem d_9_tellOne_93 : zD prog_11_method_23_code 93 (.getfield 236) 3 96 := ⟨by decide +kernel, rfl⟩
theorem d_9_tellOne_96 : zD prog_11_method_23_code 96 (.imul) 1 97 := ⟨by decide +kernel, rfl⟩
theorem d_9_tellOne_97 : zD prog_11_method_23_code 97 (.aload_n 0) 1 98 := ⟨by decide +kernel, rfl⟩
theorem d_9_tellOne_98 : zD prog_11_method_23_code 98 (.getfield 46) 3 101 := ⟨by decide +kernel, rfl⟩
theorem d_9_tellOne_101 : zD prog_11_method_23_code 101 (.aload_n 0) 1 102 := ⟨by decide +kernel, rfl⟩
theorem d_9_tellOne_102 : zD prog_11_method_23_code 102 (.getfield 236) 3 105 := ⟨by decide +kernel, rfl⟩
theorem d_9_tellOne_105 : zD prog_11_method_23_code 105 (.iaload) 1 106 := ⟨by decide +kernel, rfl⟩
theorem d_9_tellOne_106 : zD prog_11_method_23_code 106 (.iadd) 1 107 := ⟨by decide +kernel, rfl⟩
theorem d_9_tellOne_107 : zD prog_11_method_23_code 107 (.aload_n 0) 1 108 := ⟨by decide +kernel, rfl⟩
theorem d_9_tellOne_108 : zD prog_11_method_23_code 108 (.bipush 99) 2 110 := ⟨by decide +kernel, rfl⟩
theorem d_9_tellOne_110 : zD prog_11_method_23_code 110 (.invokevirtual 265) 3 113 := ⟨by decide +kernel, rfl⟩
theorem d_9_tellOne_113 : zD prog_11_method_23_code 113 (.iastore) 1 114 := ⟨by decide +kernel, rfl⟩
theorem d_9_tellOne_114 : zD prog_11_method_23_code 114 (.aload_n 0) 1 115 := ⟨by decide +kernel, rfl⟩
theorem d_9_tellOne_115 : zD prog_11_method_23_code 115 (.iload_n 1) 1 116 := ⟨by decide +kernel, rfl⟩
theorem d_9_tellOne_116 : zD prog_11_method_23_code 116 (.aload_n 0) 1 117 := ⟨by decide +kernel, rfl⟩
theorem d_9_tellOne_117 : zD prog_11_method_23_code 117 (.getfield 46) 3 120 := ⟨by decide +kernel, rfl⟩
theorem d_9_tellOne_120 : zD prog_11_method_23_code 120 (.aload_n 0) 1 121 := ⟨by decide +kernel, rfl⟩
theorem d_9_tellOne_121 : zD prog_11_method_23_code 121 (.getfield 236) 3 124 := ⟨by decide +kernel, rfl⟩
theorem d_9_tellOne_124 : zD prog_11_method_23_code 124 (.iaload) 1 125 := ⟨by decide +kernel, rfl⟩
theorem d_9_tellOne_125 : zD prog_11_method_23_code 125 (.invokevirtual 268) 3 128 := ⟨by decide +kernel, rfl⟩
theorem d_9_tellOne_128 : zD prog_11_method_23_code 128 (.aload_n 0) 1 129 := ⟨by decide +kernel, rfl⟩
theorem d_9_tellOne_129 : zD prog_11_method_23_code 129 (.getfield 203) 3 132 := ⟨by decide +kernel, rfl⟩
theorem d_9_tellOne_132 : zD prog_11_method_23_code 132 (.ifCond .ne 254) 3 135 := ⟨by decide +kernel, rfl⟩
theorem d_9_tellOne_135 : zD prog_11_method_23_code 135 (.aload_n 0) 1 136 := ⟨by decide +kernel, rfl⟩
theorem d_9_tellOne_136 : zD prog_11_method_23_code 136 (.getfield 46) 3 139 := ⟨by decide +kernel, rfl⟩
theorem d_9_tellOne_139 : zD prog_11_method_23_code 139 (.aload_n 0) 1 140 := ⟨by decide +kernel, rfl⟩
theorem d_9_tellOne_140 : zD prog_11_method_23_code 140 (.getfield 236) 3 143 := ⟨by decide +kernel, rfl⟩
theorem d_9_tellOne_143 : zD prog_11_method_23_code 143 (.dup2) 1 144 := ⟨by decide +kernel, rfl⟩
theorem d_9_tellOne_144 : zD prog_11_method_23_code 144 (.iaload) 1 145 := ⟨by decide +kernel, rfl⟩
theorem d_9_tellOne_145 : zD prog_11_method_23_code 145 (.iconst 1) 1 146 := ⟨by decide +kernel, rfl⟩
theorem d_9_tellOne_146 : zD prog_11_method_23_code 146 (.iadd) 1 147 := ⟨by decide +kernel, rfl⟩
theorem d_9_tellOne_147 : zD prog_11_method_23_code 147 (.iastore) 1 148 := ⟨by decide +kernel, rfl⟩
theorem d_9_tellOne_148 : zD prog_11_method_23_code 148 (.goto 238) 3 151 := ⟨by decide +kernel, rfl⟩
theorem d_9_tellOne_151 : zD prog_11_method_23_code 151 (.aload_n 0) 1 152 := ⟨by decide +kernel, rfl⟩
theorem d_9_tellOne_152 : zD prog_11_method_23_code 152 (.aload_n 0) 1 153 := ⟨by decide +kernel, rfl⟩
theorem d_9_tellOne_153 : zD prog_11_method_23_code 153 (.getfield 55) 3 156 := ⟨by decide +kernel, rfl⟩
theorem d_9_tellOne_156 : zD prog_11_method_23_code 156 (.aload_n 0) 1 157 := ⟨by decide +kernel, rfl⟩
theorem d_9_tellOne_157 : zD prog_11_method_23_code 157 (.getfield 236) 3 160 := ⟨by decide +kernel, rfl⟩
theorem d_9_tellOne_160 : zD prog_11_method_23_code 160 (.iaload) 1 161 := ⟨by decide +kernel, rfl⟩
theorem d_9_tellOne_161 : zD prog_11_method_23_code 161 (.bipush 7) 2 163 := ⟨by decide +kernel, rfl⟩
theorem d_9_tellOne_163 : zD prog_11_method_23_code 163 (.invokevirtual 257) 3 166 := ⟨by decide +kernel, rfl⟩
theorem d_9_tellOne_166 : zD prog_11_method_23_code 166 (.aload_n 0) 1 167 := ⟨by decide +kernel, rfl⟩
theorem d_9_tellOne_167 : zD prog_11_method_23_code 167 (.getfield 203) 3 170 := ⟨by decide +kernel, rfl⟩
theorem d_9_tellOne_170 : zD prog_11_method_23_code 170 (.ifCond .le 4) 3 173 := ⟨by decide +kernel, rfl⟩
theorem d_9_tellOne_173 : zD prog_11_method_23_code 173 (.return_) 1 174 := ⟨by decide +kernel, rfl⟩
theorem d_9_tellOne_174 : zD prog_11_method_23_code 174 (.aload_n 0) 1 175 := ⟨by decide +kernel, rfl⟩
theorem d_9_tellOne_175 : zD prog_11_method_23_code 175 (.invokevirtual 261) 3 178 := ⟨by decide +kernel, rfl⟩
theorem d_9_tellOne_178 : zD prog_11_method_23_code 178 (.istore_n 1) 1 179 := ⟨by decide +kernel, rfl⟩
theorem d_9_tellOne_179 : zD prog_11_method_23_code 179 (.aload_n 0) 1 180 := ⟨by decide +kernel, rfl⟩
theorem d_9_tellOne_180 : zD prog_11_method_23_code 180 (.getfield 58) 3 183 := ⟨by decide +kernel, rfl⟩
theorem d_9_tellOne_183 : zD prog_11_method_23_code 183 (.bipush 7) 2 185 := ⟨by decide +kernel, rfl⟩
theorem d_9_tellOne_185 : zD prog_11_method_23_code 185 (.aload_n 0) 1 186 := ⟨by decide +kernel, rfl⟩
theorem d_9_tellOne_186 : zD prog_11_method_23_code 186 (.getfield 236) 3 189 := ⟨by decide +kernel, rfl⟩
theorem d_9_tellOne_189 : zD prog_11_method_23_code 189 (.imul) 1 190 := ⟨by decide +kernel, rfl⟩
theorem d_9_tellOne_190 : zD prog_11_method_23_code 190 (.aload_n 0) 1 191 := ⟨by decide +kernel, rfl⟩
theorem d_9_tellOne_191 : zD prog_11_method_23_code 191 (.getfield 55) 3 194 := ⟨by decide +kernel, rfl⟩
theorem d_9_tellOne_194 : zD prog_11_method_23_code 194 (.aload_n 0) 1 195 := ⟨by decide +kernel, rfl⟩
theorem d_9_tellOne_195 : zD prog_11_method_23_code 195 (.getfield 236) 3 198 := ⟨by decide +kernel, rfl⟩
theorem d_9_tellOne_198 : zD prog_11_method_23_code 198 (.iaload) 1 199 := ⟨by decide +kernel, rfl⟩
theorem d_9_tellOne_199 : zD prog_11_method_23_code 199 (.iadd) 1 200 := ⟨by decide +kernel, rfl⟩
theorem d_9_tellOne_200 : zD prog_11_method_23_code 200 (.aload_n 0) 1 201 := ⟨by decide +kernel, rfl⟩
theorem d_9_tellOne_201 : zD prog_11_method_23_code 201 (.bipush 99) 2 203 := ⟨by decide +kernel, rfl⟩
theorem d_9_tellOne_203 : zD prog_11_method_23_code 203 (.invokevirtual 265) 3 206 := ⟨by decide +kernel, rfl⟩
theorem d_9_tellOne_206 : zD prog_11_method_23_code 206 (.iastore) 1 207 := ⟨by decide +kernel, rfl⟩
theorem d_9_tellOne_207 : zD prog_11_method_23_code 207 (.aload_n 0) 1 208 := ⟨by decide +kernel, rfl⟩
theorem d_9_tellOne_208 : zD prog_11_method_23_code 208 (.iload_n 1) 1 209 := ⟨by decide +kernel, rfl⟩
theorem d_9_tellOne_209 : zD prog_11_method_23_code 209 (.bipush 10) 2 211 := ⟨by decide +kernel, rfl⟩
theorem d_9_tellOne_211 : zD prog_11_method_23_code 211 (.aload_n 0) 1 212 := ⟨by decide +kernel, rfl⟩
theorem d_9_tellOne_212 : zD prog_11_method_23_code 212 (.getfield 55) 3 215 := ⟨by decide +kernel, rfl⟩
theorem d_9_tellOne_215 : zD prog_11_method_23_code 215 (.aload_n 0) 1 216 := ⟨by decide +kernel, rfl⟩
theorem d_9_tellOne_216 : zD prog_11_method_23_code 216 (.getfield 236) 3 219 := ⟨by decide +kernel, rfl⟩
theorem d_9_tellOne_219 : zD prog_11_method_23_code 219 (.iaload) 1 220 := ⟨by decide +kernel, rfl⟩
theorem d_9_tellOne_220 : zD prog_11_method_23_code 220 (.iadd) 1 221 := ⟨by decide +kernel, rfl⟩
theorem d_9_tellOne_221 : zD prog_11_method_23_code 221 (.invokevirtual 268) 3 224 := ⟨by decide +kernel, rfl⟩
theorem d_9_tellOne_224 : zD prog_11_method_23_code 224 (.aload_n 0) 1 225 := ⟨by decide +kernel, rfl⟩
theorem d_9_tellOne_225 : zD prog_11_method_23_code 225 (.getfield 203) 3 228 := ⟨by decide +kernel, rfl⟩
theorem d_9_tellOne_228 : zD prog_11_method_23_code 228 (.ifCond .ne 158) 3 231 := ⟨by decide +kernel, rfl⟩
theorem d_9_tellOne_231 : zD prog_11_method_23_code 231 (.aload_n 0) 1 232 := ⟨by decide +kernel, rfl⟩
theorem d_9_tellOne_232 : zD prog_11_method_23_code 232 (.getfield 55) 3 235 := ⟨by decide +kernel, rfl⟩
theorem d_9_tellOne_235 : zD prog_11_method_23_code 235 (.aload_n 0) 1 236 := ⟨by decide +kernel, rfl⟩
theorem d_9_tellOne_236 : zD prog_11_method_23_code 236 (.getfield 236) 3 239 := ⟨by decide +kernel, rfl⟩
theorem d_9_tellOne_239 : zD prog_11_method_23_code 239 (.dup2) 1 240 := ⟨by decide +kernel, rfl⟩
theorem d_9_tellOne_240 : zD prog_11_method_23_code 240 (.iaload) 1 241 := ⟨by decide +kernel, rfl⟩
theorem d_9_tellOne_241 : zD prog_11_method_23_code 241 (.iconst 1) 1 242 := ⟨by decide +kernel, rfl⟩
theorem d_9_tellOne_242 : zD prog_11_method_23_code 242 (.iadd) 1 243 := ⟨by decide +kernel, rfl⟩
theorem d_9_tellOne_243 : zD prog_11_method_23_code 243 (.iastore) 1 244 := ⟨by decide +kernel, rfl⟩
theorem d_9_tellOne_244 : zD prog_11_method_23_code 244 (.goto 142) 3 247 := ⟨by decide +kernel, rfl⟩
theorem d_9_tellOne_247 : zD prog_11_method_23_code 247 (.aload_n 0) 1 248 := ⟨by decide +kernel, rfl⟩
theorem d_9_tellOne_248 : zD prog_11_method_23_code 248 (.aload_n 0) 1 249 := ⟨by decide +kernel, rfl⟩
theorem d_9_tellOne_249 : zD prog_11_method_23_code 249 (.getfield 64) 3 252 := ⟨by decide +kernel, rfl⟩
theorem d_9_tellOne_252 : zD prog_11_method_23_code 252 (.aload_n 0) 1 253 := ⟨by decide +kernel, rfl⟩
theorem d_9_tellOne_253 : zD prog_11_method_23_code 253 (.getfield 236) 3 256 := ⟨by decide +kernel, rfl⟩
theorem d_9_tellOne_256 : zD prog_11_method_23_code 256 (.iaload) 1 257 := ⟨by decide +kernel, rfl⟩
theorem d_9_tellOne_257 : zD prog_11_method_23_code 257 (.bipush 20) 2 259 := ⟨by decide +kernel, rfl⟩
theorem d_9_tellOne_259 : zD prog_11_method_23_code 259 (.invokevirtual 257) 3 262 := ⟨by decide +kernel, rfl⟩
theorem d_9_tellOne_262 : zD prog_11_method_23_code 262 (.aload_n 0) 1 263 := ⟨by decide +kernel, rfl⟩
theorem d_9_tellOne_263 : zD prog_11_method_23_code 263 (.getfield 203) 3 266 := ⟨by decide +kernel, rfl⟩
theorem d_9_tellOne_266 : zD prog_11_method_23_code 266 (.ifCond .ne 120) 3 269 := ⟨by decide +kernel, rfl⟩
theorem d_9_tellOne_269 : zD prog_11_method_23_code 269 (.aload_n 0) 1 270 := ⟨by decide +kernel, rfl⟩
theorem d_9_tellOne_270 : zD prog_11_method_23_code 270 (.invokevirtual 271) 3 273 := ⟨by decide +kernel, rfl⟩
theorem d_9_tellOne_273 : zD prog_11_method_23_code 273 (.goto 113) 3 276 := ⟨by decide +kernel, rfl⟩
theorem d_9_tellOne_276 : zD prog_11_method_23_code 276 (.aload_n 0) 1 277 := ⟨by decide +kernel, rfl⟩
theorem d_9_tellOne_277 : zD prog_11_method_23_code 277 (.aload_n 0) 1 278 := ⟨by decide +kernel, rfl⟩
theorem d_9_tellOne_278 : zD prog_11_method_23_code 278 (.getfield 67) 3 281 := ⟨by decide +kernel, rfl⟩
theorem d_9_tellOne_281 : zD prog_11_method_23_code 281 (.aload_n 0) 1 282 := ⟨by decide +kernel, rfl⟩
theorem d_9_tellOne_282 : zD prog_11_method_23_code 282 (.getfield 236) 3 285 := ⟨by decide +kernel, rfl⟩
theorem d_9_tellOne_285 : zD prog_11_method_23_code 285 (.iaload) 1 286 := ⟨by decide +kernel, rfl⟩
theorem d_9_tellOne_286 : zD prog_11_method_23_code 286 (.bipush 7) 2 288 := ⟨by decide +kernel, rfl⟩
theorem d_9_tellOne_288 : zD prog_11_method_23_code 288 (.invokevirtual 257) 3 291 := ⟨by decide +kernel, rfl⟩
theorem d_9_tellOne_291 : zD prog_11_method_23_code 291 (.aload_n 0) 1 292 := ⟨by decide +kernel, rfl⟩
theorem d_9_tellOne_292 : zD prog_11_method_23_code 292 (.getfield 203) 3 295 := ⟨by decide +kernel, rfl⟩
theorem d_9_tellOne_295 : zD prog_11_method_23_code 295 (.ifCond .ne 91) 3 298 := ⟨by decide +kernel, rfl⟩
theorem d_9_tellOne_298 : zD prog_11_method_23_code 298 (.aload_n 0) 1 299 := ⟨by decide +kernel, rfl⟩
theorem d_9_tellOne_299 : zD prog_11_method_23_code 299 (.invokevirtual 274) 3 302 := ⟨by decide +kernel, rfl⟩
theorem d_9_tellOne_302 : zD prog_11_method_23_code 302 (.goto 84) 3 305 := ⟨by decide +kernel, rfl⟩
theorem d_9_tellOne_305 : zD prog_11_method_23_code 305 (.aload_n 0) 1 306 := ⟨by decide +kernel, rfl⟩
theorem d_9_tellOne_306 : zD prog_11_method_23_code 306 (.invokevirtual 224) 3 309 := ⟨by decide +kernel, rfl⟩
theorem d_9_tellOne_309 : zD prog_11_method_23_code 309 (.aload_n 0) 1 310 := ⟨by decide +kernel, rfl⟩
theorem d_9_tellOne_310 : zD prog_11_method_23_code 310 (.getfield 70) 3 313 := ⟨by decide +kernel, rfl⟩
theorem d_9_tellOne_313 : zD prog_11_method_23_code 313 (.aload_n 0) 1 314 := ⟨by decide +kernel, rfl⟩
theorem d_9_tellOne_314 : zD prog_11_method_23_code 314 (.getfield 236) 3 317 := ⟨by decide +kernel, rfl⟩
theorem d_9_tellOne_317 : zD prog_11_method_23_code 317 (.aload_n 0) 1 318 := ⟨by decide +kernel, rfl⟩
theorem d_9_tellOne_318 : zD prog_11_method_23_code 318 (.sipush 9999) 3 321 := ⟨by decide +kernel, rfl⟩
theorem d_9_tellOne_321 : zD prog_11_method_23_code 321 (.invokevirtual 265) 3 324 := ⟨by decide +kernel, rfl⟩
theorem d_9_tellOne_324 : zD prog_11_method_23_code 324 (.iastore) 1 325 := ⟨by decide +kernel, rfl⟩
theorem d_9_tellOne_325 : zD prog_11_method_23_code 325 (.aload_n 0) 1 326 := ⟨by decide +kernel, rfl⟩
theorem d_9_tellOne_326 : zD prog_11_method_23_code 326 (.iconst 4) 1 327 := ⟨by decide +kernel, rfl⟩
theorem d_9_tellOne_327 : zD prog_11_method_23_code 327 (.invokevirtual 277) 3 330 := ⟨by decide +kernel, rfl⟩
theorem d_9_tellOne_330 : zD prog_11_method_23_code 330 (.goto 56) 3 333 := ⟨by decide +kernel, rfl⟩
theorem d_9_tellOne_333 : zD prog_11_method_23_code 333 (.aload_n 0) 1 334 := ⟨by decide +kernel, rfl⟩
theorem d_9_tellOne_334 : zD prog_11_method_23_code 334 (.getfield 20) 3 337 := ⟨by decide +kernel, rfl⟩
theorem d_9_tellOne_337 : zD prog_11_method_23_code 337 (.aload_n 0) 1 338 := ⟨by decide +kernel, rfl⟩
theorem d_9_tellOne_338 : zD prog_11_method_23_code 338 (.getfield 206) 3 341 := ⟨by decide +kernel, rfl⟩
theorem d_9_tellOne_341 : zD prog_11_method_23_code 341 (.iaload) 1 342 := ⟨by decide +kernel, rfl⟩
theorem d_9_tellOne_342 : zD prog_11_method_23_code 342 (.bipush 24) 2 344 := ⟨by decide +kernel, rfl⟩
theorem d_9_tellOne_344 : zD prog_11_method_23_code 344 (.isub) 1 345 := ⟨by decide +kernel, rfl⟩
theorem d_9_tellOne_345 : zD prog_11_method_23_code 345 (.istore_n 1) 1 346 := ⟨by decide +kernel, rfl⟩
theorem d_9_tellOne_346 : zD prog_11_method_23_code 346 (.iload_n 1) 1 347 := ⟨by decide +kernel, rfl⟩
theorem d_9_tellOne_347 : zD prog_11_method_23_code 347 (.ifCond .lt 17) 3 350 := ⟨by decide +kernel, rfl⟩
theorem d_9_tellOne_350 : zD prog_11_method_23_code 350 (.aload_n 0) 1 351 := ⟨by decide +kernel, rfl⟩
theorem d_9_tellOne_351 : zD prog_11_method_23_code 351 (.getfield 20) 3 354 := ⟨by decide +kernel, rfl⟩
theorem d_9_tellOne_354 : zD prog_11_method_23_code 354 (.aload_n 0) 1 355 := ⟨by decide +kernel, rfl⟩
theorem d_9_tellOne_355 : zD prog_11_method_23_code 355 (.getfield 206) 3 358 := ⟨by decide +kernel, rfl⟩
theorem d_9_tellOne_358 : zD prog_11_method_23_code 358 (.iaload) 1 359 := ⟨by decide +kernel, rfl⟩
theorem d_9_tellOne_359 : zD prog_11_method_23_code 359 (.bipush 27) 2 361 := ⟨by decide +kernel, rfl⟩
theorem d_9_tellOne_361 : zD prog_11_method_23_code 361 (.if_icmp .le 8) 3 364 := ⟨by decide +kernel, rfl⟩
theorem d_9_tellOne_364 : zD prog_11_method_23_code 364 (.aload_n 0) 1 365 := ⟨by decide +kernel, rfl⟩
theorem d_9_tellOne_365 : zD prog_11_method_23_code 365 (.iconst 1) 1 366 := ⟨by decide +kernel, rfl⟩
theorem d_9_tellOne_366 : zD prog_11_method_23_code 366 (.invokevirtual 218) 3 369 := ⟨by decide +kernel, rfl⟩
theorem d_9_tellOne_369 : zD prog_11_method_23_code 369 (.aload_n 0) 1 370 := ⟨by decide +kernel, rfl⟩
theorem d_9_tellOne_370 : zD prog_11_method_23_code 370 (.getfield 203) 3 373 := ⟨by decide +kernel, rfl⟩
theorem d_9_tellOne_373 : zD prog_11_method_23_code 373 (.ifCond .le 4) 3 376 := ⟨by decide +kernel, rfl⟩
theorem d_9_tellOne_376 : zD prog_11_method_23_code 376 (.return_) 1 377 := ⟨by decide +kernel, rfl⟩
theorem d_9_tellOne_377 : zD prog_11_method_23_code 377 (.aload_n 0) 1 378 := ⟨by decide +kernel, rfl⟩
theorem d_9_tellOne_378 : zD prog_11_method_23_code 378 (.invokevirtual 224) 3 381 := ⟨by decide +kernel, rfl⟩
theorem d_9_tellOne_381 : zD prog_11_method_23_code 381 (.aload_n 0) 1 382 := ⟨by decide +kernel, rfl⟩
theorem d_9_tellOne_382 : zD prog_11_method_23_code 382 (.iload_n 1) 1 383 := ⟨by decide +kernel, rfl⟩
theorem d_9_tellOne_383 : zD prog_11_method_23_code 383 (.invokevirtual 280) 3 386 := ⟨by decide +kernel, rfl⟩
theorem d_9_tellOne_386 : zD prog_11_method_23_code 386 (.return_) 1 387 := ⟨by decide +kernel, rfl⟩
theorem d_9_read_0 : zD prog_11_method_20_code 0 (.aload_n 0) 1 1 := ⟨by decide +kernel, rfl⟩
theorem d_9_read_1 : zD prog_11_method_20_code 1 (.aload_n 0) 1 2 := ⟨by decide +kernel, rfl⟩
theorem d_9_read_2 : zD prog_11_method_20_code 2 (.getfield 166) 3 5 := ⟨by decide +kernel, rfl⟩
theorem d_9_read_5 : zD prog_11_method_20_code 5 (.putfield 172) 3 8 := ⟨by decide +kernel, rfl⟩
theorem d_9_read_8 : zD prog_11_method_20_code 8 (.iconst 0) 1 9 := ⟨by decide +kernel, rfl⟩
theorem d_9_read_9 : zD prog_11_method_20_code 9 (.istore_n 1) 1 10 := ⟨by decide +kernel, rfl⟩
theorem d_9_read_10 : zD prog_11_method_20_code 10 (.iload_n 1) 1 11 := ⟨by decide +kernel, rfl⟩
theorem d_9_read_11 : zD prog_11_method_20_code 11 (.aload_n 0) 1 12 := ⟨by decide +kernel, rfl⟩
theorem d_9_read_12 : zD prog_11_method_20_code 12 (.getfield 172) 3 15 := ⟨by decide +kernel, rfl⟩
theorem d_9_read_15 : zD prog_11_method_20_code 15 (.if_icmp .ge 21) 3 18 := ⟨by decide +kernel, rfl⟩
theorem d_9_read_18 : zD prog_11_method_20_code 18 (.aload_n 0) 1 19 := ⟨by decide +kernel, rfl⟩
theorem d_9_read_19 : zD prog_11_method_20_code 19 (.getfield 17) 3 22 := ⟨by decide +kernel, rfl⟩
theorem d_9_read_22 : zD prog_11_method_20_code 22 (.iload_n 1) 1 23 := ⟨by decide +kernel, rfl⟩
theorem d_9_read_23 : zD prog_11_method_20_code 23 (.aload_n 0) 1 24 := ⟨by decide +kernel, rfl⟩
theorem d_9_read_24 : zD prog_11_method_20_code 24 (.getfield 13) 3 27 := ⟨by decide +kernel, rfl⟩
theorem d_9_read_27 : zD prog_11_method_20_code 27 (.iload_n 1) 1 28 := ⟨by decide +kernel, rfl⟩
theorem d_9_read_28 : zD prog_11_method_20_code 28 (.baload) 1 29 := ⟨by decide +kernel, rfl⟩
theorem d_9_read_29 : zD prog_11_method_20_code 29 (.bastore) 1 30 := ⟨by decide +kernel, rfl⟩
theorem d_9_read_30 : zD prog_11_method_20_code 30 (.iinc 1 1) 3 33 := ⟨by decide +kernel, rfl⟩
theorem d_9_read_33 : zD prog_11_method_20_code 33 (.goto (-23)) 3 36 := ⟨by decide +kernel, rfl⟩
theorem d_9_read_36 : zD prog_11_method_20_code 36 (.aload_n 0) 1 37 := ⟨by decide +kernel, rfl⟩
theorem d_9_read_37 : zD prog_11_method_20_code 37 (.iconst 0) 1 38 := ⟨by decide +kernel, rfl⟩
theorem d_9_read_38 : zD prog_11_method_20_code 38 (.putfield 166) 3 41 := ⟨by decide +kernel, rfl⟩
theorem d_9_read_41 : zD prog_11_method_20_code 41 (.aload_n 0) 1 42 := ⟨by decide +kernel, rfl⟩
theorem d_9_read_42 : zD prog_11_method_20_code 42 (.invokevirtual 227) 3 45 := ⟨by decide +kernel, rfl⟩
theorem d_9_read_45 : zD prog_11_method_20_code 45 (.aload_n 0) 1 46 := ⟨by decide +kernel, rfl⟩
theorem d_9_read_46 : zD prog_11_method_20_code 46 (.iconst 0) 1 47 := ⟨by decide +kernel, rfl⟩
theorem d_9_read_47 : zD prog_11_method_20_code 47 (.putfield 206) 3 50 := ⟨by decide +kernel, rfl⟩
theorem d_9_read_50 : zD prog_11_method_20_code 50 (.aload_n 0) 1 51 := ⟨by decide +kernel, rfl⟩
theorem d_9_read_51 : zD prog_11_method_20_code 51 (.iconst 0) 1 52 := ⟨by decide +kernel, rfl⟩
theorem d_9_read_52 : zD prog_11_method_20_code 52 (.putfield 230) 3 55 := ⟨by decide +kernel, rfl⟩
theorem d_9_read_55 : zD prog_11_method_20_code 55 (.aload_n 0) 1 56 := ⟨by decide +kernel, rfl⟩
theorem d_9_read_56 : zD prog_11_method_20_code 56 (.iconst 0) 1 57 := ⟨by decide +kernel, rfl⟩
theorem d_9_read_57 : zD prog_11_method_20_code 57 (.putfield 203) 3 60 := ⟨by decide +kernel, rfl⟩
theorem d_9_read_60 : zD prog_11_method_20_code 60 (.aload_n 0) 1 61 := ⟨by decide +kernel, rfl⟩
theorem d_9_read_61 : zD prog_11_method_20_code 61 (.iconst 0) 1 62 := ⟨by decide +kernel, rfl⟩
theorem d_9_read_62 : zD prog_11_method_20_code 62 (.putfield 212) 3 65 := ⟨by decide +kernel, rfl⟩
theorem d_9_read_65 : zD prog_11_method_20_code 65 (.aload_n 0) 1 66 := ⟨by decide +kernel, rfl⟩
theorem d_9_read_66 : zD prog_11_method_20_code 66 (.iconst 1) 1 67 := ⟨by decide +kernel, rfl⟩
theorem d_9_read_67 : zD prog_11_method_20_code 67 (.aload_n 0) 1 68 := ⟨by decide +kernel, rfl⟩
theorem d_9_read_68 : zD prog_11_method_20_code 68 (.getfield 233) 3 71 := ⟨by decide +kernel, rfl⟩
theorem d_9_read_71 : zD prog_11_method_20_code 71 (.isub) 1 72 := ⟨by decide +kernel, rfl⟩
theorem d_9_read_72 : zD prog_11_method_20_code 72 (.putfield 236) 3 75 := ⟨by decide +kernel, rfl⟩
theorem d_9_read_75 : zD prog_11_method_20_code 75 (.aload_n 0) 1 76 := ⟨by decide +kernel, rfl⟩
theorem d_9_read_76 : zD prog_11_method_20_code 76 (.iconst 0) 1 77 := ⟨by decide +kernel, rfl⟩
theorem d_9_read_77 : zD prog_11_method_20_code 77 (.putfield 239) 3 80 := ⟨by decide +kernel, rfl⟩
theorem d_9_read_80 : zD prog_11_method_20_code 80 (.aload_n 0) 1 81 := ⟨by decide +kernel, rfl⟩
theorem d_9_read_81 : zD prog_11_method_20_code 81 (.aload_n 0) 1 82 := ⟨by decide +kernel, rfl⟩
theorem d_9_read_82 : zD prog_11_method_20_code 82 (.getfield 236) 3 85 := ⟨by decide +kernel, rfl⟩
theorem d_9_read_85 : zD prog_11_method_20_code 85 (.invokevirtual 152) 3 88 := ⟨by decide +kernel, rfl⟩
theorem d_9_read_88 : zD prog_11_method_20_code 88 (.aload_n 0) 1 89 := ⟨by decide +kernel, rfl⟩
theorem d_9_read_89 : zD prog_11_method_20_code 89 (.sipush 130) 3 92 := ⟨by decide +kernel, rfl⟩
theorem d_9_read_92 : zD prog_11_method_20_code 92 (.aload_n 0) 1 93 := ⟨by decide +kernel, rfl⟩
theorem d_9_read_93 : zD prog_11_method_20_code 93 (.getfield 236) 3 96 := ⟨by decide +kernel, rfl⟩
theorem d_9_read_96 : zD prog_11_method_20_code 96 (.imul) 1 97 := ⟨by decide +kernel, rfl⟩
theorem d_9_read_97 : zD prog_11_method_20_code 97 (.putfield 242) 3 100 := ⟨by decide +kernel, rfl⟩
theorem d_9_read_100 : zD prog_11_method_20_code 100 (.aload_n 0) 1 101 := ⟨by decide +kernel, rfl⟩
theorem d_9_read_101 : zD prog_11_method_20_code 101 (.sipush 420) 3 104 := ⟨by decide +kernel, rfl⟩
theorem d_9_read_104 : zD prog_11_method_20_code 104 (.aload_n 0) 1 105 := ⟨by decide +kernel, rfl⟩
theorem d_9_read_105 : zD prog_11_method_20_code 105 (.getfield 236) 3 108 := ⟨by decide +kernel, rfl⟩
theorem d_9_read_108 : zD prog_11_method_20_code 108 (.imul) 1 109 := ⟨by decide +kernel, rfl⟩
theorem d_9_read_109 : zD prog_11_method_20_code 109 (.putfield 245) 3 112 := ⟨by decide +kernel, rfl⟩
theorem d_9_read_112 : zD prog_11_method_20_code 112 (.aload_n 0) 1 113 := ⟨by decide +kernel, rfl⟩
theorem d_9_read_113 : zD prog_11_method_20_code 113 (.getfield 203) 3 116 := ⟨by decide +kernel, rfl⟩
theorem d_9_read_116 : zD prog_11_method_20_code 116 (.ifCond .ne 18) 3 119 := ⟨by decide +kernel, rfl⟩
theorem d_9_read_119 : zD prog_11_method_20_code 119 (.aload_n 0) 1 120 := ⟨by decide +kernel, rfl⟩
theorem d_9_read_120 : zD prog_11_method_20_code 120 (.iconst 0) 1 121 := ⟨by decide +kernel, rfl⟩
theorem d_9_read_121 : zD prog_11_method_20_code 121 (.invokevirtual 221) 3 124 := ⟨by decide +kernel, rfl⟩
theorem d_9_read_124 : zD prog_11_method_20_code 124 (.ifCond .ne 10) 3 127 := ⟨by decide +kernel, rfl⟩
theorem d_9_read_127 : zD prog_11_method_20_code 127 (.aload_n 0) 1 128 := ⟨by decide +kernel, rfl⟩
theorem d_9_read_128 : zD prog_11_method_20_code 128 (.invokevirtual 248) 3 131 := ⟨by decide +kernel, rfl⟩
theorem d_9_read_131 : zD prog_11_method_20_code 131 (.goto (-19)) 3 134 := ⟨by decide +kernel, rfl⟩
theorem d_9_read_134 : zD prog_11_method_20_code 134 (.aload_n 0) 1 135 := ⟨by decide +kernel, rfl⟩
theorem d_9_read_135 : zD prog_11_method_20_code 135 (.aload_n 0) 1 136 := ⟨by decide +kernel, rfl⟩
theorem d_9_read_136 : zD prog_11_method_20_code 136 (.getfield 203) 3 139 := ⟨by decide +kernel, rfl⟩
theorem d_9_read_139 : zD prog_11_method_20_code 139 (.ifCond .le 10) 3 142 := ⟨by decide +kernel, rfl⟩
theorem d_9_read_142 : zD prog_11_method_20_code 142 (.aload_n 0) 1 143 := ⟨by decide +kernel, rfl⟩
theorem d_9_read_143 : zD prog_11_method_20_code 143 (.getfield 209) 3 146 := ⟨by decide +kernel, rfl⟩
theorem d_9_read_146 : zD prog_11_method_20_code 146 (.goto 18) 3 149 := ⟨by decide +kernel, rfl⟩
theorem d_9_read_149 : zD prog_11_method_20_code 149 (.aload_n 0) 1 150 := ⟨by decide +kernel, rfl⟩
theorem d_9_read_150 : zD prog_11_method_20_code 150 (.getfield 212) 3 153 := ⟨by decide +kernel, rfl⟩
theorem d_9_read_153 : zD prog_11_method_20_code 153 (.ifCond .le 10) 3 156 := ⟨by decide +kernel, rfl⟩
theorem d_9_read_156 : zD prog_11_method_20_code 156 (.aload_n 0) 1 157 := ⟨by decide +kernel, rfl⟩
theorem d_9_read_157 : zD prog_11_method_20_code 157 (.getfield 215) 3 160 := ⟨by decide +kernel, rfl⟩
theorem d_9_read_160 : zD prog_11_method_20_code 160 (.goto 4) 3 163 := ⟨by decide +kernel, rfl⟩
theorem d_9_read_163 : zD prog_11_method_20_code 163 (.iconst (-1)) 1 164 := ⟨by decide +kernel, rfl⟩
theorem d_9_read_164 : zD prog_11_method_20_code 164 (.putfield 37) 3 167 := ⟨by decide +kernel, rfl⟩
theorem d_9_read_167 : zD prog_11_method_20_code 167 (.aload_n 0) 1 168 := ⟨by decide +kernel, rfl⟩
theorem d_9_read_168 : zD prog_11_method_20_code 168 (.getfield 203) 3 171 := ⟨by decide +kernel, rfl⟩
theorem d_9_read_171 : zD prog_11_method_20_code 171 (.ifCond .le 8) 3 174 := ⟨by decide +kernel, rfl⟩
theorem d_9_read_174 : zD prog_11_method_20_code 174 (.aload_n 0) 1 175 := ⟨by decide +kernel, rfl⟩
theorem d_9_read_175 : zD prog_11_method_20_code 175 (.getfield 203) 3 178 := ⟨by decide +kernel, rfl⟩
theorem d_9_read_178 : zD prog_11_method_20_code 178 (.ireturn) 1 179 := ⟨by decide +kernel, rfl⟩
theorem d_9_read_179 : zD prog_11_method_20_code 179 (.aload_n 0) 1 180 := ⟨by decide +kernel, rfl⟩
theorem d_9_read_180 : zD prog_11_method_20_code 180 (.getfield 212) 3 183 := ⟨by decide +kernel, rfl⟩
theorem d_9_read_183 : zD prog_11_method_20_code 183 (.ifCond .le 8) 3 186 := ⟨by decide +kernel, rfl⟩
theorem d_9_read_186 : zD prog_11_method_20_code 186 (.aload_n 0) 1 187 := ⟨by decide +kernel, rfl⟩
theorem d_9_read_187 : zD prog_11_method_20_code 187 (.getfield 212) 3 190 := ⟨by decide +kernel, rfl⟩
theorem d_9_read_190 : zD prog_11_method_20_code 190 (.ireturn) 1 191 := ⟨by decide +kernel, rfl⟩
theorem d_9_read_191 : zD prog_11_method_20_code 191 (.aload_n 0) 1 192 := ⟨by decide +kernel, rfl⟩
theorem d_9_read_192 : zD prog_11_method_20_code 192 (.aload_n 0) 1 193 := ⟨by decide +kernel, rfl⟩
theorem d_9_read_193 : zD prog_11_method_20_code 193 (.getfield 236) 3 196 := ⟨by decide +kernel, rfl⟩
theorem d_9_read_196 : zD prog_11_method_20_code 196 (.putfield 233) 3 199 := ⟨by decide +kernel, rfl⟩
theorem d_9_read_199 : zD prog_11_method_20_code 199 (.aload_n 0) 1 200 := ⟨by decide +kernel, rfl⟩
theorem d_9_read_200 : zD prog_11_method_20_code 200 (.invokevirtual 160) 3 203 := ⟨by decide +kernel, rfl⟩
theorem d_9_read_203 : zD prog_11_method_20_code 203 (.aload_n 0) 1 204 := ⟨by decide +kernel, rfl⟩
theorem d_9_read_204 : zD prog_11_method_20_code 204 (.invokevirtual 163) 3 207 := ⟨by decide +kernel, rfl⟩
theorem d_9_read_207 : zD prog_11_method_20_code 207 (.aload_n 0) 1 208 := ⟨by decide +kernel, rfl⟩
theorem d_9_read_208 : zD prog_11_method_20_code 208 (.iconst 0) 1 209 := ⟨by decide +kernel, rfl⟩
theorem d_9_read_209 : zD prog_11_method_20_code 209 (.putfield 251) 3 212 := ⟨by decide +kernel, rfl⟩
theorem d_9_read_212 : zD prog_11_method_20_code 212 (.aload_n 0) 1 213 := ⟨by decide +kernel, rfl⟩
theorem d_9_read_213 : zD prog_11_method_20_code 213 (.iconst 0) 1 214 := ⟨by decide +kernel, rfl⟩
theorem d_9_read_214 : zD prog_11_method_20_code 214 (.putfield 254) 3 217 := ⟨by decide +kernel, rfl⟩
theorem d_9_read_217 : zD prog_11_method_20_code 217 (.iconst 0) 1 218 := ⟨by decide +kernel, rfl⟩
theorem d_9_read_218 : zD prog_11_method_20_code 218 (.istore_n 1) 1 219 := ⟨by decide +kernel, rfl⟩
theorem d_9_read_219 : zD prog_11_method_20_code 219 (.iload_n 1) 1 220 := ⟨by decide +kernel, rfl⟩
theorem d_9_read_220 : zD prog_11_method_20_code 220 (.iconst 3) 1 221 := ⟨by decide +kernel, rfl⟩
theorem d_9_read_221 : zD prog_11_method_20_code 221 (.if_icmp .ge 16) 3 224 := ⟨by decide +kernel, rfl⟩
theorem d_9_read_224 : zD prog_11_method_20_code 224 (.aload_n 0) 1 225 := ⟨by decide +kernel, rfl⟩
theorem d_9_read_225 : zD prog_11_method_20_code 225 (.getfield 146) 3 228 := ⟨by decide +kernel, rfl⟩
theorem d_9_read_228 : zD prog_11_method_20_code 228 (.iload_n 1) 1 229 := ⟨by decide +kernel, rfl⟩
theorem d_9_read_229 : zD prog_11_method_20_code 229 (.iconst 0) 1 230 := ⟨by decide +kernel, rfl⟩
theorem d_9_read_230 : zD prog_11_method_20_code 230 (.bastore) 1 231 := ⟨by decide +kernel, rfl⟩
theorem d_9_read_231 : zD prog_11_method_20_code 231 (.iinc 1 1) 3 234 := ⟨by decide +kernel, rfl⟩
theorem d_9_read_234 : zD prog_11_method_20_code 234 (.goto (-15)) 3 237 := ⟨by decide +kernel, rfl⟩
theorem d_9_read_237 : zD prog_11_method_20_code 237 (.iconst 0) 1 238 := ⟨by decide +kernel, rfl⟩
theorem d_9_read_238 : zD prog_11_method_20_code 238 (.ireturn) 1 239 := ⟨by decide +kernel, rfl⟩
theorem d_9_place_0 : zD prog_11_method_21_code 0 (.aload_n 0) 1 1 := ⟨by decide +kernel, rfl⟩
theorem d_9_place_1 : zD prog_11_method_21_code 1 (.getfield 37) 3 4 := ⟨by decide +kernel, rfl⟩
theorem d_9_place_4 : zD prog_11_method_21_code 4 (.ireturn) 1 5 := ⟨by decide +kernel, rfl⟩
theorem d_9_termOf_0 : zD prog_11_method_36_code 0 (.iconst 0) 1 1 := ⟨by decide +kernel, rfl⟩
theorem d_9_termOf_1 : zD prog_11_method_36_code 1 (.istore_n 3) 1 2 := ⟨by decide +kernel, rfl⟩
theorem d_9_termOf_2 : zD prog_11_method_36_code 2 (.iload_n 1) 1 3 := ⟨by decide +kernel, rfl⟩
theorem d_9_termOf_3 : zD prog_11_method_36_code 3 (.istore 4) 2 5 := ⟨by decide +kernel, rfl⟩
theorem d_9_termOf_5 : zD prog_11_method_36_code 5 (.iload 4) 2 7 := ⟨by decide +kernel, rfl⟩
theorem d_9_termOf_7 : zD prog_11_method_36_code 7 (.iload_n 2) 1 8 := ⟨by decide +kernel, rfl⟩
theorem d_9_termOf_8 : zD prog_11_method_36_code 8 (.if_icmp .ge 157) 3 11 := ⟨by decide +kernel, rfl⟩
theorem d_9_termOf_11 : zD prog_11_method_36_code 11 (.aload_n 0) 1 12 := ⟨by decide +kernel, rfl⟩
theorem d_9_termOf_12 : zD prog_11_method_36_code 12 (.getfield 95) 3 15 := ⟨by decide +kernel, rfl⟩
theorem d_9_termOf_15 : zD prog_11_method_36_code 15 (.iload 4) 2 17 := ⟨by decide +kernel, rfl⟩
theorem d_9_termOf_17 : zD prog_11_method_36_code 17 (.iaload) 1 18 := ⟨by decide +kernel, rfl⟩
theorem d_9_termOf_18 : zD prog_11_method_36_code 18 (.istore 5) 2 20 := ⟨by decide +kernel, rfl⟩
theorem d_9_termOf_20 : zD prog_11_method_36_code 20 (.iload 5) 2 22 := ⟨by decide +kernel, rfl⟩
theorem d_9_termOf_22 : zD prog_11_method_36_code 22 (.iconst 2) 1 23 := ⟨by decide +kernel, rfl⟩
theorem d_9_termOf_23 : zD prog_11_method_36_code 23 (.if_icmp .ge 42) 3 26 := ⟨by decide +kernel, rfl⟩
theorem d_9_termOf_26 : zD prog_11_method_36_code 26 (.aload_n 0) 1 27 := ⟨by decide +kernel, rfl⟩
theorem d_9_termOf_27 : zD prog_11_method_36_code 27 (.getfield 107) 3 30 := ⟨by decide +kernel, rfl⟩
theorem d_9_termOf_30 : zD prog_11_method_36_code 30 (.iload_n 3) 1 31 := ⟨by decide +kernel, rfl⟩
theorem d_9_termOf_31 : zD prog_11_method_36_code 31 (.iload 5) 2 33 := ⟨by decide +kernel, rfl⟩
theorem d_9_termOf_33 : zD prog_11_method_36_code 33 (.ifCond .ne 13) 3 36 := ⟨by decide +kernel, rfl⟩
theorem d_9_termOf_36 : zD prog_11_method_36_code 36 (.aload_n 0) 1 37 := ⟨by decide +kernel, rfl⟩
theorem d_9_termOf_37 : zD prog_11_method_36_code 37 (.getfield 98) 3 40 := ⟨by decide +kernel, rfl⟩
theorem d_9_termOf_40 : zD prog_11_method_36_code 40 (.iload 4) 2 42 := ⟨by decide +kernel, rfl⟩
theorem d_9_termOf_42 : zD prog_11_method_36_code 42 (.iaload) 1 43 := ⟨by decide +kernel, rfl⟩
theorem d_9_termOf_43 : zD prog_11_method_36_code 43 (.goto 15) 3 46 := ⟨by decide +kernel, rfl⟩
theorem d_9_termOf_46 : zD prog_11_method_36_code 46 (.aload_n 0) 1 47 := ⟨by decide +kernel, rfl⟩
theorem d_9_termOf_47 : zD prog_11_method_36_code 47 (.getfield 104) 3 50 := ⟨by decide +kernel, rfl⟩
theorem d_9_termOf_50 : zD prog_11_method_36_code 50 (.aload_n 0) 1 51 := ⟨by decide +kernel, rfl⟩
theorem d_9_termOf_51 : zD prog_11_method_36_code 51 (.getfield 98) 3 54 := ⟨by decide +kernel, rfl⟩
theorem d_9_termOf_54 : zD prog_11_method_36_code 54 (.iload 4) 2 56 := ⟨by decide +kernel, rfl⟩
theorem d_9_termOf_56 : zD prog_11_method_36_code 56 (.iaload) 1 57 := ⟨by decide +kernel, rfl⟩
theorem d_9_termOf_57 : zD prog_11_method_36_code 57 (.iaload) 1 58 := ⟨by decide +kernel, rfl⟩
theorem d_9_termOf_58 : zD prog_11_method_36_code 58 (.iastore) 1 59 := ⟨by decide +kernel, rfl⟩
theorem d_9_termOf_59 : zD prog_11_method_36_code 59 (.iinc 3 1) 3 62 := ⟨by decide +kernel, rfl⟩
theorem d_9_termOf_62 : zD prog_11_method_36_code 62 (.goto 97) 3 65 := ⟨by decide +kernel, rfl⟩
theorem d_9_termOf_65 : zD prog_11_method_36_code 65 (.iinc 3 (-1)) 3 68 := ⟨by decide +kernel, rfl⟩
theorem d_9_termOf_68 : zD prog_11_method_36_code 68 (.aload_n 0) 1 69 := ⟨by decide +kernel, rfl⟩
theorem d_9_termOf_69 : zD prog_11_method_36_code 69 (.getfield 107) 3 72 := ⟨by decide +kernel, rfl⟩
theorem d_9_termOf_72 : zD prog_11_method_36_code 72 (.iload_n 3) 1 73 := ⟨by decide +kernel, rfl⟩
theorem d_9_termOf_73 : zD prog_11_method_36_code 73 (.iconst 1) 1 74 := ⟨by decide +kernel, rfl⟩
theorem d_9_termOf_74 : zD prog_11_method_36_code 74 (.isub) 1 75 := ⟨by decide +kernel, rfl⟩
theorem d_9_termOf_75 : zD prog_11_method_36_code 75 (.iaload) 1 76 := ⟨by decide +kernel, rfl⟩
theorem d_9_termOf_76 : zD prog_11_method_36_code 76 (.istore 6) 2 78 := ⟨by decide +kernel, rfl⟩
theorem d_9_termOf_78 : zD prog_11_method_36_code 78 (.aload_n 0) 1 79 := ⟨by decide +kernel, rfl⟩
theorem d_9_termOf_79 : zD prog_11_method_36_code 79 (.getfield 107) 3 82 := ⟨by decide +kernel, rfl⟩
theorem d_9_termOf_82 : zD prog_11_method_36_code 82 (.iload_n 3) 1 83 := ⟨by decide +kernel, rfl⟩
theorem d_9_termOf_83 : zD prog_11_method_36_code 83 (.iaload) 1 84 := ⟨by decide +kernel, rfl⟩
theorem d_9_termOf_84 : zD prog_11_method_36_code 84 (.istore 7) 2 86 := ⟨by decide +kernel, rfl⟩
theorem d_9_termOf_86 : zD prog_11_method_36_code 86 (.iload 5) 2 88 := ⟨by decide +kernel, rfl⟩
theorem d_9_termOf_88 : zD prog_11_method_36_code 88 (.iconst 5) 1 89 := ⟨by decide +kernel, rfl⟩
theorem d_9_termOf_89 : zD prog_11_method_36_code 89 (.if_icmp .ne 15) 3 92 := ⟨by decide +kernel, rfl⟩
theorem d_9_termOf_92 : zD prog_11_method_36_code 92 (.iload 7) 2 94 := ⟨by decide +kernel, rfl⟩
theorem d_9_termOf_94 : zD prog_11_method_36_code 94 (.ifCond .ne 10) 3 97 := ⟨by decide +kernel, rfl⟩
theorem d_9_termOf_97 : zD prog_11_method_36_code 97 (.aload_n 0) 1 98 := ⟨by decide +kernel, rfl⟩
theorem d_9_termOf_98 : zD prog_11_method_36_code 98 (.iconst 1) 1 99 := ⟨by decide +kernel, rfl⟩
theorem d_9_termOf_99 : zD prog_11_method_36_code 99 (.putfield 308) 3 102 := ⟨by decide +kernel, rfl⟩
theorem d_9_termOf_102 : zD prog_11_method_36_code 102 (.iconst 0) 1 103 := ⟨by decide +kernel, rfl⟩
theorem d_9_termOf_103 : zD prog_11_method_36_code 103 (.ireturn) 1 104 := ⟨by decide +kernel, rfl⟩
theorem d_9_termOf_104 : zD prog_11_method_36_code 104 (.aload_n 0) 1 105 := ⟨by decide +kernel, rfl⟩
theorem d_9_termOf_105 : zD prog_11_method_36_code 105 (.getfield 107) 3 108 := ⟨by decide +kernel, rfl⟩
theorem d_9_termOf_108 : zD prog_11_method_36_code 108 (.iload_n 3) 1 109 := ⟨by decide +kernel, rfl⟩
theorem d_9_termOf_109 : zD prog_11_method_36_code 109 (.iconst 1) 1 110 := ⟨by decide +kernel, rfl⟩
theorem d_9_termOf_110 : zD prog_11_method_36_code 110 (.isub) 1 111 := ⟨by decide +kernel, rfl⟩
theorem d_9_termOf_111 : zD prog_11_method_36_code 111 (.iload 5) 2 113 := ⟨by decide +kernel, rfl⟩
theorem d_9_termOf_113 : zD prog_11_method_36_code 113 (.iconst 2) 1 114 := ⟨by decide +kernel, rfl⟩
theorem d_9_termOf_114 : zD prog_11_method_36_code 114 (.if_icmp .ne 11) 3 117 := ⟨by decide +kernel, rfl⟩
theorem d_9_termOf_117 : zD prog_11_method_36_code 117 (.iload 6) 2 119 := ⟨by decide +kernel, rfl⟩
theorem d_9_termOf_119 : zD prog_11_method_36_code 119 (.iload 7) 2 121 := ⟨by decide +kernel, rfl⟩
theorem d_9_termOf_121 : zD prog_11_method_36_code 121 (.iadd) 1 122 := ⟨by decide +kernel, rfl⟩
theorem d_9_termOf_122 : zD prog_11_method_36_code 122 (.goto 36) 3 125 := ⟨by decide +kernel, rfl⟩
theorem d_9_termOf_125 : zD prog_11_method_36_code 125 (.iload 5) 2 127 := ⟨by decide +kernel, rfl⟩
theorem d_9_termOf_127 : zD prog_11_method_36_code 127 (.iconst 3) 1 128 := ⟨by decide +kernel, rfl⟩
theorem d_9_termOf_128 : zD prog_11_method_36_code 128 (.if_icmp .ne 11) 3 131 := ⟨by decide +kernel, rfl⟩
theorem d_9_termOf_131 : zD prog_11_method_36_code 131 (.iload 6) 2 133 := ⟨by decide +kernel, rfl⟩
theorem d_9_termOf_133 : zD prog_11_method_36_code 133 (.iload 7) 2 135 := ⟨by decide +kernel, rfl⟩
theorem d_9_termOf_135 : zD prog_11_method_36_code 135 (.isub) 1 136 := ⟨by decide +kernel, rfl⟩
theorem d_9_termOf_136 : zD prog_11_method_36_code 136 (.goto 22) 3 139 := ⟨by decide +kernel, rfl⟩
theorem d_9_termOf_139 : zD prog_11_method_36_code 139 (.iload 5) 2 141 := ⟨by decide +kernel, rfl⟩
theorem d_9_termOf_141 : zD prog_11_method_36_code 141 (.iconst 4) 1 142 := ⟨by decide +kernel, rfl⟩
theorem d_9_termOf_142 : zD prog_11_method_36_code 142 (.if_icmp .ne 11) 3 145 := ⟨by decide +kernel, rfl⟩
theorem d_9_termOf_145 : zD prog_11_method_36_code 145 (.iload 6) 2 147 := ⟨by decide +kernel, rfl⟩
theorem d_9_termOf_147 : zD prog_11_method_36_code 147 (.iload 7) 2 149 := ⟨by decide +kernel, rfl⟩
theorem d_9_termOf_149 : zD prog_11_method_36_code 149 (.imul) 1 150 := ⟨by decide +kernel, rfl⟩
theorem d_9_termOf_150 : zD prog_11_method_36_code 150 (.goto 8) 3 153 := ⟨by decide +kernel, rfl⟩
theorem d_9_termOf_153 : zD prog_11_method_36_code 153 (.iload 6) 2 155 := ⟨by decide +kernel, rfl⟩
theorem d_9_termOf_155 : zD prog_11_method_36_code 155 (.iload 7) 2 157 := ⟨by decide +kernel, rfl⟩
theorem d_9_termOf_157 : zD prog_11_method_36_code 157 (.idiv) 1 158 := ⟨by decide +kernel, rfl⟩
theorem d_9_termOf_158 : zD prog_11_method_36_code 158 (.iastore) 1 159 := ⟨by decide +kernel, rfl⟩
theorem d_9_termOf_159 : zD prog_11_method_36_code 159 (.iinc 4 1) 3 162 := ⟨by decide +kernel, rfl⟩
theorem d_9_termOf_162 : zD prog_11_method_36_code 162 (.goto (-157)) 3 165 := ⟨by decide +kernel, rfl⟩
theorem d_9_termOf_165 : zD prog_11_method_36_code 165 (.aload_n 0) 1 166 := ⟨by decide +kernel, rfl⟩
theorem d_9_termOf_166 : zD prog_11_method_36_code 166 (.getfield 107) 3 169 := ⟨by decide +kernel, rfl⟩
theorem d_9_termOf_169 : zD prog_11_method_36_code 169 (.iconst 0) 1 170 := ⟨by decide +kernel, rfl⟩
theorem d_9_termOf_170 : zD prog_11_method_36_code 170 (.iaload) 1 171 := ⟨by decide +kernel, rfl⟩
theorem d_9_termOf_171 : zD prog_11_method_36_code 171 (.ireturn) 1 172 := ⟨by decide +kernel, rfl⟩
theorem d_9_in_0 : zD prog_11_method_37_code 0 (.iload_n 0) 1 1 := ⟨by decide +kernel, rfl⟩
theorem d_9_in_1 : zD prog_11_method_37_code 1 (.iload_n 1) 1 2 := ⟨by decide +kernel, rfl⟩
theorem d_9_in_2 : zD prog_11_method_37_code 2 (.if_icmp .lt 12) 3 5 := ⟨by decide +kernel, rfl⟩
theorem d_9_in_5 : zD prog_11_method_37_code 5 (.iload_n 0) 1 6 := ⟨by decide +kernel, rfl⟩
theorem d_9_in_6 : zD prog_11_method_37_code 6 (.iload_n 2) 1 7 := ⟨by decide +kernel, rfl⟩
theorem d_9_in_7 : zD prog_11_method_37_code 7 (.if_icmp .gt 7) 3 10 := ⟨by decide +kernel, rfl⟩
theorem d_9_in_10 : zD prog_11_method_37_code 10 (.iconst 1) 1 11 := ⟨by decide +kernel, rfl⟩
theorem d_9_in_11 : zD prog_11_method_37_code 11 (.goto 4) 3 14 := ⟨by decide +kernel, rfl⟩
theorem d_9_in_14 : zD prog_11_method_37_code 14 (.iconst 0) 1 15 := ⟨by decide +kernel, rfl⟩
theorem d_9_in_15 : zD prog_11_method_37_code 15 (.ireturn) 1 16 := ⟨by decide +kernel, rfl⟩
theorem d_9_within_0 : zD prog_11_method_38_code 0 (.iload_n 0) 1 1 := ⟨by decide +kernel, rfl⟩
theorem d_9_within_1 : zD prog_11_method_38_code 1 (.iload_n 1) 1 2 := ⟨by decide +kernel, rfl⟩
theorem d_9_within_2 : zD prog_11_method_38_code 2 (.if_icmp .ge 7) 3 5 := ⟨by decide +kernel, rfl⟩
theorem d_9_within_5 : zD prog_11_method_38_code 5 (.iload_n 1) 1 6 := ⟨by decide +kernel, rfl⟩
theorem d_9_within_6 : zD prog_11_method_38_code 6 (.goto 13) 3 9 := ⟨by decide +kernel, rfl⟩
theorem d_9_within_9 : zD prog_11_method_38_code 9 (.iload_n 0) 1 10 := ⟨by decide +kernel, rfl⟩
theorem d_9_within_10 : zD prog_11_method_38_code 10 (.iload_n 2) 1 11 := ⟨by decide +kernel, rfl⟩
theorem d_9_within_11 : zD prog_11_method_38_code 11 (.if_icmp .le 7) 3 14 := ⟨by decide +kernel, rfl⟩
theorem d_9_within_14 : zD prog_11_method_38_code 14 (.iload_n 2) 1 15 := ⟨by decide +kernel, rfl⟩
theorem d_9_within_15 : zD prog_11_method_38_code 15 (.goto 4) 3 18 := ⟨by decide +kernel, rfl⟩
theorem d_9_within_18 : zD prog_11_method_38_code 18 (.iload_n 0) 1 19 := ⟨by decide +kernel, rfl⟩
theorem d_9_within_19 : zD prog_11_method_38_code 19 (.ireturn) 1 20 := ⟨by decide +kernel, rfl⟩
theorem d_9_bits_0 : zD prog_11_method_39_code 0 (.iconst 0) 1 1 := ⟨by decide +kernel, rfl⟩
theorem d_9_bits_1 : zD prog_11_method_39_code 1 (.istore_n 1) 1 2 := ⟨by decide +kernel, rfl⟩
theorem d_9_bits_2 : zD prog_11_method_39_code 2 (.iconst 0) 1 3 := ⟨by decide +kernel, rfl⟩
theorem d_9_bits_3 : zD prog_11_method_39_code 3 (.istore_n 2) 1 4 := ⟨by decide +kernel, rfl⟩
theorem d_9_bits_4 : zD prog_11_method_39_code 4 (.iload_n 2) 1 5 := ⟨by decide +kernel, rfl⟩
theorem d_9_bits_5 : zD prog_11_method_39_code 5 (.bipush 7) 2 7 := ⟨by decide +kernel, rfl⟩
theorem d_9_bits_7 : zD prog_11_method_39_code 7 (.if_icmp .ge 17) 3 10 := ⟨by decide +kernel, rfl⟩
theorem d_9_bits_10 : zD prog_11_method_39_code 10 (.iload_n 1) 1 11 := ⟨by decide +kernel, rfl⟩
theorem d_9_bits_11 : zD prog_11_method_39_code 11 (.iload_n 0) 1 12 := ⟨by decide +kernel, rfl⟩
theorem d_9_bits_12 : zD prog_11_method_39_code 12 (.iload_n 2) 1 13 := ⟨by decide +kernel, rfl⟩
theorem d_9_bits_13 : zD prog_11_method_39_code 13 (.ishr) 1 14 := ⟨by decide +kernel, rfl⟩
theorem d_9_bits_14 : zD prog_11_method_39_code 14 (.iconst 1) 1 15 := ⟨by decide +kernel, rfl⟩
theorem d_9_bits_15 : zD prog_11_method_39_code 15 (.iand) 1 16 := ⟨by decide +kernel, rfl⟩
theorem d_9_bits_16 : zD prog_11_method_39_code 16 (.iadd) 1 17 := ⟨by decide +kernel, rfl⟩
theorem d_9_bits_17 : zD prog_11_method_39_code 17 (.istore_n 1) 1 18 := ⟨by decide +kernel, rfl⟩
theorem d_9_bits_18 : zD prog_11_method_39_code 18 (.iinc 2 1) 3 21 := ⟨by decide +kernel, rfl⟩
theorem d_9_bits_21 : zD prog_11_method_39_code 21 (.goto (-17)) 3 24 := ⟨by decide +kernel, rfl⟩
theorem d_9_bits_24 : zD prog_11_method_39_code 24 (.iload_n 1) 1 25 := ⟨by decide +kernel, rfl⟩
theorem d_9_bits_25 : zD prog_11_method_39_code 25 (.ireturn) 1 26 := ⟨by decide +kernel, rfl⟩
theorem d_9_isHouse_0 : zD prog_11_method_40_code 0 (.iload_n 1) 1 1 := ⟨by decide +kernel, rfl⟩
theorem d_9_isHouse_1 : zD prog_11_method_40_code 1 (.iconst 0) 1 2 := ⟨by decide +kernel, rfl⟩
theorem d_9_isHouse_2 : zD prog_11_method_40_code 2 (.aload_n 0) 1 3 := ⟨by decide +kernel, rfl⟩
theorem d_9_isHouse_3 : zD prog_11_method_40_code 3 (.getfield 46) 3 6 := ⟨by decide +kernel, rfl⟩
theorem d_9_isHouse_6 : zD prog_11_method_40_code 6 (.aload_n 0) 1 7 := ⟨by decide +kernel, rfl⟩
theorem d_9_isHouse_7 : zD prog_11_method_40_code 7 (.getfield 233) 3 10 := ⟨by decide +kernel, rfl⟩
theorem d_9_isHouse_10 : zD prog_11_method_40_code 10 (.iaload) 1 11 := ⟨by decide +kernel, rfl⟩
theorem d_9_isHouse_11 : zD prog_11_method_40_code 11 (.iconst 1) 1 12 := ⟨by decide +kernel, rfl⟩
theorem d_9_isHouse_12 : zD prog_11_method_40_code 12 (.isub) 1 13 := ⟨by decide +kernel, rfl⟩
theorem d_9_isHouse_13 : zD prog_11_method_40_code 13 (.invokestatic 312) 3 16 := ⟨by decide +kernel, rfl⟩
theorem d_9_isHouse_16 : zD prog_11_method_40_code 16 (.ireturn) 1 17 := ⟨by decide +kernel, rfl⟩
theorem d_9_isPerson_0 : zD prog_11_method_41_code 0 (.iload_n 1) 1 1 := ⟨by decide +kernel, rfl⟩
theorem d_9_isPerson_1 : zD prog_11_method_41_code 1 (.iconst 0) 1 2 := ⟨by decide +kernel, rfl⟩
theorem d_9_isPerson_2 : zD prog_11_method_41_code 2 (.aload_n 0) 1 3 := ⟨by decide +kernel, rfl⟩
theorem d_9_isPerson_3 : zD prog_11_method_41_code 3 (.getfield 55) 3 6 := ⟨by decide +kernel, rfl⟩
theorem d_9_isPerson_6 : zD prog_11_method_41_code 6 (.aload_n 0) 1 7 := ⟨by decide +kernel, rfl⟩
theorem d_9_isPerson_7 : zD prog_11_method_41_code 7 (.getfield 233) 3 10 := ⟨by decide +kernel, rfl⟩
theorem d_9_isPerson_10 : zD prog_11_method_41_code 10 (.iaload) 1 11 := ⟨by decide +kernel, rfl⟩
theorem d_9_isPerson_11 : zD prog_11_method_41_code 11 (.iconst 1) 1 12 := ⟨by decide +kernel, rfl⟩
theorem d_9_isPerson_12 : zD prog_11_method_41_code 12 (.isub) 1 13 := ⟨by decide +kernel, rfl⟩
theorem d_9_isPerson_13 : zD prog_11_method_41_code 13 (.invokestatic 312) 3 16 := ⟨by decide +kernel, rfl⟩
theorem d_9_isPerson_16 : zD prog_11_method_41_code 16 (.ireturn) 1 17 := ⟨by decide +kernel, rfl⟩
theorem d_9_isNow_0 : zD prog_11_method_42_code 0 (.aload_n 0) 1 1 := ⟨by decide +kernel, rfl⟩
theorem d_9_isNow_1 : zD prog_11_method_42_code 1 (.iload_n 1) 1 2 := ⟨by decide +kernel, rfl⟩
theorem d_9_isNow_2 : zD prog_11_method_42_code 2 (.invokevirtual 316) 3 5 := ⟨by decide +kernel, rfl⟩
theorem d_9_isNow_5 : zD prog_11_method_42_code 5 (.ifCond .eq 17) 3 8 := ⟨by decide +kernel, rfl⟩
theorem d_9_isNow_8 : zD prog_11_method_42_code 8 (.aload_n 0) 1 9 := ⟨by decide +kernel, rfl⟩
theorem d_9_isNow_9 : zD prog_11_method_42_code 9 (.getfield 110) 3 12 := ⟨by decide +kernel, rfl⟩
theorem d_9_isNow_12 : zD prog_11_method_42_code 12 (.iload_n 1) 1 13 := ⟨by decide +kernel, rfl⟩
theorem d_9_isNow_13 : zD prog_11_method_42_code 13 (.iaload) 1 14 := ⟨by decide +kernel, rfl⟩
theorem d_9_isNow_14 : zD prog_11_method_42_code 14 (.iload_n 2) 1 15 := ⟨by decide +kernel, rfl⟩
theorem d_9_isNow_15 : zD prog_11_method_42_code 15 (.if_icmp .ne 7) 3 18 := ⟨by decide +kernel, rfl⟩
theorem d_9_isNow_18 : zD prog_11_method_42_code 18 (.iconst 1) 1 19 := ⟨by decide +kernel, rfl⟩
theorem d_9_isNow_19 : zD prog_11_method_42_code 19 (.goto 4) 3 22 := ⟨by decide +kernel, rfl⟩
theorem d_9_isNow_22 : zD prog_11_method_42_code 22 (.iconst 0) 1 23 := ⟨by decide +kernel, rfl⟩
theorem d_9_isNow_23 : zD prog_11_method_42_code 23 (.ireturn) 1 24 := ⟨by decide +kernel, rfl⟩
theorem d_9_copies_0 : zD prog_11_method_45_code 0 (.iconst 0) 1 1 := ⟨by decide +kernel, rfl⟩
theorem d_9_copies_1 : zD prog_11_method_45_code 1 (.istore_n 1) 1 2 := ⟨by decide +kernel, rfl⟩
theorem d_9_copies_2 : zD prog_11_method_45_code 2 (.iload_n 1) 1 3 := ⟨by decide +kernel, rfl⟩
theorem d_9_copies_3 : zD prog_11_method_45_code 3 (.bipush 34) 2 5 := ⟨by decide +kernel, rfl⟩
theorem d_9_copies_5 : zD prog_11_method_45_code 5 (.if_icmp .ge 21) 3 8 := ⟨by decide +kernel, rfl⟩
theorem d_9_copies_8 : zD prog_11_method_45_code 8 (.aload_n 0) 1 9 := ⟨by decide +kernel, rfl⟩
theorem d_9_copies_9 : zD prog_11_method_45_code 9 (.getfield 113) 3 12 := ⟨by decide +kernel, rfl⟩
theorem d_9_copies_12 : zD prog_11_method_45_code 12 (.iload_n 1) 1 13 := ⟨by decide +kernel, rfl⟩
theorem d_9_copies_13 : zD prog_11_method_45_code 13 (.aload_n 0) 1 14 := ⟨by decide +kernel, rfl⟩
theorem d_9_copies_14 : zD prog_11_method_45_code 14 (.getfield 110) 3 17 := ⟨by decide +kernel, rfl⟩
theorem d_9_copies_17 : zD prog_11_method_45_code 17 (.iload_n 1) 1 18 := ⟨by decide +kernel, rfl⟩
theorem d_9_copies_18 : zD prog_11_method_45_code 18 (.iaload) 1 19 := ⟨by decide +kernel, rfl⟩
theorem d_9_copies_19 : zD prog_11_method_45_code 19 (.iastore) 1 20 := ⟨by decide +kernel, rfl⟩
theorem d_9_copies_20 : zD prog_11_method_45_code 20 (.iinc 1 1) 3 23 := ⟨by decide +kernel, rfl⟩
theorem d_9_copies_23 : zD prog_11_method_45_code 23 (.goto (-21)) 3 26 := ⟨by decide +kernel, rfl⟩
theorem d_9_copies_26 : zD prog_11_method_45_code 26 (.aload_n 0) 1 27 := ⟨by decide +kernel, rfl⟩
theorem d_9_copies_27 : zD prog_11_method_45_code 27 (.aload_n 0) 1 28 := ⟨by decide +kernel, rfl⟩
theorem d_9_copies_28 : zD prog_11_method_45_code 28 (.getfield 70) 3 31 := ⟨by decide +kernel, rfl⟩
theorem d_9_copies_31 : zD prog_11_method_45_code 31 (.aload_n 0) 1 32 := ⟨by decide +kernel, rfl⟩
theorem d_9_copies_32 : zD prog_11_method_45_code 32 (.getfield 233) 3 35 := ⟨by decide +kernel, rfl⟩
theorem d_9_copies_35 : zD prog_11_method_45_code 35 (.iaload) 1 36 := ⟨by decide +kernel, rfl⟩
theorem d_9_copies_36 : zD prog_11_method_45_code 36 (.putfield 319) 3 39 := ⟨by decide +kernel, rfl⟩
theorem d_9_copies_39 : zD prog_11_method_45_code 39 (.aload_n 0) 1 40 := ⟨by decide +kernel, rfl⟩
theorem d_9_copies_40 : zD prog_11_method_45_code 40 (.iconst 0) 1 41 := ⟨by decide +kernel, rfl⟩
theorem d_9_copies_41 : zD prog_11_method_45_code 41 (.putfield 322) 3 44 := ⟨by decide +kernel, rfl⟩
theorem d_9_copies_44 : zD prog_11_method_45_code 44 (.return_) 1 45 := ⟨by decide +kernel, rfl⟩
theorem d_9_copiesStill_0 : zD prog_11_method_46_code 0 (.aload_n 0) 1 1 := ⟨by decide +kernel, rfl⟩
theorem d_9_copiesStill_1 : zD prog_11_method_46_code 1 (.invokevirtual 325) 3 4 := ⟨by decide +kernel, rfl⟩
theorem d_9_copiesStill_4 : zD prog_11_method_46_code 4 (.aload_n 0) 1 5 := ⟨by decide +kernel, rfl⟩
theorem d_9_copiesStill_5 : zD prog_11_method_46_code 5 (.iconst 1) 1 6 := ⟨by decide +kernel, rfl⟩
theorem d_9_copiesStill_6 : zD prog_11_method_46_code 6 (.putfield 322) 3 9 := ⟨by decide +kernel, rfl⟩
theorem d_9_copiesStill_9 : zD prog_11_method_46_code 9 (.return_) 1 10 := ⟨by decide +kernel, rfl⟩
theorem d_9_mixed_0 : zD prog_11_method_47_code 0 (.iload_n 0) 1 1 := ⟨by decide +kernel, rfl⟩
theorem d_9_mixed_1 : zD prog_11_method_47_code 1 (.iload_n 1) 1 2 := ⟨by decide +kernel, rfl⟩
theorem d_9_mixed_2 : zD prog_11_method_47_code 2 (.ixor) 1 3 := ⟨by decide +kernel, rfl⟩
theorem d_9_mixed_3 : zD prog_11_method_47_code 3 (.ldc_w 328) 3 6 := ⟨by decide +kernel, rfl⟩
theorem d_9_mixed_6 : zD prog_11_method_47_code 6 (.imul) 1 7 := ⟨by decide +kernel, rfl⟩
theorem d_9_mixed_7 : zD prog_11_method_47_code 7 (.sipush 12345) 3 10 := ⟨by decide +kernel, rfl⟩
theorem d_9_mixed_10 : zD prog_11_method_47_code 10 (.iadd) 1 11 := ⟨by decide +kernel, rfl⟩
theorem d_9_mixed_11 : zD prog_11_method_47_code 11 (.istore_n 2) 1 12 := ⟨by decide +kernel, rfl⟩
theorem d_9_mixed_12 : zD prog_11_method_47_code 12 (.iload_n 2) 1 13 := ⟨by decide +kernel, rfl⟩
theorem d_9_mixed_13 : zD prog_11_method_47_code 13 (.iload_n 2) 1 14 := ⟨by decide +kernel, rfl⟩
theorem d_9_mixed_14 : zD prog_11_method_47_code 14 (.bipush 15) 2 16 := ⟨by decide +kernel, rfl⟩
theorem d_9_mixed_16 : zD prog_11_method_47_code 16 (.iushr) 1 17 := ⟨by decide +kernel, rfl⟩
theorem d_9_mixed_17 : zD prog_11_method_47_code 17 (.ixor) 1 18 := ⟨by decide +kernel, rfl⟩
theorem d_9_mixed_18 : zD prog_11_method_47_code 18 (.ireturn) 1 19 := ⟨by decide +kernel, rfl⟩
theorem d_9_isLot_0 : zD prog_11_method_48_code 0 (.aload_n 0) 1 1 := ⟨by decide +kernel, rfl⟩
theorem d_9_isLot_1 : zD prog_11_method_48_code 1 (.getfield 322) 3 4 := ⟨by decide +kernel, rfl⟩
theorem d_9_isLot_4 : zD prog_11_method_48_code 4 (.ifCond .ne 30) 3 7 := ⟨by decide +kernel, rfl⟩
theorem d_9_isLot_7 : zD prog_11_method_48_code 7 (.aload_n 0) 1 8 := ⟨by decide +kernel, rfl⟩
theorem d_9_isLot_8 : zD prog_11_method_48_code 8 (.getfield 319) 3 11 := ⟨by decide +kernel, rfl⟩
theorem d_9_isLot_11 : zD prog_11_method_48_code 11 (.sipush 181) 3 14 := ⟨by decide +kernel, rfl⟩
theorem d_9_isLot_14 : zD prog_11_method_48_code 14 (.invokestatic 329) 3 17 := ⟨by decide +kernel, rfl⟩
theorem d_9_isLot_17 : zD prog_11_method_48_code 17 (.iload_n 1) 1 18 := ⟨by decide +kernel, rfl⟩
theorem d_9_isLot_18 : zD prog_11_method_48_code 18 (.invokestatic 329) 3 21 := ⟨by decide +kernel, rfl⟩
theorem d_9_isLot_21 : zD prog_11_method_48_code 21 (.iconst 1) 1 22 := ⟨by decide +kernel, rfl⟩
theorem d_9_isLot_22 : zD prog_11_method_48_code 22 (.iushr) 1 23 := ⟨by decide +kernel, rfl⟩
theorem d_9_isLot_23 : zD prog_11_method_48_code 23 (.bipush 100) 2 25 := ⟨by decide +kernel, rfl⟩
theorem d_9_isLot_25 : zD prog_11_method_48_code 25 (.irem) 1 26 := ⟨by decide +kernel, rfl⟩
theorem d_9_isLot_26 : zD prog_11_method_48_code 26 (.iload_n 2) 1 27 := ⟨by decide +kernel, rfl⟩
theorem d_9_isLot_27 : zD prog_11_method_48_code 27 (.if_icmp .ge 7) 3 30 := ⟨by decide +kernel, rfl⟩
theorem d_9_isLot_30 : zD prog_11_method_48_code 30 (.iconst 1) 1 31 := ⟨by decide +kernel, rfl⟩
theorem d_9_isLot_31 : zD prog_11_method_48_code 31 (.goto 4) 3 34 := ⟨by decide +kernel, rfl⟩
theorem d_9_isLot_34 : zD prog_11_method_48_code 34 (.iconst 0) 1 35 := ⟨by decide +kernel, rfl⟩
theorem d_9_isLot_35 : zD prog_11_method_48_code 35 (.ireturn) 1 36 := ⟨by decide +kernel, rfl⟩
theorem d_9_hasRight_0 : zD prog_11_method_49_code 0 (.aload_n 0) 1 1 := ⟨by decide +kernel, rfl⟩
theorem d_9_hasRight_1 : zD prog_11_method_49_code 1 (.getfield 113) 3 4 := ⟨by decide +kernel, rfl⟩
theorem d_9_hasRight_4 : zD prog_11_method_49_code 4 (.bipush 28) 2 6 := ⟨by decide +kernel, rfl⟩
theorem d_9_hasRight_6 : zD prog_11_method_49_code 6 (.iload_n 2) 1 7 := ⟨by decide +kernel, rfl⟩
theorem d_9_hasRight_7 : zD prog_11_method_49_code 7 (.iadd) 1 8 := ⟨by decide +kernel, rfl⟩
theorem d_9_hasRight_8 : zD prog_11_method_49_code 8 (.iaload) 1 9 := ⟨by decide +kernel, rfl⟩
theorem d_9_hasRight_9 : zD prog_11_method_49_code 9 (.iload_n 1) 1 10 := ⟨by decide +kernel, rfl⟩
theorem d_9_hasRight_10 : zD prog_11_method_49_code 10 (.ishr) 1 11 := ⟨by decide +kernel, rfl⟩
theorem d_9_hasRight_11 : zD prog_11_method_49_code 11 (.iconst 1) 1 12 := ⟨by decide +kernel, rfl⟩
theorem d_9_hasRight_12 : zD prog_11_method_49_code 12 (.iand) 1 13 := ⟨by decide +kernel, rfl⟩
theorem d_9_hasRight_13 : zD prog_11_method_49_code 13 (.iconst 1) 1 14 := ⟨by decide +kernel, rfl⟩
theorem d_9_hasRight_14 : zD prog_11_method_49_code 14 (.if_icmp .ne 7) 3 17 := ⟨by decide +kernel, rfl⟩
theorem d_9_hasRight_17 : zD prog_11_method_49_code 17 (.iconst 1) 1 18 := ⟨by decide +kernel, rfl⟩
theorem d_9_hasRight_18 : zD prog_11_method_49_code 18 (.goto 4) 3 21 := ⟨by decide +kernel, rfl⟩
theorem d_9_hasRight_21 : zD prog_11_method_49_code 21 (.iconst 0) 1 22 := ⟨by decide +kernel, rfl⟩
theorem d_9_hasRight_22 : zD prog_11_method_49_code 22 (.ireturn) 1 23 := ⟨by decide +kernel, rfl⟩
theorem d_9_longestBut_0 : zD prog_11_method_50_code 0 (.bipush (-2)) 2 2 := ⟨by decide +kernel, rfl⟩
theorem d_9_longestBut_2 : zD prog_11_method_50_code 2 (.istore_n 3) 1 3 := ⟨by decide +kernel, rfl⟩
theorem d_9_longestBut_3 : zD prog_11_method_50_code 3 (.iconst 0) 1 4 := ⟨by decide +kernel, rfl⟩
theorem d_9_longestBut_4 : zD prog_11_method_50_code 4 (.istore 4) 2 6 := ⟨by decide +kernel, rfl⟩
theorem d_9_longestBut_6 : zD prog_11_method_50_code 6 (.iload 4) 2 8 := ⟨by decide +kernel, rfl⟩
theorem d_9_longestBut_8 : zD prog_11_method_50_code 8 (.aload_n 0) 1 9 := ⟨by decide +kernel, rfl⟩
theorem d_9_longestBut_9 : zD prog_11_method_50_code 9 (.getfield 55) 3 12 := ⟨by decide +kernel, rfl⟩
theorem d_9_longestBut_12 : zD prog_11_method_50_code 12 (.aload_n 0) 1 13 := ⟨by decide +kernel, rfl⟩
theorem d_9_longestBut_13 : zD prog_11_method_50_code 13 (.getfield 233) 3 16 := ⟨by decide +kernel, rfl⟩
theorem d_9_longestBut_16 : zD prog_11_method_50_code 16 (.iaload) 1 17 := ⟨by decide +kernel, rfl⟩
theorem d_9_longestBut_17 : zD prog_11_method_50_code 17 (.if_icmp .ge 68) 3 20 := ⟨by decide +kernel, rfl⟩
theorem d_9_longestBut_20 : zD prog_11_method_50_code 20 (.iload 4) 2 22 := ⟨by decide +kernel, rfl⟩
theorem d_9_longestBut_22 : zD prog_11_method_50_code 22 (.iload_n 2) 1 23 := ⟨by decide +kernel, rfl⟩
theorem d_9_longestBut_23 : zD prog_11_method_50_code 23 (.if_icmp .eq 56) 3 26 := ⟨by decide +kernel, rfl⟩
theorem d_9_longestBut_26 : zD prog_11_method_50_code 26 (.aload_n 0) 1 27 := ⟨by decide +kernel, rfl⟩
theorem d_9_longestBut_27 : zD prog_11_method_50_code 27 (.getfield 113) 3 30 := ⟨by decide +kernel, rfl⟩
theorem d_9_longestBut_30 : zD prog_11_method_50_code 30 (.iload 4) 2 32 := ⟨by decide +kernel, rfl⟩
theorem d_9_longestBut_32 : zD prog_11_method_50_code 32 (.iaload) 1 33 := ⟨by decide +kernel, rfl⟩
theorem d_9_longestBut_33 : zD prog_11_method_50_code 33 (.iconst 1) 1 34 := ⟨by decide +kernel, rfl⟩
theorem d_9_longestBut_34 : zD prog_11_method_50_code 34 (.if_icmp .ne 45) 3 37 := ⟨by decide +kernel, rfl⟩
theorem d_9_longestBut_37 : zD prog_11_method_50_code 37 (.aload_n 0) 1 38 := ⟨by decide +kernel, rfl⟩
theorem d_9_longestBut_38 : zD prog_11_method_50_code 38 (.iload 4) 2 40 := ⟨by decide +kernel, rfl⟩
theorem d_9_longestBut_40 : zD prog_11_method_50_code 40 (.iload_n 1) 1 41 := ⟨by decide +kernel, rfl⟩
theorem d_9_longestBut_41 : zD prog_11_method_50_code 41 (.invokevirtual 333) 3 44 := ⟨by decide +kernel, rfl⟩
theorem d_9_longestBut_44 : zD prog_11_method_50_code 44 (.ifCond .ne 6) 3 47 := ⟨by decide +kernel, rfl⟩
theorem d_9_longestBut_47 : zD prog_11_method_50_code 47 (.goto 32) 3 50 := ⟨by decide +kernel, rfl⟩
theorem d_9_longestBut_50 : zD prog_11_method_50_code 50 (.iload_n 3) 1 51 := ⟨by decide +kernel, rfl⟩
theorem d_9_longestBut_51 : zD prog_11_method_50_code 51 (.ifCond .lt 25) 3 54 := ⟨by decide +kernel, rfl⟩
theorem d_9_longestBut_54 : zD prog_11_method_50_code 54 (.aload_n 0) 1 55 := ⟨by decide +kernel, rfl⟩
theorem d_9_longestBut_55 : zD prog_11_method_50_code 55 (.getfield 113) 3 58 := ⟨by decide +kernel, rfl⟩
theorem d_9_longestBut_58 : zD prog_11_method_50_code 58 (.bipush 7) 2 60 := ⟨by decide +kernel, rfl⟩
theorem d_9_longestBut_60 : zD prog_11_method_50_code 60 (.iload 4) 2 62 := ⟨by decide +kernel, rfl⟩
theorem d_9_longestBut_62 : zD prog_11_method_50_code 62 (.iadd) 1 63 := ⟨by decide +kernel, rfl⟩
theorem d_9_longestBut_63 : zD prog_11_method_50_code 63 (.iaload) 1 64 := ⟨by decide +kernel, rfl⟩
theorem d_9_longestBut_64 : zD prog_11_method_50_code 64 (.aload_n 0) 1 65 := ⟨by decide +kernel, rfl⟩
theorem d_9_longestBut_65 : zD prog_11_method_50_code 65 (.getfield 113) 3 68 := ⟨by decide +kernel, rfl⟩
theorem d_9_longestBut_68 : zD prog_11_method_50_code 68 (.bipush 7) 2 70 := ⟨by decide +kernel, rfl⟩
theorem d_9_longestBut_70 : zD prog_11_method_50_code 70 (.iload_n 3) 1 71 := ⟨by decide +kernel, rfl⟩
theorem d_9_longestBut_71 : zD prog_11_method_50_code 71 (.iadd) 1 72 := ⟨by decide +kernel, rfl⟩
theorem d_9_longestBut_72 : zD prog_11_method_50_code 72 (.iaload) 1 73 := ⟨by decide +kernel, rfl⟩
theorem d_9_longestBut_73 : zD prog_11_method_50_code 73 (.if_icmp .le 6) 3 76 := ⟨by decide +kernel, rfl⟩
theorem d_9_longestBut_76 : zD prog_11_method_50_code 76 (.iload 4) 2 78 := ⟨by decide +kernel, rfl⟩
theorem d_9_longestBut_78 : zD prog_11_method_50_code 78 (.istore_n 3) 1 79 := ⟨by decide +kernel, rfl⟩
theorem d_9_longestBut_79 : zD prog_11_method_50_code 79 (.iinc 4 1) 3 82 := ⟨by decide +kernel, rfl⟩
theorem d_9_longestBut_82 : zD prog_11_method_50_code 82 (.goto (-76)) 3 85 := ⟨by decide +kernel, rfl⟩
theorem d_9_longestBut_85 : zD prog_11_method_50_code 85 (.iload_n 3) 1 86 := ⟨by decide +kernel, rfl⟩
theorem d_9_longestBut_86 : zD prog_11_method_50_code 86 (.ireturn) 1 87 := ⟨by decide +kernel, rfl⟩
theorem d_9_lordOf_0 : zD prog_11_method_51_code 0 (.aload_n 0) 1 1 := ⟨by decide +kernel, rfl⟩
theorem d_9_lordOf_1 : zD prog_11_method_51_code 1 (.iload_n 1) 1 2 := ⟨by decide +kernel, rfl⟩
theorem d_9_lordOf_2 : zD prog_11_method_51_code 2 (.iconst (-1)) 1 3 := ⟨by decide +kernel, rfl⟩
theorem d_9_lordOf_3 : zD prog_11_method_51_code 3 (.invokevirtual 337) 3 6 := ⟨by decide +kernel, rfl⟩
theorem d_9_lordOf_6 : zD prog_11_method_51_code 6 (.ireturn) 1 7 := ⟨by decide +kernel, rfl⟩
theorem d_9_lordBits_0 : zD prog_11_method_52_code 0 (.iconst 0) 1 1 := ⟨by decide +kernel, rfl⟩
theorem d_9_lordBits_1 : zD prog_11_method_52_code 1 (.istore_n 2) 1 2 := ⟨by decide +kernel, rfl⟩
theorem d_9_lordBits_2 : zD prog_11_method_52_code 2 (.iconst 0) 1 3 := ⟨by decide +kernel, rfl⟩
theorem d_9_lordBits_3 : zD prog_11_method_52_code 3 (.istore_n 3) 1 4 := ⟨by decide +kernel, rfl⟩
theorem d_9_lordBits_4 : zD prog_11_method_52_code 4 (.iload_n 3) 1 5 := ⟨by decide +kernel, rfl⟩
theorem d_9_lordBits_5 : zD prog_11_method_52_code 5 (.aload_n 0) 1 6 := ⟨by decide +kernel, rfl⟩
theorem d_9_lordBits_6 : zD prog_11_method_52_code 6 (.getfield 46) 3 9 := ⟨by decide +kernel, rfl⟩
theorem d_9_lordBits_9 : zD prog_11_method_52_code 9 (.aload_n 0) 1 10 := ⟨by decide +kernel, rfl⟩
theorem d_9_lordBits_10 : zD prog_11_method_52_code 10 (.getfield 233) 3 13 := ⟨by decide +kernel, rfl⟩
theorem d_9_lordBits_13 : zD prog_11_method_52_code 13 (.iaload) 1 14 := ⟨by decide +kernel, rfl⟩
theorem d_9_lordBits_14 : zD prog_11_method_52_code 14 (.if_icmp .ge 24) 3 17 := ⟨by decide +kernel, rfl⟩
theorem d_9_lordBits_17 : zD prog_11_method_52_code 17 (.aload_n 0) 1 18 := ⟨by decide +kernel, rfl⟩
theorem d_9_lordBits_18 : zD prog_11_method_52_code 18 (.iload_n 3) 1 19 := ⟨by decide +kernel, rfl⟩
theorem d_9_lordBits_19 : zD prog_11_method_52_code 19 (.invokevirtual 340) 3 22 := ⟨by decide +kernel, rfl⟩
theorem d_9_lordBits_22 : zD prog_11_method_52_code 22 (.iload_n 1) 1 23 := ⟨by decide +kernel, rfl⟩
theorem d_9_lordBits_23 : zD prog_11_method_52_code 23 (.if_icmp .ne 9) 3 26 := ⟨by decide +kernel, rfl⟩
theorem d_9_lordBits_26 : zD prog_11_method_52_code 26 (.iload_n 2) 1 27 := ⟨by decide +kernel, rfl⟩
theorem d_9_lordBits_27 : zD prog_11_method_52_code 27 (.iconst 1) 1 28 := ⟨by decide +kernel, rfl⟩
theorem d_9_lordBits_28 : zD prog_11_method_52_code 28 (.iload_n 3) 1 29 := ⟨by decide +kernel, rfl⟩
theorem d_9_lordBits_29 : zD prog_11_method_52_code 29 (.ishl) 1 30 := ⟨by decide +kernel, rfl⟩
theorem d_9_lordBits_30 : zD prog_11_method_52_code 30 (.ior) 1 31 := ⟨by decide +kernel, rfl⟩
theorem d_9_lordBits_31 : zD prog_11_method_52_code 31 (.istore_n 2) 1 32 := ⟨by decide +kernel, rfl⟩
theorem d_9_lordBits_32 : zD prog_11_method_52_code 32 (.iinc 3 1) 3 35 := ⟨by decide +kernel, rfl⟩
theorem d_9_lordBits_35 : zD prog_11_method_52_code 35 (.goto (-31)) 3 38 := ⟨by decide +kernel, rfl⟩
theorem d_9_lordBits_38 : zD prog_11_method_52_code 38 (.iload_n 2) 1 39 := ⟨by decide +kernel, rfl⟩
theorem d_9_lordBits_39 : zD prog_11_method_52_code 39 (.ireturn) 1 40 := ⟨by decide +kernel, rfl⟩
theorem d_9_rightBits_0 : zD prog_11_method_53_code 0 (.iconst 0) 1 1 := ⟨by decide +kernel, rfl⟩
theorem d_9_rightBits_1 : zD prog_11_method_53_code 1 (.istore_n 2) 1 2 := ⟨by decide +kernel, rfl⟩
theorem d_9_rightBits_2 : zD prog_11_method_53_code 2 (.iconst 0) 1 3 := ⟨by decide +kernel, rfl⟩
theorem d_9_rightBits_3 : zD prog_11_method_53_code 3 (.istore_n 3) 1 4 := ⟨by decide +kernel, rfl⟩
theorem d_9_rightBits_4 : zD prog_11_method_53_code 4 (.iload_n 3) 1 5 := ⟨by decide +kernel, rfl⟩
theorem d_9_rightBits_5 : zD prog_11_method_53_code 5 (.aload_n 0) 1 6 := ⟨by decide +kernel, rfl⟩
theorem d_9_rightBits_6 : zD prog_11_method_53_code 6 (.getfield 46) 3 9 := ⟨by decide +kernel, rfl⟩
theorem d_9_rightBits_9 : zD prog_11_method_53_code 9 (.aload_n 0) 1 10 := ⟨by decide +kernel, rfl⟩
theorem d_9_rightBits_10 : zD prog_11_method_53_code 10 (.getfield 233) 3 13 := ⟨by decide +kernel, rfl⟩
theorem d_9_rightBits_13 : zD prog_11_method_53_code 13 (.iaload) 1 14 := ⟨by decide +kernel, rfl⟩
theorem d_9_rightBits_14 : zD prog_11_method_53_code 14 (.if_icmp .ge 24) 3 17 := ⟨by decide +kernel, rfl⟩
theorem d_9_rightBits_17 : zD prog_11_method_53_code 17 (.aload_n 0) 1 18 := ⟨by decide +kernel, rfl⟩
theorem d_9_rightBits_18 : zD prog_11_method_53_code 18 (.iload_n 1) 1 19 := ⟨by decide +kernel, rfl⟩
theorem d_9_rightBits_19 : zD prog_11_method_53_code 19 (.iload_n 3) 1 20 := ⟨by decide +kernel, rfl⟩
theorem d_9_rightBits_20 : zD prog_11_method_53_code 20 (.invokevirtual 333) 3 23 := ⟨by decide +kernel, rfl⟩
theorem d_9_rightBits_23 : zD prog_11_method_53_code 23 (.ifCond .eq 9) 3 26 := ⟨by decide +kernel, rfl⟩
theorem d_9_rightBits_26 : zD prog_11_method_53_code 26 (.iload_n 2) 1 27 := ⟨by decide +kernel, rfl⟩
theorem d_9_rightBits_27 : zD prog_11_method_53_code 27 (.iconst 1) 1 28 := ⟨by decide +kernel, rfl⟩
theorem d_9_rightBits_28 : zD prog_11_method_53_code 28 (.iload_n 3) 1 29 := ⟨by decide +kernel, rfl⟩
theorem d_9_rightBits_29 : zD prog_11_method_53_code 29 (.ishl) 1 30 := ⟨by decide +kernel, rfl⟩
theorem d_9_rightBits_30 : zD prog_11_method_53_code 30 (.ior) 1 31 := ⟨by decide +kernel, rfl⟩
theorem d_9_rightBits_31 : zD prog_11_method_53_code 31 (.istore_n 2) 1 32 := ⟨by decide +kernel, rfl⟩
theorem d_9_rightBits_32 : zD prog_11_method_53_code 32 (.iinc 3 1) 3 35 := ⟨by decide +kernel, rfl⟩
theorem d_9_rightBits_35 : zD prog_11_method_53_code 35 (.goto (-31)) 3 38 := ⟨by decide +kernel, rfl⟩
theorem d_9_rightBits_38 : zD prog_11_method_53_code 38 (.iload_n 2) 1 39 := ⟨by decide +kernel, rfl⟩
theorem d_9_rightBits_39 : zD prog_11_method_53_code 39 (.ireturn) 1 40 := ⟨by decide +kernel, rfl⟩
theorem d_9_inState_0 : zD prog_11_method_54_code 0 (.iconst 0) 1 1 := ⟨by decide +kernel, rfl⟩
theorem d_9_inState_1 : zD prog_11_method_54_code 1 (.istore_n 2) 1 2 := ⟨by decide +kernel, rfl⟩
theorem d_9_inState_2 : zD prog_11_method_54_code 2 (.iconst 0) 1 3 := ⟨by decide +kernel, rfl⟩
theorem d_9_inState_3 : zD prog_11_method_54_code 3 (.istore_n 3) 1 4 := ⟨by decide +kernel, rfl⟩
theorem d_9_inState_4 : zD prog_11_method_54_code 4 (.iload_n 3) 1 5 := ⟨by decide +kernel, rfl⟩
theorem d_9_inState_5 : zD prog_11_method_54_code 5 (.aload_n 0) 1 6 := ⟨by decide +kernel, rfl⟩
theorem d_9_inState_6 : zD prog_11_method_54_code 6 (.getfield 55) 3 9 := ⟨by decide +kernel, rfl⟩
theorem d_9_inState_9 : zD prog_11_method_54_code 9 (.aload_n 0) 1 10 := ⟨by decide +kernel, rfl⟩
theorem d_9_inState_10 : zD prog_11_method_54_code 10 (.getfield 233) 3 13 := ⟨by decide +kernel, rfl⟩
theorem d_9_inState_13 : zD prog_11_method_54_code 13 (.iaload) 1 14 := ⟨by decide +kernel, rfl⟩
theorem d_9_inState_14 : zD prog_11_method_54_code 14 (.if_icmp .ge 25) 3 17 := ⟨by decide +kernel, rfl⟩
theorem d_9_inState_17 : zD prog_11_method_54_code 17 (.aload_n 0) 1 18 := ⟨by decide +kernel, rfl⟩
theorem d_9_inState_18 : zD prog_11_method_54_code 18 (.getfield 113) 3 21 := ⟨by decide +kernel, rfl⟩
theorem d_9_inState_21 : zD prog_11_method_54_code 21 (.iload_n 3) 1 22 := ⟨by decide +kernel, rfl⟩
theorem d_9_inState_22 : zD prog_11_method_54_code 22 (.iaload) 1 23 := ⟨by decide +kernel, rfl⟩
theorem d_9_inState_23 : zD prog_11_method_54_code 23 (.iload_n 1) 1 24 := ⟨by decide +kernel, rfl⟩
theorem d_9_inState_24 : zD prog_11_method_54_code 24 (.if_icmp .ne 9) 3 27 := ⟨by decide +kernel, rfl⟩
theorem d_9_inState_27 : zD prog_11_method_54_code 27 (.iload_n 2) 1 28 := ⟨by decide +kernel, rfl⟩
theorem d_9_inState_28 : zD prog_11_method_54_code 28 (.iconst 1) 1 29 := ⟨by decide +kernel, rfl⟩
theorem d_9_inState_29 : zD prog_11_method_54_code 29 (.iload_n 3) 1 30 := ⟨by decide +kernel, rfl⟩
theorem d_9_inState_30 : zD prog_11_method_54_code 30 (.ishl) 1 31 := ⟨by decide +kernel, rfl⟩
theorem d_9_inState_31 : zD prog_11_method_54_code 31 (.ior) 1 32 := ⟨by decide +kernel, rfl⟩
theorem d_9_inState_32 : zD prog_11_method_54_code 32 (.istore_n 2) 1 33 := ⟨by decide +kernel, rfl⟩
theorem d_9_inState_33 : zD prog_11_method_54_code 33 (.iinc 3 1) 3 36 := ⟨by decide +kernel, rfl⟩
theorem d_9_inState_36 : zD prog_11_method_54_code 36 (.goto (-32)) 3 39 := ⟨by decide +kernel, rfl⟩
theorem d_9_inState_39 : zD prog_11_method_54_code 39 (.iload_n 2) 1 40 := ⟨by decide +kernel, rfl⟩
theorem d_9_inState_40 : zD prog_11_method_54_code 40 (.ireturn) 1 41 := ⟨by decide +kernel, rfl⟩
theorem d_9_ageNow_0 : zD prog_11_method_55_code 0 (.aload_n 0) 1 1 := ⟨by decide +kernel, rfl⟩
theorem d_9_ageNow_1 : zD prog_11_method_55_code 1 (.getfield 58) 3 4 := ⟨by decide +kernel, rfl⟩
theorem d_9_ageNow_4 : zD prog_11_method_55_code 4 (.bipush 7) 2 6 := ⟨by decide +kernel, rfl⟩
theorem d_9_ageNow_6 : zD prog_11_method_55_code 6 (.aload_n 0) 1 7 := ⟨by decide +kernel, rfl⟩
theorem d_9_ageNow_7 : zD prog_11_method_55_code 7 (.getfield 233) 3 10 := ⟨by decide +kernel, rfl⟩
theorem d_9_ageNow_10 : zD prog_11_method_55_code 10 (.imul) 1 11 := ⟨by decide +kernel, rfl⟩
theorem d_9_ageNow_11 : zD prog_11_method_55_code 11 (.iload_n 1) 1 12 := ⟨by decide +kernel, rfl⟩
theorem d_9_ageNow_12 : zD prog_11_method_55_code 12 (.iadd) 1 13 := ⟨by decide +kernel, rfl⟩
theorem d_9_ageNow_13 : zD prog_11_method_55_code 13 (.iaload) 1 14 := ⟨by decide +kernel, rfl⟩
theorem d_9_ageNow_14 : zD prog_11_method_55_code 14 (.aload_n 0) 1 15 := ⟨by decide +kernel, rfl⟩
theorem d_9_ageNow_15 : zD prog_11_method_55_code 15 (.getfield 113) 3 18 := ⟨by decide +kernel, rfl⟩
theorem d_9_ageNow_18 : zD prog_11_method_55_code 18 (.iload_n 1) 1 19 := ⟨by decide +kernel, rfl⟩
theorem d_9_ageNow_19 : zD prog_11_method_55_code 19 (.iaload) 1 20 := ⟨by decide +kernel, rfl⟩
theorem d_9_ageNow_20 : zD prog_11_method_55_code 20 (.iconst 2) 1 21 := ⟨by decide +kernel, rfl⟩
theorem d_9_ageNow_21 : zD prog_11_method_55_code 21 (.if_icmp .ne 15) 3 24 := ⟨by decide +kernel, rfl⟩
theorem d_9_ageNow_24 : zD prog_11_method_55_code 24 (.aload_n 0) 1 25 := ⟨by decide +kernel, rfl⟩
theorem d_9_ageNow_25 : zD prog_11_method_55_code 25 (.getfield 113) 3 28 := ⟨by decide +kernel, rfl⟩
theorem d_9_ageNow_28 : zD prog_11_method_55_code 28 (.bipush 21) 2 30 := ⟨by decide +kernel, rfl⟩
theorem d_9_ageNow_30 : zD prog_11_method_55_code 30 (.iload_n 1) 1 31 := ⟨by decide +kernel, rfl⟩
theorem d_9_ageNow_31 : zD prog_11_method_55_code 31 (.iadd) 1 32 := ⟨by decide +kernel, rfl⟩
theorem d_9_ageNow_32 : zD prog_11_method_55_code 32 (.iaload) 1 33 := ⟨by decide +kernel, rfl⟩
theorem d_9_ageNow_33 : zD prog_11_method_55_code 33 (.goto 10) 3 36 := ⟨by decide +kernel, rfl⟩
theorem d_9_ageNow_36 : zD prog_11_method_55_code 36 (.aload_n 0) 1 37 := ⟨by decide +kernel, rfl⟩
theorem d_9_ageNow_37 : zD prog_11_method_55_code 37 (.getfield 113) 3 40 := ⟨by decide +kernel, rfl⟩
theorem d_9_ageNow_40 : zD prog_11_method_55_code 40 (.bipush 33) 2 42 := ⟨by decide +kernel, rfl⟩
theorem d_9_ageNow_42 : zD prog_11_method_55_code 42 (.iaload) 1 43 := ⟨by decide +kernel, rfl⟩
theorem d_9_ageNow_43 : zD prog_11_method_55_code 43 (.iadd) 1 44 := ⟨by decide +kernel, rfl⟩
theorem d_9_ageNow_44 : zD prog_11_method_55_code 44 (.ireturn) 1 45 := ⟨by decide +kernel, rfl⟩
theorem d_9_lawTells_0 : zD prog_11_method_56_code 0 (.iconst 4) 1 1 := ⟨by decide +kernel, rfl⟩
theorem d_9_lawTells_1 : zD prog_11_method_56_code 1 (.aload_n 0) 1 2 := ⟨by decide +kernel, rfl⟩
theorem d_9_lawTells_2 : zD prog_11_method_56_code 2 (.getfield 233) 3 5 := ⟨by decide +kernel, rfl⟩
theorem d_9_lawTells_5 : zD prog_11_method_56_code 5 (.imul) 1 6 := ⟨by decide +kernel, rfl⟩
theorem d_9_lawTells_6 : zD prog_11_method_56_code 6 (.iload_n 1) 1 7 := ⟨by decide +kernel, rfl⟩
theorem d_9_lawTells_7 : zD prog_11_method_56_code 7 (.iadd) 1 8 := ⟨by decide +kernel, rfl⟩
theorem d_9_lawTells_8 : zD prog_11_method_56_code 8 (.istore_n 3) 1 9 := ⟨by decide +kernel, rfl⟩
theorem d_9_lawTells_9 : zD prog_11_method_56_code 9 (.aload_n 0) 1 10 := ⟨by decide +kernel, rfl⟩
theorem d_9_lawTells_10 : zD prog_11_method_56_code 10 (.getfield 73) 3 13 := ⟨by decide +kernel, rfl⟩
theorem d_9_lawTells_13 : zD prog_11_method_56_code 13 (.iload_n 3) 1 14 := ⟨by decide +kernel, rfl⟩
theorem d_9_lawTells_14 : zD prog_11_method_56_code 14 (.iaload) 1 15 := ⟨by decide +kernel, rfl⟩
theorem d_9_lawTells_15 : zD prog_11_method_56_code 15 (.aload_n 0) 1 16 := ⟨by decide +kernel, rfl⟩
theorem d_9_lawTells_16 : zD prog_11_method_56_code 16 (.getfield 76) 3 19 := ⟨by decide +kernel, rfl⟩
theorem d_9_lawTells_19 : zD prog_11_method_56_code 19 (.iload_n 3) 1 20 := ⟨by decide +kernel, rfl⟩
theorem d_9_lawTells_20 : zD prog_11_method_56_code 20 (.iaload) 1 21 := ⟨by decide +kernel, rfl⟩
theorem d_9_lawTells_21 : zD prog_11_method_56_code 21 (.if_icmp .ne 5) 3 24 := ⟨by decide +kernel, rfl⟩
theorem d_9_lawTells_24 : zD prog_11_method_56_code 24 (.iload_n 2) 1 25 := ⟨by decide +kernel, rfl⟩
theorem d_9_lawTells_25 : zD prog_11_method_56_code 25 (.ireturn) 1 26 := ⟨by decide +kernel, rfl⟩
theorem d_9_lawTells_26 : zD prog_11_method_56_code 26 (.aload_n 0) 1 27 := ⟨by decide +kernel, rfl⟩
theorem d_9_lawTells_27 : zD prog_11_method_56_code 27 (.iconst 0) 1 28 := ⟨by decide +kernel, rfl⟩
theorem d_9_lawTells_28 : zD prog_11_method_56_code 28 (.putfield 308) 3 31 := ⟨by decide +kernel, rfl⟩
theorem d_9_lawTells_31 : zD prog_11_method_56_code 31 (.aload_n 0) 1 32 := ⟨by decide +kernel, rfl⟩
theorem d_9_lawTells_32 : zD prog_11_method_56_code 32 (.getfield 73) 3 35 := ⟨by decide +kernel, rfl⟩
theorem d_9_lawTells_35 : zD prog_11_method_56_code 35 (.iload_n 3) 1 36 := ⟨by decide +kernel, rfl⟩
theorem d_9_lawTells_36 : zD prog_11_method_56_code 36 (.iaload) 1 37 := ⟨by decide +kernel, rfl⟩
theorem d_9_lawTells_37 : zD prog_11_method_56_code 37 (.istore 4) 2 39 := ⟨by decide +kernel, rfl⟩
theorem d_9_lawTells_39 : zD prog_11_method_56_code 39 (.iload 4) 2 41 := ⟨by decide +kernel, rfl⟩
theorem d_9_lawTells_41 : zD prog_11_method_56_code 41 (.aload_n 0) 1 42 := ⟨by decide +kernel, rfl⟩
theorem d_9_lawTells_42 : zD prog_11_method_56_code 42 (.getfield 76) 3 45 := ⟨by decide +kernel, rfl⟩
theorem d_9_lawTells_45 : zD prog_11_method_56_code 45 (.iload_n 3) 1 46 := ⟨by decide +kernel, rfl⟩
theorem d_9_lawTells_46 : zD prog_11_method_56_code 46 (.iaload) 1 47 := ⟨by decide +kernel, rfl⟩
theorem d_9_lawTells_47 : zD prog_11_method_56_code 47 (.if_icmp .ge 112) 3 50 := ⟨by decide +kernel, rfl⟩
theorem d_9_lawTells_50 : zD prog_11_method_56_code 50 (.aload_n 0) 1 51 := ⟨by decide +kernel, rfl⟩
theorem d_9_lawTells_51 : zD prog_11_method_56_code 51 (.getfield 79) 3 54 := ⟨by decide +kernel, rfl⟩
theorem d_9_lawTells_54 : zD prog_11_method_56_code 54 (.iload 4) 2 56 := ⟨by decide +kernel, rfl⟩
theorem d_9_lawTells_56 : zD prog_11_method_56_code 56 (.baload) 1 57 := ⟨by decide +kernel, rfl⟩
theorem d_9_lawTells_57 : zD prog_11_method_56_code 57 (.ifCond .eq 62) 3 60 := ⟨by decide +kernel, rfl⟩
theorem d_9_lawTells_60 : zD prog_11_method_56_code 60 (.aload_n 0) 1 61 := ⟨by decide +kernel, rfl⟩
theorem d_9_lawTells_61 : zD prog_11_method_56_code 61 (.aload_n 0) 1 62 := ⟨by decide +kernel, rfl⟩
theorem d_9_lawTells_62 : zD prog_11_method_56_code 62 (.getfield 83) 3 65 := ⟨by decide +kernel, rfl⟩
theorem d_9_lawTells_65 : zD prog_11_method_56_code 65 (.iload 4) 2 67 := ⟨by decide +kernel, rfl⟩
theorem d_9_lawTells_67 : zD prog_11_method_56_code 67 (.iaload) 1 68 := ⟨by decide +kernel, rfl⟩
theorem d_9_lawTells_68 : zD prog_11_method_56_code 68 (.aload_n 0) 1 69 := ⟨by decide +kernel, rfl⟩
theorem d_9_lawTells_69 : zD prog_11_method_56_code 69 (.getfield 86) 3 72 := ⟨by decide +kernel, rfl⟩
theorem d_9_lawTells_72 : zD prog_11_method_56_code 72 (.iload 4) 2 74 := ⟨by decide +kernel, rfl⟩
theorem d_9_lawTells_74 : zD prog_11_method_56_code 74 (.iaload) 1 75 := ⟨by decide +kernel, rfl⟩
theorem d_9_lawTells_75 : zD prog_11_method_56_code 75 (.invokevirtual 343) 3 78 := ⟨by decide +kernel, rfl⟩
theorem d_9_lawTells_78 : zD prog_11_method_56_code 78 (.istore 5) 2 80 := ⟨by decide +kernel, rfl⟩
theorem d_9_lawTells_80 : zD prog_11_method_56_code 80 (.aload_n 0) 1 81 := ⟨by decide +kernel, rfl⟩
theorem d_9_lawTells_81 : zD prog_11_method_56_code 81 (.aload_n 0) 1 82 := ⟨by decide +kernel, rfl⟩
theorem d_9_lawTells_82 : zD prog_11_method_56_code 82 (.getfield 86) 3 85 := ⟨by decide +kernel, rfl⟩
theorem d_9_lawTells_85 : zD prog_11_method_56_code 85 (.iload 4) 2 87 := ⟨by decide +kernel, rfl⟩
theorem d_9_lawTells_87 : zD prog_11_method_56_code 87 (.iaload) 1 88 := ⟨by decide +kernel, rfl⟩
theorem d_9_lawTells_88 : zD prog_11_method_56_code 88 (.aload_n 0) 1 89 := ⟨by decide +kernel, rfl⟩
theorem d_9_lawTells_89 : zD prog_11_method_56_code 89 (.getfield 89) 3 92 := ⟨by decide +kernel, rfl⟩
theorem d_9_lawTells_92 : zD prog_11_method_56_code 92 (.iload 4) 2 94 := ⟨by decide +kernel, rfl⟩
theorem d_9_lawTells_94 : zD prog_11_method_56_code 94 (.iaload) 1 95 := ⟨by decide +kernel, rfl⟩
theorem d_9_lawTells_95 : zD prog_11_method_56_code 95 (.invokevirtual 343) 3 98 := ⟨by decide +kernel, rfl⟩
theorem d_9_lawTells_98 : zD prog_11_method_56_code 98 (.istore 6) 2 100 := ⟨by decide +kernel, rfl⟩
theorem d_9_lawTells_100 : zD prog_11_method_56_code 100 (.aload_n 0) 1 101 := ⟨by decide +kernel, rfl⟩
theorem d_9_lawTells_101 : zD prog_11_method_56_code 101 (.getfield 308) 3 104 := ⟨by decide +kernel, rfl⟩
theorem d_9_lawTells_104 : zD prog_11_method_56_code 104 (.ifCond .eq 5) 3 107 := ⟨by decide +kernel, rfl⟩
theorem d_9_lawTells_107 : zD prog_11_method_56_code 107 (.iconst 0) 1 108 := ⟨by decide +kernel, rfl⟩
theorem d_9_lawTells_108 : zD prog_11_method_56_code 108 (.ireturn) 1 109 := ⟨by decide +kernel, rfl⟩
theorem d_9_lawTells_109 : zD prog_11_method_56_code 109 (.iload 5) 2 111 := ⟨by decide +kernel, rfl⟩
theorem d_9_lawTells_111 : zD prog_11_method_56_code 111 (.iload 6) 2 113 := ⟨by decide +kernel, rfl⟩
theorem d_9_lawTells_113 : zD prog_11_method_56_code 113 (.if_icmp .lt 6) 3 116 := ⟨by decide +kernel, rfl⟩
theorem d_9_lawTells_116 : zD prog_11_method_56_code 116 (.goto 37) 3 119 := ⟨by decide +kernel, rfl⟩
theorem d_9_lawTells_119 : zD prog_11_method_56_code 119 (.aload_n 0) 1 120 := ⟨by decide +kernel, rfl⟩
theorem d_9_lawTells_120 : zD prog_11_method_56_code 120 (.aload_n 0) 1 121 := ⟨by decide +kernel, rfl⟩
theorem d_9_lawTells_121 : zD prog_11_method_56_code 121 (.getfield 89) 3 124 := ⟨by decide +kernel, rfl⟩
theorem d_9_lawTells_124 : zD prog_11_method_56_code 124 (.iload 4) 2 126 := ⟨by decide +kernel, rfl⟩
theorem d_9_lawTells_126 : zD prog_11_method_56_code 126 (.iaload) 1 127 := ⟨by decide +kernel, rfl⟩
theorem d_9_lawTells_127 : zD prog_11_method_56_code 127 (.aload_n 0) 1 128 := ⟨by decide +kernel, rfl⟩
theorem d_9_lawTells_128 : zD prog_11_method_56_code 128 (.getfield 92) 3 131 := ⟨by decide +kernel, rfl⟩
theorem d_9_lawTells_131 : zD prog_11_method_56_code 131 (.iload 4) 2 133 := ⟨by decide +kernel, rfl⟩
theorem d_9_lawTells_133 : zD prog_11_method_56_code 133 (.iaload) 1 134 := ⟨by decide +kernel, rfl⟩
theorem d_9_lawTells_134 : zD prog_11_method_56_code 134 (.invokevirtual 343) 3 137 := ⟨by decide +kernel, rfl⟩
theorem d_9_lawTells_137 : zD prog_11_method_56_code 137 (.istore 5) 2 139 := ⟨by decide +kernel, rfl⟩
theorem d_9_lawTells_139 : zD prog_11_method_56_code 139 (.aload_n 0) 1 140 := ⟨by decide +kernel, rfl⟩
theorem d_9_lawTells_140 : zD prog_11_method_56_code 140 (.getfield 308) 3 143 := ⟨by decide +kernel, rfl⟩
theorem d_9_lawTells_143 : zD prog_11_method_56_code 143 (.ifCond .eq 7) 3 146 := ⟨by decide +kernel, rfl⟩
theorem d_9_lawTells_146 : zD prog_11_method_56_code 146 (.iconst 0) 1 147 := ⟨by decide +kernel, rfl⟩
theorem d_9_lawTells_147 : zD prog_11_method_56_code 147 (.goto 5) 3 150 := ⟨by decide +kernel, rfl⟩
theorem d_9_lawTells_150 : zD prog_11_method_56_code 150 (.iload 5) 2 152 := ⟨by decide +kernel, rfl⟩
theorem d_9_lawTells_152 : zD prog_11_method_56_code 152 (.ireturn) 1 153 := ⟨by decide +kernel, rfl⟩
theorem d_9_lawTells_153 : zD prog_11_method_56_code 153 (.iinc 4 1) 3 156 := ⟨by decide +kernel, rfl⟩
theorem d_9_lawTells_156 : zD prog_11_method_56_code 156 (.goto (-117)) 3 159 := ⟨by decide +kernel, rfl⟩
theorem d_9_lawTells_159 : zD prog_11_method_56_code 159 (.iconst 0) 1 160 := ⟨by decide +kernel, rfl⟩
theorem d_9_lawTells_160 : zD prog_11_method_56_code 160 (.ireturn) 1 161 := ⟨by decide +kernel, rfl⟩
theorem d_9_looks_0 : zD prog_11_method_57_code 0 (.aload_n 0) 1 1 := ⟨by decide +kernel, rfl⟩
theorem d_9_looks_1 : zD prog_11_method_57_code 1 (.iload_n 1) 1 2 := ⟨by decide +kernel, rfl⟩
theorem d_9_looks_2 : zD prog_11_method_57_code 2 (.invokevirtual 346) 3 5 := ⟨by decide +kernel, rfl⟩
theorem d_9_looks_5 : zD prog_11_method_57_code 5 (.istore_n 2) 1 6 := ⟨by decide +kernel, rfl⟩
theorem d_9_looks_6 : zD prog_11_method_57_code 6 (.aload_n 0) 1 7 := ⟨by decide +kernel, rfl⟩
theorem d_9_looks_7 : zD prog_11_method_57_code 7 (.getfield 104) 3 10 := ⟨by decide +kernel, rfl⟩
theorem d_9_looks_10 : zD prog_11_method_57_code 10 (.iconst 0) 1 11 := ⟨by decide +kernel, rfl⟩
theorem d_9_looks_11 : zD prog_11_method_57_code 11 (.iconst 0) 1 12 := ⟨by decide +kernel, rfl⟩
theorem d_9_looks_12 : zD prog_11_method_57_code 12 (.iastore) 1 13 := ⟨by decide +kernel, rfl⟩
theorem d_9_looks_13 : zD prog_11_method_57_code 13 (.iconst 0) 1 14 := ⟨by decide +kernel, rfl⟩
theorem d_9_looks_14 : zD prog_11_method_57_code 14 (.istore_n 3) 1 15 := ⟨by decide +kernel, rfl⟩
theorem d_9_looks_15 : zD prog_11_method_57_code 15 (.iload_n 3) 1 16 := ⟨by decide +kernel, rfl⟩
theorem d_9_looks_16 : zD prog_11_method_57_code 16 (.aload_n 0) 1 17 := ⟨by decide +kernel, rfl⟩
theorem d_9_looks_17 : zD prog_11_method_57_code 17 (.getfield 46) 3 20 := ⟨by decide +kernel, rfl⟩
theorem d_9_looks_20 : zD prog_11_method_57_code 20 (.aload_n 0) 1 21 := ⟨by decide +kernel, rfl⟩
theorem d_9_looks_21 : zD prog_11_method_57_code 21 (.getfield 233) 3 24 := ⟨by decide +kernel, rfl⟩
theorem d_9_looks_24 : zD prog_11_method_57_code 24 (.iaload) 1 25 := ⟨by decide +kernel, rfl⟩
theorem d_9_looks_25 : zD prog_11_method_57_code 25 (.if_icmp .ge 40) 3 28 := ⟨by decide +kernel, rfl⟩
theorem d_9_looks_28 : zD prog_11_method_57_code 28 (.iload_n 2) 1 29 := ⟨by decide +kernel, rfl⟩
theorem d_9_looks_29 : zD prog_11_method_57_code 29 (.iload_n 3) 1 30 := ⟨by decide +kernel, rfl⟩
theorem d_9_looks_30 : zD prog_11_method_57_code 30 (.ishr) 1 31 := ⟨by decide +kernel, rfl⟩
theorem d_9_looks_31 : zD prog_11_method_57_code 31 (.iconst 1) 1 32 := ⟨by decide +kernel, rfl⟩
theorem d_9_looks_32 : zD prog_11_method_57_code 32 (.iand) 1 33 := ⟨by decide +kernel, rfl⟩
theorem d_9_looks_33 : zD prog_11_method_57_code 33 (.iconst 1) 1 34 := ⟨by decide +kernel, rfl⟩
theorem d_9_looks_34 : zD prog_11_method_57_code 34 (.if_icmp .ne 25) 3 37 := ⟨by decide +kernel, rfl⟩
theorem d_9_looks_37 : zD prog_11_method_57_code 37 (.aload_n 0) 1 38 := ⟨by decide +kernel, rfl⟩
theorem d_9_looks_38 : zD prog_11_method_57_code 38 (.getfield 104) 3 41 := ⟨by decide +kernel, rfl⟩
theorem d_9_looks_41 : zD prog_11_method_57_code 41 (.iconst 0) 1 42 := ⟨by decide +kernel, rfl⟩
theorem d_9_looks_42 : zD prog_11_method_57_code 42 (.dup2) 1 43 := ⟨by decide +kernel, rfl⟩
theorem d_9_looks_43 : zD prog_11_method_57_code 43 (.iaload) 1 44 := ⟨by decide +kernel, rfl⟩
theorem d_9_looks_44 : zD prog_11_method_57_code 44 (.aload_n 0) 1 45 := ⟨by decide +kernel, rfl⟩
theorem d_9_looks_45 : zD prog_11_method_57_code 45 (.getfield 49) 3 48 := ⟨by decide +kernel, rfl⟩
theorem d_9_looks_48 : zD prog_11_method_57_code 48 (.iconst 5) 1 49 := ⟨by decide +kernel, rfl⟩
theorem d_9_looks_49 : zD prog_11_method_57_code 49 (.aload_n 0) 1 50 := ⟨by decide +kernel, rfl⟩
theorem d_9_looks_50 : zD prog_11_method_57_code 50 (.getfield 233) 3 53 := ⟨by decide +kernel, rfl⟩
theorem d_9_looks_53 : zD prog_11_method_57_code 53 (.imul) 1 54 := ⟨by decide +kernel, rfl⟩
theorem d_9_looks_54 : zD prog_11_method_57_code 54 (.iload_n 3) 1 55 := ⟨by decide +kernel, rfl⟩
theorem d_9_looks_55 : zD prog_11_method_57_code 55 (.iadd) 1 56 := ⟨by decide +kernel, rfl⟩
theorem d_9_looks_56 : zD prog_11_method_57_code 56 (.iaload) 1 57 := ⟨by decide +kernel, rfl⟩
theorem d_9_looks_57 : zD prog_11_method_57_code 57 (.iadd) 1 58 := ⟨by decide +kernel, rfl⟩
theorem d_9_looks_58 : zD prog_11_method_57_code 58 (.iastore) 1 59 := ⟨by decide +kernel, rfl⟩
theorem d_9_looks_59 : zD prog_11_method_57_code 59 (.iinc 3 1) 3 62 := ⟨by decide +kernel, rfl⟩
theorem d_9_looks_62 : zD prog_11_method_57_code 62 (.goto (-47)) 3 65 := ⟨by decide +kernel, rfl⟩
theorem d_9_looks_65 : zD prog_11_method_57_code 65 (.aload_n 0) 1 66 := ⟨by decide +kernel, rfl⟩
theorem d_9_looks_66 : zD prog_11_method_57_code 66 (.getfield 104) 3 69 := ⟨by decide +kernel, rfl⟩
theorem d_9_looks_69 : zD prog_11_method_57_code 69 (.iconst 1) 1 70 := ⟨by decide +kernel, rfl⟩
theorem d_9_looks_70 : zD prog_11_method_57_code 70 (.aload_n 0) 1 71 := ⟨by decide +kernel, rfl⟩
theorem d_9_looks_71 : zD prog_11_method_57_code 71 (.iload_n 1) 1 72 := ⟨by decide +kernel, rfl⟩
theorem d_9_looks_72 : zD prog_11_method_57_code 72 (.invokevirtual 349) 3 75 := ⟨by decide +kernel, rfl⟩
theorem d_9_looks_75 : zD prog_11_method_57_code 75 (.iastore) 1 76 := ⟨by decide +kernel, rfl⟩
theorem d_9_looks_76 : zD prog_11_method_57_code 76 (.aload_n 0) 1 77 := ⟨by decide +kernel, rfl⟩
theorem d_9_looks_77 : zD prog_11_method_57_code 77 (.getfield 104) 3 80 := ⟨by decide +kernel, rfl⟩
theorem d_9_looks_80 : zD prog_11_method_57_code 80 (.iconst 2) 1 81 := ⟨by decide +kernel, rfl⟩
theorem d_9_looks_81 : zD prog_11_method_57_code 81 (.aload_n 0) 1 82 := ⟨by decide +kernel, rfl⟩
theorem d_9_looks_82 : zD prog_11_method_57_code 82 (.getfield 113) 3 85 := ⟨by decide +kernel, rfl⟩
theorem d_9_looks_85 : zD prog_11_method_57_code 85 (.bipush 7) 2 87 := ⟨by decide +kernel, rfl⟩
theorem d_9_looks_87 : zD prog_11_method_57_code 87 (.iload_n 1) 1 88 := ⟨by decide +kernel, rfl⟩
theorem d_9_looks_88 : zD prog_11_method_57_code 88 (.iadd) 1 89 := ⟨by decide +kernel, rfl⟩
theorem d_9_looks_89 : zD prog_11_method_57_code 89 (.iaload) 1 90 := ⟨by decide +kernel, rfl⟩
theorem d_9_looks_90 : zD prog_11_method_57_code 90 (.iastore) 1 91 := ⟨by decide +kernel, rfl⟩
theorem d_9_looks_91 : zD prog_11_method_57_code 91 (.aload_n 0) 1 92 := ⟨by decide +kernel, rfl⟩
theorem d_9_looks_92 : zD prog_11_method_57_code 92 (.getfield 104) 3 95 := ⟨by decide +kernel, rfl⟩
theorem d_9_looks_95 : zD prog_11_method_57_code 95 (.iconst 3) 1 96 := ⟨by decide +kernel, rfl⟩
theorem d_9_looks_96 : zD prog_11_method_57_code 96 (.aload_n 0) 1 97 := ⟨by decide +kernel, rfl⟩
theorem d_9_looks_97 : zD prog_11_method_57_code 97 (.getfield 113) 3 100 := ⟨by decide +kernel, rfl⟩
theorem d_9_looks_100 : zD prog_11_method_57_code 100 (.bipush 14) 2 102 := ⟨by decide +kernel, rfl⟩
theorem d_9_looks_102 : zD prog_11_method_57_code 102 (.iload_n 1) 1 103 := ⟨by decide +kernel, rfl⟩
theorem d_9_looks_103 : zD prog_11_method_57_code 103 (.iadd) 1 104 := ⟨by decide +kernel, rfl⟩
theorem d_9_looks_104 : zD prog_11_method_57_code 104 (.iaload) 1 105 := ⟨by decide +kernel, rfl⟩
theorem d_9_looks_105 : zD prog_11_method_57_code 105 (.iastore) 1 106 := ⟨by decide +kernel, rfl⟩
theorem d_9_looks_106 : zD prog_11_method_57_code 106 (.aload_n 0) 1 107 := ⟨by decide +kernel, rfl⟩
theorem d_9_looks_107 : zD prog_11_method_57_code 107 (.getfield 104) 3 110 := ⟨by decide +kernel, rfl⟩
theorem d_9_looks_110 : zD prog_11_method_57_code 110 (.iconst 4) 1 111 := ⟨by decide +kernel, rfl⟩
theorem d_9_looks_111 : zD prog_11_method_57_code 111 (.aload_n 0) 1 112 := ⟨by decide +kernel, rfl⟩
theorem d_9_looks_112 : zD prog_11_method_57_code 112 (.getfield 113) 3 115 := ⟨by decide +kernel, rfl⟩
theorem d_9_looks_115 : zD prog_11_method_57_code 115 (.bipush 33) 2 117 := ⟨by decide +kernel, rfl⟩
theorem d_9_looks_117 : zD prog_11_method_57_code 117 (.iaload) 1 118 := ⟨by decide +kernel, rfl⟩
theorem d_9_looks_118 : zD prog_11_method_57_code 118 (.iastore) 1 119 := ⟨by decide +kernel, rfl⟩
theorem d_9_looks_119 : zD prog_11_method_57_code 119 (.aload_n 0) 1 120 := ⟨by decide +kernel, rfl⟩
theorem d_9_looks_120 : zD prog_11_method_57_code 120 (.getfield 104) 3 123 := ⟨by decide +kernel, rfl⟩
theorem d_9_looks_123 : zD prog_11_method_57_code 123 (.iconst 5) 1 124 := ⟨by decide +kernel, rfl⟩
theorem d_9_looks_124 : zD prog_11_method_57_code 124 (.aload_n 0) 1 125 := ⟨by decide +kernel, rfl⟩
theorem d_9_looks_125 : zD prog_11_method_57_code 125 (.iload_n 1) 1 126 := ⟨by decide +kernel, rfl⟩
theorem d_9_looks_126 : zD prog_11_method_57_code 126 (.invokevirtual 352) 3 129 := ⟨by decide +kernel, rfl⟩
theorem d_9_looks_129 : zD prog_11_method_57_code 129 (.invokestatic 355) 3 132 := ⟨by decide +kernel, rfl⟩
theorem d_9_looks_132 : zD prog_11_method_57_code 132 (.iastore) 1 133 := ⟨by decide +kernel, rfl⟩
theorem d_9_looks_133 : zD prog_11_method_57_code 133 (.aload_n 0) 1 134 := ⟨by decide +kernel, rfl⟩
theorem d_9_looks_134 : zD prog_11_method_57_code 134 (.getfield 104) 3 137 := ⟨by decide +kernel, rfl⟩
theorem d_9_looks_137 : zD prog_11_method_57_code 137 (.bipush 6) 2 139 := ⟨by decide +kernel, rfl⟩
theorem d_9_looks_139 : zD prog_11_method_57_code 139 (.iload_n 2) 1 140 := ⟨by decide +kernel, rfl⟩
theorem d_9_looks_140 : zD prog_11_method_57_code 140 (.invokestatic 355) 3 143 := ⟨by decide +kernel, rfl⟩
theorem d_9_looks_143 : zD prog_11_method_57_code 143 (.iastore) 1 144 := ⟨by decide +kernel, rfl⟩
theorem d_9_looks_144 : zD prog_11_method_57_code 144 (.aload_n 0) 1 145 := ⟨by decide +kernel, rfl⟩
theorem d_9_looks_145 : zD prog_11_method_57_code 145 (.getfield 104) 3 148 := ⟨by decide +kernel, rfl⟩
theorem d_9_looks_148 : zD prog_11_method_57_code 148 (.bipush 7) 2 150 := ⟨by decide +kernel, rfl⟩
theorem d_9_looks_150 : zD prog_11_method_57_code 150 (.iload_n 1) 1 151 := ⟨by decide +kernel, rfl⟩
theorem d_9_looks_151 : zD prog_11_method_57_code 151 (.iastore) 1 152 := ⟨by decide +kernel, rfl⟩
theorem d_9_looks_152 : zD prog_11_method_57_code 152 (.aload_n 0) 1 153 := ⟨by decide +kernel, rfl⟩
theorem d_9_looks_153 : zD prog_11_method_57_code 153 (.getfield 104) 3 156 := ⟨by decide +kernel, rfl⟩
theorem d_9_looks_156 : zD prog_11_method_57_code 156 (.bipush 8) 2 158 := ⟨by decide +kernel, rfl⟩
theorem d_9_looks_158 : zD prog_11_method_57_code 158 (.aload_n 0) 1 159 := ⟨by decide +kernel, rfl⟩
theorem d_9_looks_159 : zD prog_11_method_57_code 159 (.iconst 0) 1 160 := ⟨by decide +kernel, rfl⟩
theorem d_9_looks_160 : zD prog_11_method_57_code 160 (.invokevirtual 358) 3 163 := ⟨by decide +kernel, rfl⟩
theorem d_9_looks_163 : zD prog_11_method_57_code 163 (.invokestatic 355) 3 166 := ⟨by decide +kernel, rfl⟩
theorem d_9_looks_166 : zD prog_11_method_57_code 166 (.iastore) 1 167 := ⟨by decide +kernel, rfl⟩
theorem d_9_looks_167 : zD prog_11_method_57_code 167 (.return_) 1 168 := ⟨by decide +kernel, rfl⟩
theorem d_9_chanceOf_0 : zD prog_11_method_58_code 0 (.aload_n 0) 1 1 := ⟨by decide +kernel, rfl⟩
theorem d_9_chanceOf_1 : zD prog_11_method_58_code 1 (.iload_n 1) 1 2 := ⟨by decide +kernel, rfl⟩
theorem d_9_chanceOf_2 : zD prog_11_method_58_code 2 (.invokevirtual 361) 3 5 := ⟨by decide +kernel, rfl⟩
theorem d_9_chanceOf_5 : zD prog_11_method_58_code 5 (.aload_n 0) 1 6 := ⟨by decide +kernel, rfl⟩
theorem d_9_chanceOf_6 : zD prog_11_method_58_code 6 (.iload_n 2) 1 7 := ⟨by decide +kernel, rfl⟩
theorem d_9_chanceOf_7 : zD prog_11_method_58_code 7 (.iconst 0) 1 8 := ⟨by decide +kernel, rfl⟩
theorem d_9_chanceOf_8 : zD prog_11_method_58_code 8 (.invokevirtual 364) 3 11 := ⟨by decide +kernel, rfl⟩
theorem d_9_chanceOf_11 : zD prog_11_method_58_code 11 (.iconst 0) 1 12 := ⟨by decide +kernel, rfl⟩
theorem d_9_chanceOf_12 : zD prog_11_method_58_code 12 (.bipush 100) 2 14 := ⟨by decide +kernel, rfl⟩
theorem d_9_chanceOf_14 : zD prog_11_method_58_code 14 (.invokestatic 367) 3 17 := ⟨by decide +kernel, rfl⟩
theorem d_9_chanceOf_17 : zD prog_11_method_58_code 17 (.ireturn) 1 18 := ⟨by decide +kernel, rfl⟩
theorem d_9_rentsOf_0 : zD prog_11_method_59_code 0 (.aload_n 0) 1 1 := ⟨by decide +kernel, rfl⟩
theorem d_9_rentsOf_1 : zD prog_11_method_59_code 1 (.iload_n 1) 1 2 := ⟨by decide +kernel, rfl⟩
theorem d_9_rentsOf_2 : zD prog_11_method_59_code 2 (.invokevirtual 340) 3 5 := ⟨by decide +kernel, rfl⟩
theorem d_9_rentsOf_5 : zD prog_11_method_59_code 5 (.istore_n 2) 1 6 := ⟨by decide +kernel, rfl⟩
theorem d_9_rentsOf_6 : zD prog_11_method_59_code 6 (.iload_n 2) 1 7 := ⟨by decide +kernel, rfl⟩
theorem d_9_rentsOf_7 : zD prog_11_method_59_code 7 (.ifCond .ge 5) 3 10 := ⟨by decide +kernel, rfl⟩
theorem d_9_rentsOf_10 : zD prog_11_method_59_code 10 (.iconst 0) 1 11 := ⟨by decide +kernel, rfl⟩
theorem d_9_rentsOf_11 : zD prog_11_method_59_code 11 (.ireturn) 1 12 := ⟨by decide +kernel, rfl⟩
theorem d_9_rentsOf_12 : zD prog_11_method_59_code 12 (.aload_n 0) 1 13 := ⟨by decide +kernel, rfl⟩
theorem d_9_rentsOf_13 : zD prog_11_method_59_code 13 (.iload_n 2) 1 14 := ⟨by decide +kernel, rfl⟩
theorem d_9_rentsOf_14 : zD prog_11_method_59_code 14 (.invokevirtual 361) 3 17 := ⟨by decide +kernel, rfl⟩
theorem d_9_rentsOf_17 : zD prog_11_method_59_code 17 (.aload_n 0) 1 18 := ⟨by decide +kernel, rfl⟩
theorem d_9_rentsOf_18 : zD prog_11_method_59_code 18 (.getfield 104) 3 21 := ⟨by decide +kernel, rfl⟩
theorem d_9_rentsOf_21 : zD prog_11_method_59_code 21 (.iconst 0) 1 22 := ⟨by decide +kernel, rfl⟩
theorem d_9_rentsOf_22 : zD prog_11_method_59_code 22 (.aload_n 0) 1 23 := ⟨by decide +kernel, rfl⟩
theorem d_9_rentsOf_23 : zD prog_11_method_59_code 23 (.getfield 49) 3 26 := ⟨by decide +kernel, rfl⟩
theorem d_9_rentsOf_26 : zD prog_11_method_59_code 26 (.iconst 5) 1 27 := ⟨by decide +kernel, rfl⟩
theorem d_9_rentsOf_27 : zD prog_11_method_59_code 27 (.aload_n 0) 1 28 := ⟨by decide +kernel, rfl⟩
theorem d_9_rentsOf_28 : zD prog_11_method_59_code 28 (.getfield 233) 3 31 := ⟨by decide +kernel, rfl⟩
theorem d_9_rentsOf_31 : zD prog_11_method_59_code 31 (.imul) 1 32 := ⟨by decide +kernel, rfl⟩
theorem d_9_rentsOf_32 : zD prog_11_method_59_code 32 (.iload_n 1) 1 33 := ⟨by decide +kernel, rfl⟩
theorem d_9_rentsOf_33 : zD prog_11_method_59_code 33 (.iadd) 1 34 := ⟨by decide +kernel, rfl⟩
theorem d_9_rentsOf_34 : zD prog_11_method_59_code 34 (.iaload) 1 35 := ⟨by decide +kernel, rfl⟩
theorem d_9_rentsOf_35 : zD prog_11_method_59_code 35 (.iastore) 1 36 := ⟨by decide +kernel, rfl⟩
theorem d_9_rentsOf_36 : zD prog_11_method_59_code 36 (.aload_n 0) 1 37 := ⟨by decide +kernel, rfl⟩
theorem d_9_rentsOf_37 : zD prog_11_method_59_code 37 (.iconst 3) 1 38 := ⟨by decide +kernel, rfl⟩
theorem d_9_rentsOf_38 : zD prog_11_method_59_code 38 (.aload_n 0) 1 39 := ⟨by decide +kernel, rfl⟩
theorem d_9_rentsOf_39 : zD prog_11_method_59_code 39 (.getfield 104) 3 42 := ⟨by decide +kernel, rfl⟩
theorem d_9_rentsOf_42 : zD prog_11_method_59_code 42 (.iconst 0) 1 43 := ⟨by decide +kernel, rfl⟩
theorem d_9_rentsOf_43 : zD prog_11_method_59_code 43 (.iaload) 1 44 := ⟨by decide +kernel, rfl⟩
theorem d_9_rentsOf_44 : zD prog_11_method_59_code 44 (.invokevirtual 364) 3 47 := ⟨by decide +kernel, rfl⟩
theorem d_9_rentsOf_47 : zD prog_11_method_59_code 47 (.iconst 0) 1 48 := ⟨by decide +kernel, rfl⟩
theorem d_9_rentsOf_48 : zD prog_11_method_59_code 48 (.bipush 99) 2 50 := ⟨by decide +kernel, rfl⟩
theorem d_9_rentsOf_50 : zD prog_11_method_59_code 50 (.invokestatic 367) 3 53 := ⟨by decide +kernel, rfl⟩
theorem d_9_rentsOf_53 : zD prog_11_method_59_code 53 (.ireturn) 1 54 := ⟨by decide +kernel, rfl⟩
theorem d_9_whatDoes_0 : zD prog_11_method_60_code 0 (.aload_n 0) 1 1 := ⟨by decide +kernel, rfl⟩
theorem d_9_whatDoes_1 : zD prog_11_method_60_code 1 (.getfield 113) 3 4 := ⟨by decide +kernel, rfl⟩
theorem d_9_whatDoes_4 : zD prog_11_method_60_code 4 (.iload_n 1) 1 5 := ⟨by decide +kernel, rfl⟩
theorem d_9_whatDoes_5 : zD prog_11_method_60_code 5 (.iaload) 1 6 := ⟨by decide +kernel, rfl⟩
theorem d_9_whatDoes_6 : zD prog_11_method_60_code 6 (.iconst 2) 1 7 := ⟨by decide +kernel, rfl⟩
theorem d_9_whatDoes_7 : zD prog_11_method_60_code 7 (.if_icmp .ne 5) 3 10 := ⟨by decide +kernel, rfl⟩
theorem d_9_whatDoes_10 : zD prog_11_method_60_code 10 (.iconst 0) 1 11 := ⟨by decide +kernel, rfl⟩
theorem d_9_whatDoes_11 : zD prog_11_method_60_code 11 (.ireturn) 1 12 := ⟨by decide +kernel, rfl⟩
theorem d_9_whatDoes_12 : zD prog_11_method_60_code 12 (.aload_n 0) 1 13 := ⟨by decide +kernel, rfl⟩
theorem d_9_whatDoes_13 : zD prog_11_method_60_code 13 (.bipush 32) 2 15 := ⟨by decide +kernel, rfl⟩
theorem d_9_whatDoes_15 : zD prog_11_method_60_code 15 (.aload_n 0) 1 16 := ⟨by decide +kernel, rfl⟩
theorem d_9_whatDoes_16 : zD prog_11_method_60_code 16 (.getfield 113) 3 19 := ⟨by decide +kernel, rfl⟩
theorem d_9_whatDoes_19 : zD prog_11_method_60_code 19 (.bipush 33) 2 21 := ⟨by decide +kernel, rfl⟩
theorem d_9_whatDoes_21 : zD prog_11_method_60_code 21 (.iaload) 1 22 := ⟨by decide +kernel, rfl⟩
theorem d_9_whatDoes_22 : zD prog_11_method_60_code 22 (.imul) 1 23 := ⟨by decide +kernel, rfl⟩
theorem d_9_whatDoes_23 : zD prog_11_method_60_code 23 (.iload_n 1) 1 24 := ⟨by decide +kernel, rfl⟩
theorem d_9_whatDoes_24 : zD prog_11_method_60_code 24 (.iadd) 1 25 := ⟨by decide +kernel, rfl⟩
theorem d_9_whatDoes_25 : zD prog_11_method_60_code 25 (.aload_n 0) 1 26 := ⟨by decide +kernel, rfl⟩
theorem d_9_whatDoes_26 : zD prog_11_method_60_code 26 (.iload_n 1) 1 27 := ⟨by decide +kernel, rfl⟩
theorem d_9_whatDoes_27 : zD prog_11_method_60_code 27 (.iconst 2) 1 28 := ⟨by decide +kernel, rfl⟩
theorem d_9_whatDoes_28 : zD prog_11_method_60_code 28 (.invokevirtual 370) 3 31 := ⟨by decide +kernel, rfl⟩
theorem d_9_whatDoes_31 : zD prog_11_method_60_code 31 (.invokevirtual 373) 3 34 := ⟨by decide +kernel, rfl⟩
theorem d_9_whatDoes_34 : zD prog_11_method_60_code 34 (.ifCond .eq 5) 3 37 := ⟨by decide +kernel, rfl⟩
theorem d_9_whatDoes_37 : zD prog_11_method_60_code 37 (.iconst 2) 1 38 := ⟨by decide +kernel, rfl⟩
theorem d_9_whatDoes_38 : zD prog_11_method_60_code 38 (.ireturn) 1 39 := ⟨by decide +kernel, rfl⟩
theorem d_9_whatDoes_39 : zD prog_11_method_60_code 39 (.aload_n 0) 1 40 := ⟨by decide +kernel, rfl⟩
theorem d_9_whatDoes_40 : zD prog_11_method_60_code 40 (.getfield 113) 3 43 := ⟨by decide +kernel, rfl⟩
theorem d_9_whatDoes_43 : zD prog_11_method_60_code 43 (.iload_n 1) 1 44 := ⟨by decide +kernel, rfl⟩
theorem d_9_whatDoes_44 : zD prog_11_method_60_code 44 (.iaload) 1 45 := ⟨by decide +kernel, rfl⟩
theorem d_9_whatDoes_45 : zD prog_11_method_60_code 45 (.ifCond .ne 8) 3 48 := ⟨by decide +kernel, rfl⟩
theorem d_9_whatDoes_48 : zD prog_11_method_60_code 48 (.bipush 8) 2 50 := ⟨by decide +kernel, rfl⟩
theorem d_9_whatDoes_50 : zD prog_11_method_60_code 50 (.goto 5) 3 53 := ⟨by decide +kernel, rfl⟩
theorem d_9_whatDoes_53 : zD prog_11_method_60_code 53 (.bipush 16) 2 55 := ⟨by decide +kernel, rfl⟩
theorem d_9_whatDoes_55 : zD prog_11_method_60_code 55 (.istore_n 2) 1 56 := ⟨by decide +kernel, rfl⟩
theorem d_9_whatDoes_56 : zD prog_11_method_60_code 56 (.aload_n 0) 1 57 := ⟨by decide +kernel, rfl⟩
theorem d_9_whatDoes_57 : zD prog_11_method_60_code 57 (.bipush 32) 2 59 := ⟨by decide +kernel, rfl⟩
theorem d_9_whatDoes_59 : zD prog_11_method_60_code 59 (.aload_n 0) 1 60 := ⟨by decide +kernel, rfl⟩
theorem d_9_whatDoes_60 : zD prog_11_method_60_code 60 (.getfield 113) 3 63 := ⟨by decide +kernel, rfl⟩
theorem d_9_whatDoes_63 : zD prog_11_method_60_code 63 (.bipush 33) 2 65 := ⟨by decide +kernel, rfl⟩
theorem d_9_whatDoes_65 : zD prog_11_method_60_code 65 (.iaload) 1 66 := ⟨by decide +kernel, rfl⟩
theorem d_9_whatDoes_66 : zD prog_11_method_60_code 66 (.imul) 1 67 := ⟨by decide +kernel, rfl⟩
theorem d_9_whatDoes_67 : zD prog_11_method_60_code 67 (.iload_n 2) 1 68 := ⟨by decide +kernel, rfl⟩
theorem d_9_whatDoes_68 : zD prog_11_method_60_code 68 (.iadd) 1 69 := ⟨by decide +kernel, rfl⟩
theorem d_9_whatDoes_69 : zD prog_11_method_60_code 69 (.iload_n 1) 1 70 := ⟨by decide +kernel, rfl⟩
theorem d_9_whatDoes_70 : zD prog_11_method_60_code 70 (.iadd) 1 71 := ⟨by decide +kernel, rfl⟩
theorem d_9_whatDoes_71 : zD prog_11_method_60_code 71 (.aload_n 0) 1 72 := ⟨by decide +kernel, rfl⟩
theorem d_9_whatDoes_72 : zD prog_11_method_60_code 72 (.iload_n 1) 1 73 := ⟨by decide +kernel, rfl⟩
theorem d_9_whatDoes_73 : zD prog_11_method_60_code 73 (.aload_n 0) 1 74 := ⟨by decide +kernel, rfl⟩
theorem d_9_whatDoes_74 : zD prog_11_method_60_code 74 (.getfield 113) 3 77 := ⟨by decide +kernel, rfl⟩
theorem d_9_whatDoes_77 : zD prog_11_method_60_code 77 (.iload_n 1) 1 78 := ⟨by decide +kernel, rfl⟩
theorem d_9_whatDoes_78 : zD prog_11_method_60_code 78 (.iaload) 1 79 := ⟨by decide +kernel, rfl⟩
theorem d_9_whatDoes_79 : zD prog_11_method_60_code 79 (.ifCond .ne 7) 3 82 := ⟨by decide +kernel, rfl⟩
theorem d_9_whatDoes_82 : zD prog_11_method_60_code 82 (.iconst 0) 1 83 := ⟨by decide +kernel, rfl⟩
theorem d_9_whatDoes_83 : zD prog_11_method_60_code 83 (.goto 4) 3 86 := ⟨by decide +kernel, rfl⟩
theorem d_9_whatDoes_86 : zD prog_11_method_60_code 86 (.iconst 1) 1 87 := ⟨by decide +kernel, rfl⟩
theorem d_9_whatDoes_87 : zD prog_11_method_60_code 87 (.invokevirtual 370) 3 90 := ⟨by decide +kernel, rfl⟩
theorem d_9_whatDoes_90 : zD prog_11_method_60_code 90 (.invokevirtual 373) 3 93 := ⟨by decide +kernel, rfl⟩
theorem d_9_whatDoes_93 : zD prog_11_method_60_code 93 (.ifCond .eq 7) 3 96 := ⟨by decide +kernel, rfl⟩
theorem d_9_whatDoes_96 : zD prog_11_method_60_code 96 (.iconst 1) 1 97 := ⟨by decide +kernel, rfl⟩
theorem d_9_whatDoes_97 : zD prog_11_method_60_code 97 (.goto 4) 3 100 := ⟨by decide +kernel, rfl⟩
theorem d_9_whatDoes_100 : zD prog_11_method_60_code 100 (.iconst 0) 1 101 := ⟨by decide +kernel, rfl⟩
theorem d_9_whatDoes_101 : zD prog_11_method_60_code 101 (.ireturn) 1 102 := ⟨by decide +kernel, rfl⟩
theorem d_9_becomes_0 : zD prog_11_method_61_code 0 (.aload_n 0) 1 1 := ⟨by decide +kernel, rfl⟩
theorem d_9_becomes_1 : zD prog_11_method_61_code 1 (.getfield 113) 3 4 := ⟨by decide +kernel, rfl⟩
theorem d_9_becomes_4 : zD prog_11_method_61_code 4 (.iload_n 1) 1 5 := ⟨by decide +kernel, rfl⟩
theorem d_9_becomes_5 : zD prog_11_method_61_code 5 (.iload_n 2) 1 6 := ⟨by decide +kernel, rfl⟩
theorem d_9_becomes_6 : zD prog_11_method_61_code 6 (.iastore) 1 7 := ⟨by decide +kernel, rfl⟩
theorem d_9_becomes_7 : zD prog_11_method_61_code 7 (.aload_n 0) 1 8 := ⟨by decide +kernel, rfl⟩
theorem d_9_becomes_8 : zD prog_11_method_61_code 8 (.getfield 113) 3 11 := ⟨by decide +kernel, rfl⟩
theorem d_9_becomes_11 : zD prog_11_method_61_code 11 (.bipush 7) 2 13 := ⟨by decide +kernel, rfl⟩
theorem d_9_becomes_13 : zD prog_11_method_61_code 13 (.iload_n 1) 1 14 := ⟨by decide +kernel, rfl⟩
theorem d_9_becomes_14 : zD prog_11_method_61_code 14 (.iadd) 1 15 := ⟨by decide +kernel, rfl⟩
theorem d_9_becomes_15 : zD prog_11_method_61_code 15 (.iconst 0) 1 16 := ⟨by decide +kernel, rfl⟩
theorem d_9_becomes_16 : zD prog_11_method_61_code 16 (.iastore) 1 17 := ⟨by decide +kernel, rfl⟩
theorem d_9_becomes_17 : zD prog_11_method_61_code 17 (.iload_n 2) 1 18 := ⟨by decide +kernel, rfl⟩
theorem d_9_becomes_18 : zD prog_11_method_61_code 18 (.iconst 2) 1 19 := ⟨by decide +kernel, rfl⟩
theorem d_9_becomes_19 : zD prog_11_method_61_code 19 (.if_icmp .ne 19) 3 22 := ⟨by decide +kernel, rfl⟩
theorem d_9_becomes_22 : zD prog_11_method_61_code 22 (.aload_n 0) 1 23 := ⟨by decide +kernel, rfl⟩
theorem d_9_becomes_23 : zD prog_11_method_61_code 23 (.getfield 113) 3 26 := ⟨by decide +kernel, rfl⟩
theorem d_9_becomes_26 : zD prog_11_method_61_code 26 (.bipush 21) 2 28 := ⟨by decide +kernel, rfl⟩
theorem d_9_becomes_28 : zD prog_11_method_61_code 28 (.iload_n 1) 1 29 := ⟨by decide +kernel, rfl⟩
theorem d_9_becomes_29 : zD prog_11_method_61_code 29 (.iadd) 1 30 := ⟨by decide +kernel, rfl⟩
theorem d_9_becomes_30 : zD prog_11_method_61_code 30 (.aload_n 0) 1 31 := ⟨by decide +kernel, rfl⟩
theorem d_9_becomes_31 : zD prog_11_method_61_code 31 (.getfield 113) 3 34 := ⟨by decide +kernel, rfl⟩
theorem d_9_becomes_34 : zD prog_11_method_61_code 34 (.bipush 33) 2 36 := ⟨by decide +kernel, rfl⟩
theorem d_9_becomes_36 : zD prog_11_method_61_code 36 (.iaload) 1 37 := ⟨by decide +kernel, rfl⟩
theorem d_9_becomes_37 : zD prog_11_method_61_code 37 (.iastore) 1 38 := ⟨by decide +kernel, rfl⟩
theorem d_9_becomes_38 : zD prog_11_method_61_code 38 (.return_) 1 39 := ⟨by decide +kernel, rfl⟩
theorem d_9_does_0 : zD prog_11_method_62_code 0 (.aload_n 0) 1 1 := ⟨by decide +kernel, rfl⟩
theorem d_9_does_1 : zD prog_11_method_62_code 1 (.getfield 122) 3 4 := ⟨by decide +kernel, rfl⟩
theorem d_9_does_4 : zD prog_11_method_62_code 4 (.iload_n 1) 1 5 := ⟨by decide +kernel, rfl⟩
theorem d_9_does_5 : zD prog_11_method_62_code 5 (.iaload) 1 6 := ⟨by decide +kernel, rfl⟩
theorem d_9_does_6 : zD prog_11_method_62_code 6 (.iconst 2) 1 7 := ⟨by decide +kernel, rfl⟩
theorem d_9_does_7 : zD prog_11_method_62_code 7 (.if_icmp .ne 12) 3 10 := ⟨by decide +kernel, rfl⟩
theorem d_9_does_10 : zD prog_11_method_62_code 10 (.aload_n 0) 1 11 := ⟨by decide +kernel, rfl⟩
theorem d_9_does_11 : zD prog_11_method_62_code 11 (.iload_n 1) 1 12 := ⟨by decide +kernel, rfl⟩
theorem d_9_does_12 : zD prog_11_method_62_code 12 (.iconst 2) 1 13 := ⟨by decide +kernel, rfl⟩
theorem d_9_does_13 : zD prog_11_method_62_code 13 (.invokevirtual 376) 3 16 := ⟨by decide +kernel, rfl⟩
theorem d_9_does_16 : zD prog_11_method_62_code 16 (.goto 52) 3 19 := ⟨by decide +kernel, rfl⟩
theorem d_9_does_19 : zD prog_11_method_62_code 19 (.aload_n 0) 1 20 := ⟨by decide +kernel, rfl⟩
theorem d_9_does_20 : zD prog_11_method_62_code 20 (.getfield 122) 3 23 := ⟨by decide +kernel, rfl⟩
theorem d_9_does_23 : zD prog_11_method_62_code 23 (.iload_n 1) 1 24 := ⟨by decide +kernel, rfl⟩
theorem d_9_does_24 : zD prog_11_method_62_code 24 (.iaload) 1 25 := ⟨by decide +kernel, rfl⟩
theorem d_9_does_25 : zD prog_11_method_62_code 25 (.iconst 1) 1 26 := ⟨by decide +kernel, rfl⟩
theorem d_9_does_26 : zD prog_11_method_62_code 26 (.if_icmp .ne 19) 3 29 := ⟨by decide +kernel, rfl⟩
theorem d_9_does_29 : zD prog_11_method_62_code 29 (.aload_n 0) 1 30 := ⟨by decide +kernel, rfl⟩
theorem d_9_does_30 : zD prog_11_method_62_code 30 (.iload_n 1) 1 31 := ⟨by decide +kernel, rfl⟩
theorem d_9_does_31 : zD prog_11_method_62_code 31 (.iconst 1) 1 32 := ⟨by decide +kernel, rfl⟩
theorem d_9_does_32 : zD prog_11_method_62_code 32 (.aload_n 0) 1 33 := ⟨by decide +kernel, rfl⟩
theorem d_9_does_33 : zD prog_11_method_62_code 33 (.getfield 113) 3 36 := ⟨by decide +kernel, rfl⟩
theorem d_9_does_36 : zD prog_11_method_62_code 36 (.iload_n 1) 1 37 := ⟨by decide +kernel, rfl⟩
theorem d_9_does_37 : zD prog_11_method_62_code 37 (.iaload) 1 38 := ⟨by decide +kernel, rfl⟩
theorem d_9_does_38 : zD prog_11_method_62_code 38 (.isub) 1 39 := ⟨by decide +kernel, rfl⟩
theorem d_9_does_39 : zD prog_11_method_62_code 39 (.invokevirtual 376) 3 42 := ⟨by decide +kernel, rfl⟩
theorem d_9_does_42 : zD prog_11_method_62_code 42 (.goto 26) 3 45 := ⟨by decide +kernel, rfl⟩
theorem d_9_does_45 : zD prog_11_method_62_code 45 (.aload_n 0) 1 46 := ⟨by decide +kernel, rfl⟩
theorem d_9_does_46 : zD prog_11_method_62_code 46 (.getfield 113) 3 49 := ⟨by decide +kernel, rfl⟩
theorem d_9_does_49 : zD prog_11_method_62_code 49 (.iload_n 1) 1 50 := ⟨by decide +kernel, rfl⟩
theorem d_9_does_50 : zD prog_11_method_62_code 50 (.iaload) 1 51 := ⟨by decide +kernel, rfl⟩
theorem d_9_does_51 : zD prog_11_method_62_code 51 (.iconst 1) 1 52 := ⟨by decide +kernel, rfl⟩
theorem d_9_does_52 : zD prog_11_method_62_code 52 (.if_icmp .ne 16) 3 55 := ⟨by decide +kernel, rfl⟩
theorem d_9_does_55 : zD prog_11_method_62_code 55 (.aload_n 0) 1 56 := ⟨by decide +kernel, rfl⟩
theorem d_9_does_56 : zD prog_11_method_62_code 56 (.getfield 113) 3 59 := ⟨by decide +kernel, rfl⟩
theorem d_9_does_59 : zD prog_11_method_62_code 59 (.bipush 7) 2 61 := ⟨by decide +kernel, rfl⟩
theorem d_9_does_61 : zD prog_11_method_62_code 61 (.iload_n 1) 1 62 := ⟨by decide +kernel, rfl⟩
theorem d_9_does_62 : zD prog_11_method_62_code 62 (.iadd) 1 63 := ⟨by decide +kernel, rfl⟩
theorem d_9_does_63 : zD prog_11_method_62_code 63 (.dup2) 1 64 := ⟨by decide +kernel, rfl⟩
theorem d_9_does_64 : zD prog_11_method_62_code 64 (.iaload) 1 65 := ⟨by decide +kernel, rfl⟩
theorem d_9_does_65 : zD prog_11_method_62_code 65 (.iconst 1) 1 66 := ⟨by decide +kernel, rfl⟩
theorem d_9_does_66 : zD prog_11_method_62_code 66 (.iadd) 1 67 := ⟨by decide +kernel, rfl⟩
theorem d_9_does_67 : zD prog_11_method_62_code 67 (.iastore) 1 68 := ⟨by decide +kernel, rfl⟩
theorem d_9_does_68 : zD prog_11_method_62_code 68 (.return_) 1 69 := ⟨by decide +kernel, rfl⟩
theorem d_9_yearGoes_0 : zD prog_11_method_63_code 0 (.iconst 0) 1 1 := ⟨by decide +kernel, rfl⟩
theorem d_9_yearGoes_1 : zD prog_11_method_63_code 1 (.istore_n 1) 1 2 := ⟨by decide +kernel, rfl⟩
theorem d_9_yearGoes_2 : zD prog_11_method_63_code 2 (.iload_n 1) 1 3 := ⟨by decide +kernel, rfl⟩
theorem d_9_yearGoes_3 : zD prog_11_method_63_code 3 (.aload_n 0) 1 4 := ⟨by decide +kernel, rfl⟩
theorem d_9_yearGoes_4 : zD prog_11_method_63_code 4 (.getfield 46) 3 7 := ⟨by decide +kernel, rfl⟩
theorem d_9_yearGoes_7 : zD prog_11_method_63_code 7 (.aload_n 0) 1 8 := ⟨by decide +kernel, rfl⟩
theorem d_9_yearGoes_8 : zD prog_11_method_63_code 8 (.getfield 233) 3 11 := ⟨by decide +kernel, rfl⟩
theorem d_9_yearGoes_11 : zD prog_11_method_63_code 11 (.iaload) 1 12 := ⟨by decide +kernel, rfl⟩
theorem d_9_yearGoes_12 : zD prog_11_method_63_code 12 (.if_icmp .ge 31) 3 15 := ⟨by decide +kernel, rfl⟩
theorem d_9_yearGoes_15 : zD prog_11_method_63_code 15 (.aload_n 0) 1 16 := ⟨by decide +kernel, rfl⟩
theorem d_9_yearGoes_16 : zD prog_11_method_63_code 16 (.getfield 119) 3 19 := ⟨by decide +kernel, rfl⟩
theorem d_9_yearGoes_19 : zD prog_11_method_63_code 19 (.iload_n 1) 1 20 := ⟨by decide +kernel, rfl⟩
theorem d_9_yearGoes_20 : zD prog_11_method_63_code 20 (.aload_n 0) 1 21 := ⟨by decide +kernel, rfl⟩
theorem d_9_yearGoes_21 : zD prog_11_method_63_code 21 (.iload_n 1) 1 22 := ⟨by decide +kernel, rfl⟩
theorem d_9_yearGoes_22 : zD prog_11_method_63_code 22 (.invokevirtual 340) 3 25 := ⟨by decide +kernel, rfl⟩
theorem d_9_yearGoes_25 : zD prog_11_method_63_code 25 (.iastore) 1 26 := ⟨by decide +kernel, rfl⟩
theorem d_9_yearGoes_26 : zD prog_11_method_63_code 26 (.aload_n 0) 1 27 := ⟨by decide +kernel, rfl⟩
theorem d_9_yearGoes_27 : zD prog_11_method_63_code 27 (.getfield 116) 3 30 := ⟨by decide +kernel, rfl⟩
theorem d_9_yearGoes_30 : zD prog_11_method_63_code 30 (.iload_n 1) 1 31 := ⟨by decide +kernel, rfl⟩
theorem d_9_yearGoes_31 : zD prog_11_method_63_code 31 (.aload_n 0) 1 32 := ⟨by decide +kernel, rfl⟩
theorem d_9_yearGoes_32 : zD prog_11_method_63_code 32 (.iload_n 1) 1 33 := ⟨by decide +kernel, rfl⟩
theorem d_9_yearGoes_33 : zD prog_11_method_63_code 33 (.invokevirtual 379) 3 36 := ⟨by decide +kernel, rfl⟩
theorem d_9_yearGoes_36 : zD prog_11_method_63_code 36 (.iastore) 1 37 := ⟨by decide +kernel, rfl⟩
theorem d_9_yearGoes_37 : zD prog_11_method_63_code 37 (.iinc 1 1) 3 40 := ⟨by decide +kernel, rfl⟩
theorem d_9_yearGoes_40 : zD prog_11_method_63_code 40 (.goto (-38)) 3 43 := ⟨by decide +kernel, rfl⟩
theorem d_9_yearGoes_43 : zD prog_11_method_63_code 43 (.iconst 0) 1 44 := ⟨by decide +kernel, rfl⟩
theorem d_9_yearGoes_44 : zD prog_11_method_63_code 44 (.istore_n 1) 1 45 := ⟨by decide +kernel, rfl⟩
theorem d_9_yearGoes_45 : zD prog_11_method_63_code 45 (.iload_n 1) 1 46 := ⟨by decide +kernel, rfl⟩
theorem d_9_yearGoes_46 : zD prog_11_method_63_code 46 (.aload_n 0) 1 47 := ⟨by decide +kernel, rfl⟩
theorem d_9_yearGoes_47 : zD prog_11_method_63_code 47 (.getfield 55) 3 50 := ⟨by decide +kernel, rfl⟩
theorem d_9_yearGoes_50 : zD prog_11_method_63_code 50 (.aload_n 0) 1 51 := ⟨by decide +kernel, rfl⟩
theorem d_9_yearGoes_51 : zD prog_11_method_63_code 51 (.getfield 233) 3 54 := ⟨by decide +kernel, rfl⟩
theorem d_9_yearGoes_54 : zD prog_11_method_63_code 54 (.iaload) 1 55 := ⟨by decide +kernel, rfl⟩
theorem d_9_yearGoes_55 : zD prog_11_method_63_code 55 (.if_icmp .ge 20) 3 58 := ⟨by decide +kernel, rfl⟩
theorem d_9_yearGoes_58 : zD prog_11_method_63_code 58 (.aload_n 0) 1 59 := ⟨by decide +kernel, rfl⟩
theorem d_9_yearGoes_59 : zD prog_11_method_63_code 59 (.getfield 122) 3 62 := ⟨by decide +kernel, rfl⟩
theorem d_9_yearGoes_62 : zD prog_11_method_63_code 62 (.iload_n 1) 1 63 := ⟨by decide +kernel, rfl⟩
theorem d_9_yearGoes_63 : zD prog_11_method_63_code 63 (.aload_n 0) 1 64 := ⟨by decide +kernel, rfl⟩
theorem d_9_yearGoes_64 : zD prog_11_method_63_code 64 (.iload_n 1) 1 65 := ⟨by decide +kernel, rfl⟩
theorem d_9_yearGoes_65 : zD prog_11_method_63_code 65 (.invokevirtual 382) 3 68 := ⟨by decide +kernel, rfl⟩
theorem d_9_yearGoes_68 : zD prog_11_method_63_code 68 (.iastore) 1 69 := ⟨by decide +kernel, rfl⟩
theorem d_9_yearGoes_69 : zD prog_11_method_63_code 69 (.iinc 1 1) 3 72 := ⟨by decide +kernel, rfl⟩
theorem d_9_yearGoes_72 : zD prog_11_method_63_code 72 (.goto (-27)) 3 75 := ⟨by decide +kernel, rfl⟩
theorem d_9_yearGoes_75 : zD prog_11_method_63_code 75 (.iconst 0) 1 76 := ⟨by decide +kernel, rfl⟩
theorem d_9_yearGoes_76 : zD prog_11_method_63_code 76 (.istore_n 1) 1 77 := ⟨by decide +kernel, rfl⟩
theorem d_9_yearGoes_77 : zD prog_11_method_63_code 77 (.iload_n 1) 1 78 := ⟨by decide +kernel, rfl⟩
theorem d_9_yearGoes_78 : zD prog_11_method_63_code 78 (.aload_n 0) 1 79 := ⟨by decide +kernel, rfl⟩
theorem d_9_yearGoes_79 : zD prog_11_method_63_code 79 (.getfield 46) 3 82 := ⟨by decide +kernel, rfl⟩
theorem d_9_yearGoes_82 : zD prog_11_method_63_code 82 (.aload_n 0) 1 83 := ⟨by decide +kernel, rfl⟩
theorem d_9_yearGoes_83 : zD prog_11_method_63_code 83 (.getfield 233) 3 86 := ⟨by decide +kernel, rfl⟩
theorem d_9_yearGoes_86 : zD prog_11_method_63_code 86 (.iaload) 1 87 := ⟨by decide +kernel, rfl⟩
theorem d_9_yearGoes_87 : zD prog_11_method_63_code 87 (.if_icmp .ge 41) 3 90 := ⟨by decide +kernel, rfl⟩
theorem d_9_yearGoes_90 : zD prog_11_method_63_code 90 (.aload_n 0) 1 91 := ⟨by decide +kernel, rfl⟩
theorem d_9_yearGoes_91 : zD prog_11_method_63_code 91 (.getfield 119) 3 94 := ⟨by decide +kernel, rfl⟩
theorem d_9_yearGoes_94 : zD prog_11_method_63_code 94 (.iload_n 1) 1 95 := ⟨by decide +kernel, rfl⟩
theorem d_9_yearGoes_95 : zD prog_11_method_63_code 95 (.iaload) 1 96 := ⟨by decide +kernel, rfl⟩
theorem d_9_yearGoes_96 : zD prog_11_method_63_code 96 (.ifCond .lt 26) 3 99 := ⟨by decide +kernel, rfl⟩
theorem d_9_yearGoes_99 : zD prog_11_method_63_code 99 (.aload_n 0) 1 100 := ⟨by decide +kernel, rfl⟩
theorem d_9_yearGoes_100 : zD prog_11_method_63_code 100 (.getfield 113) 3 103 := ⟨by decide +kernel, rfl⟩
theorem d_9_yearGoes_103 : zD prog_11_method_63_code 103 (.bipush 14) 2 105 := ⟨by decide +kernel, rfl⟩
theorem d_9_yearGoes_105 : zD prog_11_method_63_code 105 (.aload_n 0) 1 106 := ⟨by decide +kernel, rfl⟩
theorem d_9_yearGoes_106 : zD prog_11_method_63_code 106 (.getfield 119) 3 109 := ⟨by decide +kernel, rfl⟩
theorem d_9_yearGoes_109 : zD prog_11_method_63_code 109 (.iload_n 1) 1 110 := ⟨by decide +kernel, rfl⟩
theorem d_9_yearGoes_110 : zD prog_11_method_63_code 110 (.iaload) 1 111 := ⟨by decide +kernel, rfl⟩
theorem d_9_yearGoes_111 : zD prog_11_method_63_code 111 (.iadd) 1 112 := ⟨by decide +kernel, rfl⟩
theorem d_9_yearGoes_112 : zD prog_11_method_63_code 112 (.dup2) 1 113 := ⟨by decide +kernel, rfl⟩
theorem d_9_yearGoes_113 : zD prog_11_method_63_code 113 (.iaload) 1 114 := ⟨by decide +kernel, rfl⟩
theorem d_9_yearGoes_114 : zD prog_11_method_63_code 114 (.aload_n 0) 1 115 := ⟨by decide +kernel, rfl⟩
theorem d_9_yearGoes_115 : zD prog_11_method_63_code 115 (.getfield 116) 3 118 := ⟨by decide +kernel, rfl⟩
theorem d_9_yearGoes_118 : zD prog_11_method_63_code 118 (.iload_n 1) 1 119 := ⟨by decide +kernel, rfl⟩
theorem d_9_yearGoes_119 : zD prog_11_method_63_code 119 (.iaload) 1 120 := ⟨by decide +kernel, rfl⟩
theorem d_9_yearGoes_120 : zD prog_11_method_63_code 120 (.iadd) 1 121 := ⟨by decide +kernel, rfl⟩
theorem d_9_yearGoes_121 : zD prog_11_method_63_code 121 (.iastore) 1 122 := ⟨by decide +kernel, rfl⟩
theorem d_9_yearGoes_122 : zD prog_11_method_63_code 122 (.iinc 1 1) 3 125 := ⟨by decide +kernel, rfl⟩
theorem d_9_yearGoes_125 : zD prog_11_method_63_code 125 (.goto (-48)) 3 128 := ⟨by decide +kernel, rfl⟩
theorem d_9_yearGoes_128 : zD prog_11_method_63_code 128 (.iconst 0) 1 129 := ⟨by decide +kernel, rfl⟩
theorem d_9_yearGoes_129 : zD prog_11_method_63_code 129 (.istore_n 1) 1 130 := ⟨by decide +kernel, rfl⟩
theorem d_9_yearGoes_130 : zD prog_11_method_63_code 130 (.iload_n 1) 1 131 := ⟨by decide +kernel, rfl⟩
theorem d_9_yearGoes_131 : zD prog_11_method_63_code 131 (.aload_n 0) 1 132 := ⟨by decide +kernel, rfl⟩
theorem d_9_yearGoes_132 : zD prog_11_method_63_code 132 (.getfield 55) 3 135 := ⟨by decide +kernel, rfl⟩
theorem d_9_yearGoes_135 : zD prog_11_method_63_code 135 (.aload_n 0) 1 136 := ⟨by decide +kernel, rfl⟩
theorem d_9_yearGoes_136 : zD prog_11_method_63_code 136 (.getfield 233) 3 139 := ⟨by decide +kernel, rfl⟩
theorem d_9_yearGoes_139 : zD prog_11_method_63_code 139 (.iaload) 1 140 := ⟨by decide +kernel, rfl⟩
theorem d_9_yearGoes_140 : zD prog_11_method_63_code 140 (.if_icmp .ge 14) 3 143 := ⟨by decide +kernel, rfl⟩
theorem d_9_yearGoes_143 : zD prog_11_method_63_code 143 (.aload_n 0) 1 144 := ⟨by decide +kernel, rfl⟩
theorem d_9_yearGoes_144 : zD prog_11_method_63_code 144 (.iload_n 1) 1 145 := ⟨by decide +kernel, rfl⟩
theorem d_9_yearGoes_145 : zD prog_11_method_63_code 145 (.invokevirtual 385) 3 148 := ⟨by decide +kernel, rfl⟩
theorem d_9_yearGoes_148 : zD prog_11_method_63_code 148 (.iinc 1 1) 3 151 := ⟨by decide +kernel, rfl⟩
theorem d_9_yearGoes_151 : zD prog_11_method_63_code 151 (.goto (-21)) 3 154 := ⟨by decide +kernel, rfl⟩
theorem d_9_yearGoes_154 : zD prog_11_method_63_code 154 (.aload_n 0) 1 155 := ⟨by decide +kernel, rfl⟩
theorem d_9_yearGoes_155 : zD prog_11_method_63_code 155 (.getfield 113) 3 158 := ⟨by decide +kernel, rfl⟩
theorem d_9_yearGoes_158 : zD prog_11_method_63_code 158 (.bipush 33) 2 160 := ⟨by decide +kernel, rfl⟩
theorem d_9_yearGoes_160 : zD prog_11_method_63_code 160 (.dup2) 1 161 := ⟨by decide +kernel, rfl⟩
theorem d_9_yearGoes_161 : zD prog_11_method_63_code 161 (.iaload) 1 162 := ⟨by decide +kernel, rfl⟩
theorem d_9_yearGoes_162 : zD prog_11_method_63_code 162 (.iconst 1) 1 163 := ⟨by decide +kernel, rfl⟩
theorem d_9_yearGoes_163 : zD prog_11_method_63_code 163 (.iadd) 1 164 := ⟨by decide +kernel, rfl⟩
theorem d_9_yearGoes_164 : zD prog_11_method_63_code 164 (.iastore) 1 165 := ⟨by decide +kernel, rfl⟩
theorem d_9_yearGoes_165 : zD prog_11_method_63_code 165 (.return_) 1 166 := ⟨by decide +kernel, rfl⟩
def f9_term  (μ : zMem) : Option (zMem) :=
  if z_in (μ.1 9 0 34) 260 = true then z_let (z_sI μ 138 0 (μ.1 9 0 34).toNatClampNeg (μ.1 9 0 40)) fun m1 => ((if (m1.1 9 0 13) = 0 then (f9_expression m1).bind (fun qm7 => some qm7) else some m1) : Option (zMem)).bind (fun jm9 => if z_in (jm9.1 9 0 34) 260 = true then z_let (z_sI jm9 139 0 (jm9.1 9 0 34).toNatClampNeg (jm9.1 9 0 40)) fun m10 => z_let (z_sI m10 9 0 34 ((m10.1 9 0 34) + (1 : Int32))) fun m13 => some m13 else none) else none
theorem s9_term {P : zP} {μ : zMem} {μ' : zMem} (h : f9_term μ = some μ') : z_Sp P y_9_term M_9_term 5 [zA 9 0] μ none μ' := by
  refine z_Sp.of (plainFor_of_name (by decide)) rfl (l0 := [some (zA 9 0)]) rfl (Nat.le_of_ble_eq_true rfl) ?_
  unfold f9_term at h
  refine zr_aload_n (i := 0) d_9_term_0 rfl rfl ?_
  refine zr_gets (i' := 0) d_9_term_1 fw_9_89 rfl ?_
  refine zr_aload_n (i := 0) d_9_term_4 rfl rfl ?_
  refine zr_geti d_9_term_5 fw_9_242 (by decide) ?_
  refine zr_aload_n (i := 0) d_9_term_8 rfl rfl ?_
  refine zr_geti d_9_term_9 fw_9_245 (by decide) ?_
  obtain ⟨hb3, h⟩ := z_gd h
  obtain ⟨m1, hm2, h⟩ := z_lt h
  refine zr_iast d_9_term_12 sa_138 rfl hb3 hm2 ?_
  refine zr_aload_n (i := 0) d_9_term_13 rfl rfl ?_
  refine zr_geti d_9_term_14 fw_9_203 (by decide) ?_
  obtain ⟨jm9, hT4, h⟩ := z_bd h
  have hJ5 : z_RQ P M_9_term (z_rm 5) (z_mq P none μ') 0 0 24 [some (zA 9 0)] [] jm9 := by
    refine zr_aload_n (i := 0) d_9_term_24 rfl rfl ?_
    refine zr_gets (i' := 0) d_9_term_25 fw_9_92 rfl ?_
    refine zr_aload_n (i := 0) d_9_term_28 rfl rfl ?_
    refine zr_geti d_9_term_29 fw_9_242 (by decide) ?_
    refine zr_aload_n (i := 0) d_9_term_32 rfl rfl ?_
    refine zr_geti d_9_term_33 fw_9_245 (by decide) ?_
    obtain ⟨hb12, h⟩ := z_gd h
    obtain ⟨m10, hm11, h⟩ := z_lt h
    refine zr_iast d_9_term_36 sa_139 rfl hb12 hm11 ?_
    refine zr_aload_n (i := 0) d_9_term_37 rfl rfl ?_
    refine zr_dupa d_9_term_38 ?_
    refine zr_geti d_9_term_39 fw_9_242 (by decide) ?_
    refine zr_iconst (v := (1 : Int32)) d_9_term_42 rfl ?_
    refine zr_iadd d_9_term_43 ?_
    obtain ⟨m13, hm14, h⟩ := z_lt h
    refine zr_puti d_9_term_44 fw_9_242 pw_9_34 hm14 ?_
    obtain rfl := Option.some.inj h
    exact ze_v d_9_term_47 rfl
  refine zr_if_ne (tgt := 24) d_9_term_17 rfl (fun hc6 => ?_) (fun hc6 => ?_)
  · replace hT4 := z_ip hT4 hc6
    refine zr_aload_n (i := 0) d_9_term_20 rfl rfl ?_
    obtain ⟨qm7, hq8, hT4⟩ := z_bd hT4
    refine zr_callVv (av := []) (st := []) d_9_term_21 mw_9_expression ml_9_289 im_9_expression se_9_expression rfl rfl (Nat.le_of_ble_eq_true rfl) fit_4_3_5 rfl rfl rfl (s9_expression hq8) ?_
    obtain rfl := Option.some.inj hT4
    exact zr_wk2 hJ5 ⟨rfl, trivial⟩
  · replace hT4 := z_im hT4 hc6
    obtain rfl := Option.some.inj hT4
    exact zr_wk2 hJ5 ⟨rfl, trivial⟩
def f9_tellLaw_L3  : (Int32 × zMem) → Option ((Int32 × zMem) ⊕ ((zMem) ⊕ (zMem))) := (z_u2 fun x4 xm5 => 
  (if (xm5.1 9 0 13) = 0 then (f9_is (29 : Int32) xm5).bind (fun q7 => (if q7 = 0 then some (.inr (.inl xm5)) else ((if x4 = (4 : Int32) then (f9_fail (2 : Int32) xm5).bind (fun qm13 => some qm13) else some xm5) : Option (zMem)).bind (fun jm15 => (if 0 < (jm15.1 9 0 13) then some (.inr (.inr jm15)) else (f9_goesOn jm15).bind (fun qm17 => if z_in (qm17.1 9 0 34) 260 = true then z_let (z_sI qm17 135 0 (qm17.1 9 0 34).toNatClampNeg (vp_nar .boolean (1 : Int32))) fun m19 => if z_in (m19.1 9 0 34) 260 = true then z_let (z_sI m19 136 0 (m19.1 9 0 34).toNatClampNeg (m19.1 9 0 40)) fun m22 => (f9_expression m22).bind (fun qm25 => (f9_must (13 : Int32) qm25).bind (fun qm27 => if z_in (qm27.1 9 0 34) 260 = true then z_let (z_sI qm27 137 0 (qm27.1 9 0 34).toNatClampNeg (qm27.1 9 0 40)) fun m29 => ((if (m29.1 9 0 13) = 0 then (f9_expression m29).bind (fun qm35 => some qm35) else some m29) : Option (zMem)).bind (fun jm37 => (f9_must (30 : Int32) jm37).bind (fun qm38 => (f9_term qm38).bind (fun qm40 => (f9_must (31 : Int32) qm40).bind (fun qm42 => some (.inl ((x4 + (1 : Int32)), qm42)))))) else none)) else none else none))))) else some (.inr (.inl xm5))))
def f9_tellLaw (a1 : Int32) (μ : zMem) : Option (zMem) :=
  (f9_must (5 : Int32) μ).bind (fun qm1 => (z_it (f9_tellLaw_L3) z_fu ((0 : Int32), qm1)).bind (Sum.elim (fun e44 => if z_in (e44.1 9 0 34) 260 = true then z_let (z_sI e44 135 0 (e44.1 9 0 34).toNatClampNeg (vp_nar .boolean (0 : Int32))) fun m46 => (f9_term m46).bind (fun qm49 => (f9_must (4 : Int32) qm49).bind (fun qm51 => (if 0 < (qm51.1 9 0 13) then some qm51 else if z_in (((4 : Int32) * (qm51.1 9 0 19)) + a1) 8 = true then z_let (z_sI qm51 132 0 (((4 : Int32) * (qm51.1 9 0 19)) + a1).toNatClampNeg (qm1.1 9 0 34)) fun m54 => if z_in (((4 : Int32) * (m54.1 9 0 19)) + a1) 8 = true then z_let (z_sI m54 133 0 (((4 : Int32) * (m54.1 9 0 19)) + a1).toNatClampNeg (m54.1 9 0 34)) fun m57 => some m57 else none else none))) else none) (fun qr60 => some qr60)))
theorem s9_tellLaw_L3 {P : zP} {ro : Option zV} {μo : zMem} (a1 : Int32) (qm1 : zMem) (x4 : Int32) (xm5 : zMem) (K : (Int32 × zMem) ⊕ ((zMem) ⊕ (zMem))) (h : f9_tellLaw_L3  (x4, xm5) = some K) (hI : ∀ (y0 : Int32) (y1 : zMem), K = .inl (y0, y1) → z_RQ P M_9_tellLaw (z_rm 6) (z_mq P ro μo) 0 0 12 [some (zA 9 0), some (zI a1), some (zI (qm1.1 9 0 34)), some (zI y0)] [] y1) (hE : ∀ (z0 : zMem), K = .inr (.inl z0) → z_RQ P M_9_tellLaw (z_rm 6) (z_mq P ro μo) 0 0 129 [some (zA 9 0), some (zI a1), some (zI (qm1.1 9 0 34)), none] [] z0) (hR : ∀ (qm : zMem), K = .inr (.inr qm) → ro = none ∧ μo = qm) : z_RQ P M_9_tellLaw (z_rm 6) (z_mq P ro μo) 0 0 12 [some (zA 9 0), some (zI a1), some (zI (qm1.1 9 0 34)), some (zI x4)] [] xm5 := by
  unfold f9_tellLaw_L3 at h
  replace h := z_h2 h
  refine zr_aload_n (i := 0) d_9_tellLaw_12 rfl rfl ?_
  refine zr_geti d_9_tellLaw_13 fw_9_203 (by decide) ?_
  refine zr_if_ne (tgt := 129) d_9_tellLaw_16 rfl (fun hc6 => ?_) (fun hc6 => ?_)
  · replace h := z_ip h hc6
    refine zr_aload_n (i := 0) d_9_tellLaw_19 rfl rfl ?_
    refine zr_bipush (v := (29 : Int32)) d_9_tellLaw_20 rfl ?_
    obtain ⟨q7, hq8, h⟩ := z_bd h
    refine zr_callVi (av := [zI (29 : Int32)]) (st := []) d_9_tellLaw_22 mw_9_is ml_9_221 im_9_is se_9_is rfl rfl (Nat.le_of_ble_eq_true rfl) fit_1_2_6 rfl rfl rfl (s9_is hq8) ?_
    refine zr_if_eq (tgt := 129) d_9_tellLaw_25 rfl (fun hc9 => ?_) (fun hc9 => ?_)
    · replace h := z_ip h hc9
      obtain rfl := Option.some.inj h
      exact zr_wk2 (hE xm5 rfl) ⟨rfl, ⟨rfl, ⟨rfl, trivial⟩⟩⟩
    · replace h := z_im h hc9
      refine zr_iload_n (i := 3) d_9_tellLaw_28 rfl rfl ?_
      refine zr_iconst (v := (4 : Int32)) d_9_tellLaw_29 rfl ?_
      obtain ⟨jm15, hT10, h⟩ := z_bd h
      have hJ11 : z_RQ P M_9_tellLaw (z_rm 6) (z_mq P ro μo) 0 0 38 [some (zA 9 0), some (zI a1), some (zI (qm1.1 9 0 34)), some (zI x4)] [] jm15 := by
        refine zr_aload_n (i := 0) d_9_tellLaw_38 rfl rfl ?_
        refine zr_geti d_9_tellLaw_39 fw_9_203 (by decide) ?_
        refine zr_if_le (tgt := 46) d_9_tellLaw_42 rfl (fun hc16 => ?_) (fun hc16 => ?_)
        · replace h := z_ip h hc16
          obtain rfl := Option.some.inj h
          obtain ⟨rfl, rfl⟩ := hR jm15 rfl
          exact ze_v d_9_tellLaw_45 rfl
        · replace h := z_im h hc16
          refine zr_iinc (v := (x4 + (1 : Int32))) (l' := [some (zA 9 0), some (zI a1), some (zI (qm1.1 9 0 34)), some (zI (x4 + (1 : Int32)))]) d_9_tellLaw_46 (by decide) rfl rfl rfl ?_
          refine zr_aload_n (i := 0) d_9_tellLaw_49 rfl rfl ?_
          obtain ⟨qm17, hq18, h⟩ := z_bd h
          refine zr_callVv (av := []) (st := []) d_9_tellLaw_50 mw_9_goesOn ml_9_224 im_9_goesOn se_9_goesOn rfl rfl (Nat.le_of_ble_eq_true rfl) fit_2_1_6 rfl rfl rfl (s9_goesOn hq18) ?_
          refine zr_aload_n (i := 0) d_9_tellLaw_53 rfl rfl ?_
          refine zr_gets (i' := 0) d_9_tellLaw_54 fw_9_79 rfl ?_
          refine zr_aload_n (i := 0) d_9_tellLaw_57 rfl rfl ?_
          refine zr_geti d_9_tellLaw_58 fw_9_242 (by decide) ?_
          refine zr_iconst (v := (1 : Int32)) d_9_tellLaw_61 rfl ?_
          obtain ⟨hb21, h⟩ := z_gd h
          obtain ⟨m19, hm20, h⟩ := z_lt h
          refine zr_zast d_9_tellLaw_62 sa_135 rfl hb21 hm20 ?_
          refine zr_aload_n (i := 0) d_9_tellLaw_63 rfl rfl ?_
          refine zr_gets (i' := 0) d_9_tellLaw_64 fw_9_83 rfl ?_
          refine zr_aload_n (i := 0) d_9_tellLaw_67 rfl rfl ?_
          refine zr_geti d_9_tellLaw_68 fw_9_242 (by decide) ?_
          refine zr_aload_n (i := 0) d_9_tellLaw_71 rfl rfl ?_
          refine zr_geti d_9_tellLaw_72 fw_9_245 (by decide) ?_
          obtain ⟨hb24, h⟩ := z_gd h
          obtain ⟨m22, hm23, h⟩ := z_lt h
          refine zr_iast d_9_tellLaw_75 sa_136 rfl hb24 hm23 ?_
          refine zr_aload_n (i := 0) d_9_tellLaw_76 rfl rfl ?_
          obtain ⟨qm25, hq26, h⟩ := z_bd h
          refine zr_callVv (av := []) (st := []) d_9_tellLaw_77 mw_9_expression ml_9_289 im_9_expression se_9_expression rfl rfl (Nat.le_of_ble_eq_true rfl) fit_4_3_6 rfl rfl rfl (s9_expression hq26) ?_
          refine zr_aload_n (i := 0) d_9_tellLaw_80 rfl rfl ?_
          refine zr_bipush (v := (13 : Int32)) d_9_tellLaw_81 rfl ?_
          obtain ⟨qm27, hq28, h⟩ := z_bd h
          refine zr_callVv (av := [zI (13 : Int32)]) (st := []) d_9_tellLaw_83 mw_9_must ml_9_277 im_9_must se_9_must rfl rfl (Nat.le_of_ble_eq_true rfl) fit_3_2_6 rfl rfl rfl (s9_must hq28) ?_
          refine zr_aload_n (i := 0) d_9_tellLaw_86 rfl rfl ?_
          refine zr_gets (i' := 0) d_9_tellLaw_87 fw_9_86 rfl ?_
          refine zr_aload_n (i := 0) d_9_tellLaw_90 rfl rfl ?_
          refine zr_geti d_9_tellLaw_91 fw_9_242 (by decide) ?_
          refine zr_aload_n (i := 0) d_9_tellLaw_94 rfl rfl ?_
          refine zr_geti d_9_tellLaw_95 fw_9_245 (by decide) ?_
          obtain ⟨hb31, h⟩ := z_gd h
          obtain ⟨m29, hm30, h⟩ := z_lt h
          refine zr_iast d_9_tellLaw_98 sa_137 rfl hb31 hm30 ?_
          refine zr_aload_n (i := 0) d_9_tellLaw_99 rfl rfl ?_
          refine zr_geti d_9_tellLaw_100 fw_9_203 (by decide) ?_
          obtain ⟨jm37, hT32, h⟩ := z_bd h
          have hJ33 : z_RQ P M_9_tellLaw (z_rm 6) (z_mq P ro μo) 0 0 110 [some (zA 9 0), some (zI a1), some (zI (qm1.1 9 0 34)), some (zI (x4 + (1 : Int32)))] [] jm37 := by
            refine zr_aload_n (i := 0) d_9_tellLaw_110 rfl rfl ?_
            refine zr_bipush (v := (30 : Int32)) d_9_tellLaw_111 rfl ?_
            obtain ⟨qm38, hq39, h⟩ := z_bd h
            refine zr_callVv (av := [zI (30 : Int32)]) (st := []) d_9_tellLaw_113 mw_9_must ml_9_277 im_9_must se_9_must rfl rfl (Nat.le_of_ble_eq_true rfl) fit_3_2_6 rfl rfl rfl (s9_must hq39) ?_
            refine zr_aload_n (i := 0) d_9_tellLaw_116 rfl rfl ?_
            obtain ⟨qm40, hq41, h⟩ := z_bd h
            refine zr_callVv (av := []) (st := []) d_9_tellLaw_117 mw_9_term ml_9_292 im_9_term se_9_term rfl rfl (Nat.le_of_ble_eq_true rfl) fit_5_1_6 rfl rfl rfl (s9_term hq41) ?_
            refine zr_aload_n (i := 0) d_9_tellLaw_120 rfl rfl ?_
            refine zr_bipush (v := (31 : Int32)) d_9_tellLaw_121 rfl ?_
            obtain ⟨qm42, hq43, h⟩ := z_bd h
            refine zr_callVv (av := [zI (31 : Int32)]) (st := []) d_9_tellLaw_123 mw_9_must ml_9_277 im_9_must se_9_must rfl rfl (Nat.le_of_ble_eq_true rfl) fit_3_2_6 rfl rfl rfl (s9_must hq43) ?_
            refine zr_goto (tgt := 12) d_9_tellLaw_126 rfl ?_
            obtain rfl := Option.some.inj h
            exact zr_wk2 (hI (x4 + (1 : Int32)) qm42 rfl) ⟨rfl, ⟨rfl, ⟨rfl, ⟨rfl, trivial⟩⟩⟩⟩
          refine zr_if_ne (tgt := 110) d_9_tellLaw_103 rfl (fun hc34 => ?_) (fun hc34 => ?_)
          · replace hT32 := z_ip hT32 hc34
            refine zr_aload_n (i := 0) d_9_tellLaw_106 rfl rfl ?_
            obtain ⟨qm35, hq36, hT32⟩ := z_bd hT32
            refine zr_callVv (av := []) (st := []) d_9_tellLaw_107 mw_9_expression ml_9_289 im_9_expression se_9_expression rfl rfl (Nat.le_of_ble_eq_true rfl) fit_4_3_6 rfl rfl rfl (s9_expression hq36) ?_
            obtain rfl := Option.some.inj hT32
            exact zr_wk2 hJ33 ⟨rfl, ⟨rfl, ⟨rfl, ⟨rfl, trivial⟩⟩⟩⟩
          · replace hT32 := z_im hT32 hc34
            obtain rfl := Option.some.inj hT32
            exact zr_wk2 hJ33 ⟨rfl, ⟨rfl, ⟨rfl, ⟨rfl, trivial⟩⟩⟩⟩
      refine zr_icmp_ne (tgt := 38) d_9_tellLaw_30 rfl (fun hc12 => ?_) (fun hc12 => ?_)
      · replace hT10 := z_ip hT10 hc12
        refine zr_aload_n (i := 0) d_9_tellLaw_33 rfl rfl ?_
        refine zr_iconst (v := (2 : Int32)) d_9_tellLaw_34 rfl ?_
        obtain ⟨qm13, hq14, hT10⟩ := z_bd hT10
        refine zr_callVv (av := [zI (2 : Int32)]) (st := []) d_9_tellLaw_35 mw_9_fail ml_9_218 im_9_fail se_9_fail rfl rfl (Nat.le_of_ble_eq_true rfl) fit_1_2_6 rfl rfl rfl (s9_fail hq14) ?_
        obtain rfl := Option.some.inj hT10
        exact zr_wk2 hJ11 ⟨rfl, ⟨rfl, ⟨rfl, ⟨rfl, trivial⟩⟩⟩⟩
      · replace hT10 := z_im hT10 hc12
        obtain rfl := Option.some.inj hT10
        exact zr_wk2 hJ11 ⟨rfl, ⟨rfl, ⟨rfl, ⟨rfl, trivial⟩⟩⟩⟩
  · replace h := z_im h hc6
    obtain rfl := Option.some.inj h
    exact zr_wk2 (hE xm5 rfl) ⟨rfl, ⟨rfl, ⟨rfl, trivial⟩⟩⟩
theorem s9_tellLaw {P : zP} {μ : zMem} {a1 : Int32} {μ' : zMem} (h : f9_tellLaw a1 μ = some μ') : z_Sp P y_9_tellLaw M_9_tellLaw 6 [zA 9 0, zI a1] μ none μ' := by
  refine z_Sp.of (plainFor_of_name (by decide)) rfl (l0 := [some (zA 9 0), some (zI a1), none, none]) rfl (Nat.le_of_ble_eq_true rfl) ?_
  unfold f9_tellLaw at h
  refine zr_aload_n (i := 0) d_9_tellLaw_0 rfl rfl ?_
  refine zr_iconst (v := (5 : Int32)) d_9_tellLaw_1 rfl ?_
  obtain ⟨qm1, hq2, h⟩ := z_bd h
  refine zr_callVv (av := [zI (5 : Int32)]) (st := []) d_9_tellLaw_2 mw_9_must ml_9_277 im_9_must se_9_must rfl rfl (Nat.le_of_ble_eq_true rfl) fit_3_2_6 rfl rfl rfl (s9_must hq2) ?_
  refine zr_aload_n (i := 0) d_9_tellLaw_5 rfl rfl ?_
  refine zr_geti d_9_tellLaw_6 fw_9_242 (by decide) ?_
  refine zr_istore_n (i := 2) (l' := [some (zA 9 0), some (zI a1), some (zI (qm1.1 9 0 34)), none]) d_9_tellLaw_9 rfl (by decide) rfl ?_
  refine zr_iconst (v := (0 : Int32)) d_9_tellLaw_10 rfl ?_
  refine zr_istore_n (i := 3) (l' := [some (zA 9 0), some (zI a1), some (zI (qm1.1 9 0 34)), some (zI (0 : Int32))]) d_9_tellLaw_11 rfl (by decide) rfl ?_
  rcases z_bs h with ⟨e44, hl45, h⟩ | ⟨qr60, hl45, h⟩
  · refine zr_wk (l' := [some (zA 9 0), some (zI a1), some (zI (qm1.1 9 0 34)), some (zI (0 : Int32))]) ⟨rfl, ⟨rfl, ⟨rfl, ⟨rfl, trivial⟩⟩⟩⟩ ?_
    refine z_loop (Hd := (z_u2 fun y0 y1 => z_RQ P M_9_tellLaw (z_rm 6) (z_mq P none μ') 0 0 12 [some (zA 9 0), some (zI a1), some (zI (qm1.1 9 0 34)), some (zI y0)] [] y1)) (Ex := (Sum.elim (fun z0 => z_RQ P M_9_tellLaw (z_rm 6) (z_mq P none μ') 0 0 129 [some (zA 9 0), some (zI a1), some (zI (qm1.1 9 0 34)), none] [] z0) (fun qm => none = none ∧ μ' = qm))) (fun ⟨x4, xm5⟩ K h hI hE => s9_tellLaw_L3 a1 qm1 x4 xm5 K h (fun y0 y1 e => hI (y0, y1) e) (fun z0 e => hE (.inl z0) e) (fun qm e => hE (.inr qm) e)) _ _ _ hl45 ?_
    refine zr_aload_n (i := 0) d_9_tellLaw_129 rfl rfl ?_
    refine zr_gets (i' := 0) d_9_tellLaw_130 fw_9_79 rfl ?_
    refine zr_aload_n (i := 0) d_9_tellLaw_133 rfl rfl ?_
    refine zr_geti d_9_tellLaw_134 fw_9_242 (by decide) ?_
    refine zr_iconst (v := (0 : Int32)) d_9_tellLaw_137 rfl ?_
    obtain ⟨hb48, h⟩ := z_gd h
    obtain ⟨m46, hm47, h⟩ := z_lt h
    refine zr_zast d_9_tellLaw_138 sa_135 rfl hb48 hm47 ?_
    refine zr_aload_n (i := 0) d_9_tellLaw_139 rfl rfl ?_
    obtain ⟨qm49, hq50, h⟩ := z_bd h
    refine zr_callVv (av := []) (st := []) d_9_tellLaw_140 mw_9_term ml_9_292 im_9_term se_9_term rfl rfl (Nat.le_of_ble_eq_true rfl) fit_5_1_6 rfl rfl rfl (s9_term hq50) ?_
    refine zr_aload_n (i := 0) d_9_tellLaw_143 rfl rfl ?_
    refine zr_iconst (v := (4 : Int32)) d_9_tellLaw_144 rfl ?_
    obtain ⟨qm51, hq52, h⟩ := z_bd h
    refine zr_callVv (av := [zI (4 : Int32)]) (st := []) d_9_tellLaw_145 mw_9_must ml_9_277 im_9_must se_9_must rfl rfl (Nat.le_of_ble_eq_true rfl) fit_3_2_6 rfl rfl rfl (s9_must hq52) ?_
    refine zr_aload_n (i := 0) d_9_tellLaw_148 rfl rfl ?_
    refine zr_geti d_9_tellLaw_149 fw_9_203 (by decide) ?_
    refine zr_if_le (tgt := 156) d_9_tellLaw_152 rfl (fun hc53 => ?_) (fun hc53 => ?_)
    · replace h := z_ip h hc53
      obtain rfl := Option.some.inj h
      exact ze_v d_9_tellLaw_155 rfl
    · replace h := z_im h hc53
      refine zr_aload_n (i := 0) d_9_tellLaw_156 rfl rfl ?_
      refine zr_gets (i' := 0) d_9_tellLaw_157 fw_9_73 rfl ?_
      refine zr_iconst (v := (4 : Int32)) d_9_tellLaw_160 rfl ?_
      refine zr_aload_n (i := 0) d_9_tellLaw_161 rfl rfl ?_
      refine zr_geti d_9_tellLaw_162 fw_9_236 (by decide) ?_
      refine zr_imul d_9_tellLaw_165 ?_
      refine zr_iload_n (i := 1) d_9_tellLaw_166 rfl rfl ?_
      refine zr_iadd d_9_tellLaw_167 ?_
      refine zr_iload_n (i := 2) d_9_tellLaw_168 rfl rfl ?_
      obtain ⟨hb56, h⟩ := z_gd h
      obtain ⟨m54, hm55, h⟩ := z_lt h
      refine zr_iast d_9_tellLaw_169 sa_132 rfl hb56 hm55 ?_
      refine zr_aload_n (i := 0) d_9_tellLaw_170 rfl rfl ?_
      refine zr_gets (i' := 0) d_9_tellLaw_171 fw_9_76 rfl ?_
      refine zr_iconst (v := (4 : Int32)) d_9_tellLaw_174 rfl ?_
      refine zr_aload_n (i := 0) d_9_tellLaw_175 rfl rfl ?_
      refine zr_geti d_9_tellLaw_176 fw_9_236 (by decide) ?_
      refine zr_imul d_9_tellLaw_179 ?_
      refine zr_iload_n (i := 1) d_9_tellLaw_180 rfl rfl ?_
      refine zr_iadd d_9_tellLaw_181 ?_
      refine zr_aload_n (i := 0) d_9_tellLaw_182 rfl rfl ?_
      refine zr_geti d_9_tellLaw_183 fw_9_242 (by decide) ?_
      obtain ⟨hb59, h⟩ := z_gd h
      obtain ⟨m57, hm58, h⟩ := z_lt h
      refine zr_iast d_9_tellLaw_186 sa_133 rfl hb59 hm58 ?_
      obtain rfl := Option.some.inj h
      exact ze_v d_9_tellLaw_187 rfl
  · refine zr_wk (l' := [some (zA 9 0), some (zI a1), some (zI (qm1.1 9 0 34)), some (zI (0 : Int32))]) ⟨rfl, ⟨rfl, ⟨rfl, ⟨rfl, trivial⟩⟩⟩⟩ ?_
    refine z_loop (Hd := (z_u2 fun y0 y1 => z_RQ P M_9_tellLaw (z_rm 6) (z_mq P none μ') 0 0 12 [some (zA 9 0), some (zI a1), some (zI (qm1.1 9 0 34)), some (zI y0)] [] y1)) (Ex := (Sum.elim (fun z0 => z_RQ P M_9_tellLaw (z_rm 6) (z_mq P none μ') 0 0 129 [some (zA 9 0), some (zI a1), some (zI (qm1.1 9 0 34)), none] [] z0) (fun qm => none = none ∧ μ' = qm))) (fun ⟨x4, xm5⟩ K h hI hE => s9_tellLaw_L3 a1 qm1 x4 xm5 K h (fun y0 y1 e => hI (y0, y1) e) (fun z0 e => hE (.inl z0) e) (fun qm e => hE (.inr qm) e)) _ _ _ hl45 ?_
    obtain rfl := Option.some.inj h
    exact ⟨rfl, rfl⟩
def f9_tellOne  (μ : zMem) : Option (zMem) :=
  if z_in (μ.1 9 0 11) 403 = true then (if (μ.1 105 0 (μ.1 9 0 11).toNatClampNeg) = (20 : Int32) then if z_in (μ.1 9 0 19) 2 = true then (f9_roomFor (μ.1 123 0 (μ.1 9 0 19).toNatClampNeg) (5 : Int32) μ).bind (fun qm4 => (if 0 < (qm4.1 9 0 13) then some qm4 else (f9_named qm4).bind (z_u2 fun q7 qm8 => if z_in (qm8.1 9 0 19) 2 = true then (f9_bounded (99 : Int32) qm8).bind (z_u2 fun q11 qm12 => if z_in (((5 : Int32) * (qm8.1 9 0 19)) + (qm8.1 123 0 (qm8.1 9 0 19).toNatClampNeg)) 10 = true then z_let (z_sI qm12 124 0 (((5 : Int32) * (qm8.1 9 0 19)) + (qm8.1 123 0 (qm8.1 9 0 19).toNatClampNeg)).toNatClampNeg q11) fun m14 => if z_in (m14.1 9 0 19) 2 = true then (f9_endsName q7 (m14.1 123 0 (m14.1 9 0 19).toNatClampNeg) m14).bind (fun qm18 => (if (qm18.1 9 0 13) = 0 then if z_in (qm18.1 9 0 19) 2 = true then z_let (z_sI qm18 123 0 (qm18.1 9 0 19).toNatClampNeg ((qm18.1 123 0 (qm18.1 9 0 19).toNatClampNeg) + (1 : Int32))) fun m22 => some m22 else none else some qm18)) else none else none) else none))) else none else (if (μ.1 105 0 (μ.1 9 0 11).toNatClampNeg) = (21 : Int32) then if z_in (μ.1 9 0 19) 2 = true then (f9_roomFor (μ.1 126 0 (μ.1 9 0 19).toNatClampNeg) (7 : Int32) μ).bind (fun qm26 => (if 0 < (qm26.1 9 0 13) then some qm26 else (f9_named qm26).bind (z_u2 fun q29 qm30 => if z_in (qm30.1 9 0 19) 2 = true then (f9_bounded (99 : Int32) qm30).bind (z_u2 fun q33 qm34 => if z_in (((7 : Int32) * (qm30.1 9 0 19)) + (qm30.1 126 0 (qm30.1 9 0 19).toNatClampNeg)) 14 = true then z_let (z_sI qm34 127 0 (((7 : Int32) * (qm30.1 9 0 19)) + (qm30.1 126 0 (qm30.1 9 0 19).toNatClampNeg)).toNatClampNeg q33) fun m36 => if z_in (m36.1 9 0 19) 2 = true then (f9_endsName q29 ((10 : Int32) + (m36.1 126 0 (m36.1 9 0 19).toNatClampNeg)) m36).bind (fun qm40 => (if (qm40.1 9 0 13) = 0 then if z_in (qm40.1 9 0 19) 2 = true then z_let (z_sI qm40 126 0 (qm40.1 9 0 19).toNatClampNeg ((qm40.1 126 0 (qm40.1 9 0 19).toNatClampNeg) + (1 : Int32))) fun m44 => some m44 else none else some qm40)) else none else none) else none))) else none else (if (μ.1 105 0 (μ.1 9 0 11).toNatClampNeg) = (22 : Int32) then if z_in (μ.1 9 0 19) 2 = true then (f9_roomFor (μ.1 129 0 (μ.1 9 0 19).toNatClampNeg) (20 : Int32) μ).bind (fun qm48 => (if (qm48.1 9 0 13) = 0 then (f9_tellRight qm48).bind (fun qm51 => some qm51) else some qm48)) else none else (if (μ.1 105 0 (μ.1 9 0 11).toNatClampNeg) = (23 : Int32) then if z_in (μ.1 9 0 19) 2 = true then (f9_roomFor (μ.1 130 0 (μ.1 9 0 19).toNatClampNeg) (7 : Int32) μ).bind (fun qm55 => (if (qm55.1 9 0 13) = 0 then (f9_tellAway qm55).bind (fun qm58 => some qm58) else some qm55)) else none else (if (μ.1 105 0 (μ.1 9 0 11).toNatClampNeg) = (24 : Int32) then z_let ((μ.1 105 0 (μ.1 9 0 11).toNatClampNeg) - (24 : Int32)) fun v61 => ((if v61 < 0 then (f9_fail (1 : Int32) μ).bind (fun qm66 => some qm66) else (if (27 : Int32) < (μ.1 105 0 (μ.1 9 0 11).toNatClampNeg) then (f9_fail (1 : Int32) μ).bind (fun qm69 => some qm69) else some μ)) : Option (zMem)).bind (fun jm71 => (if 0 < (jm71.1 9 0 13) then some jm71 else (f9_goesOn jm71).bind (fun qm73 => (f9_tellLaw v61 qm73).bind (fun qm75 => some qm75)))) else (if (μ.1 105 0 (μ.1 9 0 11).toNatClampNeg) = (25 : Int32) then z_let ((μ.1 105 0 (μ.1 9 0 11).toNatClampNeg) - (24 : Int32)) fun v78 => ((if v78 < 0 then (f9_fail (1 : Int32) μ).bind (fun qm83 => some qm83) else (if (27 : Int32) < (μ.1 105 0 (μ.1 9 0 11).toNatClampNeg) then (f9_fail (1 : Int32) μ).bind (fun qm86 => some qm86) else some μ)) : Option (zMem)).bind (fun jm88 => (if 0 < (jm88.1 9 0 13) then some jm88 else (f9_goesOn jm88).bind (fun qm90 => (f9_tellLaw v78 qm90).bind (fun qm92 => some qm92)))) else (if (μ.1 105 0 (μ.1 9 0 11).toNatClampNeg) = (26 : Int32) then z_let ((μ.1 105 0 (μ.1 9 0 11).toNatClampNeg) - (24 : Int32)) fun v95 => ((if v95 < 0 then (f9_fail (1 : Int32) μ).bind (fun qm100 => some qm100) else (if (27 : Int32) < (μ.1 105 0 (μ.1 9 0 11).toNatClampNeg) then (f9_fail (1 : Int32) μ).bind (fun qm103 => some qm103) else some μ)) : Option (zMem)).bind (fun jm105 => (if 0 < (jm105.1 9 0 13) then some jm105 else (f9_goesOn jm105).bind (fun qm107 => (f9_tellLaw v95 qm107).bind (fun qm109 => some qm109)))) else (if (μ.1 105 0 (μ.1 9 0 11).toNatClampNeg) = (27 : Int32) then z_let ((μ.1 105 0 (μ.1 9 0 11).toNatClampNeg) - (24 : Int32)) fun v112 => ((if v112 < 0 then (f9_fail (1 : Int32) μ).bind (fun qm117 => some qm117) else (if (27 : Int32) < (μ.1 105 0 (μ.1 9 0 11).toNatClampNeg) then (f9_fail (1 : Int32) μ).bind (fun qm120 => some qm120) else some μ)) : Option (zMem)).bind (fun jm122 => (if 0 < (jm122.1 9 0 13) then some jm122 else (f9_goesOn jm122).bind (fun qm124 => (f9_tellLaw v112 qm124).bind (fun qm126 => some qm126)))) else (if (μ.1 105 0 (μ.1 9 0 11).toNatClampNeg) = (28 : Int32) then (f9_goesOn μ).bind (fun qm129 => (f9_bounded (9999 : Int32) qm129).bind (z_u2 fun q131 qm132 => if z_in (qm129.1 9 0 19) 2 = true then z_let (z_sI qm132 131 0 (qm129.1 9 0 19).toNatClampNeg q131) fun m134 => (f9_must (4 : Int32) m134).bind (fun qm137 => some qm137) else none)) else z_let ((μ.1 105 0 (μ.1 9 0 11).toNatClampNeg) - (24 : Int32)) fun v139 => ((if v139 < 0 then (f9_fail (1 : Int32) μ).bind (fun qm144 => some qm144) else (if (27 : Int32) < (μ.1 105 0 (μ.1 9 0 11).toNatClampNeg) then (f9_fail (1 : Int32) μ).bind (fun qm147 => some qm147) else some μ)) : Option (zMem)).bind (fun jm149 => (if 0 < (jm149.1 9 0 13) then some jm149 else (f9_goesOn jm149).bind (fun qm151 => (f9_tellLaw v139 qm151).bind (fun qm153 => some qm153))))))))))))) else none
theorem s9_tellOne {P : zP} {μ : zMem} {μ' : zMem} (h : f9_tellOne μ = some μ') : z_Sp P y_9_tellOne M_9_tellOne 7 [zA 9 0] μ none μ' := by
  refine z_Sp.of (plainFor_of_name (by decide)) rfl (l0 := [some (zA 9 0), none]) rfl (Nat.le_of_ble_eq_true rfl) ?_
  unfold f9_tellOne at h
  refine zr_aload_n (i := 0) d_9_tellOne_0 rfl rfl ?_
  refine zr_gets (i' := 0) d_9_tellOne_1 fw_9_20 rfl ?_
  refine zr_aload_n (i := 0) d_9_tellOne_4 rfl rfl ?_
  refine zr_geti d_9_tellOne_5 fw_9_206 (by decide) ?_
  obtain ⟨hb1, h⟩ := z_gd h
  refine zr_iald d_9_tellOne_8 sa_105 rfl hb1 ?_
  by_cases hs2 : (μ.1 105 0 (μ.1 9 0 11).toNatClampNeg) = (20 : Int32)
  · replace h := z_ip h hs2
    refine zr_tbl (off := 51) (tgt := 60) hs2 d_9_tellOne_9 (by decide) (by decide) rfl rfl ?_
    refine zr_aload_n (i := 0) d_9_tellOne_60 rfl rfl ?_
    refine zr_aload_n (i := 0) d_9_tellOne_61 rfl rfl ?_
    refine zr_gets (i' := 0) d_9_tellOne_62 fw_9_46 rfl ?_
    refine zr_aload_n (i := 0) d_9_tellOne_65 rfl rfl ?_
    refine zr_geti d_9_tellOne_66 fw_9_236 (by decide) ?_
    obtain ⟨hb3, h⟩ := z_gd h
    refine zr_iald d_9_tellOne_69 sa_123 rfl hb3 ?_
    refine zr_iconst (v := (5 : Int32)) d_9_tellOne_70 rfl ?_
    obtain ⟨qm4, hq5, h⟩ := z_bd h
    refine zr_callVv (av := [zI (μ.1 123 0 (μ.1 9 0 19).toNatClampNeg), zI (5 : Int32)]) (st := []) d_9_tellOne_71 mw_9_roomFor ml_9_257 im_9_roomFor se_9_roomFor rfl rfl (Nat.le_of_ble_eq_true rfl) fit_3_3_7 rfl rfl rfl (s9_roomFor hq5) ?_
    refine zr_aload_n (i := 0) d_9_tellOne_74 rfl rfl ?_
    refine zr_geti d_9_tellOne_75 fw_9_203 (by decide) ?_
    refine zr_if_le (tgt := 82) d_9_tellOne_78 rfl (fun hc6 => ?_) (fun hc6 => ?_)
    · replace h := z_ip h hc6
      obtain rfl := Option.some.inj h
      exact ze_v d_9_tellOne_81 rfl
    · replace h := z_im h hc6
      refine zr_aload_n (i := 0) d_9_tellOne_82 rfl rfl ?_
      obtain ⟨⟨q7, qm8⟩, hq9, h⟩ := z_bd h
      replace h := z_h2 h
      refine zr_callVi (av := []) (st := []) d_9_tellOne_83 mw_9_named ml_9_261 im_9_named se_9_named rfl rfl (Nat.le_of_ble_eq_true rfl) fit_4_3_7 rfl rfl rfl (s9_named hq9) ?_
      refine zr_istore_n (i := 1) (l' := [some (zA 9 0), some (zI q7)]) d_9_tellOne_86 rfl (by decide) rfl ?_
      refine zr_aload_n (i := 0) d_9_tellOne_87 rfl rfl ?_
      refine zr_gets (i' := 0) d_9_tellOne_88 fw_9_49 rfl ?_
      refine zr_iconst (v := (5 : Int32)) d_9_tellOne_91 rfl ?_
      refine zr_aload_n (i := 0) d_9_tellOne_92 rfl rfl ?_
      refine zr_geti d_9_tellOne_93 fw_9_236 (by decide) ?_
      refine zr_imul d_9_tellOne_96 ?_
      refine zr_aload_n (i := 0) d_9_tellOne_97 rfl rfl ?_
      refine zr_gets (i' := 0) d_9_tellOne_98 fw_9_46 rfl ?_
      refine zr_aload_n (i := 0) d_9_tellOne_101 rfl rfl ?_
      refine zr_geti d_9_tellOne_102 fw_9_236 (by decide) ?_
      obtain ⟨hb10, h⟩ := z_gd h
      refine zr_iald d_9_tellOne_105 sa_123 rfl hb10 ?_
      refine zr_iadd d_9_tellOne_106 ?_
      refine zr_aload_n (i := 0) d_9_tellOne_107 rfl rfl ?_
      refine zr_bipush (v := (99 : Int32)) d_9_tellOne_108 rfl ?_
      obtain ⟨⟨q11, qm12⟩, hq13, h⟩ := z_bd h
      replace h := z_h2 h
      refine zr_callVi (av := [zI (99 : Int32)]) (st := [zI (((5 : Int32) * (qm8.1 9 0 19)) + (qm8.1 123 0 (qm8.1 9 0 19).toNatClampNeg)), zA 124 0]) d_9_tellOne_110 mw_9_bounded ml_9_265 im_9_bounded se_9_bounded rfl rfl (Nat.le_of_ble_eq_true rfl) fit_3_3_7 rfl rfl rfl (s9_bounded hq13) ?_
      obtain ⟨hb16, h⟩ := z_gd h
      obtain ⟨m14, hm15, h⟩ := z_lt h
      refine zr_iast d_9_tellOne_113 sa_124 rfl hb16 hm15 ?_
      refine zr_aload_n (i := 0) d_9_tellOne_114 rfl rfl ?_
      refine zr_iload_n (i := 1) d_9_tellOne_115 rfl rfl ?_
      refine zr_aload_n (i := 0) d_9_tellOne_116 rfl rfl ?_
      refine zr_gets (i' := 0) d_9_tellOne_117 fw_9_46 rfl ?_
      refine zr_aload_n (i := 0) d_9_tellOne_120 rfl rfl ?_
      refine zr_geti d_9_tellOne_121 fw_9_236 (by decide) ?_
      obtain ⟨hb17, h⟩ := z_gd h
      refine zr_iald d_9_tellOne_124 sa_123 rfl hb17 ?_
      obtain ⟨qm18, hq19, h⟩ := z_bd h
      refine zr_callVv (av := [zI q7, zI (m14.1 123 0 (m14.1 9 0 19).toNatClampNeg)]) (st := []) d_9_tellOne_125 mw_9_endsName ml_9_268 im_9_endsName se_9_endsName rfl rfl (Nat.le_of_ble_eq_true rfl) fit_4_3_7 rfl rfl rfl (s9_endsName hq19) ?_
      refine zr_aload_n (i := 0) d_9_tellOne_128 rfl rfl ?_
      refine zr_geti d_9_tellOne_129 fw_9_203 (by decide) ?_
      refine zr_if_ne (tgt := 386) d_9_tellOne_132 rfl (fun hc20 => ?_) (fun hc20 => ?_)
      · replace h := z_ip h hc20
        refine zr_aload_n (i := 0) d_9_tellOne_135 rfl rfl ?_
        refine zr_gets (i' := 0) d_9_tellOne_136 fw_9_46 rfl ?_
        refine zr_aload_n (i := 0) d_9_tellOne_139 rfl rfl ?_
        refine zr_geti d_9_tellOne_140 fw_9_236 (by decide) ?_
        refine zr_dup2 d_9_tellOne_143 ?_
        obtain ⟨hb21, h⟩ := z_gd h
        refine zr_iald d_9_tellOne_144 sa_123 rfl hb21 ?_
        refine zr_iconst (v := (1 : Int32)) d_9_tellOne_145 rfl ?_
        refine zr_iadd d_9_tellOne_146 ?_
        obtain ⟨m22, hm23, h⟩ := z_lt h
        refine zr_iast d_9_tellOne_147 sa_123 rfl hb21 hm23 ?_
        refine zr_goto (tgt := 386) d_9_tellOne_148 rfl ?_
        obtain rfl := Option.some.inj h
        exact ze_v d_9_tellOne_386 rfl
      · replace h := z_im h hc20
        obtain rfl := Option.some.inj h
        exact ze_v d_9_tellOne_386 rfl
  · replace h := z_im h hs2
    by_cases hs24 : (μ.1 105 0 (μ.1 9 0 11).toNatClampNeg) = (21 : Int32)
    · replace h := z_ip h hs24
      refine zr_tbl (off := 142) (tgt := 151) hs24 d_9_tellOne_9 (by decide) (by decide) rfl rfl ?_
      refine zr_aload_n (i := 0) d_9_tellOne_151 rfl rfl ?_
      refine zr_aload_n (i := 0) d_9_tellOne_152 rfl rfl ?_
      refine zr_gets (i' := 0) d_9_tellOne_153 fw_9_55 rfl ?_
      refine zr_aload_n (i := 0) d_9_tellOne_156 rfl rfl ?_
      refine zr_geti d_9_tellOne_157 fw_9_236 (by decide) ?_
      obtain ⟨hb25, h⟩ := z_gd h
      refine zr_iald d_9_tellOne_160 sa_126 rfl hb25 ?_
      refine zr_bipush (v := (7 : Int32)) d_9_tellOne_161 rfl ?_
      obtain ⟨qm26, hq27, h⟩ := z_bd h
      refine zr_callVv (av := [zI (μ.1 126 0 (μ.1 9 0 19).toNatClampNeg), zI (7 : Int32)]) (st := []) d_9_tellOne_163 mw_9_roomFor ml_9_257 im_9_roomFor se_9_roomFor rfl rfl (Nat.le_of_ble_eq_true rfl) fit_3_3_7 rfl rfl rfl (s9_roomFor hq27) ?_
      refine zr_aload_n (i := 0) d_9_tellOne_166 rfl rfl ?_
      refine zr_geti d_9_tellOne_167 fw_9_203 (by decide) ?_
      refine zr_if_le (tgt := 174) d_9_tellOne_170 rfl (fun hc28 => ?_) (fun hc28 => ?_)
      · replace h := z_ip h hc28
        obtain rfl := Option.some.inj h
        exact ze_v d_9_tellOne_173 rfl
      · replace h := z_im h hc28
        refine zr_aload_n (i := 0) d_9_tellOne_174 rfl rfl ?_
        obtain ⟨⟨q29, qm30⟩, hq31, h⟩ := z_bd h
        replace h := z_h2 h
        refine zr_callVi (av := []) (st := []) d_9_tellOne_175 mw_9_named ml_9_261 im_9_named se_9_named rfl rfl (Nat.le_of_ble_eq_true rfl) fit_4_3_7 rfl rfl rfl (s9_named hq31) ?_
        refine zr_istore_n (i := 1) (l' := [some (zA 9 0), some (zI q29)]) d_9_tellOne_178 rfl (by decide) rfl ?_
        refine zr_aload_n (i := 0) d_9_tellOne_179 rfl rfl ?_
        refine zr_gets (i' := 0) d_9_tellOne_180 fw_9_58 rfl ?_
        refine zr_bipush (v := (7 : Int32)) d_9_tellOne_183 rfl ?_
        refine zr_aload_n (i := 0) d_9_tellOne_185 rfl rfl ?_
        refine zr_geti d_9_tellOne_186 fw_9_236 (by decide) ?_
        refine zr_imul d_9_tellOne_189 ?_
        refine zr_aload_n (i := 0) d_9_tellOne_190 rfl rfl ?_
        refine zr_gets (i' := 0) d_9_tellOne_191 fw_9_55 rfl ?_
        refine zr_aload_n (i := 0) d_9_tellOne_194 rfl rfl ?_
        refine zr_geti d_9_tellOne_195 fw_9_236 (by decide) ?_
        obtain ⟨hb32, h⟩ := z_gd h
        refine zr_iald d_9_tellOne_198 sa_126 rfl hb32 ?_
        refine zr_iadd d_9_tellOne_199 ?_
        refine zr_aload_n (i := 0) d_9_tellOne_200 rfl rfl ?_
        refine zr_bipush (v := (99 : Int32)) d_9_tellOne_201 rfl ?_
        obtain ⟨⟨q33, qm34⟩, hq35, h⟩ := z_bd h
        replace h := z_h2 h
        refine zr_callVi (av := [zI (99 : Int32)]) (st := [zI (((7 : Int32) * (qm30.1 9 0 19)) + (qm30.1 126 0 (qm30.1 9 0 19).toNatClampNeg)), zA 127 0]) d_9_tellOne_203 mw_9_bounded ml_9_265 im_9_bounded se_9_bounded rfl rfl (Nat.le_of_ble_eq_true rfl) fit_3_3_7 rfl rfl rfl (s9_bounded hq35) ?_
        obtain ⟨hb38, h⟩ := z_gd h
        obtain ⟨m36, hm37, h⟩ := z_lt h
        refine zr_iast d_9_tellOne_206 sa_127 rfl hb38 hm37 ?_
        refine zr_aload_n (i := 0) d_9_tellOne_207 rfl rfl ?_
        refine zr_iload_n (i := 1) d_9_tellOne_208 rfl rfl ?_
        refine zr_bipush (v := (10 : Int32)) d_9_tellOne_209 rfl ?_
        refine zr_aload_n (i := 0) d_9_tellOne_211 rfl rfl ?_
        refine zr_gets (i' := 0) d_9_tellOne_212 fw_9_55 rfl ?_
        refine zr_aload_n (i := 0) d_9_tellOne_215 rfl rfl ?_
        refine zr_geti d_9_tellOne_216 fw_9_236 (by decide) ?_
        obtain ⟨hb39, h⟩ := z_gd h
        refine zr_iald d_9_tellOne_219 sa_126 rfl hb39 ?_
        refine zr_iadd d_9_tellOne_220 ?_
        obtain ⟨qm40, hq41, h⟩ := z_bd h
        refine zr_callVv (av := [zI q29, zI ((10 : Int32) + (m36.1 126 0 (m36.1 9 0 19).toNatClampNeg))]) (st := []) d_9_tellOne_221 mw_9_endsName ml_9_268 im_9_endsName se_9_endsName rfl rfl (Nat.le_of_ble_eq_true rfl) fit_4_3_7 rfl rfl rfl (s9_endsName hq41) ?_
        refine zr_aload_n (i := 0) d_9_tellOne_224 rfl rfl ?_
        refine zr_geti d_9_tellOne_225 fw_9_203 (by decide) ?_
        refine zr_if_ne (tgt := 386) d_9_tellOne_228 rfl (fun hc42 => ?_) (fun hc42 => ?_)
        · replace h := z_ip h hc42
          refine zr_aload_n (i := 0) d_9_tellOne_231 rfl rfl ?_
          refine zr_gets (i' := 0) d_9_tellOne_232 fw_9_55 rfl ?_
          refine zr_aload_n (i := 0) d_9_tellOne_235 rfl rfl ?_
          refine zr_geti d_9_tellOne_236 fw_9_236 (by decide) ?_
          refine zr_dup2 d_9_tellOne_239 ?_
          obtain ⟨hb43, h⟩ := z_gd h
          refine zr_iald d_9_tellOne_240 sa_126 rfl hb43 ?_
          refine zr_iconst (v := (1 : Int32)) d_9_tellOne_241 rfl ?_
          refine zr_iadd d_9_tellOne_242 ?_
          obtain ⟨m44, hm45, h⟩ := z_lt h
          refine zr_iast d_9_tellOne_243 sa_126 rfl hb43 hm45 ?_
          refine zr_goto (tgt := 386) d_9_tellOne_244 rfl ?_
          obtain rfl := Option.some.inj h
          exact ze_v d_9_tellOne_386 rfl
        · replace h := z_im h hc42
          obtain rfl := Option.some.inj h
          exact ze_v d_9_tellOne_386 rfl
    · replace h := z_im h hs24
      by_cases hs46 : (μ.1 105 0 (μ.1 9 0 11).toNatClampNeg) = (22 : Int32)
      · replace h := z_ip h hs46
        refine zr_tbl (off := 238) (tgt := 247) hs46 d_9_tellOne_9 (by decide) (by decide) rfl rfl ?_
        refine zr_aload_n (i := 0) d_9_tellOne_247 rfl rfl ?_
        refine zr_aload_n (i := 0) d_9_tellOne_248 rfl rfl ?_
        refine zr_gets (i' := 0) d_9_tellOne_249 fw_9_64 rfl ?_
        refine zr_aload_n (i := 0) d_9_tellOne_252 rfl rfl ?_
        refine zr_geti d_9_tellOne_253 fw_9_236 (by decide) ?_
        obtain ⟨hb47, h⟩ := z_gd h
        refine zr_iald d_9_tellOne_256 sa_129 rfl hb47 ?_
        refine zr_bipush (v := (20 : Int32)) d_9_tellOne_257 rfl ?_
        obtain ⟨qm48, hq49, h⟩ := z_bd h
        refine zr_callVv (av := [zI (μ.1 129 0 (μ.1 9 0 19).toNatClampNeg), zI (20 : Int32)]) (st := []) d_9_tellOne_259 mw_9_roomFor ml_9_257 im_9_roomFor se_9_roomFor rfl rfl (Nat.le_of_ble_eq_true rfl) fit_3_3_7 rfl rfl rfl (s9_roomFor hq49) ?_
        refine zr_aload_n (i := 0) d_9_tellOne_262 rfl rfl ?_
        refine zr_geti d_9_tellOne_263 fw_9_203 (by decide) ?_
        refine zr_if_ne (tgt := 386) d_9_tellOne_266 rfl (fun hc50 => ?_) (fun hc50 => ?_)
        · replace h := z_ip h hc50
          refine zr_aload_n (i := 0) d_9_tellOne_269 rfl rfl ?_
          obtain ⟨qm51, hq52, h⟩ := z_bd h
          refine zr_callVv (av := []) (st := []) d_9_tellOne_270 mw_9_tellRight ml_9_271 im_9_tellRight se_9_tellRight rfl rfl (Nat.le_of_ble_eq_true rfl) fit_5_5_7 rfl rfl rfl (s9_tellRight hq52) ?_
          refine zr_goto (tgt := 386) d_9_tellOne_273 rfl ?_
          obtain rfl := Option.some.inj h
          exact ze_v d_9_tellOne_386 rfl
        · replace h := z_im h hc50
          obtain rfl := Option.some.inj h
          exact ze_v d_9_tellOne_386 rfl
      · replace h := z_im h hs46
        by_cases hs53 : (μ.1 105 0 (μ.1 9 0 11).toNatClampNeg) = (23 : Int32)
        · replace h := z_ip h hs53
          refine zr_tbl (off := 267) (tgt := 276) hs53 d_9_tellOne_9 (by decide) (by decide) rfl rfl ?_
          refine zr_aload_n (i := 0) d_9_tellOne_276 rfl rfl ?_
          refine zr_aload_n (i := 0) d_9_tellOne_277 rfl rfl ?_
          refine zr_gets (i' := 0) d_9_tellOne_278 fw_9_67 rfl ?_
          refine zr_aload_n (i := 0) d_9_tellOne_281 rfl rfl ?_
          refine zr_geti d_9_tellOne_282 fw_9_236 (by decide) ?_
          obtain ⟨hb54, h⟩ := z_gd h
          refine zr_iald d_9_tellOne_285 sa_130 rfl hb54 ?_
          refine zr_bipush (v := (7 : Int32)) d_9_tellOne_286 rfl ?_
          obtain ⟨qm55, hq56, h⟩ := z_bd h
          refine zr_callVv (av := [zI (μ.1 130 0 (μ.1 9 0 19).toNatClampNeg), zI (7 : Int32)]) (st := []) d_9_tellOne_288 mw_9_roomFor ml_9_257 im_9_roomFor se_9_roomFor rfl rfl (Nat.le_of_ble_eq_true rfl) fit_3_3_7 rfl rfl rfl (s9_roomFor hq56) ?_
          refine zr_aload_n (i := 0) d_9_tellOne_291 rfl rfl ?_
          refine zr_geti d_9_tellOne_292 fw_9_203 (by decide) ?_
          refine zr_if_ne (tgt := 386) d_9_tellOne_295 rfl (fun hc57 => ?_) (fun hc57 => ?_)
          · replace h := z_ip h hc57
            refine zr_aload_n (i := 0) d_9_tellOne_298 rfl rfl ?_
            obtain ⟨qm58, hq59, h⟩ := z_bd h
            refine zr_callVv (av := []) (st := []) d_9_tellOne_299 mw_9_tellAway ml_9_274 im_9_tellAway se_9_tellAway rfl rfl (Nat.le_of_ble_eq_true rfl) fit_5_3_7 rfl rfl rfl (s9_tellAway hq59) ?_
            refine zr_goto (tgt := 386) d_9_tellOne_302 rfl ?_
            obtain rfl := Option.some.inj h
            exact ze_v d_9_tellOne_386 rfl
          · replace h := z_im h hc57
            obtain rfl := Option.some.inj h
            exact ze_v d_9_tellOne_386 rfl
        · replace h := z_im h hs53
          by_cases hs60 : (μ.1 105 0 (μ.1 9 0 11).toNatClampNeg) = (24 : Int32)
          · replace h := z_ip h hs60
            refine zr_tbl (off := 324) (tgt := 333) hs60 d_9_tellOne_9 (by decide) (by decide) rfl rfl ?_
            refine zr_aload_n (i := 0) d_9_tellOne_333 rfl rfl ?_
            refine zr_gets (i' := 0) d_9_tellOne_334 fw_9_20 rfl ?_
            refine zr_aload_n (i := 0) d_9_tellOne_337 rfl rfl ?_
            refine zr_geti d_9_tellOne_338 fw_9_206 (by decide) ?_
            refine zr_iald d_9_tellOne_341 sa_105 rfl hb1 ?_
            refine zr_bipush (v := (24 : Int32)) d_9_tellOne_342 rfl ?_
            refine zr_isub d_9_tellOne_344 ?_
            obtain ⟨v61, hv62, h⟩ := z_lt h
            refine zr_nm hv62 ?_
            refine zr_istore_n (i := 1) (l' := [some (zA 9 0), some (zI v61)]) d_9_tellOne_345 rfl (by decide) rfl ?_
            refine zr_iload_n (i := 1) d_9_tellOne_346 rfl rfl ?_
            obtain ⟨jm71, hT63, h⟩ := z_bd h
            have hJ64 : z_RQ P M_9_tellOne (z_rm 7) (z_mq P none μ') 0 0 369 [some (zA 9 0), some (zI v61)] [] jm71 := by
              refine zr_aload_n (i := 0) d_9_tellOne_369 rfl rfl ?_
              refine zr_geti d_9_tellOne_370 fw_9_203 (by decide) ?_
              refine zr_if_le (tgt := 377) d_9_tellOne_373 rfl (fun hc72 => ?_) (fun hc72 => ?_)
              · replace h := z_ip h hc72
                obtain rfl := Option.some.inj h
                exact ze_v d_9_tellOne_376 rfl
              · replace h := z_im h hc72
                refine zr_aload_n (i := 0) d_9_tellOne_377 rfl rfl ?_
                obtain ⟨qm73, hq74, h⟩ := z_bd h
                refine zr_callVv (av := []) (st := []) d_9_tellOne_378 mw_9_goesOn ml_9_224 im_9_goesOn se_9_goesOn rfl rfl (Nat.le_of_ble_eq_true rfl) fit_2_1_7 rfl rfl rfl (s9_goesOn hq74) ?_
                refine zr_aload_n (i := 0) d_9_tellOne_381 rfl rfl ?_
                refine zr_iload_n (i := 1) d_9_tellOne_382 rfl rfl ?_
                obtain ⟨qm75, hq76, h⟩ := z_bd h
                refine zr_callVv (av := [zI v61]) (st := []) d_9_tellOne_383 mw_9_tellLaw ml_9_280 im_9_tellLaw se_9_tellLaw rfl rfl (Nat.le_of_ble_eq_true rfl) fit_6_4_7 rfl rfl rfl (s9_tellLaw hq76) ?_
                obtain rfl := Option.some.inj h
                exact ze_v d_9_tellOne_386 rfl
            refine zr_if_lt (tgt := 364) d_9_tellOne_347 rfl (fun hc65 => ?_) (fun hc65 => ?_)
            · replace hT63 := z_ip hT63 hc65
              refine zr_aload_n (i := 0) d_9_tellOne_364 rfl rfl ?_
              refine zr_iconst (v := (1 : Int32)) d_9_tellOne_365 rfl ?_
              obtain ⟨qm66, hq67, hT63⟩ := z_bd hT63
              refine zr_callVv (av := [zI (1 : Int32)]) (st := []) d_9_tellOne_366 mw_9_fail ml_9_218 im_9_fail se_9_fail rfl rfl (Nat.le_of_ble_eq_true rfl) fit_1_2_7 rfl rfl rfl (s9_fail hq67) ?_
              obtain rfl := Option.some.inj hT63
              exact zr_wk2 hJ64 ⟨rfl, ⟨rfl, trivial⟩⟩
            · replace hT63 := z_im hT63 hc65
              refine zr_aload_n (i := 0) d_9_tellOne_350 rfl rfl ?_
              refine zr_gets (i' := 0) d_9_tellOne_351 fw_9_20 rfl ?_
              refine zr_aload_n (i := 0) d_9_tellOne_354 rfl rfl ?_
              refine zr_geti d_9_tellOne_355 fw_9_206 (by decide) ?_
              refine zr_iald d_9_tellOne_358 sa_105 rfl hb1 ?_
              refine zr_bipush (v := (27 : Int32)) d_9_tellOne_359 rfl ?_
              refine zr_icmp_le (tgt := 369) d_9_tellOne_361 rfl (fun hc68 => ?_) (fun hc68 => ?_)
              · replace hT63 := z_ip hT63 hc68
                refine zr_aload_n (i := 0) d_9_tellOne_364 rfl rfl ?_
                refine zr_iconst (v := (1 : Int32)) d_9_tellOne_365 rfl ?_
                obtain ⟨qm69, hq70, hT63⟩ := z_bd hT63
                refine zr_callVv (av := [zI (1 : Int32)]) (st := []) d_9_tellOne_366 mw_9_fail ml_9_218 im_9_fail se_9_fail rfl rfl (Nat.le_of_ble_eq_true rfl) fit_1_2_7 rfl rfl rfl (s9_fail hq70) ?_
                obtain rfl := Option.some.inj hT63
                exact zr_wk2 hJ64 ⟨rfl, ⟨rfl, trivial⟩⟩
              · replace hT63 := z_im hT63 hc68
                obtain rfl := Option.some.inj hT63
                exact zr_wk2 hJ64 ⟨rfl, ⟨rfl, trivial⟩⟩
          · replace h := z_im h hs60
            by_cases hs77 : (μ.1 105 0 (μ.1 9 0 11).toNatClampNeg) = (25 : Int32)
            · replace h := z_ip h hs77
              refine zr_tbl (off := 324) (tgt := 333) hs77 d_9_tellOne_9 (by decide) (by decide) rfl rfl ?_
              refine zr_aload_n (i := 0) d_9_tellOne_333 rfl rfl ?_
              refine zr_gets (i' := 0) d_9_tellOne_334 fw_9_20 rfl ?_
              refine zr_aload_n (i := 0) d_9_tellOne_337 rfl rfl ?_
              refine zr_geti d_9_tellOne_338 fw_9_206 (by decide) ?_
              refine zr_iald d_9_tellOne_341 sa_105 rfl hb1 ?_
              refine zr_bipush (v := (24 : Int32)) d_9_tellOne_342 rfl ?_
              refine zr_isub d_9_tellOne_344 ?_
              obtain ⟨v78, hv79, h⟩ := z_lt h
              refine zr_nm hv79 ?_
              refine zr_istore_n (i := 1) (l' := [some (zA 9 0), some (zI v78)]) d_9_tellOne_345 rfl (by decide) rfl ?_
              refine zr_iload_n (i := 1) d_9_tellOne_346 rfl rfl ?_
              obtain ⟨jm88, hT80, h⟩ := z_bd h
              have hJ81 : z_RQ P M_9_tellOne (z_rm 7) (z_mq P none μ') 0 0 369 [some (zA 9 0), some (zI v78)] [] jm88 := by
                refine zr_aload_n (i := 0) d_9_tellOne_369 rfl rfl ?_
                refine zr_geti d_9_tellOne_370 fw_9_203 (by decide) ?_
                refine zr_if_le (tgt := 377) d_9_tellOne_373 rfl (fun hc89 => ?_) (fun hc89 => ?_)
                · replace h := z_ip h hc89
                  obtain rfl := Option.some.inj h
                  exact ze_v d_9_tellOne_376 rfl
                · replace h := z_im h hc89
                  refine zr_aload_n (i := 0) d_9_tellOne_377 rfl rfl ?_
                  obtain ⟨qm90, hq91, h⟩ := z_bd h
                  refine zr_callVv (av := []) (st := []) d_9_tellOne_378 mw_9_goesOn ml_9_224 im_9_goesOn se_9_goesOn rfl rfl (Nat.le_of_ble_eq_true rfl) fit_2_1_7 rfl rfl rfl (s9_goesOn hq91) ?_
                  refine zr_aload_n (i := 0) d_9_tellOne_381 rfl rfl ?_
                  refine zr_iload_n (i := 1) d_9_tellOne_382 rfl rfl ?_
                  obtain ⟨qm92, hq93, h⟩ := z_bd h
                  refine zr_callVv (av := [zI v78]) (st := []) d_9_tellOne_383 mw_9_tellLaw ml_9_280 im_9_tellLaw se_9_tellLaw rfl rfl (Nat.le_of_ble_eq_true rfl) fit_6_4_7 rfl rfl rfl (s9_tellLaw hq93) ?_
                  obtain rfl := Option.some.inj h
                  exact ze_v d_9_tellOne_386 rfl
              refine zr_if_lt (tgt := 364) d_9_tellOne_347 rfl (fun hc82 => ?_) (fun hc82 => ?_)
              · replace hT80 := z_ip hT80 hc82
                refine zr_aload_n (i := 0) d_9_tellOne_364 rfl rfl ?_
                refine zr_iconst (v := (1 : Int32)) d_9_tellOne_365 rfl ?_
                obtain ⟨qm83, hq84, hT80⟩ := z_bd hT80
                refine zr_callVv (av := [zI (1 : Int32)]) (st := []) d_9_tellOne_366 mw_9_fail ml_9_218 im_9_fail se_9_fail rfl rfl (Nat.le_of_ble_eq_true rfl) fit_1_2_7 rfl rfl rfl (s9_fail hq84) ?_
                obtain rfl := Option.some.inj hT80
                exact zr_wk2 hJ81 ⟨rfl, ⟨rfl, trivial⟩⟩
              · replace hT80 := z_im hT80 hc82
                refine zr_aload_n (i := 0) d_9_tellOne_350 rfl rfl ?_
                refine zr_gets (i' := 0) d_9_tellOne_351 fw_9_20 rfl ?_
                refine zr_aload_n (i := 0) d_9_tellOne_354 rfl rfl ?_
                refine zr_geti d_9_tellOne_355 fw_9_206 (by decide) ?_
                refine zr_iald d_9_tellOne_358 sa_105 rfl hb1 ?_
                refine zr_bipush (v := (27 : Int32)) d_9_tellOne_359 rfl ?_
                refine zr_icmp_le (tgt := 369) d_9_tellOne_361 rfl (fun hc85 => ?_) (fun hc85 => ?_)
                · replace hT80 := z_ip hT80 hc85
                  refine zr_aload_n (i := 0) d_9_tellOne_364 rfl rfl ?_
                  refine zr_iconst (v := (1 : Int32)) d_9_tellOne_365 rfl ?_
                  obtain ⟨qm86, hq87, hT80⟩ := z_bd hT80
                  refine zr_callVv (av := [zI (1 : Int32)]) (st := []) d_9_tellOne_366 mw_9_fail ml_9_218 im_9_fail se_9_fail rfl rfl (Nat.le_of_ble_eq_true rfl) fit_1_2_7 rfl rfl rfl (s9_fail hq87) ?_
                  obtain rfl := Option.some.inj hT80
                  exact zr_wk2 hJ81 ⟨rfl, ⟨rfl, trivial⟩⟩
                · replace hT80 := z_im hT80 hc85
                  obtain rfl := Option.some.inj hT80
                  exact zr_wk2 hJ81 ⟨rfl, ⟨rfl, trivial⟩⟩
            · replace h := z_im h hs77
              by_cases hs94 : (μ.1 105 0 (μ.1 9 0 11).toNatClampNeg) = (26 : Int32)
              · replace h := z_ip h hs94
                refine zr_tbl (off := 324) (tgt := 333) hs94 d_9_tellOne_9 (by decide) (by decide) rfl rfl ?_
                refine zr_aload_n (i := 0) d_9_tellOne_333 rfl rfl ?_
                refine zr_gets (i' := 0) d_9_tellOne_334 fw_9_20 rfl ?_
                refine zr_aload_n (i := 0) d_9_tellOne_337 rfl rfl ?_
                refine zr_geti d_9_tellOne_338 fw_9_206 (by decide) ?_
                refine zr_iald d_9_tellOne_341 sa_105 rfl hb1 ?_
                refine zr_bipush (v := (24 : Int32)) d_9_tellOne_342 rfl ?_
                refine zr_isub d_9_tellOne_344 ?_
                obtain ⟨v95, hv96, h⟩ := z_lt h
                refine zr_nm hv96 ?_
                refine zr_istore_n (i := 1) (l' := [some (zA 9 0), some (zI v95)]) d_9_tellOne_345 rfl (by decide) rfl ?_
                refine zr_iload_n (i := 1) d_9_tellOne_346 rfl rfl ?_
                obtain ⟨jm105, hT97, h⟩ := z_bd h
                have hJ98 : z_RQ P M_9_tellOne (z_rm 7) (z_mq P none μ') 0 0 369 [some (zA 9 0), some (zI v95)] [] jm105 := by
                  refine zr_aload_n (i := 0) d_9_tellOne_369 rfl rfl ?_
                  refine zr_geti d_9_tellOne_370 fw_9_203 (by decide) ?_
                  refine zr_if_le (tgt := 377) d_9_tellOne_373 rfl (fun hc106 => ?_) (fun hc106 => ?_)
                  · replace h := z_ip h hc106
                    obtain rfl := Option.some.inj h
                    exact ze_v d_9_tellOne_376 rfl
                  · replace h := z_im h hc106
                    refine zr_aload_n (i := 0) d_9_tellOne_377 rfl rfl ?_
                    obtain ⟨qm107, hq108, h⟩ := z_bd h
                    refine zr_callVv (av := []) (st := []) d_9_tellOne_378 mw_9_goesOn ml_9_224 im_9_goesOn se_9_goesOn rfl rfl (Nat.le_of_ble_eq_true rfl) fit_2_1_7 rfl rfl rfl (s9_goesOn hq108) ?_
                    refine zr_aload_n (i := 0) d_9_tellOne_381 rfl rfl ?_
                    refine zr_iload_n (i := 1) d_9_tellOne_382 rfl rfl ?_
                    obtain ⟨qm109, hq110, h⟩ := z_bd h
                    refine zr_callVv (av := [zI v95]) (st := []) d_9_tellOne_383 mw_9_tellLaw ml_9_280 im_9_tellLaw se_9_tellLaw rfl rfl (Nat.le_of_ble_eq_true rfl) fit_6_4_7 rfl rfl rfl (s9_tellLaw hq110) ?_
                    obtain rfl := Option.some.inj h
                    exact ze_v d_9_tellOne_386 rfl
                refine zr_if_lt (tgt := 364) d_9_tellOne_347 rfl (fun hc99 => ?_) (fun hc99 => ?_)
                · replace hT97 := z_ip hT97 hc99
                  refine zr_aload_n (i := 0) d_9_tellOne_364 rfl rfl ?_
                  refine zr_iconst (v := (1 : Int32)) d_9_tellOne_365 rfl ?_
                  obtain ⟨qm100, hq101, hT97⟩ := z_bd hT97
                  refine zr_callVv (av := [zI (1 : Int32)]) (st := []) d_9_tellOne_366 mw_9_fail ml_9_218 im_9_fail se_9_fail rfl rfl (Nat.le_of_ble_eq_true rfl) fit_1_2_7 rfl rfl rfl (s9_fail hq101) ?_
                  obtain rfl := Option.some.inj hT97
                  exact zr_wk2 hJ98 ⟨rfl, ⟨rfl, trivial⟩⟩
                · replace hT97 := z_im hT97 hc99
                  refine zr_aload_n (i := 0) d_9_tellOne_350 rfl rfl ?_
                  refine zr_gets (i' := 0) d_9_tellOne_351 fw_9_20 rfl ?_
                  refine zr_aload_n (i := 0) d_9_tellOne_354 rfl rfl ?_
                  refine zr_geti d_9_tellOne_355 fw_9_206 (by decide) ?_
                  refine zr_iald d_9_tellOne_358 sa_105 rfl hb1 ?_
                  refine zr_bipush (v := (27 : Int32)) d_9_tellOne_359 rfl ?_
                  refine zr_icmp_le (tgt := 369) d_9_tellOne_361 rfl (fun hc102 => ?_) (fun hc102 => ?_)
                  · replace hT97 := z_ip hT97 hc102
                    refine zr_aload_n (i := 0) d_9_tellOne_364 rfl rfl ?_
                    refine zr_iconst (v := (1 : Int32)) d_9_tellOne_365 rfl ?_
                    obtain ⟨qm103, hq104, hT97⟩ := z_bd hT97
                    refine zr_callVv (av := [zI (1 : Int32)]) (st := []) d_9_tellOne_366 mw_9_fail ml_9_218 im_9_fail se_9_fail rfl rfl (Nat.le_of_ble_eq_true rfl) fit_1_2_7 rfl rfl rfl (s9_fail hq104) ?_
                    obtain rfl := Option.some.inj hT97
                    exact zr_wk2 hJ98 ⟨rfl, ⟨rfl, trivial⟩⟩
                  · replace hT97 := z_im hT97 hc102
                    obtain rfl := Option.some.inj hT97
                    exact zr_wk2 hJ98 ⟨rfl, ⟨rfl, trivial⟩⟩
              · replace h := z_im h hs94
                by_cases hs111 : (μ.1 105 0 (μ.1 9 0 11).toNatClampNeg) = (27 : Int32)
                · replace h := z_ip h hs111
                  refine zr_tbl (off := 324) (tgt := 333) hs111 d_9_tellOne_9 (by decide) (by decide) rfl rfl ?_
                  refine zr_aload_n (i := 0) d_9_tellOne_333 rfl rfl ?_
                  refine zr_gets (i' := 0) d_9_tellOne_334 fw_9_20 rfl ?_
                  refine zr_aload_n (i := 0) d_9_tellOne_337 rfl rfl ?_
                  refine zr_geti d_9_tellOne_338 fw_9_206 (by decide) ?_
                  refine zr_iald d_9_tellOne_341 sa_105 rfl hb1 ?_
                  refine zr_bipush (v := (24 : Int32)) d_9_tellOne_342 rfl ?_
                  refine zr_isub d_9_tellOne_344 ?_
                  obtain ⟨v112, hv113, h⟩ := z_lt h
                  refine zr_nm hv113 ?_
                  refine zr_istore_n (i := 1) (l' := [some (zA 9 0), some (zI v112)]) d_9_tellOne_345 rfl (by decide) rfl ?_
                  refine zr_iload_n (i := 1) d_9_tellOne_346 rfl rfl ?_
                  obtain ⟨jm122, hT114, h⟩ := z_bd h
                  have hJ115 : z_RQ P M_9_tellOne (z_rm 7) (z_mq P none μ') 0 0 369 [some (zA 9 0), some (zI v112)] [] jm122 := by
                    refine zr_aload_n (i := 0) d_9_tellOne_369 rfl rfl ?_
                    refine zr_geti d_9_tellOne_370 fw_9_203 (by decide) ?_
                    refine zr_if_le (tgt := 377) d_9_tellOne_373 rfl (fun hc123 => ?_) (fun hc123 => ?_)
                    · replace h := z_ip h hc123
                      obtain rfl := Option.some.inj h
                      exact ze_v d_9_tellOne_376 rfl
                    · replace h := z_im h hc123
                      refine zr_aload_n (i := 0) d_9_tellOne_377 rfl rfl ?_
                      obtain ⟨qm124, hq125, h⟩ := z_bd h
                      refine zr_callVv (av := []) (st := []) d_9_tellOne_378 mw_9_goesOn ml_9_224 im_9_goesOn se_9_goesOn rfl rfl (Nat.le_of_ble_eq_true rfl) fit_2_1_7 rfl rfl rfl (s9_goesOn hq125) ?_
                      refine zr_aload_n (i := 0) d_9_tellOne_381 rfl rfl ?_
                      refine zr_iload_n (i := 1) d_9_tellOne_382 rfl rfl ?_
                      obtain ⟨qm126, hq127, h⟩ := z_bd h
                      refine zr_callVv (av := [zI v112]) (st := []) d_9_tellOne_383 mw_9_tellLaw ml_9_280 im_9_tellLaw se_9_tellLaw rfl rfl (Nat.le_of_ble_eq_true rfl) fit_6_4_7 rfl rfl rfl (s9_tellLaw hq127) ?_
                      obtain rfl := Option.some.inj h
                      exact ze_v d_9_tellOne_386 rfl
                  refine zr_if_lt (tgt := 364) d_9_tellOne_347 rfl (fun hc116 => ?_) (fun hc116 => ?_)
                  · replace hT114 := z_ip hT114 hc116
                    refine zr_aload_n (i := 0) d_9_tellOne_364 rfl rfl ?_
                    refine zr_iconst (v := (1 : Int32)) d_9_tellOne_365 rfl ?_
                    obtain ⟨qm117, hq118, hT114⟩ := z_bd hT114
                    refine zr_callVv (av := [zI (1 : Int32)]) (st := []) d_9_tellOne_366 mw_9_fail ml_9_218 im_9_fail se_9_fail rfl rfl (Nat.le_of_ble_eq_true rfl) fit_1_2_7 rfl rfl rfl (s9_fail hq118) ?_
                    obtain rfl := Option.some.inj hT114
                    exact zr_wk2 hJ115 ⟨rfl, ⟨rfl, trivial⟩⟩
                  · replace hT114 := z_im hT114 hc116
                    refine zr_aload_n (i := 0) d_9_tellOne_350 rfl rfl ?_
                    refine zr_gets (i' := 0) d_9_tellOne_351 fw_9_20 rfl ?_
                    refine zr_aload_n (i := 0) d_9_tellOne_354 rfl rfl ?_
                    refine zr_geti d_9_tellOne_355 fw_9_206 (by decide) ?_
                    refine zr_iald d_9_tellOne_358 sa_105 rfl hb1 ?_
                    refine zr_bipush (v := (27 : Int32)) d_9_tellOne_359 rfl ?_
                    refine zr_icmp_le (tgt := 369) d_9_tellOne_361 rfl (fun hc119 => ?_) (fun hc119 => ?_)
                    · replace hT114 := z_ip hT114 hc119
                      refine zr_aload_n (i := 0) d_9_tellOne_364 rfl rfl ?_
                      refine zr_iconst (v := (1 : Int32)) d_9_tellOne_365 rfl ?_
                      obtain ⟨qm120, hq121, hT114⟩ := z_bd hT114
                      refine zr_callVv (av := [zI (1 : Int32)]) (st := []) d_9_tellOne_366 mw_9_fail ml_9_218 im_9_fail se_9_fail rfl rfl (Nat.le_of_ble_eq_true rfl) fit_1_2_7 rfl rfl rfl (s9_fail hq121) ?_
                      obtain rfl := Option.some.inj hT114
                      exact zr_wk2 hJ115 ⟨rfl, ⟨rfl, trivial⟩⟩
                    · replace hT114 := z_im hT114 hc119
                      obtain rfl := Option.some.inj hT114
                      exact zr_wk2 hJ115 ⟨rfl, ⟨rfl, trivial⟩⟩
                · replace h := z_im h hs111
                  by_cases hs128 : (μ.1 105 0 (μ.1 9 0 11).toNatClampNeg) = (28 : Int32)
                  · replace h := z_ip h hs128
                    refine zr_tbl (off := 296) (tgt := 305) hs128 d_9_tellOne_9 (by decide) (by decide) rfl rfl ?_
                    refine zr_aload_n (i := 0) d_9_tellOne_305 rfl rfl ?_
                    obtain ⟨qm129, hq130, h⟩ := z_bd h
                    refine zr_callVv (av := []) (st := []) d_9_tellOne_306 mw_9_goesOn ml_9_224 im_9_goesOn se_9_goesOn rfl rfl (Nat.le_of_ble_eq_true rfl) fit_2_1_7 rfl rfl rfl (s9_goesOn hq130) ?_
                    refine zr_aload_n (i := 0) d_9_tellOne_309 rfl rfl ?_
                    refine zr_gets (i' := 0) d_9_tellOne_310 fw_9_70 rfl ?_
                    refine zr_aload_n (i := 0) d_9_tellOne_313 rfl rfl ?_
                    refine zr_geti d_9_tellOne_314 fw_9_236 (by decide) ?_
                    refine zr_aload_n (i := 0) d_9_tellOne_317 rfl rfl ?_
                    refine zr_sipush (v := (9999 : Int32)) d_9_tellOne_318 rfl ?_
                    obtain ⟨⟨q131, qm132⟩, hq133, h⟩ := z_bd h
                    replace h := z_h2 h
                    refine zr_callVi (av := [zI (9999 : Int32)]) (st := [zI (qm129.1 9 0 19), zA 131 0]) d_9_tellOne_321 mw_9_bounded ml_9_265 im_9_bounded se_9_bounded rfl rfl (Nat.le_of_ble_eq_true rfl) fit_3_3_7 rfl rfl rfl (s9_bounded hq133) ?_
                    obtain ⟨hb136, h⟩ := z_gd h
                    obtain ⟨m134, hm135, h⟩ := z_lt h
                    refine zr_iast d_9_tellOne_324 sa_131 rfl hb136 hm135 ?_
                    refine zr_aload_n (i := 0) d_9_tellOne_325 rfl rfl ?_
                    refine zr_iconst (v := (4 : Int32)) d_9_tellOne_326 rfl ?_
                    obtain ⟨qm137, hq138, h⟩ := z_bd h
                    refine zr_callVv (av := [zI (4 : Int32)]) (st := []) d_9_tellOne_327 mw_9_must ml_9_277 im_9_must se_9_must rfl rfl (Nat.le_of_ble_eq_true rfl) fit_3_2_7 rfl rfl rfl (s9_must hq138) ?_
                    refine zr_goto (tgt := 386) d_9_tellOne_330 rfl ?_
                    obtain rfl := Option.some.inj h
                    exact ze_v d_9_tellOne_386 rfl
                  · replace h := z_im h hs128
                    have hs2t := z_ti hs2
                    have hs24t := z_ti hs24
                    have hs46t := z_ti hs46
                    have hs53t := z_ti hs53
                    have hs60t := z_ti hs60
                    have hs77t := z_ti hs77
                    have hs94t := z_ti hs94
                    have hs111t := z_ti hs111
                    have hs128t := z_ti hs128
                    simp only [show ((20 : Int32)).toInt = 20 from rfl, show ((21 : Int32)).toInt = 21 from rfl, show ((22 : Int32)).toInt = 22 from rfl, show ((23 : Int32)).toInt = 23 from rfl, show ((24 : Int32)).toInt = 24 from rfl, show ((25 : Int32)).toInt = 25 from rfl, show ((26 : Int32)).toInt = 26 from rfl, show ((27 : Int32)).toInt = 27 from rfl, show ((28 : Int32)).toInt = 28 from rfl] at hs2t hs24t hs46t hs53t hs60t hs77t hs94t hs111t hs128t
                    refine zr_tableOut (tgt := 333) d_9_tellOne_9 (by omega) rfl ?_
                    refine zr_aload_n (i := 0) d_9_tellOne_333 rfl rfl ?_
                    refine zr_gets (i' := 0) d_9_tellOne_334 fw_9_20 rfl ?_
                    refine zr_aload_n (i := 0) d_9_tellOne_337 rfl rfl ?_
                    refine zr_geti d_9_tellOne_338 fw_9_206 (by decide) ?_
                    refine zr_iald d_9_tellOne_341 sa_105 rfl hb1 ?_
                    refine zr_bipush (v := (24 : Int32)) d_9_tellOne_342 rfl ?_
                    refine zr_isub d_9_tellOne_344 ?_
                    obtain ⟨v139, hv140, h⟩ := z_lt h
                    refine zr_nm hv140 ?_
                    refine zr_istore_n (i := 1) (l' := [some (zA 9 0), some (zI v139)]) d_9_tellOne_345 rfl (by decide) rfl ?_
                    refine zr_iload_n (i := 1) d_9_tellOne_346 rfl rfl ?_
                    obtain ⟨jm149, hT141, h⟩ := z_bd h
                    have hJ142 : z_RQ P M_9_tellOne (z_rm 7) (z_mq P none μ') 0 0 369 [some (zA 9 0), some (zI v139)] [] jm149 := by
                      refine zr_aload_n (i := 0) d_9_tellOne_369 rfl rfl ?_
                      refine zr_geti d_9_tellOne_370 fw_9_203 (by decide) ?_
                      refine zr_if_le (tgt := 377) d_9_tellOne_373 rfl (fun hc150 => ?_) (fun hc150 => ?_)
                      · replace h := z_ip h hc150
                        obtain rfl := Option.some.inj h
                        exact ze_v d_9_tellOne_376 rfl
                      · replace h := z_im h hc150
                        refine zr_aload_n (i := 0) d_9_tellOne_377 rfl rfl ?_
                        obtain ⟨qm151, hq152, h⟩ := z_bd h
                        refine zr_callVv (av := []) (st := []) d_9_tellOne_378 mw_9_goesOn ml_9_224 im_9_goesOn se_9_goesOn rfl rfl (Nat.le_of_ble_eq_true rfl) fit_2_1_7 rfl rfl rfl (s9_goesOn hq152) ?_
                        refine zr_aload_n (i := 0) d_9_tellOne_381 rfl rfl ?_
                        refine zr_iload_n (i := 1) d_9_tellOne_382 rfl rfl ?_
                        obtain ⟨qm153, hq154, h⟩ := z_bd h
                        refine zr_callVv (av := [zI v139]) (st := []) d_9_tellOne_383 mw_9_tellLaw ml_9_280 im_9_tellLaw se_9_tellLaw rfl rfl (Nat.le_of_ble_eq_true rfl) fit_6_4_7 rfl rfl rfl (s9_tellLaw hq154) ?_
                        obtain rfl := Option.some.inj h
                        exact ze_v d_9_tellOne_386 rfl
                    refine zr_if_lt (tgt := 364) d_9_tellOne_347 rfl (fun hc143 => ?_) (fun hc143 => ?_)
                    · replace hT141 := z_ip hT141 hc143
                      refine zr_aload_n (i := 0) d_9_tellOne_364 rfl rfl ?_
                      refine zr_iconst (v := (1 : Int32)) d_9_tellOne_365 rfl ?_
                      obtain ⟨qm144, hq145, hT141⟩ := z_bd hT141
                      refine zr_callVv (av := [zI (1 : Int32)]) (st := []) d_9_tellOne_366 mw_9_fail ml_9_218 im_9_fail se_9_fail rfl rfl (Nat.le_of_ble_eq_true rfl) fit_1_2_7 rfl rfl rfl (s9_fail hq145) ?_
                      obtain rfl := Option.some.inj hT141
                      exact zr_wk2 hJ142 ⟨rfl, ⟨rfl, trivial⟩⟩
                    · replace hT141 := z_im hT141 hc143
                      refine zr_aload_n (i := 0) d_9_tellOne_350 rfl rfl ?_
                      refine zr_gets (i' := 0) d_9_tellOne_351 fw_9_20 rfl ?_
                      refine zr_aload_n (i := 0) d_9_tellOne_354 rfl rfl ?_
                      refine zr_geti d_9_tellOne_355 fw_9_206 (by decide) ?_
                      refine zr_iald d_9_tellOne_358 sa_105 rfl hb1 ?_
                      refine zr_bipush (v := (27 : Int32)) d_9_tellOne_359 rfl ?_
                      refine zr_icmp_le (tgt := 369) d_9_tellOne_361 rfl (fun hc146 => ?_) (fun hc146 => ?_)
                      · replace hT141 := z_ip hT141 hc146
                        refine zr_aload_n (i := 0) d_9_tellOne_364 rfl rfl ?_
                        refine zr_iconst (v := (1 : Int32)) d_9_tellOne_365 rfl ?_
                        obtain ⟨qm147, hq148, hT141⟩ := z_bd hT141
                        refine zr_callVv (av := [zI (1 : Int32)]) (st := []) d_9_tellOne_366 mw_9_fail ml_9_218 im_9_fail se_9_fail rfl rfl (Nat.le_of_ble_eq_true rfl) fit_1_2_7 rfl rfl rfl (s9_fail hq148) ?_
                        obtain rfl := Option.some.inj hT141
                        exact zr_wk2 hJ142 ⟨rfl, ⟨rfl, trivial⟩⟩
                      · replace hT141 := z_im hT141 hc146
                        obtain rfl := Option.some.inj hT141
                        exact zr_wk2 hJ142 ⟨rfl, ⟨rfl, trivial⟩⟩
def f9_read_L3  : (Int32 × zMem) → Option ((Int32 × zMem) ⊕ (zMem)) := (z_u2 fun x4 xm5 => 
  (if x4 < (xm5.1 9 0 4) then if z_in x4 2000 = true then z_let (z_sI xm5 103 0 x4.toNatClampNeg (xm5.1 101 0 x4.toNatClampNeg).toInt8.toInt32) fun m8 => some (.inl ((x4 + (1 : Int32)), m8)) else none else some (.inr xm5)))
def f9_read_L34  : (zMem) → Option ((zMem) ⊕ (zMem)) := (fun xm35 => 
  (if (xm35.1 9 0 13) = 0 then (f9_is (0 : Int32) xm35).bind (fun q37 => (if q37 = 0 then (f9_tellOne xm35).bind (fun qm40 => some (.inl qm40)) else some (.inr xm35))) else some (.inr xm35)))
def f9_read_L63  : (Int32 × zMem) → Option ((Int32 × zMem) ⊕ (zMem)) := (z_u2 fun x64 xm65 => 
  (if x64 < (3 : Int32) then if z_in x64 3 = true then z_let (z_sI xm65 164 0 x64.toNatClampNeg (vp_nar .boolean (0 : Int32))) fun m67 => some (.inl ((x64 + (1 : Int32)), m67)) else none else some (.inr xm65)))
def f9_read  (μ : zMem) : Option (Int32 × zMem) :=
  z_let (z_sI μ 9 0 4 (μ.1 9 0 2)) fun m1 => (z_it (f9_read_L3) z_fu ((0 : Int32), m1)).bind (fun e10 => z_let (z_sI e10 9 0 2 (0 : Int32)) fun m12 => (f9_cut m12).bind (fun qm14 => z_let (z_sI qm14 9 0 11 (0 : Int32)) fun m16 => z_let (z_sI m16 9 0 12 (0 : Int32)) fun m18 => z_let (z_sI m18 9 0 13 (0 : Int32)) fun m20 => z_let (z_sI m20 9 0 15 (0 : Int32)) fun m22 => z_let (z_sI m22 9 0 19 ((1 : Int32) - (m22.1 9 0 18))) fun m24 => z_let (z_sI m24 9 0 20 (0 : Int32)) fun m26 => (f9_plain (m26.1 9 0 19) m26).bind (fun qm28 => z_let (z_sI qm28 9 0 34 ((130 : Int32) * (qm28.1 9 0 19))) fun m30 => z_let (z_sI m30 9 0 40 ((420 : Int32) * (m30.1 9 0 19))) fun m32 => (z_it (f9_read_L34) z_fu m32).bind (fun e42 => ((if 0 < (e42.1 9 0 13) then some (e42.1 9 0 14) else (if 0 < (e42.1 9 0 15) then some (e42.1 9 0 16) else some (-1 : Int32))) : Option (Int32)).bind (fun j48 => z_let (z_sI e42 9 0 17 j48) fun m49 => (if 0 < (m49.1 9 0 13) then some ((m49.1 9 0 13), m49) else (if 0 < (m49.1 9 0 15) then some ((m49.1 9 0 15), m49) else z_let (z_sI m49 9 0 18 (m49.1 9 0 19)) fun m53 => (f9_begins m53).bind (fun qm55 => (f9_keepsRow qm55).bind (fun qm57 => z_let (z_sI qm57 9 0 55 (0 : Int32)) fun m59 => z_let (z_sI m59 9 0 58 (0 : Int32)) fun m61 => (z_it (f9_read_L63) z_fu ((0 : Int32), m61)).bind (fun e70 => some ((0 : Int32), e70)))))))))))
theorem s9_read_L3 {P : zP} {ro : Option zV} {μo : zMem}  (x4 : Int32) (xm5 : zMem) (K : (Int32 × zMem) ⊕ (zMem)) (h : f9_read_L3  (x4, xm5) = some K) (hI : ∀ (y0 : Int32) (y1 : zMem), K = .inl (y0, y1) → z_RQ P M_9_read (z_rm 8) (z_mq P ro μo) 0 0 10 [some (zA 9 0), some (zI y0)] [] y1) (hE : ∀ (z0 : zMem), K = .inr z0 → z_RQ P M_9_read (z_rm 8) (z_mq P ro μo) 0 0 36 [some (zA 9 0), none] [] z0)  : z_RQ P M_9_read (z_rm 8) (z_mq P ro μo) 0 0 10 [some (zA 9 0), some (zI x4)] [] xm5 := by
  unfold f9_read_L3 at h
  replace h := z_h2 h
  refine zr_iload_n (i := 1) d_9_read_10 rfl rfl ?_
  refine zr_aload_n (i := 0) d_9_read_11 rfl rfl ?_
  refine zr_geti d_9_read_12 fw_9_172 (by decide) ?_
  refine zr_icmp_ge (tgt := 36) d_9_read_15 rfl (fun hc6 => ?_) (fun hc6 => ?_)
  · replace h := z_ip h hc6
    refine zr_aload_n (i := 0) d_9_read_18 rfl rfl ?_
    refine zr_gets (i' := 0) d_9_read_19 fw_9_17 rfl ?_
    refine zr_iload_n (i := 1) d_9_read_22 rfl rfl ?_
    refine zr_aload_n (i := 0) d_9_read_23 rfl rfl ?_
    refine zr_gets (i' := 0) d_9_read_24 fw_9_13 rfl ?_
    refine zr_iload_n (i := 1) d_9_read_27 rfl rfl ?_
    obtain ⟨hb7, h⟩ := z_gd h
    refine zr_bald d_9_read_28 sa_101 rfl hb7 ?_
    obtain ⟨m8, hm9, h⟩ := z_lt h
    refine zr_bast d_9_read_29 sa_103 rfl hb7 hm9 ?_
    refine zr_iinc (v := (x4 + (1 : Int32))) (l' := [some (zA 9 0), some (zI (x4 + (1 : Int32)))]) d_9_read_30 (by decide) rfl rfl rfl ?_
    refine zr_goto (tgt := 10) d_9_read_33 rfl ?_
    obtain rfl := Option.some.inj h
    exact zr_wk2 (hI (x4 + (1 : Int32)) m8 rfl) ⟨rfl, ⟨rfl, trivial⟩⟩
  · replace h := z_im h hc6
    obtain rfl := Option.some.inj h
    exact zr_wk2 (hE xm5 rfl) ⟨rfl, trivial⟩
theorem s9_read_L34 {P : zP} {ro : Option zV} {μo : zMem}  (xm35 : zMem) (K : (zMem) ⊕ (zMem)) (h : f9_read_L34  xm35 = some K) (hI : ∀ (y0 : zMem), K = .inl y0 → z_RQ P M_9_read (z_rm 8) (z_mq P ro μo) 0 0 112 [some (zA 9 0), none] [] y0) (hE : ∀ (z0 : zMem), K = .inr z0 → z_RQ P M_9_read (z_rm 8) (z_mq P ro μo) 0 0 134 [some (zA 9 0), none] [] z0)  : z_RQ P M_9_read (z_rm 8) (z_mq P ro μo) 0 0 112 [some (zA 9 0), none] [] xm35 := by
  unfold f9_read_L34 at h
  refine zr_aload_n (i := 0) d_9_read_112 rfl rfl ?_
  refine zr_geti d_9_read_113 fw_9_203 (by decide) ?_
  refine zr_if_ne (tgt := 134) d_9_read_116 rfl (fun hc36 => ?_) (fun hc36 => ?_)
  · replace h := z_ip h hc36
    refine zr_aload_n (i := 0) d_9_read_119 rfl rfl ?_
    refine zr_iconst (v := (0 : Int32)) d_9_read_120 rfl ?_
    obtain ⟨q37, hq38, h⟩ := z_bd h
    refine zr_callVi (av := [zI (0 : Int32)]) (st := []) d_9_read_121 mw_9_is ml_9_221 im_9_is se_9_is rfl rfl (Nat.le_of_ble_eq_true rfl) fit_1_2_8 rfl rfl rfl (s9_is hq38) ?_
    refine zr_if_ne (tgt := 134) d_9_read_124 rfl (fun hc39 => ?_) (fun hc39 => ?_)
    · replace h := z_ip h hc39
      refine zr_aload_n (i := 0) d_9_read_127 rfl rfl ?_
      obtain ⟨qm40, hq41, h⟩ := z_bd h
      refine zr_callVv (av := []) (st := []) d_9_read_128 mw_9_tellOne ml_9_248 im_9_tellOne se_9_tellOne rfl rfl (Nat.le_of_ble_eq_true rfl) fit_7_2_8 rfl rfl rfl (s9_tellOne hq41) ?_
      refine zr_goto (tgt := 112) d_9_read_131 rfl ?_
      obtain rfl := Option.some.inj h
      exact zr_wk2 (hI qm40 rfl) ⟨rfl, trivial⟩
    · replace h := z_im h hc39
      obtain rfl := Option.some.inj h
      exact zr_wk2 (hE xm35 rfl) ⟨rfl, trivial⟩
  · replace h := z_im h hc36
    obtain rfl := Option.some.inj h
    exact zr_wk2 (hE xm35 rfl) ⟨rfl, trivial⟩
theorem s9_read_L63 {P : zP} {ro : Option zV} {μo : zMem}  (x64 : Int32) (xm65 : zMem) (K : (Int32 × zMem) ⊕ (zMem)) (h : f9_read_L63  (x64, xm65) = some K) (hI : ∀ (y0 : Int32) (y1 : zMem), K = .inl (y0, y1) → z_RQ P M_9_read (z_rm 8) (z_mq P ro μo) 0 0 219 [some (zA 9 0), some (zI y0)] [] y1) (hE : ∀ (z0 : zMem), K = .inr z0 → z_RQ P M_9_read (z_rm 8) (z_mq P ro μo) 0 0 237 [none, none] [] z0)  : z_RQ P M_9_read (z_rm 8) (z_mq P ro μo) 0 0 219 [some (zA 9 0), some (zI x64)] [] xm65 := by
  unfold f9_read_L63 at h
  replace h := z_h2 h
  refine zr_iload_n (i := 1) d_9_read_219 rfl rfl ?_
  refine zr_iconst (v := (3 : Int32)) d_9_read_220 rfl ?_
  refine zr_icmp_ge (tgt := 237) d_9_read_221 rfl (fun hc66 => ?_) (fun hc66 => ?_)
  · replace h := z_ip h hc66
    refine zr_aload_n (i := 0) d_9_read_224 rfl rfl ?_
    refine zr_gets (i' := 0) d_9_read_225 fw_9_146 rfl ?_
    refine zr_iload_n (i := 1) d_9_read_228 rfl rfl ?_
    refine zr_iconst (v := (0 : Int32)) d_9_read_229 rfl ?_
    obtain ⟨hb69, h⟩ := z_gd h
    obtain ⟨m67, hm68, h⟩ := z_lt h
    refine zr_zast d_9_read_230 sa_164 rfl hb69 hm68 ?_
    refine zr_iinc (v := (x64 + (1 : Int32))) (l' := [some (zA 9 0), some (zI (x64 + (1 : Int32)))]) d_9_read_231 (by decide) rfl rfl rfl ?_
    refine zr_goto (tgt := 219) d_9_read_234 rfl ?_
    obtain rfl := Option.some.inj h
    exact zr_wk2 (hI (x64 + (1 : Int32)) m67 rfl) ⟨rfl, ⟨rfl, trivial⟩⟩
  · replace h := z_im h hc66
    obtain rfl := Option.some.inj h
    exact zr_wk2 (hE xm65 rfl) trivial
theorem s9_read {P : zP} {μ : zMem} {r : Int32} {μ' : zMem} (h : f9_read μ = some (r, μ')) : z_Sp P y_9_read M_9_read 8 [zA 9 0] μ (some (zI r)) μ' := by
  refine z_Sp.of (plainFor_of_name (by decide)) rfl (l0 := [some (zA 9 0), none]) rfl (Nat.le_of_ble_eq_true rfl) ?_
  unfold f9_read at h
  refine zr_aload_n (i := 0) d_9_read_0 rfl rfl ?_
  refine zr_aload_n (i := 0) d_9_read_1 rfl rfl ?_
  refine zr_geti d_9_read_2 fw_9_166 (by decide) ?_
  obtain ⟨m1, hm2, h⟩ := z_lt h
  refine zr_puti d_9_read_5 fw_9_172 pw_9_4 hm2 ?_
  refine zr_iconst (v := (0 : Int32)) d_9_read_8 rfl ?_
  refine zr_istore_n (i := 1) (l' := [some (zA 9 0), some (zI (0 : Int32))]) d_9_read_9 rfl (by decide) rfl ?_
  obtain ⟨e10, hl11, h⟩ := z_bd h
  refine zr_wk (l' := [some (zA 9 0), some (zI (0 : Int32))]) ⟨rfl, ⟨rfl, trivial⟩⟩ ?_
  refine z_loop (Hd := (z_u2 fun y0 y1 => z_RQ P M_9_read (z_rm 8) (z_mq P (some (zI r)) μ') 0 0 10 [some (zA 9 0), some (zI y0)] [] y1)) (Ex := (fun z0 => z_RQ P M_9_read (z_rm 8) (z_mq P (some (zI r)) μ') 0 0 36 [some (zA 9 0), none] [] z0)) (fun ⟨x4, xm5⟩ K h hI hE => s9_read_L3  x4 xm5 K h (fun y0 y1 e => hI (y0, y1) e) (fun z0 e => hE z0 e) ) _ _ _ hl11 ?_
  refine zr_aload_n (i := 0) d_9_read_36 rfl rfl ?_
  refine zr_iconst (v := (0 : Int32)) d_9_read_37 rfl ?_
  obtain ⟨m12, hm13, h⟩ := z_lt h
  refine zr_puti d_9_read_38 fw_9_166 pw_9_2 hm13 ?_
  refine zr_aload_n (i := 0) d_9_read_41 rfl rfl ?_
  obtain ⟨qm14, hq15, h⟩ := z_bd h
  refine zr_callVv (av := []) (st := []) d_9_read_42 mw_9_cut ml_9_227 im_9_cut se_9_cut rfl rfl (Nat.le_of_ble_eq_true rfl) fit_3_8_8 rfl rfl rfl (s9_cut hq15) ?_
  refine zr_aload_n (i := 0) d_9_read_45 rfl rfl ?_
  refine zr_iconst (v := (0 : Int32)) d_9_read_46 rfl ?_
  obtain ⟨m16, hm17, h⟩ := z_lt h
  refine zr_puti d_9_read_47 fw_9_206 pw_9_11 hm17 ?_
  refine zr_aload_n (i := 0) d_9_read_50 rfl rfl ?_
  refine zr_iconst (v := (0 : Int32)) d_9_read_51 rfl ?_
  obtain ⟨m18, hm19, h⟩ := z_lt h
  refine zr_puti d_9_read_52 fw_9_230 pw_9_12 hm19 ?_
  refine zr_aload_n (i := 0) d_9_read_55 rfl rfl ?_
  refine zr_iconst (v := (0 : Int32)) d_9_read_56 rfl ?_
  obtain ⟨m20, hm21, h⟩ := z_lt h
  refine zr_puti d_9_read_57 fw_9_203 pw_9_13 hm21 ?_
  refine zr_aload_n (i := 0) d_9_read_60 rfl rfl ?_
  refine zr_iconst (v := (0 : Int32)) d_9_read_61 rfl ?_
  obtain ⟨m22, hm23, h⟩ := z_lt h
  refine zr_puti d_9_read_62 fw_9_212 pw_9_15 hm23 ?_
  refine zr_aload_n (i := 0) d_9_read_65 rfl rfl ?_
  refine zr_iconst (v := (1 : Int32)) d_9_read_66 rfl ?_
  refine zr_aload_n (i := 0) d_9_read_67 rfl rfl ?_
  refine zr_geti d_9_read_68 fw_9_233 (by decide) ?_
  refine zr_isub d_9_read_71 ?_
  obtain ⟨m24, hm25, h⟩ := z_lt h
  refine zr_puti d_9_read_72 fw_9_236 pw_9_19 hm25 ?_
  refine zr_aload_n (i := 0) d_9_read_75 rfl rfl ?_
  refine zr_iconst (v := (0 : Int32)) d_9_read_76 rfl ?_
  obtain ⟨m26, hm27, h⟩ := z_lt h
  refine zr_puti d_9_read_77 fw_9_239 pw_9_20 hm27 ?_
  refine zr_aload_n (i := 0) d_9_read_80 rfl rfl ?_
  refine zr_aload_n (i := 0) d_9_read_81 rfl rfl ?_
  refine zr_geti d_9_read_82 fw_9_236 (by decide) ?_
  obtain ⟨qm28, hq29, h⟩ := z_bd h
  refine zr_callVv (av := [zI (m26.1 9 0 19)]) (st := []) d_9_read_85 mw_9_plain ml_9_152 im_9_plain se_9_plain rfl rfl (Nat.le_of_ble_eq_true rfl) fit_1_3_8 rfl rfl rfl (s9_plain hq29) ?_
  refine zr_aload_n (i := 0) d_9_read_88 rfl rfl ?_
  refine zr_sipush (v := (130 : Int32)) d_9_read_89 rfl ?_
  refine zr_aload_n (i := 0) d_9_read_92 rfl rfl ?_
  refine zr_geti d_9_read_93 fw_9_236 (by decide) ?_
  refine zr_imul d_9_read_96 ?_
  obtain ⟨m30, hm31, h⟩ := z_lt h
  refine zr_puti d_9_read_97 fw_9_242 pw_9_34 hm31 ?_
  refine zr_aload_n (i := 0) d_9_read_100 rfl rfl ?_
  refine zr_sipush (v := (420 : Int32)) d_9_read_101 rfl ?_
  refine zr_aload_n (i := 0) d_9_read_104 rfl rfl ?_
  refine zr_geti d_9_read_105 fw_9_236 (by decide) ?_
  refine zr_imul d_9_read_108 ?_
  obtain ⟨m32, hm33, h⟩ := z_lt h
  refine zr_puti d_9_read_109 fw_9_245 pw_9_40 hm33 ?_
  obtain ⟨e42, hl43, h⟩ := z_bd h
  refine zr_wk (l' := [some (zA 9 0), none]) ⟨rfl, trivial⟩ ?_
  refine z_loop (Hd := (fun y0 => z_RQ P M_9_read (z_rm 8) (z_mq P (some (zI r)) μ') 0 0 112 [some (zA 9 0), none] [] y0)) (Ex := (fun z0 => z_RQ P M_9_read (z_rm 8) (z_mq P (some (zI r)) μ') 0 0 134 [some (zA 9 0), none] [] z0)) (fun xm35 K h hI hE => s9_read_L34  xm35 K h (fun y0 e => hI y0 e) (fun z0 e => hE z0 e) ) _ _ _ hl43 ?_
  refine zr_aload_n (i := 0) d_9_read_134 rfl rfl ?_
  refine zr_aload_n (i := 0) d_9_read_135 rfl rfl ?_
  refine zr_geti d_9_read_136 fw_9_203 (by decide) ?_
  obtain ⟨j48, hT44, h⟩ := z_bd h
  have hJ45 : z_RQ P M_9_read (z_rm 8) (z_mq P (some (zI r)) μ') 0 0 164 [some (zA 9 0), none] [zI j48, zA 9 0] e42 := by
    obtain ⟨m49, hm50, h⟩ := z_lt h
    refine zr_puti d_9_read_164 fw_9_37 pw_9_17 hm50 ?_
    refine zr_aload_n (i := 0) d_9_read_167 rfl rfl ?_
    refine zr_geti d_9_read_168 fw_9_203 (by decide) ?_
    refine zr_if_le (tgt := 179) d_9_read_171 rfl (fun hc51 => ?_) (fun hc51 => ?_)
    · replace h := z_ip h hc51
      refine zr_aload_n (i := 0) d_9_read_174 rfl rfl ?_
      refine zr_geti d_9_read_175 fw_9_203 (by decide) ?_
      obtain ⟨rfl, rfl⟩ := Prod.mk.inj (Option.some.inj h)
      exact ze_i d_9_read_178 rfl
    · replace h := z_im h hc51
      refine zr_aload_n (i := 0) d_9_read_179 rfl rfl ?_
      refine zr_geti d_9_read_180 fw_9_212 (by decide) ?_
      refine zr_if_le (tgt := 191) d_9_read_183 rfl (fun hc52 => ?_) (fun hc52 => ?_)
      · replace h := z_ip h hc52
        refine zr_aload_n (i := 0) d_9_read_186 rfl rfl ?_
        refine zr_geti d_9_read_187 fw_9_212 (by decide) ?_
        obtain ⟨rfl, rfl⟩ := Prod.mk.inj (Option.some.inj h)
        exact ze_i d_9_read_190 rfl
      · replace h := z_im h hc52
        refine zr_aload_n (i := 0) d_9_read_191 rfl rfl ?_
        refine zr_aload_n (i := 0) d_9_read_192 rfl rfl ?_
        refine zr_geti d_9_read_193 fw_9_236 (by decide) ?_
        obtain ⟨m53, hm54, h⟩ := z_lt h
        refine zr_puti d_9_read_196 fw_9_233 pw_9_18 hm54 ?_
        refine zr_aload_n (i := 0) d_9_read_199 rfl rfl ?_
        obtain ⟨qm55, hq56, h⟩ := z_bd h
        refine zr_callVv (av := []) (st := []) d_9_read_200 mw_9_begins ml_9_160 im_9_begins se_9_begins rfl rfl (Nat.le_of_ble_eq_true rfl) fit_1_3_8 rfl rfl rfl (s9_begins hq56) ?_
        refine zr_aload_n (i := 0) d_9_read_203 rfl rfl ?_
        obtain ⟨qm57, hq58, h⟩ := z_bd h
        refine zr_callVv (av := []) (st := []) d_9_read_204 mw_9_keepsRow ml_9_163 im_9_keepsRow se_9_keepsRow rfl rfl (Nat.le_of_ble_eq_true rfl) fit_1_2_8 rfl rfl rfl (s9_keepsRow hq58) ?_
        refine zr_aload_n (i := 0) d_9_read_207 rfl rfl ?_
        refine zr_iconst (v := (0 : Int32)) d_9_read_208 rfl ?_
        obtain ⟨m59, hm60, h⟩ := z_lt h
        refine zr_puti d_9_read_209 fw_9_251 pw_9_55 hm60 ?_
        refine zr_aload_n (i := 0) d_9_read_212 rfl rfl ?_
        refine zr_iconst (v := (0 : Int32)) d_9_read_213 rfl ?_
        obtain ⟨m61, hm62, h⟩ := z_lt h
        refine zr_puti d_9_read_214 fw_9_254 pw_9_58 hm62 ?_
        refine zr_iconst (v := (0 : Int32)) d_9_read_217 rfl ?_
        refine zr_istore_n (i := 1) (l' := [some (zA 9 0), some (zI (0 : Int32))]) d_9_read_218 rfl (by decide) rfl ?_
        obtain ⟨e70, hl71, h⟩ := z_bd h
        refine zr_wk (l' := [some (zA 9 0), some (zI (0 : Int32))]) ⟨rfl, ⟨rfl, trivial⟩⟩ ?_
        refine z_loop (Hd := (z_u2 fun y0 y1 => z_RQ P M_9_read (z_rm 8) (z_mq P (some (zI r)) μ') 0 0 219 [some (zA 9 0), some (zI y0)] [] y1)) (Ex := (fun z0 => z_RQ P M_9_read (z_rm 8) (z_mq P (some (zI r)) μ') 0 0 237 [none, none] [] z0)) (fun ⟨x64, xm65⟩ K h hI hE => s9_read_L63  x64 xm65 K h (fun y0 y1 e => hI (y0, y1) e) (fun z0 e => hE z0 e) ) _ _ _ hl71 ?_
        refine zr_iconst (v := (0 : Int32)) d_9_read_237 rfl ?_
        obtain ⟨rfl, rfl⟩ := Prod.mk.inj (Option.some.inj h)
        exact ze_i d_9_read_238 rfl
  refine zr_if_le (tgt := 149) d_9_read_139 rfl (fun hc46 => ?_) (fun hc46 => ?_)
  · replace hT44 := z_ip hT44 hc46
    refine zr_aload_n (i := 0) d_9_read_142 rfl rfl ?_
    refine zr_geti d_9_read_143 fw_9_209 (by decide) ?_
    refine zr_goto (tgt := 164) d_9_read_146 rfl ?_
    obtain rfl := Option.some.inj hT44
    exact zr_wk2 hJ45 ⟨rfl, trivial⟩
  · replace hT44 := z_im hT44 hc46
    refine zr_aload_n (i := 0) d_9_read_149 rfl rfl ?_
    refine zr_geti d_9_read_150 fw_9_212 (by decide) ?_
    refine zr_if_le (tgt := 163) d_9_read_153 rfl (fun hc47 => ?_) (fun hc47 => ?_)
    · replace hT44 := z_ip hT44 hc47
      refine zr_aload_n (i := 0) d_9_read_156 rfl rfl ?_
      refine zr_geti d_9_read_157 fw_9_215 (by decide) ?_
      refine zr_goto (tgt := 164) d_9_read_160 rfl ?_
      obtain rfl := Option.some.inj hT44
      exact zr_wk2 hJ45 ⟨rfl, trivial⟩
    · replace hT44 := z_im hT44 hc47
      refine zr_iconst (v := (-1 : Int32)) d_9_read_163 rfl ?_
      obtain rfl := Option.some.inj hT44
      exact zr_wk2 hJ45 ⟨rfl, trivial⟩
def f9_place  (μ : zMem) : Int32 :=
  (μ.1 9 0 17)
theorem s9_place {P : zP} {μ : zMem} {r : Int32} (h : f9_place μ = r) : z_Sp P y_9_place M_9_place 1 [zA 9 0] μ (some (zI r)) μ := by
  refine z_Sp.of (plainFor_of_name (by decide)) rfl (l0 := [some (zA 9 0)]) rfl (Nat.le_of_ble_eq_true rfl) ?_
  unfold f9_place at h
  refine zr_aload_n (i := 0) d_9_place_0 rfl rfl ?_
  refine zr_geti d_9_place_1 fw_9_37 (by decide) ?_
  obtain rfl := h
  exact ze_i d_9_place_4 rfl
def f9_termOf_L1 (a2 : Int32) : (Int32 × Int32 × zMem) → Option ((Int32 × Int32 × zMem) ⊕ ((zMem) ⊕ (Int32 × zMem))) := (z_u3 fun x2 x3 xm4 => 
  (if x3 < a2 then if z_in x3 840 = true then z_let (xm4.1 141 0 x3.toNatClampNeg) fun v7 => (if v7 < (2 : Int32) then ((if v7 = 0 then some (xm4.1 142 0 x3.toNatClampNeg) else if z_in (xm4.1 142 0 x3.toNatClampNeg) 9 = true then some (xm4.1 145 0 (xm4.1 142 0 x3.toNatClampNeg).toNatClampNeg) else none) : Option (Int32)).bind (fun j14 => if z_in x2 400 = true then z_let (z_sI xm4 146 0 x2.toNatClampNeg j14) fun m15 => some (.inl ((x2 + (1 : Int32)), (x3 + (1 : Int32)), m15)) else none) else if z_in ((x2 + (-1 : Int32)) - (1 : Int32)) 400 = true then z_let (xm4.1 146 0 ((x2 + (-1 : Int32)) - (1 : Int32)).toNatClampNeg) fun v19 => if z_in (x2 + (-1 : Int32)) 400 = true then z_let (xm4.1 146 0 (x2 + (-1 : Int32)).toNatClampNeg) fun v22 => (if v7 = (5 : Int32) then (if v22 = 0 then z_let (z_sI xm4 9 0 47 (1 : Int32)) fun m26 => some (.inr (.inr ((0 : Int32), m26))) else ((if v7 = (2 : Int32) then some (v19 + v22) else (if v7 = (3 : Int32) then some (v19 - v22) else (if v7 = (4 : Int32) then some (v19 * v22) else if v22 = 0 then none else some (v19 / v22)))) : Option (Int32)).bind (fun j34 => z_let (z_sI xm4 146 0 ((x2 + (-1 : Int32)) - (1 : Int32)).toNatClampNeg j34) fun m35 => some (.inl ((x2 + (-1 : Int32)), (x3 + (1 : Int32)), m35)))) else ((if v7 = (2 : Int32) then some (v19 + v22) else (if v7 = (3 : Int32) then some (v19 - v22) else (if v7 = (4 : Int32) then some (v19 * v22) else if v22 = 0 then none else some (v19 / v22)))) : Option (Int32)).bind (fun j43 => z_let (z_sI xm4 146 0 ((x2 + (-1 : Int32)) - (1 : Int32)).toNatClampNeg j43) fun m44 => some (.inl ((x2 + (-1 : Int32)), (x3 + (1 : Int32)), m44)))) else none else none) else none else some (.inr (.inl xm4))))
def f9_termOf (a1 : Int32) (a2 : Int32) (μ : zMem) : Option (Int32 × zMem) :=
  (z_it (f9_termOf_L1 a2) z_fu ((0 : Int32), a1, μ)).bind (Sum.elim (fun e46 => some ((e46.1 146 0 (0 : Int32).toNatClampNeg), e46)) (z_u2 fun qr48 qr49 => some (qr48, qr49)))
theorem s9_termOf_L1 {P : zP} {ro : Option zV} {μo : zMem} (a2 : Int32) (x2 : Int32) (x3 : Int32) (xm4 : zMem) (K : (Int32 × Int32 × zMem) ⊕ ((zMem) ⊕ (Int32 × zMem))) (h : f9_termOf_L1 a2 (x2, x3, xm4) = some K) (hI : ∀ (y0 : Int32) (y1 : Int32) (y2 : zMem), K = .inl (y0, y1, y2) → z_RQ P M_9_termOf (z_rm 1) (z_mq P ro μo) 0 0 5 [some (zA 9 0), none, some (zI a2), some (zI y0), some (zI y1), none, none, none] [] y2) (hE : ∀ (z0 : zMem), K = .inr (.inl z0) → z_RQ P M_9_termOf (z_rm 1) (z_mq P ro μo) 0 0 165 [some (zA 9 0), none, none, none, none, none, none, none] [] z0) (hR : ∀ (qr : Int32) (qm : zMem), K = .inr (.inr (qr, qm)) → ro = some (zI qr) ∧ μo = qm) : z_RQ P M_9_termOf (z_rm 1) (z_mq P ro μo) 0 0 5 [some (zA 9 0), none, some (zI a2), some (zI x2), some (zI x3), none, none, none] [] xm4 := by
  unfold f9_termOf_L1 at h
  replace h := z_h3 h
  refine zr_iload d_9_termOf_5 rfl ?_
  refine zr_iload_n (i := 2) d_9_termOf_7 rfl rfl ?_
  refine zr_icmp_ge (tgt := 165) d_9_termOf_8 rfl (fun hc5 => ?_) (fun hc5 => ?_)
  · replace h := z_ip h hc5
    refine zr_aload_n (i := 0) d_9_termOf_11 rfl rfl ?_
    refine zr_gets (i' := 0) d_9_termOf_12 fw_9_95 rfl ?_
    refine zr_iload d_9_termOf_15 rfl ?_
    obtain ⟨hb6, h⟩ := z_gd h
    refine zr_iald d_9_termOf_17 sa_141 rfl hb6 ?_
    obtain ⟨v7, hv8, h⟩ := z_lt h
    refine zr_nm hv8 ?_
    refine zr_istore (i := 5) (l' := [some (zA 9 0), none, some (zI a2), some (zI x2), some (zI x3), some (zI v7), none, none]) d_9_termOf_18 (by decide) rfl ?_
    refine zr_iload d_9_termOf_20 rfl ?_
    refine zr_iconst (v := (2 : Int32)) d_9_termOf_22 rfl ?_
    refine zr_icmp_ge (tgt := 65) d_9_termOf_23 rfl (fun hc9 => ?_) (fun hc9 => ?_)
    · replace h := z_ip h hc9
      refine zr_aload_n (i := 0) d_9_termOf_26 rfl rfl ?_
      refine zr_gets (i' := 0) d_9_termOf_27 fw_9_107 rfl ?_
      refine zr_iload_n (i := 3) d_9_termOf_30 rfl rfl ?_
      refine zr_iload d_9_termOf_31 rfl ?_
      obtain ⟨j14, hT10, h⟩ := z_bd h
      have hJ11 : z_RQ P M_9_termOf (z_rm 1) (z_mq P ro μo) 0 0 58 [some (zA 9 0), none, some (zI a2), some (zI x2), some (zI x3), none, none, none] [zI j14, zI x2, zA 146 0] xm4 := by
        obtain ⟨hb17, h⟩ := z_gd h
        obtain ⟨m15, hm16, h⟩ := z_lt h
        refine zr_iast d_9_termOf_58 sa_146 rfl hb17 hm16 ?_
        refine zr_iinc (v := (x2 + (1 : Int32))) (l' := [some (zA 9 0), none, some (zI a2), some (zI (x2 + (1 : Int32))), some (zI x3), none, none, none]) d_9_termOf_59 (by decide) rfl rfl rfl ?_
        refine zr_goto (tgt := 159) d_9_termOf_62 rfl ?_
        refine zr_iinc (v := (x3 + (1 : Int32))) (l' := [some (zA 9 0), none, some (zI a2), some (zI (x2 + (1 : Int32))), some (zI (x3 + (1 : Int32))), none, none, none]) d_9_termOf_159 (by decide) rfl rfl rfl ?_
        refine zr_goto (tgt := 5) d_9_termOf_162 rfl ?_
        obtain rfl := Option.some.inj h
        exact zr_wk2 (hI (x2 + (1 : Int32)) (x3 + (1 : Int32)) m15 rfl) ⟨rfl, ⟨rfl, ⟨rfl, ⟨rfl, trivial⟩⟩⟩⟩
      refine zr_if_ne (tgt := 46) d_9_termOf_33 rfl (fun hc12 => ?_) (fun hc12 => ?_)
      · replace hT10 := z_ip hT10 hc12
        refine zr_aload_n (i := 0) d_9_termOf_36 rfl rfl ?_
        refine zr_gets (i' := 0) d_9_termOf_37 fw_9_98 rfl ?_
        refine zr_iload d_9_termOf_40 rfl ?_
        refine zr_iald d_9_termOf_42 sa_142 rfl hb6 ?_
        refine zr_goto (tgt := 58) d_9_termOf_43 rfl ?_
        obtain rfl := Option.some.inj hT10
        exact zr_wk2 hJ11 ⟨rfl, ⟨rfl, ⟨rfl, ⟨rfl, trivial⟩⟩⟩⟩
      · replace hT10 := z_im hT10 hc12
        refine zr_aload_n (i := 0) d_9_termOf_46 rfl rfl ?_
        refine zr_gets (i' := 0) d_9_termOf_47 fw_9_104 rfl ?_
        refine zr_aload_n (i := 0) d_9_termOf_50 rfl rfl ?_
        refine zr_gets (i' := 0) d_9_termOf_51 fw_9_98 rfl ?_
        refine zr_iload d_9_termOf_54 rfl ?_
        refine zr_iald d_9_termOf_56 sa_142 rfl hb6 ?_
        obtain ⟨hb13, hT10⟩ := z_gd hT10
        refine zr_iald d_9_termOf_57 sa_145 rfl hb13 ?_
        obtain rfl := Option.some.inj hT10
        exact zr_wk2 hJ11 ⟨rfl, ⟨rfl, ⟨rfl, ⟨rfl, trivial⟩⟩⟩⟩
    · replace h := z_im h hc9
      refine zr_iinc (v := (x2 + (-1 : Int32))) (l' := [some (zA 9 0), none, some (zI a2), some (zI (x2 + (-1 : Int32))), some (zI x3), some (zI v7), none, none]) d_9_termOf_65 (by decide) rfl (z_neg_1 _) rfl ?_
      refine zr_aload_n (i := 0) d_9_termOf_68 rfl rfl ?_
      refine zr_gets (i' := 0) d_9_termOf_69 fw_9_107 rfl ?_
      refine zr_iload_n (i := 3) d_9_termOf_72 rfl rfl ?_
      refine zr_iconst (v := (1 : Int32)) d_9_termOf_73 rfl ?_
      refine zr_isub d_9_termOf_74 ?_
      obtain ⟨hb18, h⟩ := z_gd h
      refine zr_iald d_9_termOf_75 sa_146 rfl hb18 ?_
      obtain ⟨v19, hv20, h⟩ := z_lt h
      refine zr_nm hv20 ?_
      refine zr_istore (i := 6) (l' := [some (zA 9 0), none, some (zI a2), some (zI (x2 + (-1 : Int32))), some (zI x3), some (zI v7), some (zI v19), none]) d_9_termOf_76 (by decide) rfl ?_
      refine zr_aload_n (i := 0) d_9_termOf_78 rfl rfl ?_
      refine zr_gets (i' := 0) d_9_termOf_79 fw_9_107 rfl ?_
      refine zr_iload_n (i := 3) d_9_termOf_82 rfl rfl ?_
      obtain ⟨hb21, h⟩ := z_gd h
      refine zr_iald d_9_termOf_83 sa_146 rfl hb21 ?_
      obtain ⟨v22, hv23, h⟩ := z_lt h
      refine zr_nm hv23 ?_
      refine zr_istore (i := 7) (l' := [some (zA 9 0), none, some (zI a2), some (zI (x2 + (-1 : Int32))), some (zI x3), some (zI v7), some (zI v19), some (zI v22)]) d_9_termOf_84 (by decide) rfl ?_
      refine zr_iload d_9_termOf_86 rfl ?_
      refine zr_iconst (v := (5 : Int32)) d_9_termOf_88 rfl ?_
      refine zr_icmp_ne (tgt := 104) d_9_termOf_89 rfl (fun hc24 => ?_) (fun hc24 => ?_)
      · replace h := z_ip h hc24
        refine zr_iload d_9_termOf_92 rfl ?_
        refine zr_if_ne (tgt := 104) d_9_termOf_94 rfl (fun hc25 => ?_) (fun hc25 => ?_)
        · replace h := z_ip h hc25
          refine zr_aload_n (i := 0) d_9_termOf_97 rfl rfl ?_
          refine zr_iconst (v := (1 : Int32)) d_9_termOf_98 rfl ?_
          obtain ⟨m26, hm27, h⟩ := z_lt h
          refine zr_putb d_9_termOf_99 fw_9_308 pw_9_47 rfl rfl hm27 ?_
          refine zr_iconst (v := (0 : Int32)) d_9_termOf_102 rfl ?_
          obtain rfl := Option.some.inj h
          obtain ⟨rfl, rfl⟩ := hR (0 : Int32) m26 rfl
          exact ze_i d_9_termOf_103 rfl
        · replace h := z_im h hc25
          refine zr_aload_n (i := 0) d_9_termOf_104 rfl rfl ?_
          refine zr_gets (i' := 0) d_9_termOf_105 fw_9_107 rfl ?_
          refine zr_iload_n (i := 3) d_9_termOf_108 rfl rfl ?_
          refine zr_iconst (v := (1 : Int32)) d_9_termOf_109 rfl ?_
          refine zr_isub d_9_termOf_110 ?_
          refine zr_iload d_9_termOf_111 rfl ?_
          refine zr_iconst (v := (2 : Int32)) d_9_termOf_113 rfl ?_
          obtain ⟨j34, hT28, h⟩ := z_bd h
          have hJ29 : z_RQ P M_9_termOf (z_rm 1) (z_mq P ro μo) 0 0 158 [some (zA 9 0), none, some (zI a2), some (zI (x2 + (-1 : Int32))), some (zI x3), none, none, none] [zI j34, zI ((x2 + (-1 : Int32)) - (1 : Int32)), zA 146 0] xm4 := by
            obtain ⟨m35, hm36, h⟩ := z_lt h
            refine zr_iast d_9_termOf_158 sa_146 rfl hb18 hm36 ?_
            refine zr_iinc (v := (x3 + (1 : Int32))) (l' := [some (zA 9 0), none, some (zI a2), some (zI (x2 + (-1 : Int32))), some (zI (x3 + (1 : Int32))), none, none, none]) d_9_termOf_159 (by decide) rfl rfl rfl ?_
            refine zr_goto (tgt := 5) d_9_termOf_162 rfl ?_
            obtain rfl := Option.some.inj h
            exact zr_wk2 (hI (x2 + (-1 : Int32)) (x3 + (1 : Int32)) m35 rfl) ⟨rfl, ⟨rfl, ⟨rfl, ⟨rfl, trivial⟩⟩⟩⟩
          refine zr_icmp_ne (tgt := 125) d_9_termOf_114 rfl (fun hc30 => ?_) (fun hc30 => ?_)
          · replace hT28 := z_ip hT28 hc30
            refine zr_iload d_9_termOf_117 rfl ?_
            refine zr_iload d_9_termOf_119 rfl ?_
            refine zr_iadd d_9_termOf_121 ?_
            refine zr_goto (tgt := 158) d_9_termOf_122 rfl ?_
            obtain rfl := Option.some.inj hT28
            exact zr_wk2 hJ29 ⟨rfl, ⟨rfl, ⟨rfl, ⟨rfl, trivial⟩⟩⟩⟩
          · replace hT28 := z_im hT28 hc30
            refine zr_iload d_9_termOf_125 rfl ?_
            refine zr_iconst (v := (3 : Int32)) d_9_termOf_127 rfl ?_
            refine zr_icmp_ne (tgt := 139) d_9_termOf_128 rfl (fun hc31 => ?_) (fun hc31 => ?_)
            · replace hT28 := z_ip hT28 hc31
              refine zr_iload d_9_termOf_131 rfl ?_
              refine zr_iload d_9_termOf_133 rfl ?_
              refine zr_isub d_9_termOf_135 ?_
              refine zr_goto (tgt := 158) d_9_termOf_136 rfl ?_
              obtain rfl := Option.some.inj hT28
              exact zr_wk2 hJ29 ⟨rfl, ⟨rfl, ⟨rfl, ⟨rfl, trivial⟩⟩⟩⟩
            · replace hT28 := z_im hT28 hc31
              refine zr_iload d_9_termOf_139 rfl ?_
              refine zr_iconst (v := (4 : Int32)) d_9_termOf_141 rfl ?_
              refine zr_icmp_ne (tgt := 153) d_9_termOf_142 rfl (fun hc32 => ?_) (fun hc32 => ?_)
              · replace hT28 := z_ip hT28 hc32
                refine zr_iload d_9_termOf_145 rfl ?_
                refine zr_iload d_9_termOf_147 rfl ?_
                refine zr_imul d_9_termOf_149 ?_
                refine zr_goto (tgt := 158) d_9_termOf_150 rfl ?_
                obtain rfl := Option.some.inj hT28
                exact zr_wk2 hJ29 ⟨rfl, ⟨rfl, ⟨rfl, ⟨rfl, trivial⟩⟩⟩⟩
              · replace hT28 := z_im hT28 hc32
                refine zr_iload d_9_termOf_153 rfl ?_
                refine zr_iload d_9_termOf_155 rfl ?_
                obtain ⟨hz33, hT28⟩ := z_nz hT28
                refine zr_idiv d_9_termOf_157 hz33 ?_
                obtain rfl := Option.some.inj hT28
                exact zr_wk2 hJ29 ⟨rfl, ⟨rfl, ⟨rfl, ⟨rfl, trivial⟩⟩⟩⟩
      · replace h := z_im h hc24
        refine zr_aload_n (i := 0) d_9_termOf_104 rfl rfl ?_
        refine zr_gets (i' := 0) d_9_termOf_105 fw_9_107 rfl ?_
        refine zr_iload_n (i := 3) d_9_termOf_108 rfl rfl ?_
        refine zr_iconst (v := (1 : Int32)) d_9_termOf_109 rfl ?_
        refine zr_isub d_9_termOf_110 ?_
        refine zr_iload d_9_termOf_111 rfl ?_
        refine zr_iconst (v := (2 : Int32)) d_9_termOf_113 rfl ?_
        obtain ⟨j43, hT37, h⟩ := z_bd h
        have hJ38 : z_RQ P M_9_termOf (z_rm 1) (z_mq P ro μo) 0 0 158 [some (zA 9 0), none, some (zI a2), some (zI (x2 + (-1 : Int32))), some (zI x3), none, none, none] [zI j43, zI ((x2 + (-1 : Int32)) - (1 : Int32)), zA 146 0] xm4 := by
          obtain ⟨m44, hm45, h⟩ := z_lt h
          refine zr_iast d_9_termOf_158 sa_146 rfl hb18 hm45 ?_
          refine zr_iinc (v := (x3 + (1 : Int32))) (l' := [some (zA 9 0), none, some (zI a2), some (zI (x2 + (-1 : Int32))), some (zI (x3 + (1 : Int32))), none, none, none]) d_9_termOf_159 (by decide) rfl rfl rfl ?_
          refine zr_goto (tgt := 5) d_9_termOf_162 rfl ?_
          obtain rfl := Option.some.inj h
          exact zr_wk2 (hI (x2 + (-1 : Int32)) (x3 + (1 : Int32)) m44 rfl) ⟨rfl, ⟨rfl, ⟨rfl, ⟨rfl, trivial⟩⟩⟩⟩
        refine zr_icmp_ne (tgt := 125) d_9_termOf_114 rfl (fun hc39 => ?_) (fun hc39 => ?_)
        · replace hT37 := z_ip hT37 hc39
          refine zr_iload d_9_termOf_117 rfl ?_
          refine zr_iload d_9_termOf_119 rfl ?_
          refine zr_iadd d_9_termOf_121 ?_
          refine zr_goto (tgt := 158) d_9_termOf_122 rfl ?_
          obtain rfl := Option.some.inj hT37
          exact zr_wk2 hJ38 ⟨rfl, ⟨rfl, ⟨rfl, ⟨rfl, trivial⟩⟩⟩⟩
        · replace hT37 := z_im hT37 hc39
          refine zr_iload d_9_termOf_125 rfl ?_
          refine zr_iconst (v := (3 : Int32)) d_9_termOf_127 rfl ?_
          refine zr_icmp_ne (tgt := 139) d_9_termOf_128 rfl (fun hc40 => ?_) (fun hc40 => ?_)
          · replace hT37 := z_ip hT37 hc40
            refine zr_iload d_9_termOf_131 rfl ?_
            refine zr_iload d_9_termOf_133 rfl ?_
            refine zr_isub d_9_termOf_135 ?_
            refine zr_goto (tgt := 158) d_9_termOf_136 rfl ?_
            obtain rfl := Option.some.inj hT37
            exact zr_wk2 hJ38 ⟨rfl, ⟨rfl, ⟨rfl, ⟨rfl, trivial⟩⟩⟩⟩
          · replace hT37 := z_im hT37 hc40
            refine zr_iload d_9_termOf_139 rfl ?_
            refine zr_iconst (v := (4 : Int32)) d_9_termOf_141 rfl ?_
            refine zr_icmp_ne (tgt := 153) d_9_termOf_142 rfl (fun hc41 => ?_) (fun hc41 => ?_)
            · replace hT37 := z_ip hT37 hc41
              refine zr_iload d_9_termOf_145 rfl ?_
              refine zr_iload d_9_termOf_147 rfl ?_
              refine zr_imul d_9_termOf_149 ?_
              refine zr_goto (tgt := 158) d_9_termOf_150 rfl ?_
              obtain rfl := Option.some.inj hT37
              exact zr_wk2 hJ38 ⟨rfl, ⟨rfl, ⟨rfl, ⟨rfl, trivial⟩⟩⟩⟩
            · replace hT37 := z_im hT37 hc41
              refine zr_iload d_9_termOf_153 rfl ?_
              refine zr_iload d_9_termOf_155 rfl ?_
              obtain ⟨hz42, hT37⟩ := z_nz hT37
              refine zr_idiv d_9_termOf_157 hz42 ?_
              obtain rfl := Option.some.inj hT37
              exact zr_wk2 hJ38 ⟨rfl, ⟨rfl, ⟨rfl, ⟨rfl, trivial⟩⟩⟩⟩
  · replace h := z_im h hc5
    obtain rfl := Option.some.inj h
    exact zr_wk2 (hE xm4 rfl) ⟨rfl, trivial⟩
theorem s9_termOf {P : zP} {μ : zMem} {a1 : Int32} {a2 : Int32} {r : Int32} {μ' : zMem} (h : f9_termOf a1 a2 μ = some (r, μ')) : z_Sp P y_9_termOf M_9_termOf 1 [zA 9 0, zI a1, zI a2] μ (some (zI r)) μ' := by
  refine z_Sp.of (plainFor_of_name (by decide)) rfl (l0 := [some (zA 9 0), some (zI a1), some (zI a2), none, none, none, none, none]) rfl (Nat.le_of_ble_eq_true rfl) ?_
  unfold f9_termOf at h
  refine zr_iconst (v := (0 : Int32)) d_9_termOf_0 rfl ?_
  refine zr_istore_n (i := 3) (l' := [some (zA 9 0), some (zI a1), some (zI a2), some (zI (0 : Int32)), none, none, none, none]) d_9_termOf_1 rfl (by decide) rfl ?_
  refine zr_iload_n (i := 1) d_9_termOf_2 rfl rfl ?_
  refine zr_istore (i := 4) (l' := [some (zA 9 0), some (zI a1), some (zI a2), some (zI (0 : Int32)), some (zI a1), none, none, none]) d_9_termOf_3 (by decide) rfl ?_
  rcases z_bs h with ⟨e46, hl47, h⟩ | ⟨⟨qr48, qr49⟩, hl47, h⟩
  · refine zr_wk (l' := [some (zA 9 0), none, some (zI a2), some (zI (0 : Int32)), some (zI a1), none, none, none]) ⟨rfl, ⟨rfl, ⟨rfl, ⟨rfl, trivial⟩⟩⟩⟩ ?_
    refine z_loop (Hd := (z_u3 fun y0 y1 y2 => z_RQ P M_9_termOf (z_rm 1) (z_mq P (some (zI r)) μ') 0 0 5 [some (zA 9 0), none, some (zI a2), some (zI y0), some (zI y1), none, none, none] [] y2)) (Ex := (Sum.elim (fun z0 => z_RQ P M_9_termOf (z_rm 1) (z_mq P (some (zI r)) μ') 0 0 165 [some (zA 9 0), none, none, none, none, none, none, none] [] z0) (z_u2 fun qr qm => (some (zI r)) = some (zI qr) ∧ μ' = qm))) (fun ⟨x2, x3, xm4⟩ K h hI hE => s9_termOf_L1 a2 x2 x3 xm4 K h (fun y0 y1 y2 e => hI (y0, y1, y2) e) (fun z0 e => hE (.inl z0) e) (fun qr qm e => hE (.inr (qr, qm)) e)) _ _ _ hl47 ?_
    refine zr_aload_n (i := 0) d_9_termOf_165 rfl rfl ?_
    refine zr_gets (i' := 0) d_9_termOf_166 fw_9_107 rfl ?_
    refine zr_iconst (v := (0 : Int32)) d_9_termOf_169 rfl ?_
    refine zr_iald d_9_termOf_170 sa_146 rfl rfl ?_
    obtain ⟨rfl, rfl⟩ := Prod.mk.inj (Option.some.inj h)
    exact ze_i d_9_termOf_171 rfl
  · replace h := z_h2 h
    refine zr_wk (l' := [some (zA 9 0), none, some (zI a2), some (zI (0 : Int32)), some (zI a1), none, none, none]) ⟨rfl, ⟨rfl, ⟨rfl, ⟨rfl, trivial⟩⟩⟩⟩ ?_
    refine z_loop (Hd := (z_u3 fun y0 y1 y2 => z_RQ P M_9_termOf (z_rm 1) (z_mq P (some (zI r)) μ') 0 0 5 [some (zA 9 0), none, some (zI a2), some (zI y0), some (zI y1), none, none, none] [] y2)) (Ex := (Sum.elim (fun z0 => z_RQ P M_9_termOf (z_rm 1) (z_mq P (some (zI r)) μ') 0 0 165 [some (zA 9 0), none, none, none, none, none, none, none] [] z0) (z_u2 fun qr qm => (some (zI r)) = some (zI qr) ∧ μ' = qm))) (fun ⟨x2, x3, xm4⟩ K h hI hE => s9_termOf_L1 a2 x2 x3 xm4 K h (fun y0 y1 y2 e => hI (y0, y1, y2) e) (fun z0 e => hE (.inl z0) e) (fun qr qm e => hE (.inr (qr, qm)) e)) _ _ _ hl47 ?_
    obtain ⟨rfl, rfl⟩ := Prod.mk.inj (Option.some.inj h)
    exact ⟨rfl, rfl⟩
def f9_in (a0 : Int32) (a1 : Int32) (a2 : Int32) : Int32 :=
  (if a0 < a1 then (0 : Int32) else (if a2 < a0 then (0 : Int32) else (1 : Int32)))
theorem s9_in {P : zP} {μ : zMem} {a0 : Int32} {a1 : Int32} {a2 : Int32} {r : Int32} (h : f9_in a0 a1 a2 = r) : z_Sp P y_9_in M_9_in 1 [zI a0, zI a1, zI a2] μ (some (zI r)) μ := by
  refine z_Sp.of (plainFor_of_name (by decide)) rfl (l0 := [some (zI a0), some (zI a1), some (zI a2)]) rfl (Nat.le_of_ble_eq_true rfl) ?_
  unfold f9_in at h
  refine zr_iload_n (i := 0) d_9_in_0 rfl rfl ?_
  refine zr_iload_n (i := 1) d_9_in_1 rfl rfl ?_
  refine zr_icmp_lt (tgt := 14) d_9_in_2 rfl (fun hc1 => ?_) (fun hc1 => ?_)
  · replace h := z_ip h hc1
    refine zr_iconst (v := (0 : Int32)) d_9_in_14 rfl ?_
    obtain rfl := h
    exact ze_z d_9_in_15 rfl rfl
  · replace h := z_im h hc1
    refine zr_iload_n (i := 0) d_9_in_5 rfl rfl ?_
    refine zr_iload_n (i := 2) d_9_in_6 rfl rfl ?_
    refine zr_icmp_gt (tgt := 14) d_9_in_7 rfl (fun hc2 => ?_) (fun hc2 => ?_)
    · replace h := z_ip h hc2
      refine zr_iconst (v := (0 : Int32)) d_9_in_14 rfl ?_
      obtain rfl := h
      exact ze_z d_9_in_15 rfl rfl
    · replace h := z_im h hc2
      refine zr_iconst (v := (1 : Int32)) d_9_in_10 rfl ?_
      refine zr_goto (tgt := 15) d_9_in_11 rfl ?_
      obtain rfl := h
      exact ze_z d_9_in_15 rfl rfl
def f9_within (a0 : Int32) (a1 : Int32) (a2 : Int32) : Int32 :=
  (if a0 < a1 then a1 else (if a2 < a0 then a2 else a0))
theorem s9_within {P : zP} {μ : zMem} {a0 : Int32} {a1 : Int32} {a2 : Int32} {r : Int32} (h : f9_within a0 a1 a2 = r) : z_Sp P y_9_within M_9_within 1 [zI a0, zI a1, zI a2] μ (some (zI r)) μ := by
  refine z_Sp.of (plainFor_of_name (by decide)) rfl (l0 := [some (zI a0), some (zI a1), some (zI a2)]) rfl (Nat.le_of_ble_eq_true rfl) ?_
  unfold f9_within at h
  refine zr_iload_n (i := 0) d_9_within_0 rfl rfl ?_
  refine zr_iload_n (i := 1) d_9_within_1 rfl rfl ?_
  refine zr_icmp_ge (tgt := 9) d_9_within_2 rfl (fun hc1 => ?_) (fun hc1 => ?_)
  · replace h := z_ip h hc1
    refine zr_iload_n (i := 1) d_9_within_5 rfl rfl ?_
    refine zr_goto (tgt := 19) d_9_within_6 rfl ?_
    obtain rfl := h
    exact ze_i d_9_within_19 rfl
  · replace h := z_im h hc1
    refine zr_iload_n (i := 0) d_9_within_9 rfl rfl ?_
    refine zr_iload_n (i := 2) d_9_within_10 rfl rfl ?_
    refine zr_icmp_le (tgt := 18) d_9_within_11 rfl (fun hc2 => ?_) (fun hc2 => ?_)
    · replace h := z_ip h hc2
      refine zr_iload_n (i := 2) d_9_within_14 rfl rfl ?_
      refine zr_goto (tgt := 19) d_9_within_15 rfl ?_
      obtain rfl := h
      exact ze_i d_9_within_19 rfl
    · replace h := z_im h hc2
      refine zr_iload_n (i := 0) d_9_within_18 rfl rfl ?_
      obtain rfl := h
      exact ze_i d_9_within_19 rfl
def f9_bits_L1 (a0 : Int32) : (Int32 × Int32) → Option ((Int32 × Int32) ⊕ (Int32)) := (z_u2 fun x2 x3 => 
  (if x3 < (7 : Int32) then z_let (x2 + ((a0 >>> (x3 &&& 31)) &&& (1 : Int32))) fun v5 => some (.inl (v5, (x3 + (1 : Int32)))) else some (.inr x2)))
def f9_bits (a0 : Int32) : Option (Int32) :=
  (z_it (f9_bits_L1 a0) z_fu ((0 : Int32), (0 : Int32))).bind (fun e7 => some e7)
theorem s9_bits_L1 {P : zP} {ro : Option zV} {μo : zMem} (a0 : Int32) (μ : zMem) (x2 : Int32) (x3 : Int32) (K : (Int32 × Int32) ⊕ (Int32)) (h : f9_bits_L1 a0 (x2, x3) = some K) (hI : ∀ (y0 : Int32) (y1 : Int32), K = .inl (y0, y1) → z_RQ P M_9_bits (z_rm 1) (z_mq P ro μo) 0 0 4 [some (zI a0), some (zI y0), some (zI y1)] [] μ) (hE : ∀ (z0 : Int32), K = .inr z0 → z_RQ P M_9_bits (z_rm 1) (z_mq P ro μo) 0 0 24 [none, some (zI z0), none] [] μ)  : z_RQ P M_9_bits (z_rm 1) (z_mq P ro μo) 0 0 4 [some (zI a0), some (zI x2), some (zI x3)] [] μ := by
  unfold f9_bits_L1 at h
  replace h := z_h2 h
  refine zr_iload_n (i := 2) d_9_bits_4 rfl rfl ?_
  refine zr_bipush (v := (7 : Int32)) d_9_bits_5 rfl ?_
  refine zr_icmp_ge (tgt := 24) d_9_bits_7 rfl (fun hc4 => ?_) (fun hc4 => ?_)
  · replace h := z_ip h hc4
    refine zr_iload_n (i := 1) d_9_bits_10 rfl rfl ?_
    refine zr_iload_n (i := 0) d_9_bits_11 rfl rfl ?_
    refine zr_iload_n (i := 2) d_9_bits_12 rfl rfl ?_
    refine zr_ishr d_9_bits_13 ?_
    refine zr_iconst (v := (1 : Int32)) d_9_bits_14 rfl ?_
    refine zr_iand d_9_bits_15 ?_
    refine zr_iadd d_9_bits_16 ?_
    obtain ⟨v5, hv6, h⟩ := z_lt h
    refine zr_nm hv6 ?_
    refine zr_istore_n (i := 1) (l' := [some (zI a0), some (zI v5), some (zI x3)]) d_9_bits_17 rfl (by decide) rfl ?_
    refine zr_iinc (v := (x3 + (1 : Int32))) (l' := [some (zI a0), some (zI v5), some (zI (x3 + (1 : Int32)))]) d_9_bits_18 (by decide) rfl rfl rfl ?_
    refine zr_goto (tgt := 4) d_9_bits_21 rfl ?_
    obtain rfl := Option.some.inj h
    exact zr_wk2 (hI v5 (x3 + (1 : Int32)) rfl) ⟨rfl, ⟨rfl, ⟨rfl, trivial⟩⟩⟩
  · replace h := z_im h hc4
    obtain rfl := Option.some.inj h
    exact zr_wk2 (hE x2 rfl) ⟨rfl, trivial⟩
theorem s9_bits {P : zP} {μ : zMem} {a0 : Int32} {r : Int32} (h : f9_bits a0 = some r) : z_Sp P y_9_bits M_9_bits 1 [zI a0] μ (some (zI r)) μ := by
  refine z_Sp.of (plainFor_of_name (by decide)) rfl (l0 := [some (zI a0), none, none]) rfl (Nat.le_of_ble_eq_true rfl) ?_
  unfold f9_bits at h
  refine zr_iconst (v := (0 : Int32)) d_9_bits_0 rfl ?_
  refine zr_istore_n (i := 1) (l' := [some (zI a0), some (zI (0 : Int32)), none]) d_9_bits_1 rfl (by decide) rfl ?_
  refine zr_iconst (v := (0 : Int32)) d_9_bits_2 rfl ?_
  refine zr_istore_n (i := 2) (l' := [some (zI a0), some (zI (0 : Int32)), some (zI (0 : Int32))]) d_9_bits_3 rfl (by decide) rfl ?_
  obtain ⟨e7, hl8, h⟩ := z_bd h
  refine zr_wk (l' := [some (zI a0), some (zI (0 : Int32)), some (zI (0 : Int32))]) ⟨rfl, ⟨rfl, ⟨rfl, trivial⟩⟩⟩ ?_
  refine z_loop (Hd := (z_u2 fun y0 y1 => z_RQ P M_9_bits (z_rm 1) (z_mq P (some (zI r)) μ) 0 0 4 [some (zI a0), some (zI y0), some (zI y1)] [] μ)) (Ex := (fun z0 => z_RQ P M_9_bits (z_rm 1) (z_mq P (some (zI r)) μ) 0 0 24 [none, some (zI z0), none] [] μ)) (fun ⟨x2, x3⟩ K h hI hE => s9_bits_L1 a0 μ x2 x3 K h (fun y0 y1 e => hI (y0, y1) e) (fun z0 e => hE z0 e) ) _ _ _ hl8 ?_
  refine zr_iload_n (i := 1) d_9_bits_24 rfl rfl ?_
  obtain rfl := Option.some.inj h
  exact ze_i d_9_bits_25 rfl
def f9_isHouse (a1 : Int32) (μ : zMem) : Option (Int32) :=
  if z_in (μ.1 9 0 18) 2 = true then if z_b (f9_in a1 (0 : Int32) ((μ.1 123 0 (μ.1 9 0 18).toNatClampNeg) - (1 : Int32))) = true then some (f9_in a1 (0 : Int32) ((μ.1 123 0 (μ.1 9 0 18).toNatClampNeg) - (1 : Int32))) else none else none
theorem s9_isHouse {P : zP} {μ : zMem} {a1 : Int32} {r : Int32} (h : f9_isHouse a1 μ = some r) : z_Sp P y_9_isHouse M_9_isHouse 2 [zA 9 0, zI a1] μ (some (zI r)) μ := by
  refine z_Sp.of (plainFor_of_name (by decide)) rfl (l0 := [some (zA 9 0), some (zI a1)]) rfl (Nat.le_of_ble_eq_true rfl) ?_
  unfold f9_isHouse at h
  refine zr_iload_n (i := 1) d_9_isHouse_0 rfl rfl ?_
  refine zr_iconst (v := (0 : Int32)) d_9_isHouse_1 rfl ?_
  refine zr_aload_n (i := 0) d_9_isHouse_2 rfl rfl ?_
  refine zr_gets (i' := 0) d_9_isHouse_3 fw_9_46 rfl ?_
  refine zr_aload_n (i := 0) d_9_isHouse_6 rfl rfl ?_
  refine zr_geti d_9_isHouse_7 fw_9_233 (by decide) ?_
  obtain ⟨hb1, h⟩ := z_gd h
  refine zr_iald d_9_isHouse_10 sa_123 rfl hb1 ?_
  refine zr_iconst (v := (1 : Int32)) d_9_isHouse_11 rfl ?_
  refine zr_isub d_9_isHouse_12 ?_
  refine zr_callSi (av := [zI a1, zI (0 : Int32), zI ((μ.1 123 0 (μ.1 9 0 18).toNatClampNeg) - (1 : Int32))]) (st := []) d_9_isHouse_13 mw_9_in ml_9_312 is_9_in rfl rfl (Nat.le_of_ble_eq_true rfl) fit_1_3_2 (s9_in rfl) ?_
  obtain ⟨hzb, h⟩ := z_gd h
  obtain rfl := Option.some.inj h
  exact ze_z d_9_isHouse_16 rfl (z_b_ok hzb)
def f9_isPerson (a1 : Int32) (μ : zMem) : Option (Int32) :=
  if z_in (μ.1 9 0 18) 2 = true then if z_b (f9_in a1 (0 : Int32) ((μ.1 126 0 (μ.1 9 0 18).toNatClampNeg) - (1 : Int32))) = true then some (f9_in a1 (0 : Int32) ((μ.1 126 0 (μ.1 9 0 18).toNatClampNeg) - (1 : Int32))) else none else none
theorem s9_isPerson {P : zP} {μ : zMem} {a1 : Int32} {r : Int32} (h : f9_isPerson a1 μ = some r) : z_Sp P y_9_isPerson M_9_isPerson 2 [zA 9 0, zI a1] μ (some (zI r)) μ := by
  refine z_Sp.of (plainFor_of_name (by decide)) rfl (l0 := [some (zA 9 0), some (zI a1)]) rfl (Nat.le_of_ble_eq_true rfl) ?_
  unfold f9_isPerson at h
  refine zr_iload_n (i := 1) d_9_isPerson_0 rfl rfl ?_
  refine zr_iconst (v := (0 : Int32)) d_9_isPerson_1 rfl ?_
  refine zr_aload_n (i := 0) d_9_isPerson_2 rfl rfl ?_
  refine zr_gets (i' := 0) d_9_isPerson_3 fw_9_55 rfl ?_
  refine zr_aload_n (i := 0) d_9_isPerson_6 rfl rfl ?_
  refine zr_geti d_9_isPerson_7 fw_9_233 (by decide) ?_
  obtain ⟨hb1, h⟩ := z_gd h
  refine zr_iald d_9_isPerson_10 sa_126 rfl hb1 ?_
  refine zr_iconst (v := (1 : Int32)) d_9_isPerson_11 rfl ?_
  refine zr_isub d_9_isPerson_12 ?_
  refine zr_callSi (av := [zI a1, zI (0 : Int32), zI ((μ.1 126 0 (μ.1 9 0 18).toNatClampNeg) - (1 : Int32))]) (st := []) d_9_isPerson_13 mw_9_in ml_9_312 is_9_in rfl rfl (Nat.le_of_ble_eq_true rfl) fit_1_3_2 (s9_in rfl) ?_
  obtain ⟨hzb, h⟩ := z_gd h
  obtain rfl := Option.some.inj h
  exact ze_z d_9_isPerson_16 rfl (z_b_ok hzb)
def f9_isNow (a1 : Int32) (a2 : Int32) (μ : zMem) : Option (Int32) :=
  (f9_isPerson a1 μ).bind (fun q1 => (if q1 = 0 then some (0 : Int32) else if z_in a1 34 = true then (if (μ.1 148 0 a1.toNatClampNeg) = a2 then some (1 : Int32) else some (0 : Int32)) else none))
theorem s9_isNow {P : zP} {μ : zMem} {a1 : Int32} {a2 : Int32} {r : Int32} (h : f9_isNow a1 a2 μ = some r) : z_Sp P y_9_isNow M_9_isNow 3 [zA 9 0, zI a1, zI a2] μ (some (zI r)) μ := by
  refine z_Sp.of (plainFor_of_name (by decide)) rfl (l0 := [some (zA 9 0), some (zI a1), some (zI a2)]) rfl (Nat.le_of_ble_eq_true rfl) ?_
  unfold f9_isNow at h
  refine zr_aload_n (i := 0) d_9_isNow_0 rfl rfl ?_
  refine zr_iload_n (i := 1) d_9_isNow_1 rfl rfl ?_
  obtain ⟨q1, hq2, h⟩ := z_bd h
  refine zr_callVi (av := [zI a1]) (st := []) d_9_isNow_2 mw_9_isPerson ml_9_316 im_9_isPerson se_9_isPerson rfl rfl (Nat.le_of_ble_eq_true rfl) fit_2_2_3 rfl rfl rfl (s9_isPerson hq2) ?_
  refine zr_if_eq (tgt := 22) d_9_isNow_5 rfl (fun hc3 => ?_) (fun hc3 => ?_)
  · replace h := z_ip h hc3
    refine zr_iconst (v := (0 : Int32)) d_9_isNow_22 rfl ?_
    obtain rfl := Option.some.inj h
    exact ze_z d_9_isNow_23 rfl rfl
  · replace h := z_im h hc3
    refine zr_aload_n (i := 0) d_9_isNow_8 rfl rfl ?_
    refine zr_gets (i' := 0) d_9_isNow_9 fw_9_110 rfl ?_
    refine zr_iload_n (i := 1) d_9_isNow_12 rfl rfl ?_
    obtain ⟨hb4, h⟩ := z_gd h
    refine zr_iald d_9_isNow_13 sa_148 rfl hb4 ?_
    refine zr_iload_n (i := 2) d_9_isNow_14 rfl rfl ?_
    refine zr_icmp_ne (tgt := 22) d_9_isNow_15 rfl (fun hc5 => ?_) (fun hc5 => ?_)
    · replace h := z_ip h hc5
      refine zr_iconst (v := (1 : Int32)) d_9_isNow_18 rfl ?_
      refine zr_goto (tgt := 23) d_9_isNow_19 rfl ?_
      obtain rfl := Option.some.inj h
      exact ze_z d_9_isNow_23 rfl rfl
    · replace h := z_im h hc5
      refine zr_iconst (v := (0 : Int32)) d_9_isNow_22 rfl ?_
      obtain rfl := Option.some.inj h
      exact ze_z d_9_isNow_23 rfl rfl
def f9_copies_L1  : (Int32 × zMem) → Option ((Int32 × zMem) ⊕ (zMem)) := (z_u2 fun x2 xm3 => 
  (if x2 < (34 : Int32) then if z_in x2 34 = true then z_let (z_sI xm3 149 0 x2.toNatClampNeg (xm3.1 148 0 x2.toNatClampNeg)) fun m6 => some (.inl ((x2 + (1 : Int32)), m6)) else none else some (.inr xm3)))
def f9_copies  (μ : zMem) : Option (zMem) :=
  (z_it (f9_copies_L1) z_fu ((0 : Int32), μ)).bind (fun e8 => if z_in (e8.1 9 0 18) 2 = true then z_let (z_sI e8 9 0 50 (e8.1 131 0 (e8.1 9 0 18).toNatClampNeg)) fun m11 => z_let (z_sI m11 9 0 51 (0 : Int32)) fun m13 => some m13 else none)
theorem s9_copies_L1 {P : zP} {ro : Option zV} {μo : zMem}  (x2 : Int32) (xm3 : zMem) (K : (Int32 × zMem) ⊕ (zMem)) (h : f9_copies_L1  (x2, xm3) = some K) (hI : ∀ (y0 : Int32) (y1 : zMem), K = .inl (y0, y1) → z_RQ P M_9_copies (z_rm 1) (z_mq P ro μo) 0 0 2 [some (zA 9 0), some (zI y0)] [] y1) (hE : ∀ (z0 : zMem), K = .inr z0 → z_RQ P M_9_copies (z_rm 1) (z_mq P ro μo) 0 0 26 [some (zA 9 0), none] [] z0)  : z_RQ P M_9_copies (z_rm 1) (z_mq P ro μo) 0 0 2 [some (zA 9 0), some (zI x2)] [] xm3 := by
  unfold f9_copies_L1 at h
  replace h := z_h2 h
  refine zr_iload_n (i := 1) d_9_copies_2 rfl rfl ?_
  refine zr_bipush (v := (34 : Int32)) d_9_copies_3 rfl ?_
  refine zr_icmp_ge (tgt := 26) d_9_copies_5 rfl (fun hc4 => ?_) (fun hc4 => ?_)
  · replace h := z_ip h hc4
    refine zr_aload_n (i := 0) d_9_copies_8 rfl rfl ?_
    refine zr_gets (i' := 0) d_9_copies_9 fw_9_113 rfl ?_
    refine zr_iload_n (i := 1) d_9_copies_12 rfl rfl ?_
    refine zr_aload_n (i := 0) d_9_copies_13 rfl rfl ?_
    refine zr_gets (i' := 0) d_9_copies_14 fw_9_110 rfl ?_
    refine zr_iload_n (i := 1) d_9_copies_17 rfl rfl ?_
    obtain ⟨hb5, h⟩ := z_gd h
    refine zr_iald d_9_copies_18 sa_148 rfl hb5 ?_
    obtain ⟨m6, hm7, h⟩ := z_lt h
    refine zr_iast d_9_copies_19 sa_149 rfl hb5 hm7 ?_
    refine zr_iinc (v := (x2 + (1 : Int32))) (l' := [some (zA 9 0), some (zI (x2 + (1 : Int32)))]) d_9_copies_20 (by decide) rfl rfl rfl ?_
    refine zr_goto (tgt := 2) d_9_copies_23 rfl ?_
    obtain rfl := Option.some.inj h
    exact zr_wk2 (hI (x2 + (1 : Int32)) m6 rfl) ⟨rfl, ⟨rfl, trivial⟩⟩
  · replace h := z_im h hc4
    obtain rfl := Option.some.inj h
    exact zr_wk2 (hE xm3 rfl) ⟨rfl, trivial⟩
theorem s9_copies {P : zP} {μ : zMem} {μ' : zMem} (h : f9_copies μ = some μ') : z_Sp P y_9_copies M_9_copies 1 [zA 9 0] μ none μ' := by
  refine z_Sp.of (plainFor_of_name (by decide)) rfl (l0 := [some (zA 9 0), none]) rfl (Nat.le_of_ble_eq_true rfl) ?_
  unfold f9_copies at h
  refine zr_iconst (v := (0 : Int32)) d_9_copies_0 rfl ?_
  refine zr_istore_n (i := 1) (l' := [some (zA 9 0), some (zI (0 : Int32))]) d_9_copies_1 rfl (by decide) rfl ?_
  obtain ⟨e8, hl9, h⟩ := z_bd h
  refine zr_wk (l' := [some (zA 9 0), some (zI (0 : Int32))]) ⟨rfl, ⟨rfl, trivial⟩⟩ ?_
  refine z_loop (Hd := (z_u2 fun y0 y1 => z_RQ P M_9_copies (z_rm 1) (z_mq P none μ') 0 0 2 [some (zA 9 0), some (zI y0)] [] y1)) (Ex := (fun z0 => z_RQ P M_9_copies (z_rm 1) (z_mq P none μ') 0 0 26 [some (zA 9 0), none] [] z0)) (fun ⟨x2, xm3⟩ K h hI hE => s9_copies_L1  x2 xm3 K h (fun y0 y1 e => hI (y0, y1) e) (fun z0 e => hE z0 e) ) _ _ _ hl9 ?_
  refine zr_aload_n (i := 0) d_9_copies_26 rfl rfl ?_
  refine zr_aload_n (i := 0) d_9_copies_27 rfl rfl ?_
  refine zr_gets (i' := 0) d_9_copies_28 fw_9_70 rfl ?_
  refine zr_aload_n (i := 0) d_9_copies_31 rfl rfl ?_
  refine zr_geti d_9_copies_32 fw_9_233 (by decide) ?_
  obtain ⟨hb10, h⟩ := z_gd h
  refine zr_iald d_9_copies_35 sa_131 rfl hb10 ?_
  obtain ⟨m11, hm12, h⟩ := z_lt h
  refine zr_puti d_9_copies_36 fw_9_319 pw_9_50 hm12 ?_
  refine zr_aload_n (i := 0) d_9_copies_39 rfl rfl ?_
  refine zr_iconst (v := (0 : Int32)) d_9_copies_40 rfl ?_
  obtain ⟨m13, hm14, h⟩ := z_lt h
  refine zr_putb d_9_copies_41 fw_9_322 pw_9_51 rfl rfl hm14 ?_
  obtain rfl := Option.some.inj h
  exact ze_v d_9_copies_44 rfl
def f9_copiesStill  (μ : zMem) : Option (zMem) :=
  (f9_copies μ).bind (fun qm1 => z_let (z_sI qm1 9 0 51 (1 : Int32)) fun m3 => some m3)
theorem s9_copiesStill {P : zP} {μ : zMem} {μ' : zMem} (h : f9_copiesStill μ = some μ') : z_Sp P y_9_copiesStill M_9_copiesStill 2 [zA 9 0] μ none μ' := by
  refine z_Sp.of (plainFor_of_name (by decide)) rfl (l0 := [some (zA 9 0)]) rfl (Nat.le_of_ble_eq_true rfl) ?_
  unfold f9_copiesStill at h
  refine zr_aload_n (i := 0) d_9_copiesStill_0 rfl rfl ?_
  obtain ⟨qm1, hq2, h⟩ := z_bd h
  refine zr_callVv (av := []) (st := []) d_9_copiesStill_1 mw_9_copies ml_9_325 im_9_copies se_9_copies rfl rfl (Nat.le_of_ble_eq_true rfl) fit_1_2_2 rfl rfl rfl (s9_copies hq2) ?_
  refine zr_aload_n (i := 0) d_9_copiesStill_4 rfl rfl ?_
  refine zr_iconst (v := (1 : Int32)) d_9_copiesStill_5 rfl ?_
  obtain ⟨m3, hm4, h⟩ := z_lt h
  refine zr_putb d_9_copiesStill_6 fw_9_322 pw_9_51 rfl rfl hm4 ?_
  obtain rfl := Option.some.inj h
  exact ze_v d_9_copiesStill_9 rfl
def f9_mixed (a0 : Int32) (a1 : Int32) : Int32 :=
  z_let (((a0 ^^^ a1) * (1103515245 : Int32)) + (12345 : Int32)) fun v1 => (v1 ^^^ (v1.toUInt32 >>> ((15 : Int32).toUInt32 &&& Int32.toUInt32 31)).toInt32)
theorem s9_mixed {P : zP} {μ : zMem} {a0 : Int32} {a1 : Int32} {r : Int32} (h : f9_mixed a0 a1 = r) : z_Sp P y_9_mixed M_9_mixed 1 [zI a0, zI a1] μ (some (zI r)) μ := by
  refine z_Sp.of (plainFor_of_name (by decide)) rfl (l0 := [some (zI a0), some (zI a1), none]) rfl (Nat.le_of_ble_eq_true rfl) ?_
  unfold f9_mixed at h
  refine zr_iload_n (i := 0) d_9_mixed_0 rfl rfl ?_
  refine zr_iload_n (i := 1) d_9_mixed_1 rfl rfl ?_
  refine zr_ixor d_9_mixed_2 ?_
  refine zr_ldcw (v := (1103515245 : Int32)) d_9_mixed_3 kc_9_328 ?_
  refine zr_imul d_9_mixed_6 ?_
  refine zr_sipush (v := (12345 : Int32)) d_9_mixed_7 rfl ?_
  refine zr_iadd d_9_mixed_10 ?_
  obtain ⟨v1, hv2, h⟩ := z_lt h
  refine zr_nm hv2 ?_
  refine zr_istore_n (i := 2) (l' := [some (zI a0), some (zI a1), some (zI v1)]) d_9_mixed_11 rfl (by decide) rfl ?_
  refine zr_iload_n (i := 2) d_9_mixed_12 rfl rfl ?_
  refine zr_iload_n (i := 2) d_9_mixed_13 rfl rfl ?_
  refine zr_bipush (v := (15 : Int32)) d_9_mixed_14 rfl ?_
  refine zr_iushr d_9_mixed_16 ?_
  refine zr_ixor d_9_mixed_17 ?_
  obtain rfl := h
  exact ze_i d_9_mixed_18 rfl
def f9_isLot (a1 : Int32) (a2 : Int32) (μ : zMem) : Int32 :=
  (if (μ.1 9 0 51) = 0 then (if (((f9_mixed (f9_mixed (μ.1 9 0 50) (181 : Int32)) a1).toUInt32 >>> ((1 : Int32).toUInt32 &&& Int32.toUInt32 31)).toInt32 - ((f9_mixed (f9_mixed (μ.1 9 0 50) (181 : Int32)) a1).toUInt32 >>> ((1 : Int32).toUInt32 &&& Int32.toUInt32 31)).toInt32 / (100 : Int32) * (100 : Int32)) < a2 then (1 : Int32) else (0 : Int32)) else (0 : Int32))
theorem s9_isLot {P : zP} {μ : zMem} {a1 : Int32} {a2 : Int32} {r : Int32} (h : f9_isLot a1 a2 μ = r) : z_Sp P y_9_isLot M_9_isLot 2 [zA 9 0, zI a1, zI a2] μ (some (zI r)) μ := by
  refine z_Sp.of (plainFor_of_name (by decide)) rfl (l0 := [some (zA 9 0), some (zI a1), some (zI a2)]) rfl (Nat.le_of_ble_eq_true rfl) ?_
  unfold f9_isLot at h
  refine zr_aload_n (i := 0) d_9_isLot_0 rfl rfl ?_
  refine zr_geti d_9_isLot_1 fw_9_322 (by decide) ?_
  refine zr_if_ne (tgt := 34) d_9_isLot_4 rfl (fun hc1 => ?_) (fun hc1 => ?_)
  · replace h := z_ip h hc1
    refine zr_aload_n (i := 0) d_9_isLot_7 rfl rfl ?_
    refine zr_geti d_9_isLot_8 fw_9_319 (by decide) ?_
    refine zr_sipush (v := (181 : Int32)) d_9_isLot_11 rfl ?_
    refine zr_callSi (av := [zI (μ.1 9 0 50), zI (181 : Int32)]) (st := []) d_9_isLot_14 mw_9_mixed ml_9_329 is_9_mixed rfl rfl (Nat.le_of_ble_eq_true rfl) fit_1_3_2 (s9_mixed rfl) ?_
    refine zr_iload_n (i := 1) d_9_isLot_17 rfl rfl ?_
    refine zr_callSi (av := [zI (f9_mixed (μ.1 9 0 50) (181 : Int32)), zI a1]) (st := []) d_9_isLot_18 mw_9_mixed ml_9_329 is_9_mixed rfl rfl (Nat.le_of_ble_eq_true rfl) fit_1_3_2 (s9_mixed rfl) ?_
    refine zr_iconst (v := (1 : Int32)) d_9_isLot_21 rfl ?_
    refine zr_iushr d_9_isLot_22 ?_
    refine zr_bipush (v := (100 : Int32)) d_9_isLot_23 rfl ?_
    refine zr_irem d_9_isLot_25 (by decide) ?_
    refine zr_iload_n (i := 2) d_9_isLot_26 rfl rfl ?_
    refine zr_icmp_ge (tgt := 34) d_9_isLot_27 rfl (fun hc4 => ?_) (fun hc4 => ?_)
    · replace h := z_ip h hc4
      refine zr_iconst (v := (1 : Int32)) d_9_isLot_30 rfl ?_
      refine zr_goto (tgt := 35) d_9_isLot_31 rfl ?_
      obtain rfl := h
      exact ze_z d_9_isLot_35 rfl rfl
    · replace h := z_im h hc4
      refine zr_iconst (v := (0 : Int32)) d_9_isLot_34 rfl ?_
      obtain rfl := h
      exact ze_z d_9_isLot_35 rfl rfl
  · replace h := z_im h hc1
    refine zr_iconst (v := (0 : Int32)) d_9_isLot_34 rfl ?_
    obtain rfl := h
    exact ze_z d_9_isLot_35 rfl rfl
def f9_hasRight (a1 : Int32) (a2 : Int32) (μ : zMem) : Option (Int32) :=
  if z_in ((28 : Int32) + a2) 34 = true then (if (((μ.1 149 0 ((28 : Int32) + a2).toNatClampNeg) >>> (a1 &&& 31)) &&& (1 : Int32)) = (1 : Int32) then some (1 : Int32) else some (0 : Int32)) else none
theorem s9_hasRight {P : zP} {μ : zMem} {a1 : Int32} {a2 : Int32} {r : Int32} (h : f9_hasRight a1 a2 μ = some r) : z_Sp P y_9_hasRight M_9_hasRight 1 [zA 9 0, zI a1, zI a2] μ (some (zI r)) μ := by
  refine z_Sp.of (plainFor_of_name (by decide)) rfl (l0 := [some (zA 9 0), some (zI a1), some (zI a2)]) rfl (Nat.le_of_ble_eq_true rfl) ?_
  unfold f9_hasRight at h
  refine zr_aload_n (i := 0) d_9_hasRight_0 rfl rfl ?_
  refine zr_gets (i' := 0) d_9_hasRight_1 fw_9_113 rfl ?_
  refine zr_bipush (v := (28 : Int32)) d_9_hasRight_4 rfl ?_
  refine zr_iload_n (i := 2) d_9_hasRight_6 rfl rfl ?_
  refine zr_iadd d_9_hasRight_7 ?_
  obtain ⟨hb1, h⟩ := z_gd h
  refine zr_iald d_9_hasRight_8 sa_149 rfl hb1 ?_
  refine zr_iload_n (i := 1) d_9_hasRight_9 rfl rfl ?_
  refine zr_ishr d_9_hasRight_10 ?_
  refine zr_iconst (v := (1 : Int32)) d_9_hasRight_11 rfl ?_
  refine zr_iand d_9_hasRight_12 ?_
  refine zr_iconst (v := (1 : Int32)) d_9_hasRight_13 rfl ?_
  refine zr_icmp_ne (tgt := 21) d_9_hasRight_14 rfl (fun hc2 => ?_) (fun hc2 => ?_)
  · replace h := z_ip h hc2
    refine zr_iconst (v := (1 : Int32)) d_9_hasRight_17 rfl ?_
    refine zr_goto (tgt := 22) d_9_hasRight_18 rfl ?_
    obtain rfl := Option.some.inj h
    exact ze_z d_9_hasRight_22 rfl rfl
  · replace h := z_im h hc2
    refine zr_iconst (v := (0 : Int32)) d_9_hasRight_21 rfl ?_
    obtain rfl := Option.some.inj h
    exact ze_z d_9_hasRight_22 rfl rfl
def f9_longestBut_L1 (a1 : Int32) (a2 : Int32) (μ : zMem) : (Int32 × Int32) → Option ((Int32 × Int32) ⊕ (Int32)) := (z_u2 fun x2 x3 => 
  if z_in (μ.1 9 0 18) 2 = true then (if x3 < (μ.1 126 0 (μ.1 9 0 18).toNatClampNeg) then ((if x3 = a2 then some x2 else if z_in x3 34 = true then (if (μ.1 149 0 x3.toNatClampNeg) = (1 : Int32) then (f9_hasRight x3 a1 μ).bind (fun q11 => (if q11 = 0 then some x2 else (if x2 < 0 then some x3 else if z_in ((7 : Int32) + x3) 34 = true then if z_in ((7 : Int32) + x2) 34 = true then (if (μ.1 149 0 ((7 : Int32) + x2).toNatClampNeg) < (μ.1 149 0 ((7 : Int32) + x3).toNatClampNeg) then some x3 else some x2) else none else none))) else some x2) else none) : Option (Int32)).bind (fun j18 => some (.inl (j18, (x3 + (1 : Int32))))) else some (.inr x2)) else none)
def f9_longestBut (a1 : Int32) (a2 : Int32) (μ : zMem) : Option (Int32) :=
  (z_it (f9_longestBut_L1 a1 a2 μ) z_fu ((-2 : Int32), (0 : Int32))).bind (fun e19 => some e19)
theorem s9_longestBut_L1 {P : zP} {ro : Option zV} {μo : zMem} (a1 : Int32) (a2 : Int32) (μ : zMem) (x2 : Int32) (x3 : Int32) (K : (Int32 × Int32) ⊕ (Int32)) (h : f9_longestBut_L1 a1 a2 μ (x2, x3) = some K) (hI : ∀ (y0 : Int32) (y1 : Int32), K = .inl (y0, y1) → z_RQ P M_9_longestBut (z_rm 2) (z_mq P ro μo) 0 0 6 [some (zA 9 0), some (zI a1), some (zI a2), some (zI y0), some (zI y1)] [] μ) (hE : ∀ (z0 : Int32), K = .inr z0 → z_RQ P M_9_longestBut (z_rm 2) (z_mq P ro μo) 0 0 85 [none, none, none, some (zI z0), none] [] μ)  : z_RQ P M_9_longestBut (z_rm 2) (z_mq P ro μo) 0 0 6 [some (zA 9 0), some (zI a1), some (zI a2), some (zI x2), some (zI x3)] [] μ := by
  unfold f9_longestBut_L1 at h
  replace h := z_h2 h
  refine zr_iload d_9_longestBut_6 rfl ?_
  refine zr_aload_n (i := 0) d_9_longestBut_8 rfl rfl ?_
  refine zr_gets (i' := 0) d_9_longestBut_9 fw_9_55 rfl ?_
  refine zr_aload_n (i := 0) d_9_longestBut_12 rfl rfl ?_
  refine zr_geti d_9_longestBut_13 fw_9_233 (by decide) ?_
  obtain ⟨hb4, h⟩ := z_gd h
  refine zr_iald d_9_longestBut_16 sa_126 rfl hb4 ?_
  refine zr_icmp_ge (tgt := 85) d_9_longestBut_17 rfl (fun hc5 => ?_) (fun hc5 => ?_)
  · replace h := z_ip h hc5
    refine zr_iload d_9_longestBut_20 rfl ?_
    refine zr_iload_n (i := 2) d_9_longestBut_22 rfl rfl ?_
    obtain ⟨j18, hT6, h⟩ := z_bd h
    have hJ7 : z_RQ P M_9_longestBut (z_rm 2) (z_mq P ro μo) 0 0 79 [some (zA 9 0), some (zI a1), some (zI a2), some (zI j18), some (zI x3)] [] μ := by
      refine zr_iinc (v := (x3 + (1 : Int32))) (l' := [some (zA 9 0), some (zI a1), some (zI a2), some (zI j18), some (zI (x3 + (1 : Int32)))]) d_9_longestBut_79 (by decide) rfl rfl rfl ?_
      refine zr_goto (tgt := 6) d_9_longestBut_82 rfl ?_
      obtain rfl := Option.some.inj h
      exact zr_wk2 (hI j18 (x3 + (1 : Int32)) rfl) ⟨rfl, ⟨rfl, ⟨rfl, ⟨rfl, ⟨rfl, trivial⟩⟩⟩⟩⟩
    refine zr_icmp_eq (tgt := 79) d_9_longestBut_23 rfl (fun hc8 => ?_) (fun hc8 => ?_)
    · replace hT6 := z_ip hT6 hc8
      obtain rfl := Option.some.inj hT6
      exact zr_wk2 hJ7 ⟨rfl, ⟨rfl, ⟨rfl, ⟨rfl, ⟨rfl, trivial⟩⟩⟩⟩⟩
    · replace hT6 := z_im hT6 hc8
      refine zr_aload_n (i := 0) d_9_longestBut_26 rfl rfl ?_
      refine zr_gets (i' := 0) d_9_longestBut_27 fw_9_113 rfl ?_
      refine zr_iload d_9_longestBut_30 rfl ?_
      obtain ⟨hb9, hT6⟩ := z_gd hT6
      refine zr_iald d_9_longestBut_32 sa_149 rfl hb9 ?_
      refine zr_iconst (v := (1 : Int32)) d_9_longestBut_33 rfl ?_
      refine zr_icmp_ne (tgt := 79) d_9_longestBut_34 rfl (fun hc10 => ?_) (fun hc10 => ?_)
      · replace hT6 := z_ip hT6 hc10
        refine zr_aload_n (i := 0) d_9_longestBut_37 rfl rfl ?_
        refine zr_iload d_9_longestBut_38 rfl ?_
        refine zr_iload_n (i := 1) d_9_longestBut_40 rfl rfl ?_
        obtain ⟨q11, hq12, hT6⟩ := z_bd hT6
        refine zr_callVi (av := [zI x3, zI a1]) (st := []) d_9_longestBut_41 mw_9_hasRight ml_9_333 im_9_hasRight se_9_hasRight rfl rfl (Nat.le_of_ble_eq_true rfl) fit_1_3_2 rfl rfl rfl (s9_hasRight hq12) ?_
        refine zr_if_ne (tgt := 50) d_9_longestBut_44 rfl (fun hc13 => ?_) (fun hc13 => ?_)
        · replace hT6 := z_ip hT6 hc13
          refine zr_goto (tgt := 79) d_9_longestBut_47 rfl ?_
          obtain rfl := Option.some.inj hT6
          exact zr_wk2 hJ7 ⟨rfl, ⟨rfl, ⟨rfl, ⟨rfl, ⟨rfl, trivial⟩⟩⟩⟩⟩
        · replace hT6 := z_im hT6 hc13
          refine zr_iload_n (i := 3) d_9_longestBut_50 rfl rfl ?_
          refine zr_if_lt (tgt := 76) d_9_longestBut_51 rfl (fun hc14 => ?_) (fun hc14 => ?_)
          · replace hT6 := z_ip hT6 hc14
            refine zr_iload d_9_longestBut_76 rfl ?_
            refine zr_istore_n (i := 3) (l' := [some (zA 9 0), some (zI a1), some (zI a2), some (zI x3), some (zI x3)]) d_9_longestBut_78 rfl (by decide) rfl ?_
            obtain rfl := Option.some.inj hT6
            exact zr_wk2 hJ7 ⟨rfl, ⟨rfl, ⟨rfl, ⟨rfl, ⟨rfl, trivial⟩⟩⟩⟩⟩
          · replace hT6 := z_im hT6 hc14
            refine zr_aload_n (i := 0) d_9_longestBut_54 rfl rfl ?_
            refine zr_gets (i' := 0) d_9_longestBut_55 fw_9_113 rfl ?_
            refine zr_bipush (v := (7 : Int32)) d_9_longestBut_58 rfl ?_
            refine zr_iload d_9_longestBut_60 rfl ?_
            refine zr_iadd d_9_longestBut_62 ?_
            obtain ⟨hb15, hT6⟩ := z_gd hT6
            refine zr_iald d_9_longestBut_63 sa_149 rfl hb15 ?_
            refine zr_aload_n (i := 0) d_9_longestBut_64 rfl rfl ?_
            refine zr_gets (i' := 0) d_9_longestBut_65 fw_9_113 rfl ?_
            refine zr_bipush (v := (7 : Int32)) d_9_longestBut_68 rfl ?_
            refine zr_iload_n (i := 3) d_9_longestBut_70 rfl rfl ?_
            refine zr_iadd d_9_longestBut_71 ?_
            obtain ⟨hb16, hT6⟩ := z_gd hT6
            refine zr_iald d_9_longestBut_72 sa_149 rfl hb16 ?_
            refine zr_icmp_le (tgt := 79) d_9_longestBut_73 rfl (fun hc17 => ?_) (fun hc17 => ?_)
            · replace hT6 := z_ip hT6 hc17
              refine zr_iload d_9_longestBut_76 rfl ?_
              refine zr_istore_n (i := 3) (l' := [some (zA 9 0), some (zI a1), some (zI a2), some (zI x3), some (zI x3)]) d_9_longestBut_78 rfl (by decide) rfl ?_
              obtain rfl := Option.some.inj hT6
              exact zr_wk2 hJ7 ⟨rfl, ⟨rfl, ⟨rfl, ⟨rfl, ⟨rfl, trivial⟩⟩⟩⟩⟩
            · replace hT6 := z_im hT6 hc17
              obtain rfl := Option.some.inj hT6
              exact zr_wk2 hJ7 ⟨rfl, ⟨rfl, ⟨rfl, ⟨rfl, ⟨rfl, trivial⟩⟩⟩⟩⟩
      · replace hT6 := z_im hT6 hc10
        obtain rfl := Option.some.inj hT6
        exact zr_wk2 hJ7 ⟨rfl, ⟨rfl, ⟨rfl, ⟨rfl, ⟨rfl, trivial⟩⟩⟩⟩⟩
  · replace h := z_im h hc5
    obtain rfl := Option.some.inj h
    exact zr_wk2 (hE x2 rfl) ⟨rfl, trivial⟩
theorem s9_longestBut {P : zP} {μ : zMem} {a1 : Int32} {a2 : Int32} {r : Int32} (h : f9_longestBut a1 a2 μ = some r) : z_Sp P y_9_longestBut M_9_longestBut 2 [zA 9 0, zI a1, zI a2] μ (some (zI r)) μ := by
  refine z_Sp.of (plainFor_of_name (by decide)) rfl (l0 := [some (zA 9 0), some (zI a1), some (zI a2), none, none]) rfl (Nat.le_of_ble_eq_true rfl) ?_
  unfold f9_longestBut at h
  refine zr_bipush (v := (-2 : Int32)) d_9_longestBut_0 (by decide) ?_
  refine zr_istore_n (i := 3) (l' := [some (zA 9 0), some (zI a1), some (zI a2), some (zI (-2 : Int32)), none]) d_9_longestBut_2 rfl (by decide) rfl ?_
  refine zr_iconst (v := (0 : Int32)) d_9_longestBut_3 rfl ?_
  refine zr_istore (i := 4) (l' := [some (zA 9 0), some (zI a1), some (zI a2), some (zI (-2 : Int32)), some (zI (0 : Int32))]) d_9_longestBut_4 (by decide) rfl ?_
  obtain ⟨e19, hl20, h⟩ := z_bd h
  refine zr_wk (l' := [some (zA 9 0), some (zI a1), some (zI a2), some (zI (-2 : Int32)), some (zI (0 : Int32))]) ⟨rfl, ⟨rfl, ⟨rfl, ⟨rfl, ⟨rfl, trivial⟩⟩⟩⟩⟩ ?_
  refine z_loop (Hd := (z_u2 fun y0 y1 => z_RQ P M_9_longestBut (z_rm 2) (z_mq P (some (zI r)) μ) 0 0 6 [some (zA 9 0), some (zI a1), some (zI a2), some (zI y0), some (zI y1)] [] μ)) (Ex := (fun z0 => z_RQ P M_9_longestBut (z_rm 2) (z_mq P (some (zI r)) μ) 0 0 85 [none, none, none, some (zI z0), none] [] μ)) (fun ⟨x2, x3⟩ K h hI hE => s9_longestBut_L1 a1 a2 μ x2 x3 K h (fun y0 y1 e => hI (y0, y1) e) (fun z0 e => hE z0 e) ) _ _ _ hl20 ?_
  refine zr_iload_n (i := 3) d_9_longestBut_85 rfl rfl ?_
  obtain rfl := Option.some.inj h
  exact ze_i d_9_longestBut_86 rfl
def f9_lordOf (a1 : Int32) (μ : zMem) : Option (Int32) :=
  (f9_longestBut a1 (-1 : Int32) μ).bind (fun q1 => some q1)
theorem s9_lordOf {P : zP} {μ : zMem} {a1 : Int32} {r : Int32} (h : f9_lordOf a1 μ = some r) : z_Sp P y_9_lordOf M_9_lordOf 3 [zA 9 0, zI a1] μ (some (zI r)) μ := by
  refine z_Sp.of (plainFor_of_name (by decide)) rfl (l0 := [some (zA 9 0), some (zI a1)]) rfl (Nat.le_of_ble_eq_true rfl) ?_
  unfold f9_lordOf at h
  refine zr_aload_n (i := 0) d_9_lordOf_0 rfl rfl ?_
  refine zr_iload_n (i := 1) d_9_lordOf_1 rfl rfl ?_
  refine zr_iconst (v := (-1 : Int32)) d_9_lordOf_2 rfl ?_
  obtain ⟨q1, hq2, h⟩ := z_bd h
  refine zr_callVi (av := [zI a1, zI (-1 : Int32)]) (st := []) d_9_lordOf_3 mw_9_longestBut ml_9_337 im_9_longestBut se_9_longestBut rfl rfl (Nat.le_of_ble_eq_true rfl) fit_2_5_3 rfl rfl rfl (s9_longestBut hq2) ?_
  obtain rfl := Option.some.inj h
  exact ze_i d_9_lordOf_6 rfl
def f9_lordBits_L1 (a1 : Int32) (μ : zMem) : (Int32 × Int32) → Option ((Int32 × Int32) ⊕ (Int32)) := (z_u2 fun x2 x3 => 
  if z_in (μ.1 9 0 18) 2 = true then (if x3 < (μ.1 123 0 (μ.1 9 0 18).toNatClampNeg) then (f9_lordOf x3 μ).bind (fun q6 => ((if q6 = a1 then z_let (x2 ||| ((1 : Int32) <<< (x3 &&& 31))) fun v11 => some v11 else some x2) : Option (Int32)).bind (fun j13 => some (.inl (j13, (x3 + (1 : Int32)))))) else some (.inr x2)) else none)
def f9_lordBits (a1 : Int32) (μ : zMem) : Option (Int32) :=
  (z_it (f9_lordBits_L1 a1 μ) z_fu ((0 : Int32), (0 : Int32))).bind (fun e14 => some e14)
theorem s9_lordBits_L1 {P : zP} {ro : Option zV} {μo : zMem} (a1 : Int32) (μ : zMem) (x2 : Int32) (x3 : Int32) (K : (Int32 × Int32) ⊕ (Int32)) (h : f9_lordBits_L1 a1 μ (x2, x3) = some K) (hI : ∀ (y0 : Int32) (y1 : Int32), K = .inl (y0, y1) → z_RQ P M_9_lordBits (z_rm 4) (z_mq P ro μo) 0 0 4 [some (zA 9 0), some (zI a1), some (zI y0), some (zI y1)] [] μ) (hE : ∀ (z0 : Int32), K = .inr z0 → z_RQ P M_9_lordBits (z_rm 4) (z_mq P ro μo) 0 0 38 [none, none, some (zI z0), none] [] μ)  : z_RQ P M_9_lordBits (z_rm 4) (z_mq P ro μo) 0 0 4 [some (zA 9 0), some (zI a1), some (zI x2), some (zI x3)] [] μ := by
  unfold f9_lordBits_L1 at h
  replace h := z_h2 h
  refine zr_iload_n (i := 3) d_9_lordBits_4 rfl rfl ?_
  refine zr_aload_n (i := 0) d_9_lordBits_5 rfl rfl ?_
  refine zr_gets (i' := 0) d_9_lordBits_6 fw_9_46 rfl ?_
  refine zr_aload_n (i := 0) d_9_lordBits_9 rfl rfl ?_
  refine zr_geti d_9_lordBits_10 fw_9_233 (by decide) ?_
  obtain ⟨hb4, h⟩ := z_gd h
  refine zr_iald d_9_lordBits_13 sa_123 rfl hb4 ?_
  refine zr_icmp_ge (tgt := 38) d_9_lordBits_14 rfl (fun hc5 => ?_) (fun hc5 => ?_)
  · replace h := z_ip h hc5
    refine zr_aload_n (i := 0) d_9_lordBits_17 rfl rfl ?_
    refine zr_iload_n (i := 3) d_9_lordBits_18 rfl rfl ?_
    obtain ⟨q6, hq7, h⟩ := z_bd h
    refine zr_callVi (av := [zI x3]) (st := []) d_9_lordBits_19 mw_9_lordOf ml_9_340 im_9_lordOf se_9_lordOf rfl rfl (Nat.le_of_ble_eq_true rfl) fit_3_2_4 rfl rfl rfl (s9_lordOf hq7) ?_
    refine zr_iload_n (i := 1) d_9_lordBits_22 rfl rfl ?_
    obtain ⟨j13, hT8, h⟩ := z_bd h
    have hJ9 : z_RQ P M_9_lordBits (z_rm 4) (z_mq P ro μo) 0 0 32 [some (zA 9 0), some (zI a1), some (zI j13), some (zI x3)] [] μ := by
      refine zr_iinc (v := (x3 + (1 : Int32))) (l' := [some (zA 9 0), some (zI a1), some (zI j13), some (zI (x3 + (1 : Int32)))]) d_9_lordBits_32 (by decide) rfl rfl rfl ?_
      refine zr_goto (tgt := 4) d_9_lordBits_35 rfl ?_
      obtain rfl := Option.some.inj h
      exact zr_wk2 (hI j13 (x3 + (1 : Int32)) rfl) ⟨rfl, ⟨rfl, ⟨rfl, ⟨rfl, trivial⟩⟩⟩⟩
    refine zr_icmp_ne (tgt := 32) d_9_lordBits_23 rfl (fun hc10 => ?_) (fun hc10 => ?_)
    · replace hT8 := z_ip hT8 hc10
      refine zr_iload_n (i := 2) d_9_lordBits_26 rfl rfl ?_
      refine zr_iconst (v := (1 : Int32)) d_9_lordBits_27 rfl ?_
      refine zr_iload_n (i := 3) d_9_lordBits_28 rfl rfl ?_
      refine zr_ishl d_9_lordBits_29 ?_
      refine zr_ior d_9_lordBits_30 ?_
      obtain ⟨v11, hv12, hT8⟩ := z_lt hT8
      refine zr_nm hv12 ?_
      refine zr_istore_n (i := 2) (l' := [some (zA 9 0), some (zI a1), some (zI v11), some (zI x3)]) d_9_lordBits_31 rfl (by decide) rfl ?_
      obtain rfl := Option.some.inj hT8
      exact zr_wk2 hJ9 ⟨rfl, ⟨rfl, ⟨rfl, ⟨rfl, trivial⟩⟩⟩⟩
    · replace hT8 := z_im hT8 hc10
      obtain rfl := Option.some.inj hT8
      exact zr_wk2 hJ9 ⟨rfl, ⟨rfl, ⟨rfl, ⟨rfl, trivial⟩⟩⟩⟩
  · replace h := z_im h hc5
    obtain rfl := Option.some.inj h
    exact zr_wk2 (hE x2 rfl) ⟨rfl, trivial⟩
theorem s9_lordBits {P : zP} {μ : zMem} {a1 : Int32} {r : Int32} (h : f9_lordBits a1 μ = some r) : z_Sp P y_9_lordBits M_9_lordBits 4 [zA 9 0, zI a1] μ (some (zI r)) μ := by
  refine z_Sp.of (plainFor_of_name (by decide)) rfl (l0 := [some (zA 9 0), some (zI a1), none, none]) rfl (Nat.le_of_ble_eq_true rfl) ?_
  unfold f9_lordBits at h
  refine zr_iconst (v := (0 : Int32)) d_9_lordBits_0 rfl ?_
  refine zr_istore_n (i := 2) (l' := [some (zA 9 0), some (zI a1), some (zI (0 : Int32)), none]) d_9_lordBits_1 rfl (by decide) rfl ?_
  refine zr_iconst (v := (0 : Int32)) d_9_lordBits_2 rfl ?_
  refine zr_istore_n (i := 3) (l' := [some (zA 9 0), some (zI a1), some (zI (0 : Int32)), some (zI (0 : Int32))]) d_9_lordBits_3 rfl (by decide) rfl ?_
  obtain ⟨e14, hl15, h⟩ := z_bd h
  refine zr_wk (l' := [some (zA 9 0), some (zI a1), some (zI (0 : Int32)), some (zI (0 : Int32))]) ⟨rfl, ⟨rfl, ⟨rfl, ⟨rfl, trivial⟩⟩⟩⟩ ?_
  refine z_loop (Hd := (z_u2 fun y0 y1 => z_RQ P M_9_lordBits (z_rm 4) (z_mq P (some (zI r)) μ) 0 0 4 [some (zA 9 0), some (zI a1), some (zI y0), some (zI y1)] [] μ)) (Ex := (fun z0 => z_RQ P M_9_lordBits (z_rm 4) (z_mq P (some (zI r)) μ) 0 0 38 [none, none, some (zI z0), none] [] μ)) (fun ⟨x2, x3⟩ K h hI hE => s9_lordBits_L1 a1 μ x2 x3 K h (fun y0 y1 e => hI (y0, y1) e) (fun z0 e => hE z0 e) ) _ _ _ hl15 ?_
  refine zr_iload_n (i := 2) d_9_lordBits_38 rfl rfl ?_
  obtain rfl := Option.some.inj h
  exact ze_i d_9_lordBits_39 rfl
def f9_rightBits_L1 (a1 : Int32) (μ : zMem) : (Int32 × Int32) → Option ((Int32 × Int32) ⊕ (Int32)) := (z_u2 fun x2 x3 => 
  if z_in (μ.1 9 0 18) 2 = true then (if x3 < (μ.1 123 0 (μ.1 9 0 18).toNatClampNeg) then (f9_hasRight a1 x3 μ).bind (fun q6 => ((if q6 = 0 then some x2 else z_let (x2 ||| ((1 : Int32) <<< (x3 &&& 31))) fun v11 => some v11) : Option (Int32)).bind (fun j13 => some (.inl (j13, (x3 + (1 : Int32)))))) else some (.inr x2)) else none)
def f9_rightBits (a1 : Int32) (μ : zMem) : Option (Int32) :=
  (z_it (f9_rightBits_L1 a1 μ) z_fu ((0 : Int32), (0 : Int32))).bind (fun e14 => some e14)
theorem s9_rightBits_L1 {P : zP} {ro : Option zV} {μo : zMem} (a1 : Int32) (μ : zMem) (x2 : Int32) (x3 : Int32) (K : (Int32 × Int32) ⊕ (Int32)) (h : f9_rightBits_L1 a1 μ (x2, x3) = some K) (hI : ∀ (y0 : Int32) (y1 : Int32), K = .inl (y0, y1) → z_RQ P M_9_rightBits (z_rm 2) (z_mq P ro μo) 0 0 4 [some (zA 9 0), some (zI a1), some (zI y0), some (zI y1)] [] μ) (hE : ∀ (z0 : Int32), K = .inr z0 → z_RQ P M_9_rightBits (z_rm 2) (z_mq P ro μo) 0 0 38 [none, none, some (zI z0), none] [] μ)  : z_RQ P M_9_rightBits (z_rm 2) (z_mq P ro μo) 0 0 4 [some (zA 9 0), some (zI a1), some (zI x2), some (zI x3)] [] μ := by
  unfold f9_rightBits_L1 at h
  replace h := z_h2 h
  refine zr_iload_n (i := 3) d_9_rightBits_4 rfl rfl ?_
  refine zr_aload_n (i := 0) d_9_rightBits_5 rfl rfl ?_
  refine zr_gets (i' := 0) d_9_rightBits_6 fw_9_46 rfl ?_
  refine zr_aload_n (i := 0) d_9_rightBits_9 rfl rfl ?_
  refine zr_geti d_9_rightBits_10 fw_9_233 (by decide) ?_
  obtain ⟨hb4, h⟩ := z_gd h
  refine zr_iald d_9_rightBits_13 sa_123 rfl hb4 ?_
  refine zr_icmp_ge (tgt := 38) d_9_rightBits_14 rfl (fun hc5 => ?_) (fun hc5 => ?_)
  · replace h := z_ip h hc5
    refine zr_aload_n (i := 0) d_9_rightBits_17 rfl rfl ?_
    refine zr_iload_n (i := 1) d_9_rightBits_18 rfl rfl ?_
    refine zr_iload_n (i := 3) d_9_rightBits_19 rfl rfl ?_
    obtain ⟨q6, hq7, h⟩ := z_bd h
    refine zr_callVi (av := [zI a1, zI x3]) (st := []) d_9_rightBits_20 mw_9_hasRight ml_9_333 im_9_hasRight se_9_hasRight rfl rfl (Nat.le_of_ble_eq_true rfl) fit_1_3_2 rfl rfl rfl (s9_hasRight hq7) ?_
    obtain ⟨j13, hT8, h⟩ := z_bd h
    have hJ9 : z_RQ P M_9_rightBits (z_rm 2) (z_mq P ro μo) 0 0 32 [some (zA 9 0), some (zI a1), some (zI j13), some (zI x3)] [] μ := by
      refine zr_iinc (v := (x3 + (1 : Int32))) (l' := [some (zA 9 0), some (zI a1), some (zI j13), some (zI (x3 + (1 : Int32)))]) d_9_rightBits_32 (by decide) rfl rfl rfl ?_
      refine zr_goto (tgt := 4) d_9_rightBits_35 rfl ?_
      obtain rfl := Option.some.inj h
      exact zr_wk2 (hI j13 (x3 + (1 : Int32)) rfl) ⟨rfl, ⟨rfl, ⟨rfl, ⟨rfl, trivial⟩⟩⟩⟩
    refine zr_if_eq (tgt := 32) d_9_rightBits_23 rfl (fun hc10 => ?_) (fun hc10 => ?_)
    · replace hT8 := z_ip hT8 hc10
      obtain rfl := Option.some.inj hT8
      exact zr_wk2 hJ9 ⟨rfl, ⟨rfl, ⟨rfl, ⟨rfl, trivial⟩⟩⟩⟩
    · replace hT8 := z_im hT8 hc10
      refine zr_iload_n (i := 2) d_9_rightBits_26 rfl rfl ?_
      refine zr_iconst (v := (1 : Int32)) d_9_rightBits_27 rfl ?_
      refine zr_iload_n (i := 3) d_9_rightBits_28 rfl rfl ?_
      refine zr_ishl d_9_rightBits_29 ?_
      refine zr_ior d_9_rightBits_30 ?_
      obtain ⟨v11, hv12, hT8⟩ := z_lt hT8
      refine zr_nm hv12 ?_
      refine zr_istore_n (i := 2) (l' := [some (zA 9 0), some (zI a1), some (zI v11), some (zI x3)]) d_9_rightBits_31 rfl (by decide) rfl ?_
      obtain rfl := Option.some.inj hT8
      exact zr_wk2 hJ9 ⟨rfl, ⟨rfl, ⟨rfl, ⟨rfl, trivial⟩⟩⟩⟩
  · replace h := z_im h hc5
    obtain rfl := Option.some.inj h
    exact zr_wk2 (hE x2 rfl) ⟨rfl, trivial⟩
theorem s9_rightBits {P : zP} {μ : zMem} {a1 : Int32} {r : Int32} (h : f9_rightBits a1 μ = some r) : z_Sp P y_9_rightBits M_9_rightBits 2 [zA 9 0, zI a1] μ (some (zI r)) μ := by
  refine z_Sp.of (plainFor_of_name (by decide)) rfl (l0 := [some (zA 9 0), some (zI a1), none, none]) rfl (Nat.le_of_ble_eq_true rfl) ?_
  unfold f9_rightBits at h
  refine zr_iconst (v := (0 : Int32)) d_9_rightBits_0 rfl ?_
  refine zr_istore_n (i := 2) (l' := [some (zA 9 0), some (zI a1), some (zI (0 : Int32)), none]) d_9_rightBits_1 rfl (by decide) rfl ?_
  refine zr_iconst (v := (0 : Int32)) d_9_rightBits_2 rfl ?_
  refine zr_istore_n (i := 3) (l' := [some (zA 9 0), some (zI a1), some (zI (0 : Int32)), some (zI (0 : Int32))]) d_9_rightBits_3 rfl (by decide) rfl ?_
  obtain ⟨e14, hl15, h⟩ := z_bd h
  refine zr_wk (l' := [some (zA 9 0), some (zI a1), some (zI (0 : Int32)), some (zI (0 : Int32))]) ⟨rfl, ⟨rfl, ⟨rfl, ⟨rfl, trivial⟩⟩⟩⟩ ?_
  refine z_loop (Hd := (z_u2 fun y0 y1 => z_RQ P M_9_rightBits (z_rm 2) (z_mq P (some (zI r)) μ) 0 0 4 [some (zA 9 0), some (zI a1), some (zI y0), some (zI y1)] [] μ)) (Ex := (fun z0 => z_RQ P M_9_rightBits (z_rm 2) (z_mq P (some (zI r)) μ) 0 0 38 [none, none, some (zI z0), none] [] μ)) (fun ⟨x2, x3⟩ K h hI hE => s9_rightBits_L1 a1 μ x2 x3 K h (fun y0 y1 e => hI (y0, y1) e) (fun z0 e => hE z0 e) ) _ _ _ hl15 ?_
  refine zr_iload_n (i := 2) d_9_rightBits_38 rfl rfl ?_
  obtain rfl := Option.some.inj h
  exact ze_i d_9_rightBits_39 rfl
def f9_inState_L1 (a1 : Int32) (μ : zMem) : (Int32 × Int32) → Option ((Int32 × Int32) ⊕ (Int32)) := (z_u2 fun x2 x3 => 
  if z_in (μ.1 9 0 18) 2 = true then (if x3 < (μ.1 126 0 (μ.1 9 0 18).toNatClampNeg) then if z_in x3 34 = true then ((if (μ.1 149 0 x3.toNatClampNeg) = a1 then z_let (x2 ||| ((1 : Int32) <<< (x3 &&& 31))) fun v10 => some v10 else some x2) : Option (Int32)).bind (fun j12 => some (.inl (j12, (x3 + (1 : Int32))))) else none else some (.inr x2)) else none)
def f9_inState (a1 : Int32) (μ : zMem) : Option (Int32) :=
  (z_it (f9_inState_L1 a1 μ) z_fu ((0 : Int32), (0 : Int32))).bind (fun e13 => some e13)
theorem s9_inState_L1 {P : zP} {ro : Option zV} {μo : zMem} (a1 : Int32) (μ : zMem) (x2 : Int32) (x3 : Int32) (K : (Int32 × Int32) ⊕ (Int32)) (h : f9_inState_L1 a1 μ (x2, x3) = some K) (hI : ∀ (y0 : Int32) (y1 : Int32), K = .inl (y0, y1) → z_RQ P M_9_inState (z_rm 1) (z_mq P ro μo) 0 0 4 [some (zA 9 0), some (zI a1), some (zI y0), some (zI y1)] [] μ) (hE : ∀ (z0 : Int32), K = .inr z0 → z_RQ P M_9_inState (z_rm 1) (z_mq P ro μo) 0 0 39 [none, none, some (zI z0), none] [] μ)  : z_RQ P M_9_inState (z_rm 1) (z_mq P ro μo) 0 0 4 [some (zA 9 0), some (zI a1), some (zI x2), some (zI x3)] [] μ := by
  unfold f9_inState_L1 at h
  replace h := z_h2 h
  refine zr_iload_n (i := 3) d_9_inState_4 rfl rfl ?_
  refine zr_aload_n (i := 0) d_9_inState_5 rfl rfl ?_
  refine zr_gets (i' := 0) d_9_inState_6 fw_9_55 rfl ?_
  refine zr_aload_n (i := 0) d_9_inState_9 rfl rfl ?_
  refine zr_geti d_9_inState_10 fw_9_233 (by decide) ?_
  obtain ⟨hb4, h⟩ := z_gd h
  refine zr_iald d_9_inState_13 sa_126 rfl hb4 ?_
  refine zr_icmp_ge (tgt := 39) d_9_inState_14 rfl (fun hc5 => ?_) (fun hc5 => ?_)
  · replace h := z_ip h hc5
    refine zr_aload_n (i := 0) d_9_inState_17 rfl rfl ?_
    refine zr_gets (i' := 0) d_9_inState_18 fw_9_113 rfl ?_
    refine zr_iload_n (i := 3) d_9_inState_21 rfl rfl ?_
    obtain ⟨hb6, h⟩ := z_gd h
    refine zr_iald d_9_inState_22 sa_149 rfl hb6 ?_
    refine zr_iload_n (i := 1) d_9_inState_23 rfl rfl ?_
    obtain ⟨j12, hT7, h⟩ := z_bd h
    have hJ8 : z_RQ P M_9_inState (z_rm 1) (z_mq P ro μo) 0 0 33 [some (zA 9 0), some (zI a1), some (zI j12), some (zI x3)] [] μ := by
      refine zr_iinc (v := (x3 + (1 : Int32))) (l' := [some (zA 9 0), some (zI a1), some (zI j12), some (zI (x3 + (1 : Int32)))]) d_9_inState_33 (by decide) rfl rfl rfl ?_
      refine zr_goto (tgt := 4) d_9_inState_36 rfl ?_
      obtain rfl := Option.some.inj h
      exact zr_wk2 (hI j12 (x3 + (1 : Int32)) rfl) ⟨rfl, ⟨rfl, ⟨rfl, ⟨rfl, trivial⟩⟩⟩⟩
    refine zr_icmp_ne (tgt := 33) d_9_inState_24 rfl (fun hc9 => ?_) (fun hc9 => ?_)
    · replace hT7 := z_ip hT7 hc9
      refine zr_iload_n (i := 2) d_9_inState_27 rfl rfl ?_
      refine zr_iconst (v := (1 : Int32)) d_9_inState_28 rfl ?_
      refine zr_iload_n (i := 3) d_9_inState_29 rfl rfl ?_
      refine zr_ishl d_9_inState_30 ?_
      refine zr_ior d_9_inState_31 ?_
      obtain ⟨v10, hv11, hT7⟩ := z_lt hT7
      refine zr_nm hv11 ?_
      refine zr_istore_n (i := 2) (l' := [some (zA 9 0), some (zI a1), some (zI v10), some (zI x3)]) d_9_inState_32 rfl (by decide) rfl ?_
      obtain rfl := Option.some.inj hT7
      exact zr_wk2 hJ8 ⟨rfl, ⟨rfl, ⟨rfl, ⟨rfl, trivial⟩⟩⟩⟩
    · replace hT7 := z_im hT7 hc9
      obtain rfl := Option.some.inj hT7
      exact zr_wk2 hJ8 ⟨rfl, ⟨rfl, ⟨rfl, ⟨rfl, trivial⟩⟩⟩⟩
  · replace h := z_im h hc5
    obtain rfl := Option.some.inj h
    exact zr_wk2 (hE x2 rfl) ⟨rfl, trivial⟩
theorem s9_inState {P : zP} {μ : zMem} {a1 : Int32} {r : Int32} (h : f9_inState a1 μ = some r) : z_Sp P y_9_inState M_9_inState 1 [zA 9 0, zI a1] μ (some (zI r)) μ := by
  refine z_Sp.of (plainFor_of_name (by decide)) rfl (l0 := [some (zA 9 0), some (zI a1), none, none]) rfl (Nat.le_of_ble_eq_true rfl) ?_
  unfold f9_inState at h
  refine zr_iconst (v := (0 : Int32)) d_9_inState_0 rfl ?_
  refine zr_istore_n (i := 2) (l' := [some (zA 9 0), some (zI a1), some (zI (0 : Int32)), none]) d_9_inState_1 rfl (by decide) rfl ?_
  refine zr_iconst (v := (0 : Int32)) d_9_inState_2 rfl ?_
  refine zr_istore_n (i := 3) (l' := [some (zA 9 0), some (zI a1), some (zI (0 : Int32)), some (zI (0 : Int32))]) d_9_inState_3 rfl (by decide) rfl ?_
  obtain ⟨e13, hl14, h⟩ := z_bd h
  refine zr_wk (l' := [some (zA 9 0), some (zI a1), some (zI (0 : Int32)), some (zI (0 : Int32))]) ⟨rfl, ⟨rfl, ⟨rfl, ⟨rfl, trivial⟩⟩⟩⟩ ?_
  refine z_loop (Hd := (z_u2 fun y0 y1 => z_RQ P M_9_inState (z_rm 1) (z_mq P (some (zI r)) μ) 0 0 4 [some (zA 9 0), some (zI a1), some (zI y0), some (zI y1)] [] μ)) (Ex := (fun z0 => z_RQ P M_9_inState (z_rm 1) (z_mq P (some (zI r)) μ) 0 0 39 [none, none, some (zI z0), none] [] μ)) (fun ⟨x2, x3⟩ K h hI hE => s9_inState_L1 a1 μ x2 x3 K h (fun y0 y1 e => hI (y0, y1) e) (fun z0 e => hE z0 e) ) _ _ _ hl14 ?_
  refine zr_iload_n (i := 2) d_9_inState_39 rfl rfl ?_
  obtain rfl := Option.some.inj h
  exact ze_i d_9_inState_40 rfl
def f9_ageNow (a1 : Int32) (μ : zMem) : Option (Int32) :=
  if z_in (((7 : Int32) * (μ.1 9 0 18)) + a1) 14 = true then if z_in a1 34 = true then (if (μ.1 149 0 a1.toNatClampNeg) = (2 : Int32) then if z_in ((21 : Int32) + a1) 34 = true then some ((μ.1 127 0 (((7 : Int32) * (μ.1 9 0 18)) + a1).toNatClampNeg) + (μ.1 149 0 ((21 : Int32) + a1).toNatClampNeg)) else none else some ((μ.1 127 0 (((7 : Int32) * (μ.1 9 0 18)) + a1).toNatClampNeg) + (μ.1 149 0 (33 : Int32).toNatClampNeg))) else none else none
theorem s9_ageNow {P : zP} {μ : zMem} {a1 : Int32} {r : Int32} (h : f9_ageNow a1 μ = some r) : z_Sp P y_9_ageNow M_9_ageNow 1 [zA 9 0, zI a1] μ (some (zI r)) μ := by
  refine z_Sp.of (plainFor_of_name (by decide)) rfl (l0 := [some (zA 9 0), some (zI a1)]) rfl (Nat.le_of_ble_eq_true rfl) ?_
  unfold f9_ageNow at h
  refine zr_aload_n (i := 0) d_9_ageNow_0 rfl rfl ?_
  refine zr_gets (i' := 0) d_9_ageNow_1 fw_9_58 rfl ?_
  refine zr_bipush (v := (7 : Int32)) d_9_ageNow_4 rfl ?_
  refine zr_aload_n (i := 0) d_9_ageNow_6 rfl rfl ?_
  refine zr_geti d_9_ageNow_7 fw_9_233 (by decide) ?_
  refine zr_imul d_9_ageNow_10 ?_
  refine zr_iload_n (i := 1) d_9_ageNow_11 rfl rfl ?_
  refine zr_iadd d_9_ageNow_12 ?_
  obtain ⟨hb1, h⟩ := z_gd h
  refine zr_iald d_9_ageNow_13 sa_127 rfl hb1 ?_
  refine zr_aload_n (i := 0) d_9_ageNow_14 rfl rfl ?_
  refine zr_gets (i' := 0) d_9_ageNow_15 fw_9_113 rfl ?_
  refine zr_iload_n (i := 1) d_9_ageNow_18 rfl rfl ?_
  obtain ⟨hb2, h⟩ := z_gd h
  refine zr_iald d_9_ageNow_19 sa_149 rfl hb2 ?_
  refine zr_iconst (v := (2 : Int32)) d_9_ageNow_20 rfl ?_
  refine zr_icmp_ne (tgt := 36) d_9_ageNow_21 rfl (fun hc3 => ?_) (fun hc3 => ?_)
  · replace h := z_ip h hc3
    refine zr_aload_n (i := 0) d_9_ageNow_24 rfl rfl ?_
    refine zr_gets (i' := 0) d_9_ageNow_25 fw_9_113 rfl ?_
    refine zr_bipush (v := (21 : Int32)) d_9_ageNow_28 rfl ?_
    refine zr_iload_n (i := 1) d_9_ageNow_30 rfl rfl ?_
    refine zr_iadd d_9_ageNow_31 ?_
    obtain ⟨hb4, h⟩ := z_gd h
    refine zr_iald d_9_ageNow_32 sa_149 rfl hb4 ?_
    refine zr_goto (tgt := 43) d_9_ageNow_33 rfl ?_
    refine zr_iadd d_9_ageNow_43 ?_
    obtain rfl := Option.some.inj h
    exact ze_i d_9_ageNow_44 rfl
  · replace h := z_im h hc3
    refine zr_aload_n (i := 0) d_9_ageNow_36 rfl rfl ?_
    refine zr_gets (i' := 0) d_9_ageNow_37 fw_9_113 rfl ?_
    refine zr_bipush (v := (33 : Int32)) d_9_ageNow_40 rfl ?_
    refine zr_iald d_9_ageNow_42 sa_149 rfl rfl ?_
    refine zr_iadd d_9_ageNow_43 ?_
    obtain rfl := Option.some.inj h
    exact ze_i d_9_ageNow_44 rfl
def f9_lawTells_L9 (v1 : Int32) : (Int32 × zMem) → Option ((Int32 × zMem) ⊕ ((zMem) ⊕ (Int32 × zMem))) := (z_u2 fun x10 xm11 => 
  if z_in v1 8 = true then (if x10 < (xm11.1 133 0 v1.toNatClampNeg) then if z_in x10 260 = true then (if (xm11.1 135 0 x10.toNatClampNeg) = 0 then (f9_termOf (xm11.1 138 0 x10.toNatClampNeg) (xm11.1 139 0 x10.toNatClampNeg) xm11).bind (z_u2 fun q16 qm17 => (if (qm17.1 9 0 47) = 0 then some (.inr (.inr (q16, qm17))) else some (.inr (.inr ((0 : Int32), qm17))))) else (f9_termOf (xm11.1 136 0 x10.toNatClampNeg) (xm11.1 137 0 x10.toNatClampNeg) xm11).bind (z_u2 fun q20 qm21 => (f9_termOf (qm21.1 137 0 x10.toNatClampNeg) (qm21.1 138 0 x10.toNatClampNeg) qm21).bind (z_u2 fun q23 qm24 => (if (qm24.1 9 0 47) = 0 then (if q20 < q23 then (f9_termOf (qm24.1 138 0 x10.toNatClampNeg) (qm24.1 139 0 x10.toNatClampNeg) qm24).bind (z_u2 fun q28 qm29 => (if (qm29.1 9 0 47) = 0 then some (.inr (.inr (q28, qm29))) else some (.inr (.inr ((0 : Int32), qm29))))) else some (.inl ((x10 + (1 : Int32)), qm24))) else some (.inr (.inr ((0 : Int32), qm24))))))) else none else some (.inr (.inl xm11))) else none)
def f9_lawTells (a1 : Int32) (a2 : Int32) (μ : zMem) : Option (Int32 × zMem) :=
  z_let (((4 : Int32) * (μ.1 9 0 18)) + a1) fun v1 => if z_in v1 8 = true then (if (μ.1 132 0 v1.toNatClampNeg) = (μ.1 133 0 v1.toNatClampNeg) then some (a2, μ) else z_let (z_sI μ 9 0 47 (0 : Int32)) fun m5 => z_let (m5.1 132 0 v1.toNatClampNeg) fun v7 => (z_it (f9_lawTells_L9 v1) z_fu (v7, m5)).bind (Sum.elim (fun e32 => some ((0 : Int32), e32)) (z_u2 fun qr34 qr35 => some (qr34, qr35)))) else none
theorem s9_lawTells_L9 {P : zP} {ro : Option zV} {μo : zMem} (v1 : Int32) (x10 : Int32) (xm11 : zMem) (K : (Int32 × zMem) ⊕ ((zMem) ⊕ (Int32 × zMem))) (h : f9_lawTells_L9 v1 (x10, xm11) = some K) (hI : ∀ (y0 : Int32) (y1 : zMem), K = .inl (y0, y1) → z_RQ P M_9_lawTells (z_rm 2) (z_mq P ro μo) 0 0 39 [some (zA 9 0), none, none, some (zI v1), some (zI y0), none, none] [] y1) (hE : ∀ (z0 : zMem), K = .inr (.inl z0) → z_RQ P M_9_lawTells (z_rm 2) (z_mq P ro μo) 0 0 159 [none, none, none, none, none, none, none] [] z0) (hR : ∀ (qr : Int32) (qm : zMem), K = .inr (.inr (qr, qm)) → ro = some (zI qr) ∧ μo = qm) : z_RQ P M_9_lawTells (z_rm 2) (z_mq P ro μo) 0 0 39 [some (zA 9 0), none, none, some (zI v1), some (zI x10), none, none] [] xm11 := by
  unfold f9_lawTells_L9 at h
  replace h := z_h2 h
  refine zr_iload d_9_lawTells_39 rfl ?_
  refine zr_aload_n (i := 0) d_9_lawTells_41 rfl rfl ?_
  refine zr_gets (i' := 0) d_9_lawTells_42 fw_9_76 rfl ?_
  refine zr_iload_n (i := 3) d_9_lawTells_45 rfl rfl ?_
  obtain ⟨hb12, h⟩ := z_gd h
  refine zr_iald d_9_lawTells_46 sa_133 rfl hb12 ?_
  refine zr_icmp_ge (tgt := 159) d_9_lawTells_47 rfl (fun hc13 => ?_) (fun hc13 => ?_)
  · replace h := z_ip h hc13
    refine zr_aload_n (i := 0) d_9_lawTells_50 rfl rfl ?_
    refine zr_gets (i' := 0) d_9_lawTells_51 fw_9_79 rfl ?_
    refine zr_iload d_9_lawTells_54 rfl ?_
    obtain ⟨hb14, h⟩ := z_gd h
    refine zr_zald d_9_lawTells_56 sa_135 rfl hb14 ?_
    refine zr_if_eq (tgt := 119) d_9_lawTells_57 rfl (fun hc15 => ?_) (fun hc15 => ?_)
    · replace h := z_ip h hc15
      refine zr_aload_n (i := 0) d_9_lawTells_119 rfl rfl ?_
      refine zr_aload_n (i := 0) d_9_lawTells_120 rfl rfl ?_
      refine zr_gets (i' := 0) d_9_lawTells_121 fw_9_89 rfl ?_
      refine zr_iload d_9_lawTells_124 rfl ?_
      refine zr_iald d_9_lawTells_126 sa_138 rfl hb14 ?_
      refine zr_aload_n (i := 0) d_9_lawTells_127 rfl rfl ?_
      refine zr_gets (i' := 0) d_9_lawTells_128 fw_9_92 rfl ?_
      refine zr_iload d_9_lawTells_131 rfl ?_
      refine zr_iald d_9_lawTells_133 sa_139 rfl hb14 ?_
      obtain ⟨⟨q16, qm17⟩, hq18, h⟩ := z_bd h
      replace h := z_h2 h
      refine zr_callVi (av := [zI (xm11.1 138 0 x10.toNatClampNeg), zI (xm11.1 139 0 x10.toNatClampNeg)]) (st := []) d_9_lawTells_134 mw_9_termOf ml_9_343 im_9_termOf se_9_termOf rfl rfl (Nat.le_of_ble_eq_true rfl) fit_1_8_2 rfl rfl rfl (s9_termOf hq18) ?_
      refine zr_istore (i := 5) (l' := [some (zA 9 0), none, none, some (zI v1), some (zI x10), some (zI q16), none]) d_9_lawTells_137 (by decide) rfl ?_
      refine zr_aload_n (i := 0) d_9_lawTells_139 rfl rfl ?_
      refine zr_geti d_9_lawTells_140 fw_9_308 (by decide) ?_
      refine zr_if_eq (tgt := 150) d_9_lawTells_143 rfl (fun hc19 => ?_) (fun hc19 => ?_)
      · replace h := z_ip h hc19
        refine zr_iload d_9_lawTells_150 rfl ?_
        obtain rfl := Option.some.inj h
        obtain ⟨rfl, rfl⟩ := hR q16 qm17 rfl
        exact ze_i d_9_lawTells_152 rfl
      · replace h := z_im h hc19
        refine zr_iconst (v := (0 : Int32)) d_9_lawTells_146 rfl ?_
        refine zr_goto (tgt := 152) d_9_lawTells_147 rfl ?_
        obtain rfl := Option.some.inj h
        obtain ⟨rfl, rfl⟩ := hR (0 : Int32) qm17 rfl
        exact ze_i d_9_lawTells_152 rfl
    · replace h := z_im h hc15
      refine zr_aload_n (i := 0) d_9_lawTells_60 rfl rfl ?_
      refine zr_aload_n (i := 0) d_9_lawTells_61 rfl rfl ?_
      refine zr_gets (i' := 0) d_9_lawTells_62 fw_9_83 rfl ?_
      refine zr_iload d_9_lawTells_65 rfl ?_
      refine zr_iald d_9_lawTells_67 sa_136 rfl hb14 ?_
      refine zr_aload_n (i := 0) d_9_lawTells_68 rfl rfl ?_
      refine zr_gets (i' := 0) d_9_lawTells_69 fw_9_86 rfl ?_
      refine zr_iload d_9_lawTells_72 rfl ?_
      refine zr_iald d_9_lawTells_74 sa_137 rfl hb14 ?_
      obtain ⟨⟨q20, qm21⟩, hq22, h⟩ := z_bd h
      replace h := z_h2 h
      refine zr_callVi (av := [zI (xm11.1 136 0 x10.toNatClampNeg), zI (xm11.1 137 0 x10.toNatClampNeg)]) (st := []) d_9_lawTells_75 mw_9_termOf ml_9_343 im_9_termOf se_9_termOf rfl rfl (Nat.le_of_ble_eq_true rfl) fit_1_8_2 rfl rfl rfl (s9_termOf hq22) ?_
      refine zr_istore (i := 5) (l' := [some (zA 9 0), none, none, some (zI v1), some (zI x10), some (zI q20), none]) d_9_lawTells_78 (by decide) rfl ?_
      refine zr_aload_n (i := 0) d_9_lawTells_80 rfl rfl ?_
      refine zr_aload_n (i := 0) d_9_lawTells_81 rfl rfl ?_
      refine zr_gets (i' := 0) d_9_lawTells_82 fw_9_86 rfl ?_
      refine zr_iload d_9_lawTells_85 rfl ?_
      refine zr_iald d_9_lawTells_87 sa_137 rfl hb14 ?_
      refine zr_aload_n (i := 0) d_9_lawTells_88 rfl rfl ?_
      refine zr_gets (i' := 0) d_9_lawTells_89 fw_9_89 rfl ?_
      refine zr_iload d_9_lawTells_92 rfl ?_
      refine zr_iald d_9_lawTells_94 sa_138 rfl hb14 ?_
      obtain ⟨⟨q23, qm24⟩, hq25, h⟩ := z_bd h
      replace h := z_h2 h
      refine zr_callVi (av := [zI (qm21.1 137 0 x10.toNatClampNeg), zI (qm21.1 138 0 x10.toNatClampNeg)]) (st := []) d_9_lawTells_95 mw_9_termOf ml_9_343 im_9_termOf se_9_termOf rfl rfl (Nat.le_of_ble_eq_true rfl) fit_1_8_2 rfl rfl rfl (s9_termOf hq25) ?_
      refine zr_istore (i := 6) (l' := [some (zA 9 0), none, none, some (zI v1), some (zI x10), some (zI q20), some (zI q23)]) d_9_lawTells_98 (by decide) rfl ?_
      refine zr_aload_n (i := 0) d_9_lawTells_100 rfl rfl ?_
      refine zr_geti d_9_lawTells_101 fw_9_308 (by decide) ?_
      refine zr_if_eq (tgt := 109) d_9_lawTells_104 rfl (fun hc26 => ?_) (fun hc26 => ?_)
      · replace h := z_ip h hc26
        refine zr_iload d_9_lawTells_109 rfl ?_
        refine zr_iload d_9_lawTells_111 rfl ?_
        refine zr_icmp_lt (tgt := 119) d_9_lawTells_113 rfl (fun hc27 => ?_) (fun hc27 => ?_)
        · replace h := z_ip h hc27
          refine zr_aload_n (i := 0) d_9_lawTells_119 rfl rfl ?_
          refine zr_aload_n (i := 0) d_9_lawTells_120 rfl rfl ?_
          refine zr_gets (i' := 0) d_9_lawTells_121 fw_9_89 rfl ?_
          refine zr_iload d_9_lawTells_124 rfl ?_
          refine zr_iald d_9_lawTells_126 sa_138 rfl hb14 ?_
          refine zr_aload_n (i := 0) d_9_lawTells_127 rfl rfl ?_
          refine zr_gets (i' := 0) d_9_lawTells_128 fw_9_92 rfl ?_
          refine zr_iload d_9_lawTells_131 rfl ?_
          refine zr_iald d_9_lawTells_133 sa_139 rfl hb14 ?_
          obtain ⟨⟨q28, qm29⟩, hq30, h⟩ := z_bd h
          replace h := z_h2 h
          refine zr_callVi (av := [zI (qm24.1 138 0 x10.toNatClampNeg), zI (qm24.1 139 0 x10.toNatClampNeg)]) (st := []) d_9_lawTells_134 mw_9_termOf ml_9_343 im_9_termOf se_9_termOf rfl rfl (Nat.le_of_ble_eq_true rfl) fit_1_8_2 rfl rfl rfl (s9_termOf hq30) ?_
          refine zr_istore (i := 5) (l' := [some (zA 9 0), none, none, some (zI v1), some (zI x10), some (zI q28), some (zI q23)]) d_9_lawTells_137 (by decide) rfl ?_
          refine zr_aload_n (i := 0) d_9_lawTells_139 rfl rfl ?_
          refine zr_geti d_9_lawTells_140 fw_9_308 (by decide) ?_
          refine zr_if_eq (tgt := 150) d_9_lawTells_143 rfl (fun hc31 => ?_) (fun hc31 => ?_)
          · replace h := z_ip h hc31
            refine zr_iload d_9_lawTells_150 rfl ?_
            obtain rfl := Option.some.inj h
            obtain ⟨rfl, rfl⟩ := hR q28 qm29 rfl
            exact ze_i d_9_lawTells_152 rfl
          · replace h := z_im h hc31
            refine zr_iconst (v := (0 : Int32)) d_9_lawTells_146 rfl ?_
            refine zr_goto (tgt := 152) d_9_lawTells_147 rfl ?_
            obtain rfl := Option.some.inj h
            obtain ⟨rfl, rfl⟩ := hR (0 : Int32) qm29 rfl
            exact ze_i d_9_lawTells_152 rfl
        · replace h := z_im h hc27
          refine zr_goto (tgt := 153) d_9_lawTells_116 rfl ?_
          refine zr_iinc (v := (x10 + (1 : Int32))) (l' := [some (zA 9 0), none, none, some (zI v1), some (zI (x10 + (1 : Int32))), some (zI q20), some (zI q23)]) d_9_lawTells_153 (by decide) rfl rfl rfl ?_
          refine zr_goto (tgt := 39) d_9_lawTells_156 rfl ?_
          obtain rfl := Option.some.inj h
          exact zr_wk2 (hI (x10 + (1 : Int32)) qm24 rfl) ⟨rfl, ⟨rfl, ⟨rfl, trivial⟩⟩⟩
      · replace h := z_im h hc26
        refine zr_iconst (v := (0 : Int32)) d_9_lawTells_107 rfl ?_
        obtain rfl := Option.some.inj h
        obtain ⟨rfl, rfl⟩ := hR (0 : Int32) qm24 rfl
        exact ze_i d_9_lawTells_108 rfl
  · replace h := z_im h hc13
    obtain rfl := Option.some.inj h
    exact zr_wk2 (hE xm11 rfl) trivial
theorem s9_lawTells {P : zP} {μ : zMem} {a1 : Int32} {a2 : Int32} {r : Int32} {μ' : zMem} (h : f9_lawTells a1 a2 μ = some (r, μ')) : z_Sp P y_9_lawTells M_9_lawTells 2 [zA 9 0, zI a1, zI a2] μ (some (zI r)) μ' := by
  refine z_Sp.of (plainFor_of_name (by decide)) rfl (l0 := [some (zA 9 0), some (zI a1), some (zI a2), none, none, none, none]) rfl (Nat.le_of_ble_eq_true rfl) ?_
  unfold f9_lawTells at h
  refine zr_iconst (v := (4 : Int32)) d_9_lawTells_0 rfl ?_
  refine zr_aload_n (i := 0) d_9_lawTells_1 rfl rfl ?_
  refine zr_geti d_9_lawTells_2 fw_9_233 (by decide) ?_
  refine zr_imul d_9_lawTells_5 ?_
  refine zr_iload_n (i := 1) d_9_lawTells_6 rfl rfl ?_
  refine zr_iadd d_9_lawTells_7 ?_
  obtain ⟨v1, hv2, h⟩ := z_lt h
  refine zr_nm hv2 ?_
  refine zr_istore_n (i := 3) (l' := [some (zA 9 0), some (zI a1), some (zI a2), some (zI v1), none, none, none]) d_9_lawTells_8 rfl (by decide) rfl ?_
  refine zr_aload_n (i := 0) d_9_lawTells_9 rfl rfl ?_
  refine zr_gets (i' := 0) d_9_lawTells_10 fw_9_73 rfl ?_
  refine zr_iload_n (i := 3) d_9_lawTells_13 rfl rfl ?_
  obtain ⟨hb3, h⟩ := z_gd h
  refine zr_iald d_9_lawTells_14 sa_132 rfl hb3 ?_
  refine zr_aload_n (i := 0) d_9_lawTells_15 rfl rfl ?_
  refine zr_gets (i' := 0) d_9_lawTells_16 fw_9_76 rfl ?_
  refine zr_iload_n (i := 3) d_9_lawTells_19 rfl rfl ?_
  refine zr_iald d_9_lawTells_20 sa_133 rfl hb3 ?_
  refine zr_icmp_ne (tgt := 26) d_9_lawTells_21 rfl (fun hc4 => ?_) (fun hc4 => ?_)
  · replace h := z_ip h hc4
    refine zr_iload_n (i := 2) d_9_lawTells_24 rfl rfl ?_
    obtain ⟨rfl, rfl⟩ := Prod.mk.inj (Option.some.inj h)
    exact ze_i d_9_lawTells_25 rfl
  · replace h := z_im h hc4
    refine zr_aload_n (i := 0) d_9_lawTells_26 rfl rfl ?_
    refine zr_iconst (v := (0 : Int32)) d_9_lawTells_27 rfl ?_
    obtain ⟨m5, hm6, h⟩ := z_lt h
    refine zr_putb d_9_lawTells_28 fw_9_308 pw_9_47 rfl rfl hm6 ?_
    refine zr_aload_n (i := 0) d_9_lawTells_31 rfl rfl ?_
    refine zr_gets (i' := 0) d_9_lawTells_32 fw_9_73 rfl ?_
    refine zr_iload_n (i := 3) d_9_lawTells_35 rfl rfl ?_
    refine zr_iald d_9_lawTells_36 sa_132 rfl hb3 ?_
    obtain ⟨v7, hv8, h⟩ := z_lt h
    refine zr_nm hv8 ?_
    refine zr_istore (i := 4) (l' := [some (zA 9 0), some (zI a1), some (zI a2), some (zI v1), some (zI v7), none, none]) d_9_lawTells_37 (by decide) rfl ?_
    rcases z_bs h with ⟨e32, hl33, h⟩ | ⟨⟨qr34, qr35⟩, hl33, h⟩
    · refine zr_wk (l' := [some (zA 9 0), none, none, some (zI v1), some (zI v7), none, none]) ⟨rfl, ⟨rfl, ⟨rfl, trivial⟩⟩⟩ ?_
      refine z_loop (Hd := (z_u2 fun y0 y1 => z_RQ P M_9_lawTells (z_rm 2) (z_mq P (some (zI r)) μ') 0 0 39 [some (zA 9 0), none, none, some (zI v1), some (zI y0), none, none] [] y1)) (Ex := (Sum.elim (fun z0 => z_RQ P M_9_lawTells (z_rm 2) (z_mq P (some (zI r)) μ') 0 0 159 [none, none, none, none, none, none, none] [] z0) (z_u2 fun qr qm => (some (zI r)) = some (zI qr) ∧ μ' = qm))) (fun ⟨x10, xm11⟩ K h hI hE => s9_lawTells_L9 v1 x10 xm11 K h (fun y0 y1 e => hI (y0, y1) e) (fun z0 e => hE (.inl z0) e) (fun qr qm e => hE (.inr (qr, qm)) e)) _ _ _ hl33 ?_
      refine zr_iconst (v := (0 : Int32)) d_9_lawTells_159 rfl ?_
      obtain ⟨rfl, rfl⟩ := Prod.mk.inj (Option.some.inj h)
      exact ze_i d_9_lawTells_160 rfl
    · replace h := z_h2 h
      refine zr_wk (l' := [some (zA 9 0), none, none, some (zI v1), some (zI v7), none, none]) ⟨rfl, ⟨rfl, ⟨rfl, trivial⟩⟩⟩ ?_
      refine z_loop (Hd := (z_u2 fun y0 y1 => z_RQ P M_9_lawTells (z_rm 2) (z_mq P (some (zI r)) μ') 0 0 39 [some (zA 9 0), none, none, some (zI v1), some (zI y0), none, none] [] y1)) (Ex := (Sum.elim (fun z0 => z_RQ P M_9_lawTells (z_rm 2) (z_mq P (some (zI r)) μ') 0 0 159 [none, none, none, none, none, none, none] [] z0) (z_u2 fun qr qm => (some (zI r)) = some (zI qr) ∧ μ' = qm))) (fun ⟨x10, xm11⟩ K h hI hE => s9_lawTells_L9 v1 x10 xm11 K h (fun y0 y1 e => hI (y0, y1) e) (fun z0 e => hE (.inl z0) e) (fun qr qm e => hE (.inr (qr, qm)) e)) _ _ _ hl33 ?_
      obtain ⟨rfl, rfl⟩ := Prod.mk.inj (Option.some.inj h)
      exact ⟨rfl, rfl⟩
def f9_looks_L5 (q1 : Int32) : (Int32 × zMem) → Option ((Int32 × zMem) ⊕ (zMem)) := (z_u2 fun x6 xm7 => 
  if z_in (xm7.1 9 0 18) 2 = true then (if x6 < (xm7.1 123 0 (xm7.1 9 0 18).toNatClampNeg) then ((if ((q1 >>> (x6 &&& 31)) &&& (1 : Int32)) = (1 : Int32) then if z_in (((5 : Int32) * (xm7.1 9 0 18)) + x6) 10 = true then z_let (z_sI xm7 145 0 (0 : Int32).toNatClampNeg ((xm7.1 145 0 (0 : Int32).toNatClampNeg) + (xm7.1 124 0 (((5 : Int32) * (xm7.1 9 0 18)) + x6).toNatClampNeg))) fun m14 => some m14 else none else some xm7) : Option (zMem)).bind (fun jm16 => some (.inl ((x6 + (1 : Int32)), jm16))) else some (.inr xm7)) else none)
def f9_looks (a1 : Int32) (μ : zMem) : Option (zMem) :=
  (f9_lordBits a1 μ).bind (fun q1 => z_let (z_sI μ 145 0 (0 : Int32).toNatClampNeg (0 : Int32)) fun m3 => (z_it (f9_looks_L5 q1) z_fu ((0 : Int32), m3)).bind (fun e17 => (f9_ageNow a1 e17).bind (fun q19 => z_let (z_sI e17 145 0 (1 : Int32).toNatClampNeg q19) fun m21 => if z_in ((7 : Int32) + a1) 34 = true then z_let (z_sI m21 145 0 (2 : Int32).toNatClampNeg (m21.1 149 0 ((7 : Int32) + a1).toNatClampNeg)) fun m24 => if z_in ((14 : Int32) + a1) 34 = true then z_let (z_sI m24 145 0 (3 : Int32).toNatClampNeg (m24.1 149 0 ((14 : Int32) + a1).toNatClampNeg)) fun m27 => z_let (z_sI m27 145 0 (4 : Int32).toNatClampNeg (m27.1 149 0 (33 : Int32).toNatClampNeg)) fun m29 => (f9_rightBits a1 m29).bind (fun q31 => (f9_bits q31).bind (fun q33 => z_let (z_sI m29 145 0 (5 : Int32).toNatClampNeg q33) fun m35 => (f9_bits q1).bind (fun q37 => z_let (z_sI m35 145 0 (6 : Int32).toNatClampNeg q37) fun m39 => z_let (z_sI m39 145 0 (7 : Int32).toNatClampNeg a1) fun m41 => (f9_inState (0 : Int32) m41).bind (fun q43 => (f9_bits q43).bind (fun q45 => z_let (z_sI m41 145 0 (8 : Int32).toNatClampNeg q45) fun m47 => some m47))))) else none else none)))
theorem s9_looks_L5 {P : zP} {ro : Option zV} {μo : zMem} (a1 : Int32) (q1 : Int32) (x6 : Int32) (xm7 : zMem) (K : (Int32 × zMem) ⊕ (zMem)) (h : f9_looks_L5 q1 (x6, xm7) = some K) (hI : ∀ (y0 : Int32) (y1 : zMem), K = .inl (y0, y1) → z_RQ P M_9_looks (z_rm 5) (z_mq P ro μo) 0 0 15 [some (zA 9 0), some (zI a1), some (zI q1), some (zI y0)] [] y1) (hE : ∀ (z0 : zMem), K = .inr z0 → z_RQ P M_9_looks (z_rm 5) (z_mq P ro μo) 0 0 65 [some (zA 9 0), some (zI a1), some (zI q1), none] [] z0)  : z_RQ P M_9_looks (z_rm 5) (z_mq P ro μo) 0 0 15 [some (zA 9 0), some (zI a1), some (zI q1), some (zI x6)] [] xm7 := by
  unfold f9_looks_L5 at h
  replace h := z_h2 h
  refine zr_iload_n (i := 3) d_9_looks_15 rfl rfl ?_
  refine zr_aload_n (i := 0) d_9_looks_16 rfl rfl ?_
  refine zr_gets (i' := 0) d_9_looks_17 fw_9_46 rfl ?_
  refine zr_aload_n (i := 0) d_9_looks_20 rfl rfl ?_
  refine zr_geti d_9_looks_21 fw_9_233 (by decide) ?_
  obtain ⟨hb8, h⟩ := z_gd h
  refine zr_iald d_9_looks_24 sa_123 rfl hb8 ?_
  refine zr_icmp_ge (tgt := 65) d_9_looks_25 rfl (fun hc9 => ?_) (fun hc9 => ?_)
  · replace h := z_ip h hc9
    refine zr_iload_n (i := 2) d_9_looks_28 rfl rfl ?_
    refine zr_iload_n (i := 3) d_9_looks_29 rfl rfl ?_
    refine zr_ishr d_9_looks_30 ?_
    refine zr_iconst (v := (1 : Int32)) d_9_looks_31 rfl ?_
    refine zr_iand d_9_looks_32 ?_
    refine zr_iconst (v := (1 : Int32)) d_9_looks_33 rfl ?_
    obtain ⟨jm16, hT10, h⟩ := z_bd h
    have hJ11 : z_RQ P M_9_looks (z_rm 5) (z_mq P ro μo) 0 0 59 [some (zA 9 0), some (zI a1), some (zI q1), some (zI x6)] [] jm16 := by
      refine zr_iinc (v := (x6 + (1 : Int32))) (l' := [some (zA 9 0), some (zI a1), some (zI q1), some (zI (x6 + (1 : Int32)))]) d_9_looks_59 (by decide) rfl rfl rfl ?_
      refine zr_goto (tgt := 15) d_9_looks_62 rfl ?_
      obtain rfl := Option.some.inj h
      exact zr_wk2 (hI (x6 + (1 : Int32)) jm16 rfl) ⟨rfl, ⟨rfl, ⟨rfl, ⟨rfl, trivial⟩⟩⟩⟩
    refine zr_icmp_ne (tgt := 59) d_9_looks_34 rfl (fun hc12 => ?_) (fun hc12 => ?_)
    · replace hT10 := z_ip hT10 hc12
      refine zr_aload_n (i := 0) d_9_looks_37 rfl rfl ?_
      refine zr_gets (i' := 0) d_9_looks_38 fw_9_104 rfl ?_
      refine zr_iconst (v := (0 : Int32)) d_9_looks_41 rfl ?_
      refine zr_dup2 d_9_looks_42 ?_
      refine zr_iald d_9_looks_43 sa_145 rfl rfl ?_
      refine zr_aload_n (i := 0) d_9_looks_44 rfl rfl ?_
      refine zr_gets (i' := 0) d_9_looks_45 fw_9_49 rfl ?_
      refine zr_iconst (v := (5 : Int32)) d_9_looks_48 rfl ?_
      refine zr_aload_n (i := 0) d_9_looks_49 rfl rfl ?_
      refine zr_geti d_9_looks_50 fw_9_233 (by decide) ?_
      refine zr_imul d_9_looks_53 ?_
      refine zr_iload_n (i := 3) d_9_looks_54 rfl rfl ?_
      refine zr_iadd d_9_looks_55 ?_
      obtain ⟨hb13, hT10⟩ := z_gd hT10
      refine zr_iald d_9_looks_56 sa_124 rfl hb13 ?_
      refine zr_iadd d_9_looks_57 ?_
      obtain ⟨m14, hm15, hT10⟩ := z_lt hT10
      refine zr_iast d_9_looks_58 sa_145 rfl rfl hm15 ?_
      obtain rfl := Option.some.inj hT10
      exact zr_wk2 hJ11 ⟨rfl, ⟨rfl, ⟨rfl, ⟨rfl, trivial⟩⟩⟩⟩
    · replace hT10 := z_im hT10 hc12
      obtain rfl := Option.some.inj hT10
      exact zr_wk2 hJ11 ⟨rfl, ⟨rfl, ⟨rfl, ⟨rfl, trivial⟩⟩⟩⟩
  · replace h := z_im h hc9
    obtain rfl := Option.some.inj h
    exact zr_wk2 (hE xm7 rfl) ⟨rfl, ⟨rfl, ⟨rfl, trivial⟩⟩⟩
theorem s9_looks {P : zP} {μ : zMem} {a1 : Int32} {μ' : zMem} (h : f9_looks a1 μ = some μ') : z_Sp P y_9_looks M_9_looks 5 [zA 9 0, zI a1] μ none μ' := by
  refine z_Sp.of (plainFor_of_name (by decide)) rfl (l0 := [some (zA 9 0), some (zI a1), none, none]) rfl (Nat.le_of_ble_eq_true rfl) ?_
  unfold f9_looks at h
  refine zr_aload_n (i := 0) d_9_looks_0 rfl rfl ?_
  refine zr_iload_n (i := 1) d_9_looks_1 rfl rfl ?_
  obtain ⟨q1, hq2, h⟩ := z_bd h
  refine zr_callVi (av := [zI a1]) (st := []) d_9_looks_2 mw_9_lordBits ml_9_346 im_9_lordBits se_9_lordBits rfl rfl (Nat.le_of_ble_eq_true rfl) fit_4_4_5 rfl rfl rfl (s9_lordBits hq2) ?_
  refine zr_istore_n (i := 2) (l' := [some (zA 9 0), some (zI a1), some (zI q1), none]) d_9_looks_5 rfl (by decide) rfl ?_
  refine zr_aload_n (i := 0) d_9_looks_6 rfl rfl ?_
  refine zr_gets (i' := 0) d_9_looks_7 fw_9_104 rfl ?_
  refine zr_iconst (v := (0 : Int32)) d_9_looks_10 rfl ?_
  refine zr_iconst (v := (0 : Int32)) d_9_looks_11 rfl ?_
  obtain ⟨m3, hm4, h⟩ := z_lt h
  refine zr_iast d_9_looks_12 sa_145 rfl rfl hm4 ?_
  refine zr_iconst (v := (0 : Int32)) d_9_looks_13 rfl ?_
  refine zr_istore_n (i := 3) (l' := [some (zA 9 0), some (zI a1), some (zI q1), some (zI (0 : Int32))]) d_9_looks_14 rfl (by decide) rfl ?_
  obtain ⟨e17, hl18, h⟩ := z_bd h
  refine zr_wk (l' := [some (zA 9 0), some (zI a1), some (zI q1), some (zI (0 : Int32))]) ⟨rfl, ⟨rfl, ⟨rfl, ⟨rfl, trivial⟩⟩⟩⟩ ?_
  refine z_loop (Hd := (z_u2 fun y0 y1 => z_RQ P M_9_looks (z_rm 5) (z_mq P none μ') 0 0 15 [some (zA 9 0), some (zI a1), some (zI q1), some (zI y0)] [] y1)) (Ex := (fun z0 => z_RQ P M_9_looks (z_rm 5) (z_mq P none μ') 0 0 65 [some (zA 9 0), some (zI a1), some (zI q1), none] [] z0)) (fun ⟨x6, xm7⟩ K h hI hE => s9_looks_L5 a1 q1 x6 xm7 K h (fun y0 y1 e => hI (y0, y1) e) (fun z0 e => hE z0 e) ) _ _ _ hl18 ?_
  refine zr_aload_n (i := 0) d_9_looks_65 rfl rfl ?_
  refine zr_gets (i' := 0) d_9_looks_66 fw_9_104 rfl ?_
  refine zr_iconst (v := (1 : Int32)) d_9_looks_69 rfl ?_
  refine zr_aload_n (i := 0) d_9_looks_70 rfl rfl ?_
  refine zr_iload_n (i := 1) d_9_looks_71 rfl rfl ?_
  obtain ⟨q19, hq20, h⟩ := z_bd h
  refine zr_callVi (av := [zI a1]) (st := [zI (1 : Int32), zA 145 0]) d_9_looks_72 mw_9_ageNow ml_9_349 im_9_ageNow se_9_ageNow rfl rfl (Nat.le_of_ble_eq_true rfl) fit_1_2_5 rfl rfl rfl (s9_ageNow hq20) ?_
  obtain ⟨m21, hm22, h⟩ := z_lt h
  refine zr_iast d_9_looks_75 sa_145 rfl rfl hm22 ?_
  refine zr_aload_n (i := 0) d_9_looks_76 rfl rfl ?_
  refine zr_gets (i' := 0) d_9_looks_77 fw_9_104 rfl ?_
  refine zr_iconst (v := (2 : Int32)) d_9_looks_80 rfl ?_
  refine zr_aload_n (i := 0) d_9_looks_81 rfl rfl ?_
  refine zr_gets (i' := 0) d_9_looks_82 fw_9_113 rfl ?_
  refine zr_bipush (v := (7 : Int32)) d_9_looks_85 rfl ?_
  refine zr_iload_n (i := 1) d_9_looks_87 rfl rfl ?_
  refine zr_iadd d_9_looks_88 ?_
  obtain ⟨hb23, h⟩ := z_gd h
  refine zr_iald d_9_looks_89 sa_149 rfl hb23 ?_
  obtain ⟨m24, hm25, h⟩ := z_lt h
  refine zr_iast d_9_looks_90 sa_145 rfl rfl hm25 ?_
  refine zr_aload_n (i := 0) d_9_looks_91 rfl rfl ?_
  refine zr_gets (i' := 0) d_9_looks_92 fw_9_104 rfl ?_
  refine zr_iconst (v := (3 : Int32)) d_9_looks_95 rfl ?_
  refine zr_aload_n (i := 0) d_9_looks_96 rfl rfl ?_
  refine zr_gets (i' := 0) d_9_looks_97 fw_9_113 rfl ?_
  refine zr_bipush (v := (14 : Int32)) d_9_looks_100 rfl ?_
  refine zr_iload_n (i := 1) d_9_looks_102 rfl rfl ?_
  refine zr_iadd d_9_looks_103 ?_
  obtain ⟨hb26, h⟩ := z_gd h
  refine zr_iald d_9_looks_104 sa_149 rfl hb26 ?_
  obtain ⟨m27, hm28, h⟩ := z_lt h
  refine zr_iast d_9_looks_105 sa_145 rfl rfl hm28 ?_
  refine zr_aload_n (i := 0) d_9_looks_106 rfl rfl ?_
  refine zr_gets (i' := 0) d_9_looks_107 fw_9_104 rfl ?_
  refine zr_iconst (v := (4 : Int32)) d_9_looks_110 rfl ?_
  refine zr_aload_n (i := 0) d_9_looks_111 rfl rfl ?_
  refine zr_gets (i' := 0) d_9_looks_112 fw_9_113 rfl ?_
  refine zr_bipush (v := (33 : Int32)) d_9_looks_115 rfl ?_
  refine zr_iald d_9_looks_117 sa_149 rfl rfl ?_
  obtain ⟨m29, hm30, h⟩ := z_lt h
  refine zr_iast d_9_looks_118 sa_145 rfl rfl hm30 ?_
  refine zr_aload_n (i := 0) d_9_looks_119 rfl rfl ?_
  refine zr_gets (i' := 0) d_9_looks_120 fw_9_104 rfl ?_
  refine zr_iconst (v := (5 : Int32)) d_9_looks_123 rfl ?_
  refine zr_aload_n (i := 0) d_9_looks_124 rfl rfl ?_
  refine zr_iload_n (i := 1) d_9_looks_125 rfl rfl ?_
  obtain ⟨q31, hq32, h⟩ := z_bd h
  refine zr_callVi (av := [zI a1]) (st := [zI (5 : Int32), zA 145 0]) d_9_looks_126 mw_9_rightBits ml_9_352 im_9_rightBits se_9_rightBits rfl rfl (Nat.le_of_ble_eq_true rfl) fit_2_4_5 rfl rfl rfl (s9_rightBits hq32) ?_
  obtain ⟨q33, hq34, h⟩ := z_bd h
  refine zr_callSi (av := [zI q31]) (st := [zI (5 : Int32), zA 145 0]) d_9_looks_129 mw_9_bits ml_9_355 is_9_bits rfl rfl (Nat.le_of_ble_eq_true rfl) fit_1_3_5 (s9_bits hq34) ?_
  obtain ⟨m35, hm36, h⟩ := z_lt h
  refine zr_iast d_9_looks_132 sa_145 rfl rfl hm36 ?_
  refine zr_aload_n (i := 0) d_9_looks_133 rfl rfl ?_
  refine zr_gets (i' := 0) d_9_looks_134 fw_9_104 rfl ?_
  refine zr_bipush (v := (6 : Int32)) d_9_looks_137 rfl ?_
  refine zr_iload_n (i := 2) d_9_looks_139 rfl rfl ?_
  obtain ⟨q37, hq38, h⟩ := z_bd h
  refine zr_callSi (av := [zI q1]) (st := [zI (6 : Int32), zA 145 0]) d_9_looks_140 mw_9_bits ml_9_355 is_9_bits rfl rfl (Nat.le_of_ble_eq_true rfl) fit_1_3_5 (s9_bits hq38) ?_
  obtain ⟨m39, hm40, h⟩ := z_lt h
  refine zr_iast d_9_looks_143 sa_145 rfl rfl hm40 ?_
  refine zr_aload_n (i := 0) d_9_looks_144 rfl rfl ?_
  refine zr_gets (i' := 0) d_9_looks_145 fw_9_104 rfl ?_
  refine zr_bipush (v := (7 : Int32)) d_9_looks_148 rfl ?_
  refine zr_iload_n (i := 1) d_9_looks_150 rfl rfl ?_
  obtain ⟨m41, hm42, h⟩ := z_lt h
  refine zr_iast d_9_looks_151 sa_145 rfl rfl hm42 ?_
  refine zr_aload_n (i := 0) d_9_looks_152 rfl rfl ?_
  refine zr_gets (i' := 0) d_9_looks_153 fw_9_104 rfl ?_
  refine zr_bipush (v := (8 : Int32)) d_9_looks_156 rfl ?_
  refine zr_aload_n (i := 0) d_9_looks_158 rfl rfl ?_
  refine zr_iconst (v := (0 : Int32)) d_9_looks_159 rfl ?_
  obtain ⟨q43, hq44, h⟩ := z_bd h
  refine zr_callVi (av := [zI (0 : Int32)]) (st := [zI (8 : Int32), zA 145 0]) d_9_looks_160 mw_9_inState ml_9_358 im_9_inState se_9_inState rfl rfl (Nat.le_of_ble_eq_true rfl) fit_1_4_5 rfl rfl rfl (s9_inState hq44) ?_
  obtain ⟨q45, hq46, h⟩ := z_bd h
  refine zr_callSi (av := [zI q43]) (st := [zI (8 : Int32), zA 145 0]) d_9_looks_163 mw_9_bits ml_9_355 is_9_bits rfl rfl (Nat.le_of_ble_eq_true rfl) fit_1_3_5 (s9_bits hq46) ?_
  obtain ⟨m47, hm48, h⟩ := z_lt h
  refine zr_iast d_9_looks_166 sa_145 rfl rfl hm48 ?_
  obtain rfl := Option.some.inj h
  exact ze_v d_9_looks_167 rfl
def f9_chanceOf (a1 : Int32) (a2 : Int32) (μ : zMem) : Option (Int32 × zMem) :=
  (f9_looks a1 μ).bind (fun qm1 => (f9_lawTells a2 (0 : Int32) qm1).bind (z_u2 fun q3 qm4 => some ((f9_within q3 (0 : Int32) (100 : Int32)), qm4)))
theorem s9_chanceOf {P : zP} {μ : zMem} {a1 : Int32} {a2 : Int32} {r : Int32} {μ' : zMem} (h : f9_chanceOf a1 a2 μ = some (r, μ')) : z_Sp P y_9_chanceOf M_9_chanceOf 6 [zA 9 0, zI a1, zI a2] μ (some (zI r)) μ' := by
  refine z_Sp.of (plainFor_of_name (by decide)) rfl (l0 := [some (zA 9 0), some (zI a1), some (zI a2)]) rfl (Nat.le_of_ble_eq_true rfl) ?_
  unfold f9_chanceOf at h
  refine zr_aload_n (i := 0) d_9_chanceOf_0 rfl rfl ?_
  refine zr_iload_n (i := 1) d_9_chanceOf_1 rfl rfl ?_
  obtain ⟨qm1, hq2, h⟩ := z_bd h
  refine zr_callVv (av := [zI a1]) (st := []) d_9_chanceOf_2 mw_9_looks ml_9_361 im_9_looks se_9_looks rfl rfl (Nat.le_of_ble_eq_true rfl) fit_5_4_6 rfl rfl rfl (s9_looks hq2) ?_
  refine zr_aload_n (i := 0) d_9_chanceOf_5 rfl rfl ?_
  refine zr_iload_n (i := 2) d_9_chanceOf_6 rfl rfl ?_
  refine zr_iconst (v := (0 : Int32)) d_9_chanceOf_7 rfl ?_
  obtain ⟨⟨q3, qm4⟩, hq5, h⟩ := z_bd h
  replace h := z_h2 h
  refine zr_callVi (av := [zI a2, zI (0 : Int32)]) (st := []) d_9_chanceOf_8 mw_9_lawTells ml_9_364 im_9_lawTells se_9_lawTells rfl rfl (Nat.le_of_ble_eq_true rfl) fit_2_7_6 rfl rfl rfl (s9_lawTells hq5) ?_
  refine zr_iconst (v := (0 : Int32)) d_9_chanceOf_11 rfl ?_
  refine zr_bipush (v := (100 : Int32)) d_9_chanceOf_12 rfl ?_
  refine zr_callSi (av := [zI q3, zI (0 : Int32), zI (100 : Int32)]) (st := []) d_9_chanceOf_14 mw_9_within ml_9_367 is_9_within rfl rfl (Nat.le_of_ble_eq_true rfl) fit_1_3_6 (s9_within rfl) ?_
  obtain ⟨rfl, rfl⟩ := Prod.mk.inj (Option.some.inj h)
  exact ze_i d_9_chanceOf_17 rfl
def f9_rentsOf (a1 : Int32) (μ : zMem) : Option (Int32 × zMem) :=
  (f9_lordOf a1 μ).bind (fun q1 => (if q1 < 0 then some ((0 : Int32), μ) else (f9_looks q1 μ).bind (fun qm4 => if z_in (((5 : Int32) * (qm4.1 9 0 18)) + a1) 10 = true then z_let (z_sI qm4 145 0 (0 : Int32).toNatClampNeg (qm4.1 124 0 (((5 : Int32) * (qm4.1 9 0 18)) + a1).toNatClampNeg)) fun m7 => (f9_lawTells (3 : Int32) (m7.1 145 0 (0 : Int32).toNatClampNeg) m7).bind (z_u2 fun q9 qm10 => some ((f9_within q9 (0 : Int32) (99 : Int32)), qm10)) else none)))
theorem s9_rentsOf {P : zP} {μ : zMem} {a1 : Int32} {r : Int32} {μ' : zMem} (h : f9_rentsOf a1 μ = some (r, μ')) : z_Sp P y_9_rentsOf M_9_rentsOf 6 [zA 9 0, zI a1] μ (some (zI r)) μ' := by
  refine z_Sp.of (plainFor_of_name (by decide)) rfl (l0 := [some (zA 9 0), some (zI a1), none]) rfl (Nat.le_of_ble_eq_true rfl) ?_
  unfold f9_rentsOf at h
  refine zr_aload_n (i := 0) d_9_rentsOf_0 rfl rfl ?_
  refine zr_iload_n (i := 1) d_9_rentsOf_1 rfl rfl ?_
  obtain ⟨q1, hq2, h⟩ := z_bd h
  refine zr_callVi (av := [zI a1]) (st := []) d_9_rentsOf_2 mw_9_lordOf ml_9_340 im_9_lordOf se_9_lordOf rfl rfl (Nat.le_of_ble_eq_true rfl) fit_3_2_6 rfl rfl rfl (s9_lordOf hq2) ?_
  refine zr_istore_n (i := 2) (l' := [some (zA 9 0), some (zI a1), some (zI q1)]) d_9_rentsOf_5 rfl (by decide) rfl ?_
  refine zr_iload_n (i := 2) d_9_rentsOf_6 rfl rfl ?_
  refine zr_if_ge (tgt := 12) d_9_rentsOf_7 rfl (fun hc3 => ?_) (fun hc3 => ?_)
  · replace h := z_ip h hc3
    refine zr_iconst (v := (0 : Int32)) d_9_rentsOf_10 rfl ?_
    obtain ⟨rfl, rfl⟩ := Prod.mk.inj (Option.some.inj h)
    exact ze_i d_9_rentsOf_11 rfl
  · replace h := z_im h hc3
    refine zr_aload_n (i := 0) d_9_rentsOf_12 rfl rfl ?_
    refine zr_iload_n (i := 2) d_9_rentsOf_13 rfl rfl ?_
    obtain ⟨qm4, hq5, h⟩ := z_bd h
    refine zr_callVv (av := [zI q1]) (st := []) d_9_rentsOf_14 mw_9_looks ml_9_361 im_9_looks se_9_looks rfl rfl (Nat.le_of_ble_eq_true rfl) fit_5_4_6 rfl rfl rfl (s9_looks hq5) ?_
    refine zr_aload_n (i := 0) d_9_rentsOf_17 rfl rfl ?_
    refine zr_gets (i' := 0) d_9_rentsOf_18 fw_9_104 rfl ?_
    refine zr_iconst (v := (0 : Int32)) d_9_rentsOf_21 rfl ?_
    refine zr_aload_n (i := 0) d_9_rentsOf_22 rfl rfl ?_
    refine zr_gets (i' := 0) d_9_rentsOf_23 fw_9_49 rfl ?_
    refine zr_iconst (v := (5 : Int32)) d_9_rentsOf_26 rfl ?_
    refine zr_aload_n (i := 0) d_9_rentsOf_27 rfl rfl ?_
    refine zr_geti d_9_rentsOf_28 fw_9_233 (by decide) ?_
    refine zr_imul d_9_rentsOf_31 ?_
    refine zr_iload_n (i := 1) d_9_rentsOf_32 rfl rfl ?_
    refine zr_iadd d_9_rentsOf_33 ?_
    obtain ⟨hb6, h⟩ := z_gd h
    refine zr_iald d_9_rentsOf_34 sa_124 rfl hb6 ?_
    obtain ⟨m7, hm8, h⟩ := z_lt h
    refine zr_iast d_9_rentsOf_35 sa_145 rfl rfl hm8 ?_
    refine zr_aload_n (i := 0) d_9_rentsOf_36 rfl rfl ?_
    refine zr_iconst (v := (3 : Int32)) d_9_rentsOf_37 rfl ?_
    refine zr_aload_n (i := 0) d_9_rentsOf_38 rfl rfl ?_
    refine zr_gets (i' := 0) d_9_rentsOf_39 fw_9_104 rfl ?_
    refine zr_iconst (v := (0 : Int32)) d_9_rentsOf_42 rfl ?_
    refine zr_iald d_9_rentsOf_43 sa_145 rfl rfl ?_
    obtain ⟨⟨q9, qm10⟩, hq11, h⟩ := z_bd h
    replace h := z_h2 h
    refine zr_callVi (av := [zI (3 : Int32), zI (m7.1 145 0 (0 : Int32).toNatClampNeg)]) (st := []) d_9_rentsOf_44 mw_9_lawTells ml_9_364 im_9_lawTells se_9_lawTells rfl rfl (Nat.le_of_ble_eq_true rfl) fit_2_7_6 rfl rfl rfl (s9_lawTells hq11) ?_
    refine zr_iconst (v := (0 : Int32)) d_9_rentsOf_47 rfl ?_
    refine zr_bipush (v := (99 : Int32)) d_9_rentsOf_48 rfl ?_
    refine zr_callSi (av := [zI q9, zI (0 : Int32), zI (99 : Int32)]) (st := []) d_9_rentsOf_50 mw_9_within ml_9_367 is_9_within rfl rfl (Nat.le_of_ble_eq_true rfl) fit_1_3_6 (s9_within rfl) ?_
    obtain ⟨rfl, rfl⟩ := Prod.mk.inj (Option.some.inj h)
    exact ze_i d_9_rentsOf_53 rfl
def f9_whatDoes (a1 : Int32) (μ : zMem) : Option (Int32 × zMem) :=
  if z_in a1 34 = true then (if (μ.1 149 0 a1.toNatClampNeg) = (2 : Int32) then some ((0 : Int32), μ) else (f9_chanceOf a1 (2 : Int32) μ).bind (z_u2 fun q3 qm4 => (if (f9_isLot (((32 : Int32) * (μ.1 149 0 (33 : Int32).toNatClampNeg)) + a1) q3 qm4) = 0 then ((if (qm4.1 149 0 a1.toNatClampNeg) = 0 then some (8 : Int32) else some (16 : Int32)) : Option (Int32)).bind (fun j11 => ((if (qm4.1 149 0 a1.toNatClampNeg) = 0 then some (0 : Int32) else some (1 : Int32)) : Option (Int32)).bind (fun j15 => (f9_chanceOf a1 j15 qm4).bind (z_u2 fun q16 qm17 => (if (f9_isLot ((((32 : Int32) * (qm4.1 149 0 (33 : Int32).toNatClampNeg)) + j11) + a1) q16 qm17) = 0 then some ((0 : Int32), qm17) else some ((1 : Int32), qm17))))) else some ((2 : Int32), qm4)))) else none
theorem s9_whatDoes {P : zP} {μ : zMem} {a1 : Int32} {r : Int32} {μ' : zMem} (h : f9_whatDoes a1 μ = some (r, μ')) : z_Sp P y_9_whatDoes M_9_whatDoes 7 [zA 9 0, zI a1] μ (some (zI r)) μ' := by
  refine z_Sp.of (plainFor_of_name (by decide)) rfl (l0 := [some (zA 9 0), some (zI a1), none]) rfl (Nat.le_of_ble_eq_true rfl) ?_
  unfold f9_whatDoes at h
  refine zr_aload_n (i := 0) d_9_whatDoes_0 rfl rfl ?_
  refine zr_gets (i' := 0) d_9_whatDoes_1 fw_9_113 rfl ?_
  refine zr_iload_n (i := 1) d_9_whatDoes_4 rfl rfl ?_
  obtain ⟨hb1, h⟩ := z_gd h
  refine zr_iald d_9_whatDoes_5 sa_149 rfl hb1 ?_
  refine zr_iconst (v := (2 : Int32)) d_9_whatDoes_6 rfl ?_
  refine zr_icmp_ne (tgt := 12) d_9_whatDoes_7 rfl (fun hc2 => ?_) (fun hc2 => ?_)
  · replace h := z_ip h hc2
    refine zr_iconst (v := (0 : Int32)) d_9_whatDoes_10 rfl ?_
    obtain ⟨rfl, rfl⟩ := Prod.mk.inj (Option.some.inj h)
    exact ze_i d_9_whatDoes_11 rfl
  · replace h := z_im h hc2
    refine zr_aload_n (i := 0) d_9_whatDoes_12 rfl rfl ?_
    refine zr_bipush (v := (32 : Int32)) d_9_whatDoes_13 rfl ?_
    refine zr_aload_n (i := 0) d_9_whatDoes_15 rfl rfl ?_
    refine zr_gets (i' := 0) d_9_whatDoes_16 fw_9_113 rfl ?_
    refine zr_bipush (v := (33 : Int32)) d_9_whatDoes_19 rfl ?_
    refine zr_iald d_9_whatDoes_21 sa_149 rfl rfl ?_
    refine zr_imul d_9_whatDoes_22 ?_
    refine zr_iload_n (i := 1) d_9_whatDoes_23 rfl rfl ?_
    refine zr_iadd d_9_whatDoes_24 ?_
    refine zr_aload_n (i := 0) d_9_whatDoes_25 rfl rfl ?_
    refine zr_iload_n (i := 1) d_9_whatDoes_26 rfl rfl ?_
    refine zr_iconst (v := (2 : Int32)) d_9_whatDoes_27 rfl ?_
    obtain ⟨⟨q3, qm4⟩, hq5, h⟩ := z_bd h
    replace h := z_h2 h
    refine zr_callVi (av := [zI a1, zI (2 : Int32)]) (st := [zI (((32 : Int32) * (μ.1 149 0 (33 : Int32).toNatClampNeg)) + a1), zA 9 0]) d_9_whatDoes_28 mw_9_chanceOf ml_9_370 im_9_chanceOf se_9_chanceOf rfl rfl (Nat.le_of_ble_eq_true rfl) fit_6_3_7 rfl rfl rfl (s9_chanceOf hq5) ?_
    refine zr_callVi (av := [zI (((32 : Int32) * (μ.1 149 0 (33 : Int32).toNatClampNeg)) + a1), zI q3]) (st := []) d_9_whatDoes_31 mw_9_isLot ml_9_373 im_9_isLot se_9_isLot rfl rfl (Nat.le_of_ble_eq_true rfl) fit_2_3_7 rfl rfl rfl (s9_isLot rfl) ?_
    refine zr_if_eq (tgt := 39) d_9_whatDoes_34 rfl (fun hc7 => ?_) (fun hc7 => ?_)
    · replace h := z_ip h hc7
      refine zr_aload_n (i := 0) d_9_whatDoes_39 rfl rfl ?_
      refine zr_gets (i' := 0) d_9_whatDoes_40 fw_9_113 rfl ?_
      refine zr_iload_n (i := 1) d_9_whatDoes_43 rfl rfl ?_
      refine zr_iald d_9_whatDoes_44 sa_149 rfl hb1 ?_
      obtain ⟨j11, hT8, h⟩ := z_bd h
      have hJ9 : z_RQ P M_9_whatDoes (z_rm 7) (z_mq P (some (zI r)) μ') 0 0 55 [some (zA 9 0), some (zI a1), none] [zI j11] qm4 := by
        refine zr_istore_n (i := 2) (l' := [some (zA 9 0), some (zI a1), some (zI j11)]) d_9_whatDoes_55 rfl (by decide) rfl ?_
        refine zr_aload_n (i := 0) d_9_whatDoes_56 rfl rfl ?_
        refine zr_bipush (v := (32 : Int32)) d_9_whatDoes_57 rfl ?_
        refine zr_aload_n (i := 0) d_9_whatDoes_59 rfl rfl ?_
        refine zr_gets (i' := 0) d_9_whatDoes_60 fw_9_113 rfl ?_
        refine zr_bipush (v := (33 : Int32)) d_9_whatDoes_63 rfl ?_
        refine zr_iald d_9_whatDoes_65 sa_149 rfl rfl ?_
        refine zr_imul d_9_whatDoes_66 ?_
        refine zr_iload_n (i := 2) d_9_whatDoes_67 rfl rfl ?_
        refine zr_iadd d_9_whatDoes_68 ?_
        refine zr_iload_n (i := 1) d_9_whatDoes_69 rfl rfl ?_
        refine zr_iadd d_9_whatDoes_70 ?_
        refine zr_aload_n (i := 0) d_9_whatDoes_71 rfl rfl ?_
        refine zr_iload_n (i := 1) d_9_whatDoes_72 rfl rfl ?_
        refine zr_aload_n (i := 0) d_9_whatDoes_73 rfl rfl ?_
        refine zr_gets (i' := 0) d_9_whatDoes_74 fw_9_113 rfl ?_
        refine zr_iload_n (i := 1) d_9_whatDoes_77 rfl rfl ?_
        refine zr_iald d_9_whatDoes_78 sa_149 rfl hb1 ?_
        obtain ⟨j15, hT12, h⟩ := z_bd h
        have hJ13 : z_RQ P M_9_whatDoes (z_rm 7) (z_mq P (some (zI r)) μ') 0 0 87 [none, none, none] [zI j15, zI a1, zA 9 0, zI ((((32 : Int32) * (qm4.1 149 0 (33 : Int32).toNatClampNeg)) + j11) + a1), zA 9 0] qm4 := by
          obtain ⟨⟨q16, qm17⟩, hq18, h⟩ := z_bd h
          replace h := z_h2 h
          refine zr_callVi (av := [zI a1, zI j15]) (st := [zI ((((32 : Int32) * (qm4.1 149 0 (33 : Int32).toNatClampNeg)) + j11) + a1), zA 9 0]) d_9_whatDoes_87 mw_9_chanceOf ml_9_370 im_9_chanceOf se_9_chanceOf rfl rfl (Nat.le_of_ble_eq_true rfl) fit_6_3_7 rfl rfl rfl (s9_chanceOf hq18) ?_
          refine zr_callVi (av := [zI ((((32 : Int32) * (qm4.1 149 0 (33 : Int32).toNatClampNeg)) + j11) + a1), zI q16]) (st := []) d_9_whatDoes_90 mw_9_isLot ml_9_373 im_9_isLot se_9_isLot rfl rfl (Nat.le_of_ble_eq_true rfl) fit_2_3_7 rfl rfl rfl (s9_isLot rfl) ?_
          refine zr_if_eq (tgt := 100) d_9_whatDoes_93 rfl (fun hc20 => ?_) (fun hc20 => ?_)
          · replace h := z_ip h hc20
            refine zr_iconst (v := (0 : Int32)) d_9_whatDoes_100 rfl ?_
            obtain ⟨rfl, rfl⟩ := Prod.mk.inj (Option.some.inj h)
            exact ze_i d_9_whatDoes_101 rfl
          · replace h := z_im h hc20
            refine zr_iconst (v := (1 : Int32)) d_9_whatDoes_96 rfl ?_
            refine zr_goto (tgt := 101) d_9_whatDoes_97 rfl ?_
            obtain ⟨rfl, rfl⟩ := Prod.mk.inj (Option.some.inj h)
            exact ze_i d_9_whatDoes_101 rfl
        refine zr_if_ne (tgt := 86) d_9_whatDoes_79 rfl (fun hc14 => ?_) (fun hc14 => ?_)
        · replace hT12 := z_ip hT12 hc14
          refine zr_iconst (v := (0 : Int32)) d_9_whatDoes_82 rfl ?_
          refine zr_goto (tgt := 87) d_9_whatDoes_83 rfl ?_
          obtain rfl := Option.some.inj hT12
          exact zr_wk2 hJ13 trivial
        · replace hT12 := z_im hT12 hc14
          refine zr_iconst (v := (1 : Int32)) d_9_whatDoes_86 rfl ?_
          obtain rfl := Option.some.inj hT12
          exact zr_wk2 hJ13 trivial
      refine zr_if_ne (tgt := 53) d_9_whatDoes_45 rfl (fun hc10 => ?_) (fun hc10 => ?_)
      · replace hT8 := z_ip hT8 hc10
        refine zr_bipush (v := (8 : Int32)) d_9_whatDoes_48 rfl ?_
        refine zr_goto (tgt := 55) d_9_whatDoes_50 rfl ?_
        obtain rfl := Option.some.inj hT8
        exact zr_wk2 hJ9 ⟨rfl, ⟨rfl, trivial⟩⟩
      · replace hT8 := z_im hT8 hc10
        refine zr_bipush (v := (16 : Int32)) d_9_whatDoes_53 rfl ?_
        obtain rfl := Option.some.inj hT8
        exact zr_wk2 hJ9 ⟨rfl, ⟨rfl, trivial⟩⟩
    · replace h := z_im h hc7
      refine zr_iconst (v := (2 : Int32)) d_9_whatDoes_37 rfl ?_
      obtain ⟨rfl, rfl⟩ := Prod.mk.inj (Option.some.inj h)
      exact ze_i d_9_whatDoes_38 rfl
def f9_becomes (a1 : Int32) (a2 : Int32) (μ : zMem) : Option (zMem) :=
  if z_in a1 34 = true then z_let (z_sI μ 149 0 a1.toNatClampNeg a2) fun m1 => if z_in ((7 : Int32) + a1) 34 = true then z_let (z_sI m1 149 0 ((7 : Int32) + a1).toNatClampNeg (0 : Int32)) fun m4 => (if a2 = (2 : Int32) then if z_in ((21 : Int32) + a1) 34 = true then z_let (z_sI m4 149 0 ((21 : Int32) + a1).toNatClampNeg (m4.1 149 0 (33 : Int32).toNatClampNeg)) fun m8 => some m8 else none else some m4) else none else none
theorem s9_becomes {P : zP} {μ : zMem} {a1 : Int32} {a2 : Int32} {μ' : zMem} (h : f9_becomes a1 a2 μ = some μ') : z_Sp P y_9_becomes M_9_becomes 1 [zA 9 0, zI a1, zI a2] μ none μ' := by
  refine z_Sp.of (plainFor_of_name (by decide)) rfl (l0 := [some (zA 9 0), some (zI a1), some (zI a2)]) rfl (Nat.le_of_ble_eq_true rfl) ?_
  unfold f9_becomes at h
  refine zr_aload_n (i := 0) d_9_becomes_0 rfl rfl ?_
  refine zr_gets (i' := 0) d_9_becomes_1 fw_9_113 rfl ?_
  refine zr_iload_n (i := 1) d_9_becomes_4 rfl rfl ?_
  refine zr_iload_n (i := 2) d_9_becomes_5 rfl rfl ?_
  obtain ⟨hb3, h⟩ := z_gd h
  obtain ⟨m1, hm2, h⟩ := z_lt h
  refine zr_iast d_9_becomes_6 sa_149 rfl hb3 hm2 ?_
  refine zr_aload_n (i := 0) d_9_becomes_7 rfl rfl ?_
  refine zr_gets (i' := 0) d_9_becomes_8 fw_9_113 rfl ?_
  refine zr_bipush (v := (7 : Int32)) d_9_becomes_11 rfl ?_
  refine zr_iload_n (i := 1) d_9_becomes_13 rfl rfl ?_
  refine zr_iadd d_9_becomes_14 ?_
  refine zr_iconst (v := (0 : Int32)) d_9_becomes_15 rfl ?_
  obtain ⟨hb6, h⟩ := z_gd h
  obtain ⟨m4, hm5, h⟩ := z_lt h
  refine zr_iast d_9_becomes_16 sa_149 rfl hb6 hm5 ?_
  refine zr_iload_n (i := 2) d_9_becomes_17 rfl rfl ?_
  refine zr_iconst (v := (2 : Int32)) d_9_becomes_18 rfl ?_
  refine zr_icmp_ne (tgt := 38) d_9_becomes_19 rfl (fun hc7 => ?_) (fun hc7 => ?_)
  · replace h := z_ip h hc7
    refine zr_aload_n (i := 0) d_9_becomes_22 rfl rfl ?_
    refine zr_gets (i' := 0) d_9_becomes_23 fw_9_113 rfl ?_
    refine zr_bipush (v := (21 : Int32)) d_9_becomes_26 rfl ?_
    refine zr_iload_n (i := 1) d_9_becomes_28 rfl rfl ?_
    refine zr_iadd d_9_becomes_29 ?_
    refine zr_aload_n (i := 0) d_9_becomes_30 rfl rfl ?_
    refine zr_gets (i' := 0) d_9_becomes_31 fw_9_113 rfl ?_
    refine zr_bipush (v := (33 : Int32)) d_9_becomes_34 rfl ?_
    refine zr_iald d_9_becomes_36 sa_149 rfl rfl ?_
    obtain ⟨hb10, h⟩ := z_gd h
    obtain ⟨m8, hm9, h⟩ := z_lt h
    refine zr_iast d_9_becomes_37 sa_149 rfl hb10 hm9 ?_
    obtain rfl := Option.some.inj h
    exact ze_v d_9_becomes_38 rfl
  · replace h := z_im h hc7
    obtain rfl := Option.some.inj h
    exact ze_v d_9_becomes_38 rfl
def f9_does (a1 : Int32) (μ : zMem) : Option (zMem) :=
  if z_in a1 7 = true then (if (μ.1 154 0 a1.toNatClampNeg) = (2 : Int32) then (f9_becomes a1 (2 : Int32) μ).bind (fun qm3 => some qm3) else (if (μ.1 154 0 a1.toNatClampNeg) = (1 : Int32) then if z_in a1 34 = true then (f9_becomes a1 ((1 : Int32) - (μ.1 149 0 a1.toNatClampNeg)) μ).bind (fun qm7 => some qm7) else none else if z_in a1 34 = true then (if (μ.1 149 0 a1.toNatClampNeg) = (1 : Int32) then if z_in ((7 : Int32) + a1) 34 = true then z_let (z_sI μ 149 0 ((7 : Int32) + a1).toNatClampNeg ((μ.1 149 0 ((7 : Int32) + a1).toNatClampNeg) + (1 : Int32))) fun m12 => some m12 else none else some μ) else none)) else none
theorem s9_does {P : zP} {μ : zMem} {a1 : Int32} {μ' : zMem} (h : f9_does a1 μ = some μ') : z_Sp P y_9_does M_9_does 2 [zA 9 0, zI a1] μ none μ' := by
  refine z_Sp.of (plainFor_of_name (by decide)) rfl (l0 := [some (zA 9 0), some (zI a1)]) rfl (Nat.le_of_ble_eq_true rfl) ?_
  unfold f9_does at h
  refine zr_aload_n (i := 0) d_9_does_0 rfl rfl ?_
  refine zr_gets (i' := 0) d_9_does_1 fw_9_122 rfl ?_
  refine zr_iload_n (i := 1) d_9_does_4 rfl rfl ?_
  obtain ⟨hb1, h⟩ := z_gd h
  refine zr_iald d_9_does_5 sa_154 rfl hb1 ?_
  refine zr_iconst (v := (2 : Int32)) d_9_does_6 rfl ?_
  refine zr_icmp_ne (tgt := 19) d_9_does_7 rfl (fun hc2 => ?_) (fun hc2 => ?_)
  · replace h := z_ip h hc2
    refine zr_aload_n (i := 0) d_9_does_10 rfl rfl ?_
    refine zr_iload_n (i := 1) d_9_does_11 rfl rfl ?_
    refine zr_iconst (v := (2 : Int32)) d_9_does_12 rfl ?_
    obtain ⟨qm3, hq4, h⟩ := z_bd h
    refine zr_callVv (av := [zI a1, zI (2 : Int32)]) (st := []) d_9_does_13 mw_9_becomes ml_9_376 im_9_becomes se_9_becomes rfl rfl (Nat.le_of_ble_eq_true rfl) fit_1_3_2 rfl rfl rfl (s9_becomes hq4) ?_
    refine zr_goto (tgt := 68) d_9_does_16 rfl ?_
    obtain rfl := Option.some.inj h
    exact ze_v d_9_does_68 rfl
  · replace h := z_im h hc2
    refine zr_aload_n (i := 0) d_9_does_19 rfl rfl ?_
    refine zr_gets (i' := 0) d_9_does_20 fw_9_122 rfl ?_
    refine zr_iload_n (i := 1) d_9_does_23 rfl rfl ?_
    refine zr_iald d_9_does_24 sa_154 rfl hb1 ?_
    refine zr_iconst (v := (1 : Int32)) d_9_does_25 rfl ?_
    refine zr_icmp_ne (tgt := 45) d_9_does_26 rfl (fun hc5 => ?_) (fun hc5 => ?_)
    · replace h := z_ip h hc5
      refine zr_aload_n (i := 0) d_9_does_29 rfl rfl ?_
      refine zr_iload_n (i := 1) d_9_does_30 rfl rfl ?_
      refine zr_iconst (v := (1 : Int32)) d_9_does_31 rfl ?_
      refine zr_aload_n (i := 0) d_9_does_32 rfl rfl ?_
      refine zr_gets (i' := 0) d_9_does_33 fw_9_113 rfl ?_
      refine zr_iload_n (i := 1) d_9_does_36 rfl rfl ?_
      obtain ⟨hb6, h⟩ := z_gd h
      refine zr_iald d_9_does_37 sa_149 rfl hb6 ?_
      refine zr_isub d_9_does_38 ?_
      obtain ⟨qm7, hq8, h⟩ := z_bd h
      refine zr_callVv (av := [zI a1, zI ((1 : Int32) - (μ.1 149 0 a1.toNatClampNeg))]) (st := []) d_9_does_39 mw_9_becomes ml_9_376 im_9_becomes se_9_becomes rfl rfl (Nat.le_of_ble_eq_true rfl) fit_1_3_2 rfl rfl rfl (s9_becomes hq8) ?_
      refine zr_goto (tgt := 68) d_9_does_42 rfl ?_
      obtain rfl := Option.some.inj h
      exact ze_v d_9_does_68 rfl
    · replace h := z_im h hc5
      refine zr_aload_n (i := 0) d_9_does_45 rfl rfl ?_
      refine zr_gets (i' := 0) d_9_does_46 fw_9_113 rfl ?_
      refine zr_iload_n (i := 1) d_9_does_49 rfl rfl ?_
      obtain ⟨hb9, h⟩ := z_gd h
      refine zr_iald d_9_does_50 sa_149 rfl hb9 ?_
      refine zr_iconst (v := (1 : Int32)) d_9_does_51 rfl ?_
      refine zr_icmp_ne (tgt := 68) d_9_does_52 rfl (fun hc10 => ?_) (fun hc10 => ?_)
      · replace h := z_ip h hc10
        refine zr_aload_n (i := 0) d_9_does_55 rfl rfl ?_
        refine zr_gets (i' := 0) d_9_does_56 fw_9_113 rfl ?_
        refine zr_bipush (v := (7 : Int32)) d_9_does_59 rfl ?_
        refine zr_iload_n (i := 1) d_9_does_61 rfl rfl ?_
        refine zr_iadd d_9_does_62 ?_
        refine zr_dup2 d_9_does_63 ?_
        obtain ⟨hb11, h⟩ := z_gd h
        refine zr_iald d_9_does_64 sa_149 rfl hb11 ?_
        refine zr_iconst (v := (1 : Int32)) d_9_does_65 rfl ?_
        refine zr_iadd d_9_does_66 ?_
        obtain ⟨m12, hm13, h⟩ := z_lt h
        refine zr_iast d_9_does_67 sa_149 rfl hb11 hm13 ?_
        obtain rfl := Option.some.inj h
        exact ze_v d_9_does_68 rfl
      · replace h := z_im h hc10
        obtain rfl := Option.some.inj h
        exact ze_v d_9_does_68 rfl
def f9_yearGoes_L1  : (Int32 × zMem) → Option ((Int32 × zMem) ⊕ (zMem)) := (z_u2 fun x2 xm3 => 
  if z_in (xm3.1 9 0 18) 2 = true then (if x2 < (xm3.1 123 0 (xm3.1 9 0 18).toNatClampNeg) then (f9_lordOf x2 xm3).bind (fun q6 => if z_in x2 5 = true then z_let (z_sI xm3 153 0 x2.toNatClampNeg q6) fun m8 => (f9_rentsOf x2 m8).bind (z_u2 fun q11 qm12 => z_let (z_sI qm12 152 0 x2.toNatClampNeg q11) fun m14 => some (.inl ((x2 + (1 : Int32)), m14))) else none) else some (.inr xm3)) else none)
def f9_yearGoes_L18  : (Int32 × zMem) → Option ((Int32 × zMem) ⊕ (zMem)) := (z_u2 fun x19 xm20 => 
  if z_in (xm20.1 9 0 18) 2 = true then (if x19 < (xm20.1 126 0 (xm20.1 9 0 18).toNatClampNeg) then (f9_whatDoes x19 xm20).bind (z_u2 fun q23 qm24 => if z_in x19 7 = true then z_let (z_sI qm24 154 0 x19.toNatClampNeg q23) fun m26 => some (.inl ((x19 + (1 : Int32)), m26)) else none) else some (.inr xm20)) else none)
def f9_yearGoes_L31  : (Int32 × zMem) → Option ((Int32 × zMem) ⊕ (zMem)) := (z_u2 fun x32 xm33 => 
  if z_in (xm33.1 9 0 18) 2 = true then (if x32 < (xm33.1 123 0 (xm33.1 9 0 18).toNatClampNeg) then if z_in x32 5 = true then ((if (xm33.1 153 0 x32.toNatClampNeg) < 0 then some xm33 else if z_in ((14 : Int32) + (xm33.1 153 0 x32.toNatClampNeg)) 34 = true then z_let (z_sI xm33 149 0 ((14 : Int32) + (xm33.1 153 0 x32.toNatClampNeg)).toNatClampNeg ((xm33.1 149 0 ((14 : Int32) + (xm33.1 153 0 x32.toNatClampNeg)).toNatClampNeg) + (xm33.1 152 0 x32.toNatClampNeg))) fun m41 => some m41 else none) : Option (zMem)).bind (fun jm43 => some (.inl ((x32 + (1 : Int32)), jm43))) else none else some (.inr xm33)) else none)
def f9_yearGoes_L46  : (Int32 × zMem) → Option ((Int32 × zMem) ⊕ (zMem)) := (z_u2 fun x47 xm48 => 
  if z_in (xm48.1 9 0 18) 2 = true then (if x47 < (xm48.1 126 0 (xm48.1 9 0 18).toNatClampNeg) then (f9_does x47 xm48).bind (fun qm51 => some (.inl ((x47 + (1 : Int32)), qm51))) else some (.inr xm48)) else none)
def f9_yearGoes  (μ : zMem) : Option (zMem) :=
  (z_it (f9_yearGoes_L1) z_fu ((0 : Int32), μ)).bind (fun e16 => (z_it (f9_yearGoes_L18) z_fu ((0 : Int32), e16)).bind (fun e29 => (z_it (f9_yearGoes_L31) z_fu ((0 : Int32), e29)).bind (fun e44 => (z_it (f9_yearGoes_L46) z_fu ((0 : Int32), e44)).bind (fun e53 => z_let (z_sI e53 149 0 (33 : Int32).toNatClampNeg ((e53.1 149 0 (33 : Int32).toNatClampNeg) + (1 : Int32))) fun m55 => some m55))))
theorem s9_yearGoes_L1 {P : zP} {ro : Option zV} {μo : zMem}  (x2 : Int32) (xm3 : zMem) (K : (Int32 × zMem) ⊕ (zMem)) (h : f9_yearGoes_L1  (x2, xm3) = some K) (hI : ∀ (y0 : Int32) (y1 : zMem), K = .inl (y0, y1) → z_RQ P M_9_yearGoes (z_rm 8) (z_mq P ro μo) 0 0 2 [some (zA 9 0), some (zI y0)] [] y1) (hE : ∀ (z0 : zMem), K = .inr z0 → z_RQ P M_9_yearGoes (z_rm 8) (z_mq P ro μo) 0 0 43 [some (zA 9 0), none] [] z0)  : z_RQ P M_9_yearGoes (z_rm 8) (z_mq P ro μo) 0 0 2 [some (zA 9 0), some (zI x2)] [] xm3 := by
  unfold f9_yearGoes_L1 at h
  replace h := z_h2 h
  refine zr_iload_n (i := 1) d_9_yearGoes_2 rfl rfl ?_
  refine zr_aload_n (i := 0) d_9_yearGoes_3 rfl rfl ?_
  refine zr_gets (i' := 0) d_9_yearGoes_4 fw_9_46 rfl ?_
  refine zr_aload_n (i := 0) d_9_yearGoes_7 rfl rfl ?_
  refine zr_geti d_9_yearGoes_8 fw_9_233 (by decide) ?_
  obtain ⟨hb4, h⟩ := z_gd h
  refine zr_iald d_9_yearGoes_11 sa_123 rfl hb4 ?_
  refine zr_icmp_ge (tgt := 43) d_9_yearGoes_12 rfl (fun hc5 => ?_) (fun hc5 => ?_)
  · replace h := z_ip h hc5
    refine zr_aload_n (i := 0) d_9_yearGoes_15 rfl rfl ?_
    refine zr_gets (i' := 0) d_9_yearGoes_16 fw_9_119 rfl ?_
    refine zr_iload_n (i := 1) d_9_yearGoes_19 rfl rfl ?_
    refine zr_aload_n (i := 0) d_9_yearGoes_20 rfl rfl ?_
    refine zr_iload_n (i := 1) d_9_yearGoes_21 rfl rfl ?_
    obtain ⟨q6, hq7, h⟩ := z_bd h
    refine zr_callVi (av := [zI x2]) (st := [zI x2, zA 153 0]) d_9_yearGoes_22 mw_9_lordOf ml_9_340 im_9_lordOf se_9_lordOf rfl rfl (Nat.le_of_ble_eq_true rfl) fit_3_2_8 rfl rfl rfl (s9_lordOf hq7) ?_
    obtain ⟨hb10, h⟩ := z_gd h
    obtain ⟨m8, hm9, h⟩ := z_lt h
    refine zr_iast d_9_yearGoes_25 sa_153 rfl hb10 hm9 ?_
    refine zr_aload_n (i := 0) d_9_yearGoes_26 rfl rfl ?_
    refine zr_gets (i' := 0) d_9_yearGoes_27 fw_9_116 rfl ?_
    refine zr_iload_n (i := 1) d_9_yearGoes_30 rfl rfl ?_
    refine zr_aload_n (i := 0) d_9_yearGoes_31 rfl rfl ?_
    refine zr_iload_n (i := 1) d_9_yearGoes_32 rfl rfl ?_
    obtain ⟨⟨q11, qm12⟩, hq13, h⟩ := z_bd h
    replace h := z_h2 h
    refine zr_callVi (av := [zI x2]) (st := [zI x2, zA 152 0]) d_9_yearGoes_33 mw_9_rentsOf ml_9_379 im_9_rentsOf se_9_rentsOf rfl rfl (Nat.le_of_ble_eq_true rfl) fit_6_3_8 rfl rfl rfl (s9_rentsOf hq13) ?_
    obtain ⟨m14, hm15, h⟩ := z_lt h
    refine zr_iast d_9_yearGoes_36 sa_152 rfl hb10 hm15 ?_
    refine zr_iinc (v := (x2 + (1 : Int32))) (l' := [some (zA 9 0), some (zI (x2 + (1 : Int32)))]) d_9_yearGoes_37 (by decide) rfl rfl rfl ?_
    refine zr_goto (tgt := 2) d_9_yearGoes_40 rfl ?_
    obtain rfl := Option.some.inj h
    exact zr_wk2 (hI (x2 + (1 : Int32)) m14 rfl) ⟨rfl, ⟨rfl, trivial⟩⟩
  · replace h := z_im h hc5
    obtain rfl := Option.some.inj h
    exact zr_wk2 (hE xm3 rfl) ⟨rfl, trivial⟩
theorem s9_yearGoes_L18 {P : zP} {ro : Option zV} {μo : zMem}  (x19 : Int32) (xm20 : zMem) (K : (Int32 × zMem) ⊕ (zMem)) (h : f9_yearGoes_L18  (x19, xm20) = some K) (hI : ∀ (y0 : Int32) (y1 : zMem), K = .inl (y0, y1) → z_RQ P M_9_yearGoes (z_rm 8) (z_mq P ro μo) 0 0 45 [some (zA 9 0), some (zI y0)] [] y1) (hE : ∀ (z0 : zMem), K = .inr z0 → z_RQ P M_9_yearGoes (z_rm 8) (z_mq P ro μo) 0 0 75 [some (zA 9 0), none] [] z0)  : z_RQ P M_9_yearGoes (z_rm 8) (z_mq P ro μo) 0 0 45 [some (zA 9 0), some (zI x19)] [] xm20 := by
  unfold f9_yearGoes_L18 at h
  replace h := z_h2 h
  refine zr_iload_n (i := 1) d_9_yearGoes_45 rfl rfl ?_
  refine zr_aload_n (i := 0) d_9_yearGoes_46 rfl rfl ?_
  refine zr_gets (i' := 0) d_9_yearGoes_47 fw_9_55 rfl ?_
  refine zr_aload_n (i := 0) d_9_yearGoes_50 rfl rfl ?_
  refine zr_geti d_9_yearGoes_51 fw_9_233 (by decide) ?_
  obtain ⟨hb21, h⟩ := z_gd h
  refine zr_iald d_9_yearGoes_54 sa_126 rfl hb21 ?_
  refine zr_icmp_ge (tgt := 75) d_9_yearGoes_55 rfl (fun hc22 => ?_) (fun hc22 => ?_)
  · replace h := z_ip h hc22
    refine zr_aload_n (i := 0) d_9_yearGoes_58 rfl rfl ?_
    refine zr_gets (i' := 0) d_9_yearGoes_59 fw_9_122 rfl ?_
    refine zr_iload_n (i := 1) d_9_yearGoes_62 rfl rfl ?_
    refine zr_aload_n (i := 0) d_9_yearGoes_63 rfl rfl ?_
    refine zr_iload_n (i := 1) d_9_yearGoes_64 rfl rfl ?_
    obtain ⟨⟨q23, qm24⟩, hq25, h⟩ := z_bd h
    replace h := z_h2 h
    refine zr_callVi (av := [zI x19]) (st := [zI x19, zA 154 0]) d_9_yearGoes_65 mw_9_whatDoes ml_9_382 im_9_whatDoes se_9_whatDoes rfl rfl (Nat.le_of_ble_eq_true rfl) fit_7_3_8 rfl rfl rfl (s9_whatDoes hq25) ?_
    obtain ⟨hb28, h⟩ := z_gd h
    obtain ⟨m26, hm27, h⟩ := z_lt h
    refine zr_iast d_9_yearGoes_68 sa_154 rfl hb28 hm27 ?_
    refine zr_iinc (v := (x19 + (1 : Int32))) (l' := [some (zA 9 0), some (zI (x19 + (1 : Int32)))]) d_9_yearGoes_69 (by decide) rfl rfl rfl ?_
    refine zr_goto (tgt := 45) d_9_yearGoes_72 rfl ?_
    obtain rfl := Option.some.inj h
    exact zr_wk2 (hI (x19 + (1 : Int32)) m26 rfl) ⟨rfl, ⟨rfl, trivial⟩⟩
  · replace h := z_im h hc22
    obtain rfl := Option.some.inj h
    exact zr_wk2 (hE xm20 rfl) ⟨rfl, trivial⟩
theorem s9_yearGoes_L31 {P : zP} {ro : Option zV} {μo : zMem}  (x32 : Int32) (xm33 : zMem) (K : (Int32 × zMem) ⊕ (zMem)) (h : f9_yearGoes_L31  (x32, xm33) = some K) (hI : ∀ (y0 : Int32) (y1 : zMem), K = .inl (y0, y1) → z_RQ P M_9_yearGoes (z_rm 8) (z_mq P ro μo) 0 0 77 [some (zA 9 0), some (zI y0)] [] y1) (hE : ∀ (z0 : zMem), K = .inr z0 → z_RQ P M_9_yearGoes (z_rm 8) (z_mq P ro μo) 0 0 128 [some (zA 9 0), none] [] z0)  : z_RQ P M_9_yearGoes (z_rm 8) (z_mq P ro μo) 0 0 77 [some (zA 9 0), some (zI x32)] [] xm33 := by
  unfold f9_yearGoes_L31 at h
  replace h := z_h2 h
  refine zr_iload_n (i := 1) d_9_yearGoes_77 rfl rfl ?_
  refine zr_aload_n (i := 0) d_9_yearGoes_78 rfl rfl ?_
  refine zr_gets (i' := 0) d_9_yearGoes_79 fw_9_46 rfl ?_
  refine zr_aload_n (i := 0) d_9_yearGoes_82 rfl rfl ?_
  refine zr_geti d_9_yearGoes_83 fw_9_233 (by decide) ?_
  obtain ⟨hb34, h⟩ := z_gd h
  refine zr_iald d_9_yearGoes_86 sa_123 rfl hb34 ?_
  refine zr_icmp_ge (tgt := 128) d_9_yearGoes_87 rfl (fun hc35 => ?_) (fun hc35 => ?_)
  · replace h := z_ip h hc35
    refine zr_aload_n (i := 0) d_9_yearGoes_90 rfl rfl ?_
    refine zr_gets (i' := 0) d_9_yearGoes_91 fw_9_119 rfl ?_
    refine zr_iload_n (i := 1) d_9_yearGoes_94 rfl rfl ?_
    obtain ⟨hb36, h⟩ := z_gd h
    refine zr_iald d_9_yearGoes_95 sa_153 rfl hb36 ?_
    obtain ⟨jm43, hT37, h⟩ := z_bd h
    have hJ38 : z_RQ P M_9_yearGoes (z_rm 8) (z_mq P ro μo) 0 0 122 [some (zA 9 0), some (zI x32)] [] jm43 := by
      refine zr_iinc (v := (x32 + (1 : Int32))) (l' := [some (zA 9 0), some (zI (x32 + (1 : Int32)))]) d_9_yearGoes_122 (by decide) rfl rfl rfl ?_
      refine zr_goto (tgt := 77) d_9_yearGoes_125 rfl ?_
      obtain rfl := Option.some.inj h
      exact zr_wk2 (hI (x32 + (1 : Int32)) jm43 rfl) ⟨rfl, ⟨rfl, trivial⟩⟩
    refine zr_if_lt (tgt := 122) d_9_yearGoes_96 rfl (fun hc39 => ?_) (fun hc39 => ?_)
    · replace hT37 := z_ip hT37 hc39
      obtain rfl := Option.some.inj hT37
      exact zr_wk2 hJ38 ⟨rfl, ⟨rfl, trivial⟩⟩
    · replace hT37 := z_im hT37 hc39
      refine zr_aload_n (i := 0) d_9_yearGoes_99 rfl rfl ?_
      refine zr_gets (i' := 0) d_9_yearGoes_100 fw_9_113 rfl ?_
      refine zr_bipush (v := (14 : Int32)) d_9_yearGoes_103 rfl ?_
      refine zr_aload_n (i := 0) d_9_yearGoes_105 rfl rfl ?_
      refine zr_gets (i' := 0) d_9_yearGoes_106 fw_9_119 rfl ?_
      refine zr_iload_n (i := 1) d_9_yearGoes_109 rfl rfl ?_
      refine zr_iald d_9_yearGoes_110 sa_153 rfl hb36 ?_
      refine zr_iadd d_9_yearGoes_111 ?_
      refine zr_dup2 d_9_yearGoes_112 ?_
      obtain ⟨hb40, hT37⟩ := z_gd hT37
      refine zr_iald d_9_yearGoes_113 sa_149 rfl hb40 ?_
      refine zr_aload_n (i := 0) d_9_yearGoes_114 rfl rfl ?_
      refine zr_gets (i' := 0) d_9_yearGoes_115 fw_9_116 rfl ?_
      refine zr_iload_n (i := 1) d_9_yearGoes_118 rfl rfl ?_
      refine zr_iald d_9_yearGoes_119 sa_152 rfl hb36 ?_
      refine zr_iadd d_9_yearGoes_120 ?_
      obtain ⟨m41, hm42, hT37⟩ := z_lt hT37
      refine zr_iast d_9_yearGoes_121 sa_149 rfl hb40 hm42 ?_
      obtain rfl := Option.some.inj hT37
      exact zr_wk2 hJ38 ⟨rfl, ⟨rfl, trivial⟩⟩
  · replace h := z_im h hc35
    obtain rfl := Option.some.inj h
    exact zr_wk2 (hE xm33 rfl) ⟨rfl, trivial⟩
theorem s9_yearGoes_L46 {P : zP} {ro : Option zV} {μo : zMem}  (x47 : Int32) (xm48 : zMem) (K : (Int32 × zMem) ⊕ (zMem)) (h : f9_yearGoes_L46  (x47, xm48) = some K) (hI : ∀ (y0 : Int32) (y1 : zMem), K = .inl (y0, y1) → z_RQ P M_9_yearGoes (z_rm 8) (z_mq P ro μo) 0 0 130 [some (zA 9 0), some (zI y0)] [] y1) (hE : ∀ (z0 : zMem), K = .inr z0 → z_RQ P M_9_yearGoes (z_rm 8) (z_mq P ro μo) 0 0 154 [some (zA 9 0), none] [] z0)  : z_RQ P M_9_yearGoes (z_rm 8) (z_mq P ro μo) 0 0 130 [some (zA 9 0), some (zI x47)] [] xm48 := by
  unfold f9_yearGoes_L46 at h
  replace h := z_h2 h
  refine zr_iload_n (i := 1) d_9_yearGoes_130 rfl rfl ?_
  refine zr_aload_n (i := 0) d_9_yearGoes_131 rfl rfl ?_
  refine zr_gets (i' := 0) d_9_yearGoes_132 fw_9_55 rfl ?_
  refine zr_aload_n (i := 0) d_9_yearGoes_135 rfl rfl ?_
  refine zr_geti d_9_yearGoes_136 fw_9_233 (by decide) ?_
  obtain ⟨hb49, h⟩ := z_gd h
  refine zr_iald d_9_yearGoes_139 sa_126 rfl hb49 ?_
  refine zr_icmp_ge (tgt := 154) d_9_yearGoes_140 rfl (fun hc50 => ?_) (fun hc50 => ?_)
  · replace h := z_ip h hc50
    refine zr_aload_n (i := 0) d_9_yearGoes_143 rfl rfl ?_
    refine zr_iload_n (i := 1) d_9_yearGoes_144 rfl rfl ?_
    obtain ⟨qm51, hq52, h⟩ := z_bd h
    refine zr_callVv (av := [zI x47]) (st := []) d_9_yearGoes_145 mw_9_does ml_9_385 im_9_does se_9_does rfl rfl (Nat.le_of_ble_eq_true rfl) fit_2_2_8 rfl rfl rfl (s9_does hq52) ?_
    refine zr_iinc (v := (x47 + (1 : Int32))) (l' := [some (zA 9 0), some (zI (x47 + (1 : Int32)))]) d_9_yearGoes_148 (by decide) rfl rfl rfl ?_
    refine zr_goto (tgt := 130) d_9_yearGoes_151 rfl ?_
    obtain rfl := Option.some.inj h
    exact zr_wk2 (hI (x47 + (1 : Int32)) qm51 rfl) ⟨rfl, ⟨rfl, trivial⟩⟩
  · replace h := z_im h hc50
    obtain rfl := Option.some.inj h
    exact zr_wk2 (hE xm48 rfl) ⟨rfl, trivial⟩
theorem s9_yearGoes {P : zP} {μ : zMem} {μ' : zMem} (h : f9_yearGoes μ = some μ') : z_Sp P y_9_yearGoes M_9_yearGoes 8 [zA 9 0] μ none μ' := by
  refine z_Sp.of (plainFor_of_name (by decide)) rfl (l0 := [some (zA 9 0), none]) rfl (Nat.le_of_ble_eq_true rfl) ?_
  unfold f9_yearGoes at h
  refine zr_iconst (v := (0 : Int32)) d_9_yearGoes_0 rfl ?_
  refine zr_istore_n (i := 1) (l' := [some (zA 9 0), some (zI (0 : Int32))]) d_9_yearGoes_1 rfl (by decide) rfl ?_
  obtain ⟨e16, hl17, h⟩ := z_bd h
  refine zr_wk (l' := [some (zA 9 0), some (zI (0 : Int32))]) ⟨rfl, ⟨rfl, trivial⟩⟩ ?_
  refine z_loop (Hd := (z_u2 fun y0 y1 => z_RQ P M_9_yearGoes (z_rm 8) (z_mq P none μ') 0 0 2 [some (zA 9 0), some (zI y0)] [] y1)) (Ex := (fun z0 => z_RQ P M_9_yearGoes (z_rm 8) (z_mq P none μ') 0 0 43 [some (zA 9 0), none] [] z0)) (fun ⟨x2, xm3⟩ K h hI hE => s9_yearGoes_L1  x2 xm3 K h (fun y0 y1 e => hI (y0, y1) e) (fun z0 e => hE z0 e) ) _ _ _ hl17 ?_
  refine zr_iconst (v := (0 : Int32)) d_9_yearGoes_43 rfl ?_
  refine zr_istore_n (i := 1) (l' := [some (zA 9 0), some (zI (0 : Int32))]) d_9_yearGoes_44 rfl (by decide) rfl ?_
  obtain ⟨e29, hl30, h⟩ := z_bd h
  refine zr_wk (l' := [some (zA 9 0), some (zI (0 : Int32))]) ⟨rfl, ⟨rfl, trivial⟩⟩ ?_
  refine z_loop (Hd := (z_u2 fun y0 y1 => z_RQ P M_9_yearGoes (z_rm 8) (z_mq P none μ') 0 0 45 [some (zA 9 0), some (zI y0)] [] y1)) (Ex := (fun z0 => z_RQ P M_9_yearGoes (z_rm 8) (z_mq P none μ') 0 0 75 [some (zA 9 0), none] [] z0)) (fun ⟨x19, xm20⟩ K h hI hE => s9_yearGoes_L18  x19 xm20 K h (fun y0 y1 e => hI (y0, y1) e) (fun z0 e => hE z0 e) ) _ _ _ hl30 ?_
  refine zr_iconst (v := (0 : Int32)) d_9_yearGoes_75 rfl ?_
  refine zr_istore_n (i := 1) (l' := [some (zA 9 0), some (zI (0 : Int32))]) d_9_yearGoes_76 rfl (by decide) rfl ?_
  obtain ⟨e44, hl45, h⟩ := z_bd h
  refine zr_wk (l' := [some (zA 9 0), some (zI (0 : Int32))]) ⟨rfl, ⟨rfl, trivial⟩⟩ ?_
  refine z_loop (Hd := (z_u2 fun y0 y1 => z_RQ P M_9_yearGoes (z_rm 8) (z_mq P none μ') 0 0 77 [some (zA 9 0), some (zI y0)] [] y1)) (Ex := (fun z0 => z_RQ P M_9_yearGoes (z_rm 8) (z_mq P none μ') 0 0 128 [some (zA 9 0), none] [] z0)) (fun ⟨x32, xm33⟩ K h hI hE => s9_yearGoes_L31  x32 xm33 K h (fun y0 y1 e => hI (y0, y1) e) (fun z0 e => hE z0 e) ) _ _ _ hl45 ?_
  refine zr_iconst (v := (0 : Int32)) d_9_yearGoes_128 rfl ?_
  refine zr_istore_n (i := 1) (l' := [some (zA 9 0), some (zI (0 : Int32))]) d_9_yearGoes_129 rfl (by decide) rfl ?_
  obtain ⟨e53, hl54, h⟩ := z_bd h
  refine zr_wk (l' := [some (zA 9 0), some (zI (0 : Int32))]) ⟨rfl, ⟨rfl, trivial⟩⟩ ?_
  refine z_loop (Hd := (z_u2 fun y0 y1 => z_RQ P M_9_yearGoes (z_rm 8) (z_mq P none μ') 0 0 130 [some (zA 9 0), some (zI y0)] [] y1)) (Ex := (fun z0 => z_RQ P M_9_yearGoes (z_rm 8) (z_mq P none μ') 0 0 154 [some (zA 9 0), none] [] z0)) (fun ⟨x47, xm48⟩ K h hI hE => s9_yearGoes_L46  x47 xm48 K h (fun y0 y1 e => hI (y0, y1) e) (fun z0 e => hE z0 e) ) _ _ _ hl54 ?_
  refine zr_aload_n (i := 0) d_9_yearGoes_154 rfl rfl ?_
  refine zr_gets (i' := 0) d_9_yearGoes_155 fw_9_113 rfl ?_
  refine zr_bipush (v := (33 : Int32)) d_9_yearGoes_158 rfl ?_
  refine zr_dup2 d_9_yearGoes_160 ?_
  refine zr_iald d_9_yearGoes_161 sa_149 rfl rfl ?_
  refine zr_iconst (v := (1 : Int32)) d_9_yearGoes_162 rfl ?_
  refine zr_iadd d_9_yearGoes_163 ?_
  obtain ⟨m55, hm56, h⟩ := z_lt h
  refine zr_iast d_9_yearGoes_164 sa_149 rfl rfl hm56 ?_
  obtain rfl := Option.some.inj h
  exact ze_v d_9_yearGoes_165 rfl
