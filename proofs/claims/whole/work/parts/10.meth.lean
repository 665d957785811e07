/-! 10.meth.lean.txt -/
def y_8_has : MethodName := ⟨zR8, "has", "(II)Z"⟩
abbrev M_8_has : zM := (zR8, prog_1_method_73_code, 2, (Option.some Jvm.ClassFile.FieldType.boolean))
def y_5_longestGone : MethodName := ⟨zR5, "longestGone", "(I)I"⟩
abbrev M_5_longestGone : zM := (zR5, prog_7_method_14_code, 5, (Option.some Jvm.ClassFile.FieldType.int))
def y_5_landlordOf : MethodName := ⟨zR5, "landlordOf", "(I)I"⟩
abbrev M_5_landlordOf : zM := (zR5, prog_7_method_10_code, 2, (Option.some Jvm.ClassFile.FieldType.int))
def y_1_look : MethodName := ⟨zR1, "look", "(LAbsentLords$Text;LAbsentLords$State;)V"⟩
abbrev M_1_look : zM := (zR1, prog_3_method_2_code, 5, (Option.none : Option Jvm.ClassFile.FieldType))
def y_1_landlordSeen : MethodName := ⟨zR1, "landlordSeen", "(I)I"⟩
abbrev M_1_landlordSeen : zM := (zR1, prog_3_method_3_code, 2, (Option.some Jvm.ClassFile.FieldType.int))
def y_5_rightsHeld : MethodName := ⟨zR5, "rightsHeld", "(I)I"⟩
abbrev M_5_rightsHeld : zM := (zR5, prog_7_method_12_code, 4, (Option.some Jvm.ClassFile.FieldType.int))
def y_j6_bitCount_0f7a4 : MethodName := ⟨zRJ5, "bitCount", "(I)I"⟩
abbrev M_j6_bitCount_0f7a4 : zM := (zRJ5, prog_13_method_49_code, 1, (Option.some Jvm.ClassFile.FieldType.int))
def y_1_variableOf : MethodName := ⟨zR1, "variableOf", "(LAbsentLords$Text;LAbsentLords$State;III)I"⟩
abbrev M_1_variableOf : zM := (zR1, prog_3_method_8_code, 6, (Option.some Jvm.ClassFile.FieldType.int))
def y_1_reckon : MethodName := ⟨zR1, "reckon", "(III)I"⟩
abbrev M_1_reckon : zM := (zR1, prog_3_method_7_code, 3, (Option.some Jvm.ClassFile.FieldType.int))
def y_1_valueOf : MethodName := ⟨zR1, "valueOf", "(LAbsentLords$Text;LAbsentLords$State;III)I"⟩
abbrev M_1_valueOf : zM := (zR1, prog_3_method_6_code, 10, (Option.some Jvm.ClassFile.FieldType.int))
def y_j9_min_7cf53 : MethodName := ⟨zRJ4, "min", "(II)I"⟩
abbrev M_j9_min_7cf53 : zM := (zRJ4, prog_14_method_69_code, 2, (Option.some Jvm.ClassFile.FieldType.int))
def y_j9_max_7cf53 : MethodName := ⟨zRJ4, "max", "(II)I"⟩
abbrev M_j9_max_7cf53 : zM := (zRJ4, prog_14_method_65_code, 2, (Option.some Jvm.ClassFile.FieldType.int))
def y_1_rentsOf : MethodName := ⟨zR1, "rentsOf", "(LAbsentLords$Text;LAbsentLords$State;I)I"⟩
abbrev M_1_rentsOf : zM := (zR1, prog_3_method_4_code, 5, (Option.some Jvm.ClassFile.FieldType.int))
def y_0_reckonDue : MethodName := ⟨zR0, "reckonDue", "(LAbsentLords$Text;LAbsentLords$State;)V"⟩
abbrev M_0_reckonDue : zM := (zR0, prog_2_method_4_code, 5, (Option.none : Option Jvm.ClassFile.FieldType))
def y_5_alive : MethodName := ⟨zR5, "alive", "()I"⟩
abbrev M_5_alive : zM := (zR5, prog_7_method_4_code, 1, (Option.some Jvm.ClassFile.FieldType.int))
def y_0_mix : MethodName := ⟨zR0, "mix", "(II)I"⟩
abbrev M_0_mix : zM := (zR0, prog_2_method_7_code, 3, (Option.some Jvm.ClassFile.FieldType.int))
def y_0_lotOfHundred : MethodName := ⟨zR0, "lotOfHundred", "(II)I"⟩
abbrev M_0_lotOfHundred : zM := (zR0, prog_2_method_6_code, 3, (Option.some Jvm.ClassFile.FieldType.int))
def y_1_chanceOf : MethodName := ⟨zR1, "chanceOf", "(LAbsentLords$Text;LAbsentLords$State;II)I"⟩
abbrev M_1_chanceOf : zM := (zR1, prog_3_method_5_code, 5, (Option.some Jvm.ClassFile.FieldType.int))
def y_0_struckBy : MethodName := ⟨zR0, "struckBy", "(LAbsentLords$Text;LAbsentLords$State;III)I"⟩
abbrev M_0_struckBy : zM := (zR0, prog_2_method_5_code, 9, (Option.some Jvm.ClassFile.FieldType.int))
def y_5_die : MethodName := ⟨zR5, "die", "(I)V"⟩
abbrev M_5_die : zM := (zR5, prog_7_method_7_code, 2, (Option.none : Option Jvm.ClassFile.FieldType))
def y_5_goAway : MethodName := ⟨zR5, "goAway", "(I)V"⟩
abbrev M_5_goAway : zM := (zR5, prog_7_method_5_code, 2, (Option.none : Option Jvm.ClassFile.FieldType))
def y_5_comeHome : MethodName := ⟨zR5, "comeHome", "(I)V"⟩
abbrev M_5_comeHome : zM := (zR5, prog_7_method_6_code, 2, (Option.none : Option Jvm.ClassFile.FieldType))
def y_0_turn : MethodName := ⟨zR0, "turn", "(LAbsentLords$Text;LAbsentLords$State;III)V"⟩
abbrev M_0_turn : zM := (zR0, prog_2_method_8_code, 7, (Option.none : Option Jvm.ClassFile.FieldType))
def y_0_goOn : MethodName := ⟨zR0, "goOn", "(LAbsentLords$Text;LAbsentLords$State;II)V"⟩
abbrev M_0_goOn : zM := (zR0, prog_2_method_2_code, 9, (Option.none : Option Jvm.ClassFile.FieldType))
def y_0_standStill : MethodName := ⟨zR0, "standStill", "(LAbsentLords$Text;LAbsentLords$State;I)V"⟩
abbrev M_0_standStill : zM := (zR0, prog_2_method_3_code, 5, (Option.none : Option Jvm.ClassFile.FieldType))
def y_2_clear : MethodName := ⟨zR2, "clear", "()V"⟩
abbrev M_2_clear : zM := (zR2, prog_4_method_2_code, 1, (Option.none : Option Jvm.ClassFile.FieldType))
def y_2_add : MethodName := ⟨zR2, "add", "(II)I"⟩
abbrev M_2_add : zM := (zR2, prog_4_method_3_code, 3, (Option.some Jvm.ClassFile.FieldType.int))
def y_8_everybody : MethodName := ⟨zR8, "everybody", "(I)I"⟩
abbrev M_8_everybody : zM := (zR8, prog_1_method_74_code, 1, (Option.some Jvm.ClassFile.FieldType.int))
def y_2_canFollow : MethodName := ⟨zR2, "canFollow", "(II)Z"⟩
abbrev M_2_canFollow : zM := (zR2, prog_4_method_7_code, 3, (Option.some Jvm.ClassFile.FieldType.boolean))
def y_2_headsOf : MethodName := ⟨zR2, "headsOf", "(I)I"⟩
abbrev M_2_headsOf : zM := (zR2, prog_4_method_5_code, 5, (Option.some Jvm.ClassFile.FieldType.int))
def y_2_tailsOf : MethodName := ⟨zR2, "tailsOf", "(I)I"⟩
abbrev M_2_tailsOf : zM := (zR2, prog_4_method_6_code, 4, (Option.some Jvm.ClassFile.FieldType.int))
def y_2_weigh : MethodName := ⟨zR2, "weigh", "(II)V"⟩
abbrev M_2_weigh : zM := (zR2, prog_4_method_4_code, 4, (Option.none : Option Jvm.ClassFile.FieldType))
def y_2_all : MethodName := ⟨zR2, "all", "()I"⟩
abbrev M_2_all : zM := (zR2, prog_4_method_8_code, 1, (Option.some Jvm.ClassFile.FieldType.int))
def y_2_timesBehind : MethodName := ⟨zR2, "timesBehind", "(II)I"⟩
abbrev M_2_timesBehind : zM := (zR2, prog_4_method_9_code, 3, (Option.some Jvm.ClassFile.FieldType.int))
def y_2_timesAt : MethodName := ⟨zR2, "timesAt", "(II)I"⟩
abbrev M_2_timesAt : zM := (zR2, prog_4_method_10_code, 5, (Option.some Jvm.ClassFile.FieldType.int))
def y_2_timesAhead : MethodName := ⟨zR2, "timesAhead", "(II)I"⟩
abbrev M_2_timesAhead : zM := (zR2, prog_4_method_11_code, 5, (Option.some Jvm.ClassFile.FieldType.int))
def y_2_whoIsAt : MethodName := ⟨zR2, "whoIsAt", "(II)I"⟩
abbrev M_2_whoIsAt : zM := (zR2, prog_4_method_12_code, 9, (Option.some Jvm.ClassFile.FieldType.int))
def y_3_clear : MethodName := ⟨zR3, "clear", "()V"⟩
abbrev M_3_clear : zM := (zR3, prog_5_method_2_code, 1, (Option.none : Option Jvm.ClassFile.FieldType))
def y_5_copyFrom : MethodName := ⟨zR5, "copyFrom", "(LAbsentLords$State;)V"⟩
abbrev M_5_copyFrom : zM := (zR5, prog_7_method_3_code, 2, (Option.none : Option Jvm.ClassFile.FieldType))
def y_3_keep : MethodName := ⟨zR3, "keep", "(LAbsentLords$State;)V"⟩
abbrev M_3_keep : zM := (zR3, prog_5_method_3_code, 2, (Option.none : Option Jvm.ClassFile.FieldType))
def y_3_takeBack : MethodName := ⟨zR3, "takeBack", "(LAbsentLords$State;)Z"⟩
abbrev M_3_takeBack : zM := (zR3, prog_5_method_4_code, 2, (Option.some Jvm.ClassFile.FieldType.boolean))
def y_6_write : MethodName := ⟨zR6, "write", "(I)V"⟩
abbrev M_6_write : zM := (zR6, prog_8_method_3_code, 2, (Option.none : Option Jvm.ClassFile.FieldType))
def y_6_empty : MethodName := ⟨zR6, "empty", "()V"⟩
abbrev M_6_empty : zM := (zR6, prog_8_method_2_code, 2, (Option.none : Option Jvm.ClassFile.FieldType))
theorem mw_8_has : z_MW y_8_has M_8_has 2 := ⟨z_m1 (List.mem_of_getElem? (i := 1) rfl) rfl, z_m3 (List.mem_of_getElem? (i := 99) rfl) rfl, by decide, by decide, by decide +kernel⟩
theorem fit_1_2_2 : z_fit (z_rm 2) 0 0 1 2 := ⟨by decide, by decide, by decide, by decide⟩
theorem nl_5_58 : (zR5, 58, y_8_has, "AbsentLords") ∈ z_nest := List.mem_of_getElem? (i := 10) rfl
theorem is_8_has : Cond.static y_8_has ∈ lw_gd := z_m3 (List.mem_of_getElem? (i := 98) rfl) rfl
theorem fw_5_21 : z_FW zR5 21 5 3 (2, 22, fun i => i) := ⟨_, _, rfl, rfl, rfl, by decide, z_m1 (List.mem_of_getElem? (i := 188) rfl) rfl⟩
theorem sa_22 : z_SA 22 0 := ⟨rfl, rfl, by decide⟩
theorem fw_5_31 : z_FW zR5 31 5 6 (2, 25, fun i => i) := ⟨_, _, rfl, rfl, rfl, by decide, z_m1 (List.mem_of_getElem? (i := 200) rfl) rfl⟩
theorem sa_25 : z_SA 25 0 := ⟨rfl, rfl, by decide⟩
theorem fw_5_18 : z_FW zR5 18 5 2 (0, 0, fun i => i) := ⟨_, _, rfl, rfl, rfl, by decide, z_m1 (List.mem_of_getElem? (i := 185) rfl) rfl⟩
theorem mw_5_longestGone : z_MW y_5_longestGone M_5_longestGone 1 := ⟨z_m1 (List.mem_of_getElem? (i := 5) rfl) rfl, z_m3 (List.mem_of_getElem? (i := 175) rfl) rfl, by decide, by decide, by decide +kernel⟩
theorem fit_2_5_3 : z_fit (z_rm 3) 0 0 2 5 := ⟨by decide, by decide, by decide, by decide⟩
theorem ml_5_66 : Cond.methodLink zR5 66 y_5_longestGone ∈ lw_gd := z_m3 (List.mem_of_getElem? (i := 172) rfl) rfl
theorem im_5_longestGone : Cond.instanceMethod y_5_longestGone ∈ lw_gd := z_m3 (List.mem_of_getElem? (i := 174) rfl) rfl
theorem se_5_longestGone : Cond.selects y_5_longestGone.cls y_5_longestGone y_5_longestGone ∈ lw_gd := z_s (q := (y_5_longestGone, _)) (List.mem_of_getElem? (i := 30) rfl)
theorem fw_1_15 : z_FW zR1 15 1 1 (2, 11, fun i => i) := ⟨_, _, rfl, rfl, rfl, by decide, z_m2 (List.mem_of_getElem? (i := 4) rfl) rfl⟩
theorem sa_11 : z_SA 11 0 := ⟨rfl, rfl, by decide⟩
theorem fw_1_18 : z_FW zR1 18 1 2 (2, 12, fun i => i) := ⟨_, _, rfl, rfl, rfl, by decide, z_m2 (List.mem_of_getElem? (i := 5) rfl) rfl⟩
theorem sa_12 : z_SA 12 0 := ⟨rfl, rfl, by decide⟩
theorem fw_1_24 : z_FW zR1 24 6 0 (0, 0, fun i => i) := ⟨_, _, rfl, rfl, rfl, by decide, z_m1 (List.mem_of_getElem? (i := 79) rfl) rfl⟩
theorem mw_5_landlordOf : z_MW y_5_landlordOf M_5_landlordOf 1 := ⟨z_m1 (List.mem_of_getElem? (i := 5) rfl) rfl, z_m3 (List.mem_of_getElem? (i := 171) rfl) rfl, by decide, by decide, by decide +kernel⟩
theorem fit_3_2_4 : z_fit (z_rm 4) 0 0 3 2 := ⟨by decide, by decide, by decide, by decide⟩
theorem ml_1_30 : Cond.methodLink zR1 30 y_5_landlordOf ∈ lw_gd := z_m3 (List.mem_of_getElem? (i := 181) rfl) rfl
theorem im_5_landlordOf : Cond.instanceMethod y_5_landlordOf ∈ lw_gd := z_m3 (List.mem_of_getElem? (i := 169) rfl) rfl
theorem se_5_landlordOf : Cond.selects y_5_landlordOf.cls y_5_landlordOf y_5_landlordOf ∈ lw_gd := z_m3 (List.mem_of_getElem? (i := 170) rfl) rfl
theorem fw_1_9 : z_FW zR1 9 1 0 (2, 10, fun i => i) := ⟨_, _, rfl, rfl, rfl, by decide, z_m2 (List.mem_of_getElem? (i := 3) rfl) rfl⟩
theorem sa_10 : z_SA 10 0 := ⟨rfl, rfl, by decide⟩
theorem fw_1_36 : z_FW zR1 36 6 3 (2, 26, fun i => 2 * i) := ⟨_, _, rfl, rfl, rfl, by decide, z_m1 (List.mem_of_getElem? (i := 93) rfl) rfl⟩
theorem sa_26 : z_SA 26 0 := ⟨rfl, rfl, by decide⟩
theorem kc_J5_265 : Cond.constant zRJ5 265 (1431655765 : Int32) ∈ lw_gd := z_m3 (List.mem_of_getElem? (i := 201) rfl) rfl
theorem kc_J5_266 : Cond.constant zRJ5 266 (858993459 : Int32) ∈ lw_gd := z_m3 (List.mem_of_getElem? (i := 202) rfl) rfl
theorem kc_J5_267 : Cond.constant zRJ5 267 (252645135 : Int32) ∈ lw_gd := z_m3 (List.mem_of_getElem? (i := 203) rfl) rfl
theorem fw_1_68 : z_FW zR1 68 5 5 (2, 24, fun i => i) := ⟨_, _, rfl, rfl, rfl, by decide, z_m1 (List.mem_of_getElem? (i := 198) rfl) rfl⟩
theorem sa_24 : z_SA 24 0 := ⟨rfl, rfl, by decide⟩
theorem fw_1_71 : z_FW zR1 71 5 3 (2, 22, fun i => i) := ⟨_, _, rfl, rfl, rfl, by decide, z_m1 (List.mem_of_getElem? (i := 189) rfl) rfl⟩
theorem fw_1_74 : z_FW zR1 74 5 4 (2, 23, fun i => i) := ⟨_, _, rfl, rfl, rfl, by decide, z_m1 (List.mem_of_getElem? (i := 194) rfl) rfl⟩
theorem sa_23 : z_SA 23 0 := ⟨rfl, rfl, by decide⟩
theorem fw_1_77 : z_FW zR1 77 5 0 (0, 0, fun i => i) := ⟨_, _, rfl, rfl, rfl, by decide, z_m1 (List.mem_of_getElem? (i := 179) rfl) rfl⟩
theorem mw_5_rightsHeld : z_MW y_5_rightsHeld M_5_rightsHeld 1 := ⟨z_m1 (List.mem_of_getElem? (i := 5) rfl) rfl, z_m3 (List.mem_of_getElem? (i := 197) rfl) rfl, by decide, by decide, by decide +kernel⟩
theorem fit_1_4_2 : z_fit (z_rm 2) 0 0 1 4 := ⟨by decide, by decide, by decide, by decide⟩
theorem ml_1_80 : Cond.methodLink zR1 80 y_5_rightsHeld ∈ lw_gd := z_m3 (List.mem_of_getElem? (i := 194) rfl) rfl
theorem im_5_rightsHeld : Cond.instanceMethod y_5_rightsHeld ∈ lw_gd := z_m3 (List.mem_of_getElem? (i := 195) rfl) rfl
theorem se_5_rightsHeld : Cond.selects y_5_rightsHeld.cls y_5_rightsHeld y_5_rightsHeld ∈ lw_gd := z_m3 (List.mem_of_getElem? (i := 196) rfl) rfl
theorem fw_1_83 : z_FW zR1 83 5 1 (0, 0, fun i => i) := ⟨_, _, rfl, rfl, rfl, by decide, z_m1 (List.mem_of_getElem? (i := 183) rfl) rfl⟩
theorem mw_j6_bitCount_0f7a4 : z_MW y_j6_bitCount_0f7a4 M_j6_bitCount_0f7a4 1 := ⟨z_m1 (List.mem_of_getElem? (i := 17) rfl) rfl, z_m3 (List.mem_of_getElem? (i := 200) rfl) rfl, by decide, by decide, by decide +kernel⟩
theorem fit_1_1_2 : z_fit (z_rm 2) 0 0 1 1 := ⟨by decide, by decide, by decide, by decide⟩
theorem ml_1_86 : Cond.methodLink zR1 86 y_j6_bitCount_0f7a4 ∈ lw_gd := z_m3 (List.mem_of_getElem? (i := 198) rfl) rfl
theorem is_j6_bitCount_0f7a4 : Cond.static y_j6_bitCount_0f7a4 ∈ lw_gd := z_m3 (List.mem_of_getElem? (i := 199) rfl) rfl
theorem fw_1_52 : z_FW zR1 52 6 8 (2, 30, fun i => i) := ⟨_, _, rfl, rfl, rfl, by decide, z_m1 (List.mem_of_getElem? (i := 108) rfl) rfl⟩
theorem sa_30 : z_SA 30 0 := ⟨rfl, rfl, by decide⟩
theorem fw_1_55 : z_FW zR1 55 6 9 (0, 0, fun i => i) := ⟨_, _, rfl, rfl, rfl, by decide, z_m1 (List.mem_of_getElem? (i := 111) rfl) rfl⟩
theorem fw_1_58 : z_FW zR1 58 6 7 (2, 29, fun i => i) := ⟨_, _, rfl, rfl, rfl, by decide, z_m1 (List.mem_of_getElem? (i := 106) rfl) rfl⟩
theorem sa_29 : z_SA 29 0 := ⟨rfl, rfl, by decide⟩
theorem fw_1_21 : z_FW zR1 21 1 3 (2, 13, fun i => i) := ⟨_, _, rfl, rfl, rfl, by decide, z_m2 (List.mem_of_getElem? (i := 6) rfl) rfl⟩
theorem mw_1_variableOf : z_MW y_1_variableOf M_1_variableOf 5 := ⟨z_m1 (List.mem_of_getElem? (i := 7) rfl) rfl, z_m3 (List.mem_of_getElem? (i := 193) rfl) rfl, by decide, by decide, by decide +kernel⟩
theorem fit_2_6_3 : z_fit (z_rm 3) 0 0 2 6 := ⟨by decide, by decide, by decide, by decide⟩
theorem ml_1_61 : Cond.methodLink zR1 61 y_1_variableOf ∈ lw_gd := z_m3 (List.mem_of_getElem? (i := 190) rfl) rfl
theorem im_1_variableOf : Cond.instanceMethod y_1_variableOf ∈ lw_gd := z_m3 (List.mem_of_getElem? (i := 192) rfl) rfl
theorem se_1_variableOf : Cond.selects y_1_variableOf.cls y_1_variableOf y_1_variableOf ∈ lw_gd := z_s (q := (y_1_variableOf, _)) (List.mem_of_getElem? (i := 32) rfl)
theorem sa_13 : z_SA 13 0 := ⟨rfl, rfl, by decide⟩
theorem mw_1_reckon : z_MW y_1_reckon M_1_reckon 3 := ⟨z_m1 (List.mem_of_getElem? (i := 7) rfl) rfl, z_m3 (List.mem_of_getElem? (i := 206) rfl) rfl, by decide, by decide, by decide +kernel⟩
theorem fit_1_3_3 : z_fit (z_rm 3) 0 0 1 3 := ⟨by decide, by decide, by decide, by decide⟩
theorem ml_1_64 : Cond.methodLink zR1 64 y_1_reckon ∈ lw_gd := z_m3 (List.mem_of_getElem? (i := 204) rfl) rfl
theorem is_1_reckon : Cond.static y_1_reckon ∈ lw_gd := z_m3 (List.mem_of_getElem? (i := 205) rfl) rfl
theorem mw_1_valueOf : z_MW y_1_valueOf M_1_valueOf 5 := ⟨z_m1 (List.mem_of_getElem? (i := 7) rfl) rfl, z_m3 (List.mem_of_getElem? (i := 189) rfl) rfl, by decide, by decide, by decide +kernel⟩
theorem fit_3_10_4 : z_fit (z_rm 4) 0 0 3 10 := ⟨by decide, by decide, by decide, by decide⟩
theorem ml_1_39 : Cond.methodLink zR1 39 y_1_valueOf ∈ lw_gd := z_m3 (List.mem_of_getElem? (i := 186) rfl) rfl
theorem im_1_valueOf : Cond.instanceMethod y_1_valueOf ∈ lw_gd := z_m3 (List.mem_of_getElem? (i := 188) rfl) rfl
theorem se_1_valueOf : Cond.selects y_1_valueOf.cls y_1_valueOf y_1_valueOf ∈ lw_gd := z_s (q := (y_1_valueOf, _)) (List.mem_of_getElem? (i := 31) rfl)
theorem mw_j9_min_7cf53 : z_MW y_j9_min_7cf53 M_j9_min_7cf53 2 := ⟨z_m1 (List.mem_of_getElem? (i := 11) rfl) rfl, z_m2 (List.mem_of_getElem? (i := 132) rfl) rfl, by decide, by decide, by decide +kernel⟩
theorem fit_1_2_4 : z_fit (z_rm 4) 0 0 1 2 := ⟨by decide, by decide, by decide, by decide⟩
theorem ml_1_43 : Cond.methodLink zR1 43 y_j9_min_7cf53 ∈ lw_gd := z_m3 (List.mem_of_getElem? (i := 207) rfl) rfl
theorem is_j9_min_7cf53 : Cond.static y_j9_min_7cf53 ∈ lw_gd := z_m2 (List.mem_of_getElem? (i := 131) rfl) rfl
theorem mw_j9_max_7cf53 : z_MW y_j9_max_7cf53 M_j9_max_7cf53 2 := ⟨z_m1 (List.mem_of_getElem? (i := 11) rfl) rfl, z_m2 (List.mem_of_getElem? (i := 235) rfl) rfl, by decide, by decide, by decide +kernel⟩
theorem ml_1_49 : Cond.methodLink zR1 49 y_j9_max_7cf53 ∈ lw_gd := z_m3 (List.mem_of_getElem? (i := 208) rfl) rfl
theorem is_j9_max_7cf53 : Cond.static y_j9_max_7cf53 ∈ lw_gd := z_m2 (List.mem_of_getElem? (i := 234) rfl) rfl
theorem fw_0_18 : z_FW zR0 18 0 1 (2, 14, fun i => i) := ⟨_, _, rfl, rfl, rfl, by decide, z_m2 (List.mem_of_getElem? (i := 25) rfl) rfl⟩
theorem sa_14 : z_SA 14 0 := ⟨rfl, rfl, by decide⟩
theorem fw_0_50 : z_FW zR0 50 6 0 (0, 0, fun i => i) := ⟨_, _, rfl, rfl, rfl, by decide, z_m1 (List.mem_of_getElem? (i := 80) rfl) rfl⟩
theorem fw_0_12 : z_FW zR0 12 0 0 (2, 1, fun _ => 1) := ⟨_, _, rfl, rfl, rfl, by decide, z_m2 (List.mem_of_getElem? (i := 24) rfl) rfl⟩
theorem mw_1_landlordSeen : z_MW y_1_landlordSeen M_1_landlordSeen 1 := ⟨z_m1 (List.mem_of_getElem? (i := 7) rfl) rfl, z_m4 (List.mem_of_getElem? (i := 58) rfl) rfl, by decide, by decide, by decide +kernel⟩
theorem fit_1_2_5 : z_fit (z_rm 5) 0 0 1 2 := ⟨by decide, by decide, by decide, by decide⟩
theorem ml_0_55 : Cond.methodLink zR0 55 y_1_landlordSeen ∈ lw_gd := z_m4 (List.mem_of_getElem? (i := 55) rfl) rfl
theorem im_1_landlordSeen : Cond.instanceMethod y_1_landlordSeen ∈ lw_gd := z_m4 (List.mem_of_getElem? (i := 56) rfl) rfl
theorem se_1_landlordSeen : Cond.selects y_1_landlordSeen.cls y_1_landlordSeen y_1_landlordSeen ∈ lw_gd := z_m4 (List.mem_of_getElem? (i := 57) rfl) rfl
theorem mw_1_rentsOf : z_MW y_1_rentsOf M_1_rentsOf 3 := ⟨z_m1 (List.mem_of_getElem? (i := 7) rfl) rfl, z_m3 (List.mem_of_getElem? (i := 185) rfl) rfl, by decide, by decide, by decide +kernel⟩
theorem fit_4_5_5 : z_fit (z_rm 5) 0 0 4 5 := ⟨by decide, by decide, by decide, by decide⟩
theorem ml_0_59 : Cond.methodLink zR0 59 y_1_rentsOf ∈ lw_gd := z_m4 (List.mem_of_getElem? (i := 59) rfl) rfl
theorem im_1_rentsOf : Cond.instanceMethod y_1_rentsOf ∈ lw_gd := z_m3 (List.mem_of_getElem? (i := 183) rfl) rfl
theorem se_1_rentsOf : Cond.selects y_1_rentsOf.cls y_1_rentsOf y_1_rentsOf ∈ lw_gd := z_m3 (List.mem_of_getElem? (i := 184) rfl) rfl
theorem fw_5_15 : z_FW zR5 15 5 1 (0, 0, fun i => i) := ⟨_, _, rfl, rfl, rfl, by decide, z_m1 (List.mem_of_getElem? (i := 181) rfl) rfl⟩
theorem kc_0_84 : Cond.constant zR0 84 (1103515245 : Int32) ∈ lw_gd := z_m4 (List.mem_of_getElem? (i := 74) rfl) rfl
theorem mw_0_mix : z_MW y_0_mix M_0_mix 2 := ⟨z_m1 (List.mem_of_getElem? (i := 8) rfl) rfl, z_m4 (List.mem_of_getElem? (i := 73) rfl) rfl, by decide, by decide, by decide +kernel⟩
theorem fit_1_3_2 : z_fit (z_rm 2) 0 0 1 3 := ⟨by decide, by decide, by decide, by decide⟩
theorem ml_0_81 : Cond.methodLink zR0 81 y_0_mix ∈ lw_gd := z_m4 (List.mem_of_getElem? (i := 71) rfl) rfl
theorem is_0_mix : Cond.static y_0_mix ∈ lw_gd := z_m4 (List.mem_of_getElem? (i := 72) rfl) rfl
theorem nl_0_63 : (zR0, 63, y_8_has, "AbsentLords") ∈ z_nest := List.mem_of_getElem? (i := 11) rfl
theorem fw_0_67 : z_FW zR0 67 5 0 (0, 0, fun i => i) := ⟨_, _, rfl, rfl, rfl, by decide, z_m1 (List.mem_of_getElem? (i := 178) rfl) rfl⟩
theorem fw_0_70 : Cond.fieldLink zR0 70 "AbsentLords$Course" "LOTS" "[I" ∈ lw_gd := z_m4 (List.mem_of_getElem? (i := 66) rfl) rfl
theorem mw_0_lotOfHundred : z_MW y_0_lotOfHundred M_0_lotOfHundred 2 := ⟨z_m1 (List.mem_of_getElem? (i := 8) rfl) rfl, z_m4 (List.mem_of_getElem? (i := 70) rfl) rfl, by decide, by decide, by decide +kernel⟩
theorem fit_2_3_5 : z_fit (z_rm 5) 0 0 2 3 := ⟨by decide, by decide, by decide, by decide⟩
theorem ml_0_73 : Cond.methodLink zR0 73 y_0_lotOfHundred ∈ lw_gd := z_m4 (List.mem_of_getElem? (i := 68) rfl) rfl
theorem is_0_lotOfHundred : Cond.static y_0_lotOfHundred ∈ lw_gd := z_m4 (List.mem_of_getElem? (i := 69) rfl) rfl
theorem mw_1_chanceOf : z_MW y_1_chanceOf M_1_chanceOf 4 := ⟨z_m1 (List.mem_of_getElem? (i := 7) rfl) rfl, z_m3 (List.mem_of_getElem? (i := 237) rfl) rfl, by decide, by decide, by decide +kernel⟩
theorem ml_0_77 : Cond.methodLink zR0 77 y_1_chanceOf ∈ lw_gd := z_m4 (List.mem_of_getElem? (i := 75) rfl) rfl
theorem im_1_chanceOf : Cond.instanceMethod y_1_chanceOf ∈ lw_gd := z_m3 (List.mem_of_getElem? (i := 235) rfl) rfl
theorem se_1_chanceOf : Cond.selects y_1_chanceOf.cls y_1_chanceOf y_1_chanceOf ∈ lw_gd := z_m3 (List.mem_of_getElem? (i := 236) rfl) rfl
theorem pw_5_1 : z_PW 5 1 (.int) := fun _ _ h1 h2 => by
  cases h1
  cases h2
  exact ⟨rfl, by decide +kernel⟩
theorem pw_5_2 : z_PW 5 2 (.int) := fun _ _ h1 h2 => by
  cases h1
  cases h2
  exact ⟨rfl, by decide +kernel⟩
theorem fw_0_85 : z_FW zR0 85 6 1 (0, 0, fun i => i) := ⟨_, _, rfl, rfl, rfl, by decide, z_m1 (List.mem_of_getElem? (i := 87) rfl) rfl⟩
theorem fw_0_88 : z_FW zR0 88 5 4 (2, 23, fun i => i) := ⟨_, _, rfl, rfl, rfl, by decide, z_m1 (List.mem_of_getElem? (i := 193) rfl) rfl⟩
theorem fw_0_43 : z_FW zR0 43 5 2 (0, 0, fun i => i) := ⟨_, _, rfl, rfl, rfl, by decide, z_m1 (List.mem_of_getElem? (i := 186) rfl) rfl⟩
theorem fw_0_101 : z_FW zR0 101 5 3 (2, 22, fun i => i) := ⟨_, _, rfl, rfl, rfl, by decide, z_m1 (List.mem_of_getElem? (i := 191) rfl) rfl⟩
theorem mw_5_comeHome : z_MW y_5_comeHome M_5_comeHome 1 := ⟨z_m1 (List.mem_of_getElem? (i := 5) rfl) rfl, z_m4 (List.mem_of_getElem? (i := 22) rfl) rfl, by decide, by decide, by decide +kernel⟩
theorem ml_0_98 : Cond.methodLink zR0 98 y_5_comeHome ∈ lw_gd := z_m4 (List.mem_of_getElem? (i := 82) rfl) rfl
theorem im_5_comeHome : Cond.instanceMethod y_5_comeHome ∈ lw_gd := z_m4 (List.mem_of_getElem? (i := 20) rfl) rfl
theorem se_5_comeHome : Cond.selects y_5_comeHome.cls y_5_comeHome y_5_comeHome ∈ lw_gd := z_m4 (List.mem_of_getElem? (i := 21) rfl) rfl
theorem mw_5_goAway : z_MW y_5_goAway M_5_goAway 1 := ⟨z_m1 (List.mem_of_getElem? (i := 5) rfl) rfl, z_m3 (List.mem_of_getElem? (i := 147) rfl) rfl, by decide, by decide, by decide +kernel⟩
theorem ml_0_95 : Cond.methodLink zR0 95 y_5_goAway ∈ lw_gd := z_m4 (List.mem_of_getElem? (i := 81) rfl) rfl
theorem im_5_goAway : Cond.instanceMethod y_5_goAway ∈ lw_gd := z_m3 (List.mem_of_getElem? (i := 145) rfl) rfl
theorem se_5_goAway : Cond.selects y_5_goAway.cls y_5_goAway y_5_goAway ∈ lw_gd := z_m3 (List.mem_of_getElem? (i := 146) rfl) rfl
theorem mw_5_die : z_MW y_5_die M_5_die 1 := ⟨z_m1 (List.mem_of_getElem? (i := 5) rfl) rfl, z_m4 (List.mem_of_getElem? (i := 34) rfl) rfl, by decide, by decide, by decide +kernel⟩
theorem ml_0_91 : Cond.methodLink zR0 91 y_5_die ∈ lw_gd := z_m4 (List.mem_of_getElem? (i := 80) rfl) rfl
theorem im_5_die : Cond.instanceMethod y_5_die ∈ lw_gd := z_m4 (List.mem_of_getElem? (i := 32) rfl) rfl
theorem se_5_die : Cond.selects y_5_die.cls y_5_die y_5_die ∈ lw_gd := z_m4 (List.mem_of_getElem? (i := 33) rfl) rfl
theorem mw_5_alive : z_MW y_5_alive M_5_alive 0 := ⟨z_m1 (List.mem_of_getElem? (i := 5) rfl) rfl, z_m4 (List.mem_of_getElem? (i := 30) rfl) rfl, by decide, by decide, by decide +kernel⟩
theorem ml_0_29 : Cond.methodLink zR0 29 y_5_alive ∈ lw_gd := z_m4 (List.mem_of_getElem? (i := 60) rfl) rfl
theorem im_5_alive : Cond.instanceMethod y_5_alive ∈ lw_gd := z_m4 (List.mem_of_getElem? (i := 28) rfl) rfl
theorem se_5_alive : Cond.selects y_5_alive.cls y_5_alive y_5_alive ∈ lw_gd := z_m4 (List.mem_of_getElem? (i := 29) rfl) rfl
theorem fw_0_104 : z_FW zR0 104 5 5 (2, 24, fun i => i) := ⟨_, _, rfl, rfl, rfl, by decide, z_m1 (List.mem_of_getElem? (i := 199) rfl) rfl⟩
theorem pw_5_0 : z_PW 5 0 (.int) := fun _ _ h1 h2 => by
  cases h1
  cases h2
  exact ⟨rfl, by decide +kernel⟩
theorem mw_1_look : z_MW y_1_look M_1_look 2 := ⟨z_m1 (List.mem_of_getElem? (i := 7) rfl) rfl, z_m3 (List.mem_of_getElem? (i := 180) rfl) rfl, by decide, by decide, by decide +kernel⟩
theorem fit_4_5_6 : z_fit (z_rm 6) 0 0 4 5 := ⟨by decide, by decide, by decide, by decide⟩
theorem ml_0_22 : Cond.methodLink zR0 22 y_1_look ∈ lw_gd := z_m4 (List.mem_of_getElem? (i := 50) rfl) rfl
theorem im_1_look : Cond.instanceMethod y_1_look ∈ lw_gd := z_m3 (List.mem_of_getElem? (i := 178) rfl) rfl
theorem se_1_look : Cond.selects y_1_look.cls y_1_look y_1_look ∈ lw_gd := z_m3 (List.mem_of_getElem? (i := 179) rfl) rfl
theorem mw_0_reckonDue : z_MW y_0_reckonDue M_0_reckonDue 2 := ⟨z_m1 (List.mem_of_getElem? (i := 8) rfl) rfl, z_m4 (List.mem_of_getElem? (i := 54) rfl) rfl, by decide, by decide, by decide +kernel⟩
theorem fit_5_5_6 : z_fit (z_rm 6) 0 0 5 5 := ⟨by decide, by decide, by decide, by decide⟩
theorem ml_0_26 : Cond.methodLink zR0 26 y_0_reckonDue ∈ lw_gd := z_m4 (List.mem_of_getElem? (i := 51) rfl) rfl
theorem im_0_reckonDue : Cond.instanceMethod y_0_reckonDue ∈ lw_gd := z_m4 (List.mem_of_getElem? (i := 53) rfl) rfl
theorem se_0_reckonDue : Cond.selects y_0_reckonDue.cls y_0_reckonDue y_0_reckonDue ∈ lw_gd := z_s (q := (y_0_reckonDue, _)) (List.mem_of_getElem? (i := 37) rfl)
theorem fit_1_1_6 : z_fit (z_rm 6) 0 0 1 1 := ⟨by decide, by decide, by decide, by decide⟩
theorem mw_0_struckBy : z_MW y_0_struckBy M_0_struckBy 5 := ⟨z_m1 (List.mem_of_getElem? (i := 8) rfl) rfl, z_m4 (List.mem_of_getElem? (i := 64) rfl) rfl, by decide, by decide, by decide +kernel⟩
theorem fit_5_9_6 : z_fit (z_rm 6) 0 0 5 9 := ⟨by decide, by decide, by decide, by decide⟩
theorem ml_0_35 : Cond.methodLink zR0 35 y_0_struckBy ∈ lw_gd := z_m4 (List.mem_of_getElem? (i := 61) rfl) rfl
theorem im_0_struckBy : Cond.instanceMethod y_0_struckBy ∈ lw_gd := z_m4 (List.mem_of_getElem? (i := 63) rfl) rfl
theorem se_0_struckBy : Cond.selects y_0_struckBy.cls y_0_struckBy y_0_struckBy ∈ lw_gd := z_s (q := (y_0_struckBy, _)) (List.mem_of_getElem? (i := 38) rfl)
theorem fw_0_39 : z_FW zR0 39 5 1 (0, 0, fun i => i) := ⟨_, _, rfl, rfl, rfl, by decide, z_m1 (List.mem_of_getElem? (i := 182) rfl) rfl⟩
theorem mw_0_turn : z_MW y_0_turn M_0_turn 5 := ⟨z_m1 (List.mem_of_getElem? (i := 8) rfl) rfl, z_m4 (List.mem_of_getElem? (i := 79) rfl) rfl, by decide, by decide, by decide +kernel⟩
theorem fit_2_7_6 : z_fit (z_rm 6) 0 0 2 7 := ⟨by decide, by decide, by decide, by decide⟩
theorem ml_0_46 : Cond.methodLink zR0 46 y_0_turn ∈ lw_gd := z_m4 (List.mem_of_getElem? (i := 76) rfl) rfl
theorem im_0_turn : Cond.instanceMethod y_0_turn ∈ lw_gd := z_m4 (List.mem_of_getElem? (i := 78) rfl) rfl
theorem se_0_turn : Cond.selects y_0_turn.cls y_0_turn y_0_turn ∈ lw_gd := z_s (q := (y_0_turn, _)) (List.mem_of_getElem? (i := 39) rfl)
theorem fw_2_18 : z_FW zR2 18 2 2 (0, 0, fun i => i) := ⟨_, _, rfl, rfl, rfl, by decide, z_m2 (List.mem_of_getElem? (i := 39) rfl) rfl⟩
theorem pw_2_2 : z_PW 2 2 (.int) := fun _ _ h1 h2 => by
  cases h1
  cases h2
  exact ⟨rfl, by decide +kernel⟩
theorem fw_2_11 : z_FW zR2 11 2 0 (2, 15, fun i => i) := ⟨_, _, rfl, rfl, rfl, by decide, z_m2 (List.mem_of_getElem? (i := 37) rfl) rfl⟩
theorem sa_15 : z_SA 15 0 := ⟨rfl, rfl, by decide⟩
theorem fw_2_15 : z_FW zR2 15 2 1 (2, 16, fun i => i) := ⟨_, _, rfl, rfl, rfl, by decide, z_m2 (List.mem_of_getElem? (i := 38) rfl) rfl⟩
theorem sa_16 : z_SA 16 0 := ⟨rfl, rfl, by decide⟩
theorem nl_2_44 : (zR2, 44, y_8_has, "AbsentLords") ∈ z_nest := List.mem_of_getElem? (i := 13) rfl
theorem fw_2_25 : z_FW zR2 25 2 4 (2, 17, fun i => i) := ⟨_, _, rfl, rfl, rfl, by decide, z_m2 (List.mem_of_getElem? (i := 42) rfl) rfl⟩
theorem sa_17 : z_SA 17 0 := ⟨rfl, rfl, by decide⟩
theorem fw_2_22 : z_FW zR2 22 2 3 (0, 0, fun i => i) := ⟨_, _, rfl, rfl, rfl, by decide, z_m2 (List.mem_of_getElem? (i := 41) rfl) rfl⟩
theorem fit_1_2_3 : z_fit (z_rm 3) 0 0 1 2 := ⟨by decide, by decide, by decide, by decide⟩
theorem mw_2_canFollow : z_MW y_2_canFollow M_2_canFollow 2 := ⟨z_m1 (List.mem_of_getElem? (i := 9) rfl) rfl, z_m5 (List.mem_of_getElem? (i := 29) rfl) rfl, by decide, by decide, by decide +kernel⟩
theorem fit_2_3_3 : z_fit (z_rm 3) 0 0 2 3 := ⟨by decide, by decide, by decide, by decide⟩
theorem ml_2_48 : Cond.methodLink zR2 48 y_2_canFollow ∈ lw_gd := z_m5 (List.mem_of_getElem? (i := 26) rfl) rfl
theorem im_2_canFollow : Cond.instanceMethod y_2_canFollow ∈ lw_gd := z_m5 (List.mem_of_getElem? (i := 28) rfl) rfl
theorem se_2_canFollow : Cond.selects y_2_canFollow.cls y_2_canFollow y_2_canFollow ∈ lw_gd := z_s (q := (y_2_canFollow, _)) (List.mem_of_getElem? (i := 53) rfl)
theorem fw_2_28 : z_FW zR2 28 2 5 (2, 18, fun i => i) := ⟨_, _, rfl, rfl, rfl, by decide, z_m2 (List.mem_of_getElem? (i := 43) rfl) rfl⟩
theorem sa_18 : z_SA 18 0 := ⟨rfl, rfl, by decide⟩
theorem fw_2_31 : z_FW zR2 31 2 6 (2, 19, fun i => i) := ⟨_, _, rfl, rfl, rfl, by decide, z_m2 (List.mem_of_getElem? (i := 44) rfl) rfl⟩
theorem sa_19 : z_SA 19 0 := ⟨rfl, rfl, by decide⟩
theorem pw_2_3 : z_PW 2 3 (.int) := fun _ _ h1 h2 => by
  cases h1
  cases h2
  exact ⟨rfl, by decide +kernel⟩
theorem mw_8_everybody : z_MW y_8_everybody M_8_everybody 1 := ⟨z_m1 (List.mem_of_getElem? (i := 1) rfl) rfl, z_m3 (List.mem_of_getElem? (i := 143) rfl) rfl, by decide, by decide, by decide +kernel⟩
theorem fit_1_1_4 : z_fit (z_rm 4) 0 0 1 1 := ⟨by decide, by decide, by decide, by decide⟩
theorem nl_2_34 : (zR2, 34, y_8_everybody, "AbsentLords") ∈ z_nest := List.mem_of_getElem? (i := 12) rfl
theorem is_8_everybody : Cond.static y_8_everybody ∈ lw_gd := z_m3 (List.mem_of_getElem? (i := 142) rfl) rfl
theorem mw_2_headsOf : z_MW y_2_headsOf M_2_headsOf 1 := ⟨z_m1 (List.mem_of_getElem? (i := 9) rfl) rfl, z_m5 (List.mem_of_getElem? (i := 24) rfl) rfl, by decide, by decide, by decide +kernel⟩
theorem fit_3_5_4 : z_fit (z_rm 4) 0 0 3 5 := ⟨by decide, by decide, by decide, by decide⟩
theorem ml_2_38 : Cond.methodLink zR2 38 y_2_headsOf ∈ lw_gd := z_m5 (List.mem_of_getElem? (i := 21) rfl) rfl
theorem im_2_headsOf : Cond.instanceMethod y_2_headsOf ∈ lw_gd := z_m5 (List.mem_of_getElem? (i := 23) rfl) rfl
theorem se_2_headsOf : Cond.selects y_2_headsOf.cls y_2_headsOf y_2_headsOf ∈ lw_gd := z_s (q := (y_2_headsOf, _)) (List.mem_of_getElem? (i := 52) rfl)
theorem mw_2_tailsOf : z_MW y_2_tailsOf M_2_tailsOf 1 := ⟨z_m1 (List.mem_of_getElem? (i := 9) rfl) rfl, z_m5 (List.mem_of_getElem? (i := 33) rfl) rfl, by decide, by decide, by decide +kernel⟩
theorem fit_3_4_4 : z_fit (z_rm 4) 0 0 3 4 := ⟨by decide, by decide, by decide, by decide⟩
theorem ml_2_41 : Cond.methodLink zR2 41 y_2_tailsOf ∈ lw_gd := z_m5 (List.mem_of_getElem? (i := 30) rfl) rfl
theorem im_2_tailsOf : Cond.instanceMethod y_2_tailsOf ∈ lw_gd := z_m5 (List.mem_of_getElem? (i := 32) rfl) rfl
theorem se_2_tailsOf : Cond.selects y_2_tailsOf.cls y_2_tailsOf y_2_tailsOf ∈ lw_gd := z_s (q := (y_2_tailsOf, _)) (List.mem_of_getElem? (i := 54) rfl)
theorem ml_2_51 : Cond.methodLink zR2 51 y_j6_bitCount_0f7a4 ∈ lw_gd := z_m5 (List.mem_of_getElem? (i := 46) rfl) rfl
theorem mw_2_timesBehind : z_MW y_2_timesBehind M_2_timesBehind 2 := ⟨z_m1 (List.mem_of_getElem? (i := 9) rfl) rfl, z_m5 (List.mem_of_getElem? (i := 50) rfl) rfl, by decide, by decide, by decide +kernel⟩
theorem fit_3_3_4 : z_fit (z_rm 4) 0 0 3 3 := ⟨by decide, by decide, by decide, by decide⟩
theorem ml_2_56 : Cond.methodLink zR2 56 y_2_timesBehind ∈ lw_gd := z_m5 (List.mem_of_getElem? (i := 47) rfl) rfl
theorem im_2_timesBehind : Cond.instanceMethod y_2_timesBehind ∈ lw_gd := z_m5 (List.mem_of_getElem? (i := 49) rfl) rfl
theorem se_2_timesBehind : Cond.selects y_2_timesBehind.cls y_2_timesBehind y_2_timesBehind ∈ lw_gd := z_s (q := (y_2_timesBehind, _)) (List.mem_of_getElem? (i := 55) rfl)
theorem fw_3_19 : z_FW zR3 19 3 2 (0, 0, fun i => i) := ⟨_, _, rfl, rfl, rfl, by decide, z_m1 (List.mem_of_getElem? (i := 228) rfl) rfl⟩
theorem pw_3_2 : z_PW 3 2 (.int) := fun _ _ h1 h2 => by
  cases h1
  cases h2
  exact ⟨rfl, by decide +kernel⟩
theorem fw_5_9 : z_FW zR5 9 5 0 (0, 0, fun i => i) := ⟨_, _, rfl, rfl, rfl, by decide, z_m1 (List.mem_of_getElem? (i := 177) rfl) rfl⟩
theorem ml_5_52 : Cond.methodLink zR5 52 arraycopyName ∈ lw_gd := z_m4 (List.mem_of_getElem? (i := 10) rfl) rfl
theorem w_acopy : Cond.native arraycopyName ∈ lw_gd ∧ Cond.static arraycopyName ∈ lw_gd ∧ Cond.initialized "java/lang/System" ∈ lw_gd := ⟨z_m4 (List.mem_of_getElem? (i := 12) rfl) rfl, z_m4 (List.mem_of_getElem? (i := 11) rfl) rfl, z_m1 (List.mem_of_getElem? (i := 18) rfl) rfl⟩
theorem fw_5_25 : z_FW zR5 25 5 4 (2, 23, fun i => i) := ⟨_, _, rfl, rfl, rfl, by decide, z_m1 (List.mem_of_getElem? (i := 192) rfl) rfl⟩
theorem fw_5_28 : z_FW zR5 28 5 5 (2, 24, fun i => i) := ⟨_, _, rfl, rfl, rfl, by decide, z_m1 (List.mem_of_getElem? (i := 196) rfl) rfl⟩
theorem fw_3_11 : z_FW zR3 11 3 0 (2, 20, fun i => i) := ⟨_, _, rfl, rfl, rfl, by decide, z_m1 (List.mem_of_getElem? (i := 226) rfl) rfl⟩
theorem fw_3_15 : z_FW zR3 15 3 1 (0, 0, fun i => i) := ⟨_, _, rfl, rfl, rfl, by decide, z_m1 (List.mem_of_getElem? (i := 227) rfl) rfl⟩
theorem sa_20 : z_SA 20 4 := ⟨rfl, rfl, by decide⟩
theorem mw_5_copyFrom : z_MW y_5_copyFrom M_5_copyFrom 1 := ⟨z_m1 (List.mem_of_getElem? (i := 5) rfl) rfl, z_m4 (List.mem_of_getElem? (i := 9) rfl) rfl, by decide, by decide, by decide +kernel⟩
theorem ml_3_23 : Cond.methodLink zR3 23 y_5_copyFrom ∈ lw_gd := z_m4 (List.mem_of_getElem? (i := 6) rfl) rfl
theorem im_5_copyFrom : Cond.instanceMethod y_5_copyFrom ∈ lw_gd := z_m4 (List.mem_of_getElem? (i := 7) rfl) rfl
theorem se_5_copyFrom : Cond.selects y_5_copyFrom.cls y_5_copyFrom y_5_copyFrom ∈ lw_gd := z_m4 (List.mem_of_getElem? (i := 8) rfl) rfl
theorem pw_3_1 : z_PW 3 1 (.int) := fun _ _ h1 h2 => by
  cases h1
  cases h2
  exact ⟨rfl, by decide +kernel⟩
theorem ml_3_27 : Cond.methodLink zR3 27 y_j9_min_7cf53 ∈ lw_gd := z_m4 (List.mem_of_getElem? (i := 13) rfl) rfl
theorem fw_6_40 : z_FW zR6 40 6 9 (0, 0, fun i => i) := ⟨_, _, rfl, rfl, rfl, by decide, z_m1 (List.mem_of_getElem? (i := 110) rfl) rfl⟩
theorem fw_6_34 : z_FW zR6 34 6 7 (2, 29, fun i => i) := ⟨_, _, rfl, rfl, rfl, by decide, z_m1 (List.mem_of_getElem? (i := 105) rfl) rfl⟩
theorem pw_6_9 : z_PW 6 9 (.int) := fun _ _ h1 h2 => by
  cases h1
  cases h2
  exact ⟨rfl, by decide +kernel⟩
theorem fw_6_9 : z_FW zR6 9 6 0 (0, 0, fun i => i) := ⟨_, _, rfl, rfl, rfl, by decide, z_m1 (List.mem_of_getElem? (i := 78) rfl) rfl⟩
theorem pw_6_0 : z_PW 6 0 (.int) := fun _ _ h1 h2 => by
  cases h1
  cases h2
  exact ⟨rfl, by decide +kernel⟩
theorem fw_6_15 : z_FW zR6 15 6 1 (0, 0, fun i => i) := ⟨_, _, rfl, rfl, rfl, by decide, z_m1 (List.mem_of_getElem? (i := 84) rfl) rfl⟩
theorem pw_6_1 : z_PW 6 1 (.int) := fun _ _ h1 h2 => by
  cases h1
  cases h2
  exact ⟨rfl, by decide +kernel⟩
theorem fw_6_18 : z_FW zR6 18 6 2 (0, 0, fun i => i) := ⟨_, _, rfl, rfl, rfl, by decide, z_m1 (List.mem_of_getElem? (i := 89) rfl) rfl⟩
theorem pw_6_2 : z_PW 6 2 (.int) := fun _ _ h1 h2 => by
  cases h1
  cases h2
  exact ⟨rfl, by decide +kernel⟩
theorem fw_6_25 : z_FW zR6 25 6 4 (2, 27, fun i => i) := ⟨_, _, rfl, rfl, rfl, by decide, z_m1 (List.mem_of_getElem? (i := 96) rfl) rfl⟩
theorem sa_27 : z_SA 27 0 := ⟨rfl, rfl, by decide⟩
theorem fw_6_31 : z_FW zR6 31 6 6 (2, 28, fun i => i) := ⟨_, _, rfl, rfl, rfl, by decide, z_m1 (List.mem_of_getElem? (i := 102) rfl) rfl⟩
theorem sa_28 : z_SA 28 0 := ⟨rfl, rfl, by decide⟩
theorem fw_6_37 : z_FW zR6 37 6 8 (2, 30, fun i => i) := ⟨_, _, rfl, rfl, rfl, by decide, z_m1 (List.mem_of_getElem? (i := 107) rfl) rfl⟩
theorem mw_6_write : z_MW y_6_write M_6_write 1 := ⟨z_m1 (List.mem_of_getElem? (i := 4) rfl) rfl, z_m1 (List.mem_of_getElem? (i := 77) rfl) rfl, by decide, by decide, by decide +kernel⟩
theorem ml_6_46 : Cond.methodLink zR6 46 y_6_write ∈ lw_gd := z_m1 (List.mem_of_getElem? (i := 74) rfl) rfl
theorem im_6_write : Cond.instanceMethod y_6_write ∈ lw_gd := z_m1 (List.mem_of_getElem? (i := 75) rfl) rfl
theorem se_6_write : Cond.selects y_6_write.cls y_6_write y_6_write ∈ lw_gd := z_m1 (List.mem_of_getElem? (i := 76) rfl) rfl
theorem d_8_has_0 : zD prog_1_method_73_code 0 (.iload_n 0) 1 1 := ⟨by decide +kernel, rfl⟩
theorem d_8_has_1 : zD prog_1_method_73_code 1 (.iload_n 1) 1 2 := ⟨by decide +kernel, rfl⟩
theorem d_8_has_2 : zD prog_1_method_73_code 2 (.ishr) 1 3 := ⟨by decide +kernel, rfl⟩
theorem d_8_has_3 : zD prog_1_method_73_code 3 (.iconst 1) 1 4 := ⟨by decide +kernel, rfl⟩
theorem d_8_has_4 : zD prog_1_method_73_code 4 (.iand) 1 5 := ⟨by decide +kernel, rfl⟩
theorem d_8_has_5 : zD prog_1_method_73_code 5 (.ifCond .eq 7) 3 8 := ⟨by decide +kernel, rfl⟩
theorem d_8_has_8 : zD prog_1_method_73_code 8 (.iconst 1) 1 9 := ⟨by decide +kernel, rfl⟩
theorem d_8_has_9 : zD prog_1_method_73_code 9 (.goto 4) 3 12 := ⟨by decide +kernel, rfl⟩
theorem d_8_has_12 : zD prog_1_method_73_code 12 (.iconst 0) 1 13 := ⟨by decide +kernel, rfl⟩
theorem d_8_has_13 : zD prog_1_method_73_code 13 (.ireturn) 1 14 := ⟨by decide +kernel, rfl⟩
theorem d_5_longestGone_0 : zD prog_7_method_14_code 0 (.bipush (-2)) 2 2 := ⟨by decide +kernel, rfl⟩
theorem d_5_longestGone_2 : zD prog_7_method_14_code 2 (.istore_n 2) 1 3 := ⟨by decide +kernel, rfl⟩
theorem d_5_longestGone_3 : zD prog_7_method_14_code 3 (.iconst (-1)) 1 4 := ⟨by decide +kernel, rfl⟩
theorem d_5_longestGone_4 : zD prog_7_method_14_code 4 (.istore_n 3) 1 5 := ⟨by decide +kernel, rfl⟩
theorem d_5_longestGone_5 : zD prog_7_method_14_code 5 (.iconst 0) 1 6 := ⟨by decide +kernel, rfl⟩
theorem d_5_longestGone_6 : zD prog_7_method_14_code 6 (.istore 4) 2 8 := ⟨by decide +kernel, rfl⟩
theorem d_5_longestGone_8 : zD prog_7_method_14_code 8 (.iload 4) 2 10 := ⟨by decide +kernel, rfl⟩
theorem d_5_longestGone_10 : zD prog_7_method_14_code 10 (.bipush 7) 2 12 := ⟨by decide +kernel, rfl⟩
theorem d_5_longestGone_12 : zD prog_7_method_14_code 12 (.if_icmp .ge 46) 3 15 := ⟨by decide +kernel, rfl⟩
theorem d_5_longestGone_15 : zD prog_7_method_14_code 15 (.iload_n 1) 1 16 := ⟨by decide +kernel, rfl⟩
theorem d_5_longestGone_16 : zD prog_7_method_14_code 16 (.iload 4) 2 18 := ⟨by decide +kernel, rfl⟩
theorem d_5_longestGone_18 : zD prog_7_method_14_code 18 (.invokestatic 58) 3 21 := ⟨by decide +kernel, rfl⟩
theorem d_5_longestGone_21 : zD prog_7_method_14_code 21 (.ifCond .eq 31) 3 24 := ⟨by decide +kernel, rfl⟩
theorem d_5_longestGone_24 : zD prog_7_method_14_code 24 (.iload_n 2) 1 25 := ⟨by decide +kernel, rfl⟩
theorem d_5_longestGone_25 : zD prog_7_method_14_code 25 (.bipush (-2)) 2 27 := ⟨by decide +kernel, rfl⟩
theorem d_5_longestGone_27 : zD prog_7_method_14_code 27 (.if_icmp .eq 14) 3 30 := ⟨by decide +kernel, rfl⟩
theorem d_5_longestGone_30 : zD prog_7_method_14_code 30 (.aload_n 0) 1 31 := ⟨by decide +kernel, rfl⟩
theorem d_5_longestGone_31 : zD prog_7_method_14_code 31 (.getfield 21) 3 34 := ⟨by decide +kernel, rfl⟩
theorem d_5_longestGone_34 : zD prog_7_method_14_code 34 (.iload 4) 2 36 := ⟨by decide +kernel, rfl⟩
theorem d_5_longestGone_36 : zD prog_7_method_14_code 36 (.iaload) 1 37 := ⟨by decide +kernel, rfl⟩
theorem d_5_longestGone_37 : zD prog_7_method_14_code 37 (.iload_n 3) 1 38 := ⟨by decide +kernel, rfl⟩
theorem d_5_longestGone_38 : zD prog_7_method_14_code 38 (.if_icmp .le 14) 3 41 := ⟨by decide +kernel, rfl⟩
theorem d_5_longestGone_41 : zD prog_7_method_14_code 41 (.iload 4) 2 43 := ⟨by decide +kernel, rfl⟩
theorem d_5_longestGone_43 : zD prog_7_method_14_code 43 (.istore_n 2) 1 44 := ⟨by decide +kernel, rfl⟩
theorem d_5_longestGone_44 : zD prog_7_method_14_code 44 (.aload_n 0) 1 45 := ⟨by decide +kernel, rfl⟩
theorem d_5_longestGone_45 : zD prog_7_method_14_code 45 (.getfield 21) 3 48 := ⟨by decide +kernel, rfl⟩
theorem d_5_longestGone_48 : zD prog_7_method_14_code 48 (.iload 4) 2 50 := ⟨by decide +kernel, rfl⟩
theorem d_5_longestGone_50 : zD prog_7_method_14_code 50 (.iaload) 1 51 := ⟨by decide +kernel, rfl⟩
theorem d_5_longestGone_51 : zD prog_7_method_14_code 51 (.istore_n 3) 1 52 := ⟨by decide +kernel, rfl⟩
theorem d_5_longestGone_52 : zD prog_7_method_14_code 52 (.iinc 4 1) 3 55 := ⟨by decide +kernel, rfl⟩
theorem d_5_longestGone_55 : zD prog_7_method_14_code 55 (.goto (-47)) 3 58 := ⟨by decide +kernel, rfl⟩
theorem d_5_longestGone_58 : zD prog_7_method_14_code 58 (.iload_n 2) 1 59 := ⟨by decide +kernel, rfl⟩
theorem d_5_longestGone_59 : zD prog_7_method_14_code 59 (.ireturn) 1 60 := ⟨by decide +kernel, rfl⟩
theorem d_5_landlordOf_0 : zD prog_7_method_10_code 0 (.aload_n 0) 1 1 := ⟨by decide +kernel, rfl⟩
theorem d_5_landlordOf_1 : zD prog_7_method_10_code 1 (.aload_n 0) 1 2 := ⟨by decide +kernel, rfl⟩
theorem d_5_landlordOf_2 : zD prog_7_method_10_code 2 (.getfield 31) 3 5 := ⟨by decide +kernel, rfl⟩
theorem d_5_landlordOf_5 : zD prog_7_method_10_code 5 (.iload_n 1) 1 6 := ⟨by decide +kernel, rfl⟩
theorem d_5_landlordOf_6 : zD prog_7_method_10_code 6 (.iaload) 1 7 := ⟨by decide +kernel, rfl⟩
theorem d_5_landlordOf_7 : zD prog_7_method_10_code 7 (.aload_n 0) 1 8 := ⟨by decide +kernel, rfl⟩
theorem d_5_landlordOf_8 : zD prog_7_method_10_code 8 (.getfield 18) 3 11 := ⟨by decide +kernel, rfl⟩
theorem d_5_landlordOf_11 : zD prog_7_method_10_code 11 (.iand) 1 12 := ⟨by decide +kernel, rfl⟩
theorem d_5_landlordOf_12 : zD prog_7_method_10_code 12 (.invokevirtual 66) 3 15 := ⟨by decide +kernel, rfl⟩
theorem d_5_landlordOf_15 : zD prog_7_method_10_code 15 (.ireturn) 1 16 := ⟨by decide +kernel, rfl⟩
theorem d_1_look_0 : zD prog_3_method_2_code 0 (.iconst 0) 1 1 := ⟨by decide +kernel, rfl⟩
theorem d_1_look_1 : zD prog_3_method_2_code 1 (.istore_n 3) 1 2 := ⟨by decide +kernel, rfl⟩
theorem d_1_look_2 : zD prog_3_method_2_code 2 (.iload_n 3) 1 3 := ⟨by decide +kernel, rfl⟩
theorem d_1_look_3 : zD prog_3_method_2_code 3 (.bipush 7) 2 5 := ⟨by decide +kernel, rfl⟩
theorem d_1_look_5 : zD prog_3_method_2_code 5 (.if_icmp .ge 23) 3 8 := ⟨by decide +kernel, rfl⟩
theorem d_1_look_8 : zD prog_3_method_2_code 8 (.aload_n 0) 1 9 := ⟨by decide +kernel, rfl⟩
theorem d_1_look_9 : zD prog_3_method_2_code 9 (.getfield 15) 3 12 := ⟨by decide +kernel, rfl⟩
theorem d_1_look_12 : zD prog_3_method_2_code 12 (.iload_n 3) 1 13 := ⟨by decide +kernel, rfl⟩
theorem d_1_look_13 : zD prog_3_method_2_code 13 (.iconst 0) 1 14 := ⟨by decide +kernel, rfl⟩
theorem d_1_look_14 : zD prog_3_method_2_code 14 (.iastore) 1 15 := ⟨by decide +kernel, rfl⟩
theorem d_1_look_15 : zD prog_3_method_2_code 15 (.aload_n 0) 1 16 := ⟨by decide +kernel, rfl⟩
theorem d_1_look_16 : zD prog_3_method_2_code 16 (.getfield 18) 3 19 := ⟨by decide +kernel, rfl⟩
theorem d_1_look_19 : zD prog_3_method_2_code 19 (.iload_n 3) 1 20 := ⟨by decide +kernel, rfl⟩
theorem d_1_look_20 : zD prog_3_method_2_code 20 (.iconst 0) 1 21 := ⟨by decide +kernel, rfl⟩
theorem d_1_look_21 : zD prog_3_method_2_code 21 (.iastore) 1 22 := ⟨by decide +kernel, rfl⟩
theorem d_1_look_22 : zD prog_3_method_2_code 22 (.iinc 3 1) 3 25 := ⟨by decide +kernel, rfl⟩
theorem d_1_look_25 : zD prog_3_method_2_code 25 (.goto (-23)) 3 28 := ⟨by decide +kernel, rfl⟩
theorem d_1_look_28 : zD prog_3_method_2_code 28 (.iconst 0) 1 29 := ⟨by decide +kernel, rfl⟩
theorem d_1_look_29 : zD prog_3_method_2_code 29 (.istore_n 3) 1 30 := ⟨by decide +kernel, rfl⟩
theorem d_1_look_30 : zD prog_3_method_2_code 30 (.iload_n 3) 1 31 := ⟨by decide +kernel, rfl⟩
theorem d_1_look_31 : zD prog_3_method_2_code 31 (.aload_n 1) 1 32 := ⟨by decide +kernel, rfl⟩
theorem d_1_look_32 : zD prog_3_method_2_code 32 (.getfield 24) 3 35 := ⟨by decide +kernel, rfl⟩
theorem d_1_look_35 : zD prog_3_method_2_code 35 (.if_icmp .ge 56) 3 38 := ⟨by decide +kernel, rfl⟩
theorem d_1_look_38 : zD prog_3_method_2_code 38 (.aload_n 2) 1 39 := ⟨by decide +kernel, rfl⟩
theorem d_1_look_39 : zD prog_3_method_2_code 39 (.iload_n 3) 1 40 := ⟨by decide +kernel, rfl⟩
theorem d_1_look_40 : zD prog_3_method_2_code 40 (.invokevirtual 30) 3 43 := ⟨by decide +kernel, rfl⟩
theorem d_1_look_43 : zD prog_3_method_2_code 43 (.istore 4) 2 45 := ⟨by decide +kernel, rfl⟩
theorem d_1_look_45 : zD prog_3_method_2_code 45 (.aload_n 0) 1 46 := ⟨by decide +kernel, rfl⟩
theorem d_1_look_46 : zD prog_3_method_2_code 46 (.getfield 9) 3 49 := ⟨by decide +kernel, rfl⟩
theorem d_1_look_49 : zD prog_3_method_2_code 49 (.iload_n 3) 1 50 := ⟨by decide +kernel, rfl⟩
theorem d_1_look_50 : zD prog_3_method_2_code 50 (.iload 4) 2 52 := ⟨by decide +kernel, rfl⟩
theorem d_1_look_52 : zD prog_3_method_2_code 52 (.iastore) 1 53 := ⟨by decide +kernel, rfl⟩
theorem d_1_look_53 : zD prog_3_method_2_code 53 (.iload 4) 2 55 := ⟨by decide +kernel, rfl⟩
theorem d_1_look_55 : zD prog_3_method_2_code 55 (.ifCond .lt 30) 3 58 := ⟨by decide +kernel, rfl⟩
theorem d_1_look_58 : zD prog_3_method_2_code 58 (.aload_n 0) 1 59 := ⟨by decide +kernel, rfl⟩
theorem d_1_look_59 : zD prog_3_method_2_code 59 (.getfield 15) 3 62 := ⟨by decide +kernel, rfl⟩
theorem d_1_look_62 : zD prog_3_method_2_code 62 (.iload 4) 2 64 := ⟨by decide +kernel, rfl⟩
theorem d_1_look_64 : zD prog_3_method_2_code 64 (.dup2) 1 65 := ⟨by decide +kernel, rfl⟩
theorem d_1_look_65 : zD prog_3_method_2_code 65 (.iaload) 1 66 := ⟨by decide +kernel, rfl⟩
theorem d_1_look_66 : zD prog_3_method_2_code 66 (.iconst 1) 1 67 := ⟨by decide +kernel, rfl⟩
theorem d_1_look_67 : zD prog_3_method_2_code 67 (.iadd) 1 68 := ⟨by decide +kernel, rfl⟩
theorem d_1_look_68 : zD prog_3_method_2_code 68 (.iastore) 1 69 := ⟨by decide +kernel, rfl⟩
theorem d_1_look_69 : zD prog_3_method_2_code 69 (.aload_n 0) 1 70 := ⟨by decide +kernel, rfl⟩
theorem d_1_look_70 : zD prog_3_method_2_code 70 (.getfield 18) 3 73 := ⟨by decide +kernel, rfl⟩
theorem d_1_look_73 : zD prog_3_method_2_code 73 (.iload 4) 2 75 := ⟨by decide +kernel, rfl⟩
theorem d_1_look_75 : zD prog_3_method_2_code 75 (.dup2) 1 76 := ⟨by decide +kernel, rfl⟩
theorem d_1_look_76 : zD prog_3_method_2_code 76 (.iaload) 1 77 := ⟨by decide +kernel, rfl⟩
theorem d_1_look_77 : zD prog_3_method_2_code 77 (.aload_n 1) 1 78 := ⟨by decide +kernel, rfl⟩
theorem d_1_look_78 : zD prog_3_method_2_code 78 (.getfield 36) 3 81 := ⟨by decide +kernel, rfl⟩
theorem d_1_look_81 : zD prog_3_method_2_code 81 (.iload_n 3) 1 82 := ⟨by decide +kernel, rfl⟩
theorem d_1_look_82 : zD prog_3_method_2_code 82 (.iaload) 1 83 := ⟨by decide +kernel, rfl⟩
theorem d_1_look_83 : zD prog_3_method_2_code 83 (.iadd) 1 84 := ⟨by decide +kernel, rfl⟩
theorem d_1_look_84 : zD prog_3_method_2_code 84 (.iastore) 1 85 := ⟨by decide +kernel, rfl⟩
theorem d_1_look_85 : zD prog_3_method_2_code 85 (.iinc 3 1) 3 88 := ⟨by decide +kernel, rfl⟩
theorem d_1_look_88 : zD prog_3_method_2_code 88 (.goto (-58)) 3 91 := ⟨by decide +kernel, rfl⟩
theorem d_1_look_91 : zD prog_3_method_2_code 91 (.return_) 1 92 := ⟨by decide +kernel, rfl⟩
theorem d_1_landlordSeen_0 : zD prog_3_method_3_code 0 (.aload_n 0) 1 1 := ⟨by decide +kernel, rfl⟩
theorem d_1_landlordSeen_1 : zD prog_3_method_3_code 1 (.getfield 9) 3 4 := ⟨by decide +kernel, rfl⟩
theorem d_1_landlordSeen_4 : zD prog_3_method_3_code 4 (.iload_n 1) 1 5 := ⟨by decide +kernel, rfl⟩
theorem d_1_landlordSeen_5 : zD prog_3_method_3_code 5 (.iaload) 1 6 := ⟨by decide +kernel, rfl⟩
theorem d_1_landlordSeen_6 : zD prog_3_method_3_code 6 (.ireturn) 1 7 := ⟨by decide +kernel, rfl⟩
theorem d_5_rightsHeld_0 : zD prog_7_method_12_code 0 (.iconst 0) 1 1 := ⟨by decide +kernel, rfl⟩
theorem d_5_rightsHeld_1 : zD prog_7_method_12_code 1 (.istore_n 2) 1 2 := ⟨by decide +kernel, rfl⟩
theorem d_5_rightsHeld_2 : zD prog_7_method_12_code 2 (.iconst 0) 1 3 := ⟨by decide +kernel, rfl⟩
theorem d_5_rightsHeld_3 : zD prog_7_method_12_code 3 (.istore_n 3) 1 4 := ⟨by decide +kernel, rfl⟩
theorem d_5_rightsHeld_4 : zD prog_7_method_12_code 4 (.iload_n 3) 1 5 := ⟨by decide +kernel, rfl⟩
theorem d_5_rightsHeld_5 : zD prog_7_method_12_code 5 (.iconst 5) 1 6 := ⟨by decide +kernel, rfl⟩
theorem d_5_rightsHeld_6 : zD prog_7_method_12_code 6 (.if_icmp .ge 22) 3 9 := ⟨by decide +kernel, rfl⟩
theorem d_5_rightsHeld_9 : zD prog_7_method_12_code 9 (.iload_n 2) 1 10 := ⟨by decide +kernel, rfl⟩
theorem d_5_rightsHeld_10 : zD prog_7_method_12_code 10 (.aload_n 0) 1 11 := ⟨by decide +kernel, rfl⟩
theorem d_5_rightsHeld_11 : zD prog_7_method_12_code 11 (.getfield 31) 3 14 := ⟨by decide +kernel, rfl⟩
theorem d_5_rightsHeld_14 : zD prog_7_method_12_code 14 (.iload_n 3) 1 15 := ⟨by decide +kernel, rfl⟩
theorem d_5_rightsHeld_15 : zD prog_7_method_12_code 15 (.iaload) 1 16 := ⟨by decide +kernel, rfl⟩
theorem d_5_rightsHeld_16 : zD prog_7_method_12_code 16 (.iload_n 1) 1 17 := ⟨by decide +kernel, rfl⟩
theorem d_5_rightsHeld_17 : zD prog_7_method_12_code 17 (.ishr) 1 18 := ⟨by decide +kernel, rfl⟩
theorem d_5_rightsHeld_18 : zD prog_7_method_12_code 18 (.iconst 1) 1 19 := ⟨by decide +kernel, rfl⟩
theorem d_5_rightsHeld_19 : zD prog_7_method_12_code 19 (.iand) 1 20 := ⟨by decide +kernel, rfl⟩
theorem d_5_rightsHeld_20 : zD prog_7_method_12_code 20 (.iadd) 1 21 := ⟨by decide +kernel, rfl⟩
theorem d_5_rightsHeld_21 : zD prog_7_method_12_code 21 (.istore_n 2) 1 22 := ⟨by decide +kernel, rfl⟩
theorem d_5_rightsHeld_22 : zD prog_7_method_12_code 22 (.iinc 3 1) 3 25 := ⟨by decide +kernel, rfl⟩
theorem d_5_rightsHeld_25 : zD prog_7_method_12_code 25 (.goto (-21)) 3 28 := ⟨by decide +kernel, rfl⟩
theorem d_5_rightsHeld_28 : zD prog_7_method_12_code 28 (.iload_n 2) 1 29 := ⟨by decide +kernel, rfl⟩
theorem d_5_rightsHeld_29 : zD prog_7_method_12_code 29 (.ireturn) 1 30 := ⟨by decide +kernel, rfl⟩
theorem d_j6_bitCount_0f7a4_0 : zD prog_13_method_49_code 0 (.iload_n 0) 1 1 := ⟨by decide +kernel, rfl⟩
theorem d_j6_bitCount_0f7a4_1 : zD prog_13_method_49_code 1 (.iload_n 0) 1 2 := ⟨by decide +kernel, rfl⟩
theorem d_j6_bitCount_0f7a4_2 : zD prog_13_method_49_code 2 (.iconst 1) 1 3 := ⟨by decide +kernel, rfl⟩
theorem d_j6_bitCount_0f7a4_3 : zD prog_13_method_49_code 3 (.iushr) 1 4 := ⟨by decide +kernel, rfl⟩
theorem d_j6_bitCount_0f7a4_4 : zD prog_13_method_49_code 4 (.ldc_w 265) 3 7 := ⟨by decide +kernel, rfl⟩
theorem d_j6_bitCount_0f7a4_7 : zD prog_13_method_49_code 7 (.iand) 1 8 := ⟨by decide +kernel, rfl⟩
theorem d_j6_bitCount_0f7a4_8 : zD prog_13_method_49_code 8 (.isub) 1 9 := ⟨by decide +kernel, rfl⟩
theorem d_j6_bitCount_0f7a4_9 : zD prog_13_method_49_code 9 (.istore_n 0) 1 10 := ⟨by decide +kernel, rfl⟩
theorem d_j6_bitCount_0f7a4_10 : zD prog_13_method_49_code 10 (.iload_n 0) 1 11 := ⟨by decide +kernel, rfl⟩
theorem d_j6_bitCount_0f7a4_11 : zD prog_13_method_49_code 11 (.ldc_w 266) 3 14 := ⟨by decide +kernel, rfl⟩
theorem d_j6_bitCount_0f7a4_14 : zD prog_13_method_49_code 14 (.iand) 1 15 := ⟨by decide +kernel, rfl⟩
theorem d_j6_bitCount_0f7a4_15 : zD prog_13_method_49_code 15 (.iload_n 0) 1 16 := ⟨by decide +kernel, rfl⟩
theorem d_j6_bitCount_0f7a4_16 : zD prog_13_method_49_code 16 (.iconst 2) 1 17 := ⟨by decide +kernel, rfl⟩
theorem d_j6_bitCount_0f7a4_17 : zD prog_13_method_49_code 17 (.iushr) 1 18 := ⟨by decide +kernel, rfl⟩
theorem d_j6_bitCount_0f7a4_18 : zD prog_13_method_49_code 18 (.ldc_w 266) 3 21 := ⟨by decide +kernel, rfl⟩
theorem d_j6_bitCount_0f7a4_21 : zD prog_13_method_49_code 21 (.iand) 1 22 := ⟨by decide +kernel, rfl⟩
theorem d_j6_bitCount_0f7a4_22 : zD prog_13_method_49_code 22 (.iadd) 1 23 := ⟨by decide +kernel, rfl⟩
theorem d_j6_bitCount_0f7a4_23 : zD prog_13_method_49_code 23 (.istore_n 0) 1 24 := ⟨by decide +kernel, rfl⟩
theorem d_j6_bitCount_0f7a4_24 : zD prog_13_method_49_code 24 (.iload_n 0) 1 25 := ⟨by decide +kernel, rfl⟩
theorem d_j6_bitCount_0f7a4_25 : zD prog_13_method_49_code 25 (.iload_n 0) 1 26 := ⟨by decide +kernel, rfl⟩
theorem d_j6_bitCount_0f7a4_26 : zD prog_13_method_49_code 26 (.iconst 4) 1 27 := ⟨by decide +kernel, rfl⟩
theorem d_j6_bitCount_0f7a4_27 : zD prog_13_method_49_code 27 (.iushr) 1 28 := ⟨by decide +kernel, rfl⟩
theorem d_j6_bitCount_0f7a4_28 : zD prog_13_method_49_code 28 (.iadd) 1 29 := ⟨by decide +kernel, rfl⟩
theorem d_j6_bitCount_0f7a4_29 : zD prog_13_method_49_code 29 (.ldc_w 267) 3 32 := ⟨by decide +kernel, rfl⟩
theorem d_j6_bitCount_0f7a4_32 : zD prog_13_method_49_code 32 (.iand) 1 33 := ⟨by decide +kernel, rfl⟩
theorem d_j6_bitCount_0f7a4_33 : zD prog_13_method_49_code 33 (.istore_n 0) 1 34 := ⟨by decide +kernel, rfl⟩
theorem d_j6_bitCount_0f7a4_34 : zD prog_13_method_49_code 34 (.iload_n 0) 1 35 := ⟨by decide +kernel, rfl⟩
theorem d_j6_bitCount_0f7a4_35 : zD prog_13_method_49_code 35 (.iload_n 0) 1 36 := ⟨by decide +kernel, rfl⟩
theorem d_j6_bitCount_0f7a4_36 : zD prog_13_method_49_code 36 (.bipush 8) 2 38 := ⟨by decide +kernel, rfl⟩
theorem d_j6_bitCount_0f7a4_38 : zD prog_13_method_49_code 38 (.iushr) 1 39 := ⟨by decide +kernel, rfl⟩
theorem d_j6_bitCount_0f7a4_39 : zD prog_13_method_49_code 39 (.iadd) 1 40 := ⟨by decide +kernel, rfl⟩
theorem d_j6_bitCount_0f7a4_40 : zD prog_13_method_49_code 40 (.istore_n 0) 1 41 := ⟨by decide +kernel, rfl⟩
theorem d_j6_bitCount_0f7a4_41 : zD prog_13_method_49_code 41 (.iload_n 0) 1 42 := ⟨by decide +kernel, rfl⟩
theorem d_j6_bitCount_0f7a4_42 : zD prog_13_method_49_code 42 (.iload_n 0) 1 43 := ⟨by decide +kernel, rfl⟩
theorem d_j6_bitCount_0f7a4_43 : zD prog_13_method_49_code 43 (.bipush 16) 2 45 := ⟨by decide +kernel, rfl⟩
theorem d_j6_bitCount_0f7a4_45 : zD prog_13_method_49_code 45 (.iushr) 1 46 := ⟨by decide +kernel, rfl⟩
theorem d_j6_bitCount_0f7a4_46 : zD prog_13_method_49_code 46 (.iadd) 1 47 := ⟨by decide +kernel, rfl⟩
theorem d_j6_bitCount_0f7a4_47 : zD prog_13_method_49_code 47 (.istore_n 0) 1 48 := ⟨by decide +kernel, rfl⟩
theorem d_j6_bitCount_0f7a4_48 : zD prog_13_method_49_code 48 (.iload_n 0) 1 49 := ⟨by decide +kernel, rfl⟩
theorem d_j6_bitCount_0f7a4_49 : zD prog_13_method_49_code 49 (.bipush 63) 2 51 := ⟨by decide +kernel, rfl⟩
theorem d_j6_bitCount_0f7a4_51 : zD prog_13_method_49_code 51 (.iand) 1 52 := ⟨by decide +kernel, rfl⟩
theorem d_j6_bitCount_0f7a4_52 : zD prog_13_method_49_code 52 (.ireturn) 1 53 := ⟨by decide +kernel, rfl⟩
theorem d_1_variableOf_0 : zD prog_3_method_8_code 0 (.iload_n 3) 1 1 := ⟨by decide +kernel, rfl⟩
theorem d_1_variableOf_1 : zD prog_3_method_8_code 1 (.tableswitch 118 0 7 #[47, 71, 79, 87, 95, 100, 107, 115]) 47 48 := ⟨by decide +kernel, rfl⟩
theorem d_1_variableOf_48 : zD prog_3_method_8_code 48 (.iload 5) 2 50 := ⟨by decide +kernel, rfl⟩
theorem d_1_variableOf_50 : zD prog_3_method_8_code 50 (.iconst (-1)) 1 51 := ⟨by decide +kernel, rfl⟩
theorem d_1_variableOf_51 : zD prog_3_method_8_code 51 (.if_icmp .ne 13) 3 54 := ⟨by decide +kernel, rfl⟩
theorem d_1_variableOf_54 : zD prog_3_method_8_code 54 (.aload_n 0) 1 55 := ⟨by decide +kernel, rfl⟩
theorem d_1_variableOf_55 : zD prog_3_method_8_code 55 (.getfield 18) 3 58 := ⟨by decide +kernel, rfl⟩
theorem d_1_variableOf_58 : zD prog_3_method_8_code 58 (.iload 4) 2 60 := ⟨by decide +kernel, rfl⟩
theorem d_1_variableOf_60 : zD prog_3_method_8_code 60 (.iaload) 1 61 := ⟨by decide +kernel, rfl⟩
theorem d_1_variableOf_61 : zD prog_3_method_8_code 61 (.goto 10) 3 64 := ⟨by decide +kernel, rfl⟩
theorem d_1_variableOf_64 : zD prog_3_method_8_code 64 (.aload_n 1) 1 65 := ⟨by decide +kernel, rfl⟩
theorem d_1_variableOf_65 : zD prog_3_method_8_code 65 (.getfield 36) 3 68 := ⟨by decide +kernel, rfl⟩
theorem d_1_variableOf_68 : zD prog_3_method_8_code 68 (.iload 5) 2 70 := ⟨by decide +kernel, rfl⟩
theorem d_1_variableOf_70 : zD prog_3_method_8_code 70 (.iaload) 1 71 := ⟨by decide +kernel, rfl⟩
theorem d_1_variableOf_71 : zD prog_3_method_8_code 71 (.ireturn) 1 72 := ⟨by decide +kernel, rfl⟩
theorem d_1_variableOf_72 : zD prog_3_method_8_code 72 (.aload_n 2) 1 73 := ⟨by decide +kernel, rfl⟩
theorem d_1_variableOf_73 : zD prog_3_method_8_code 73 (.getfield 68) 3 76 := ⟨by decide +kernel, rfl⟩
theorem d_1_variableOf_76 : zD prog_3_method_8_code 76 (.iload 4) 2 78 := ⟨by decide +kernel, rfl⟩
theorem d_1_variableOf_78 : zD prog_3_method_8_code 78 (.iaload) 1 79 := ⟨by decide +kernel, rfl⟩
theorem d_1_variableOf_79 : zD prog_3_method_8_code 79 (.ireturn) 1 80 := ⟨by decide +kernel, rfl⟩
theorem d_1_variableOf_80 : zD prog_3_method_8_code 80 (.aload_n 2) 1 81 := ⟨by decide +kernel, rfl⟩
theorem d_1_variableOf_81 : zD prog_3_method_8_code 81 (.getfield 71) 3 84 := ⟨by decide +kernel, rfl⟩
theorem d_1_variableOf_84 : zD prog_3_method_8_code 84 (.iload 4) 2 86 := ⟨by decide +kernel, rfl⟩
theorem d_1_variableOf_86 : zD prog_3_method_8_code 86 (.iaload) 1 87 := ⟨by decide +kernel, rfl⟩
theorem d_1_variableOf_87 : zD prog_3_method_8_code 87 (.ireturn) 1 88 := ⟨by decide +kernel, rfl⟩
theorem d_1_variableOf_88 : zD prog_3_method_8_code 88 (.aload_n 2) 1 89 := ⟨by decide +kernel, rfl⟩
theorem d_1_variableOf_89 : zD prog_3_method_8_code 89 (.getfield 74) 3 92 := ⟨by decide +kernel, rfl⟩
theorem d_1_variableOf_92 : zD prog_3_method_8_code 92 (.iload 4) 2 94 := ⟨by decide +kernel, rfl⟩
theorem d_1_variableOf_94 : zD prog_3_method_8_code 94 (.iaload) 1 95 := ⟨by decide +kernel, rfl⟩
theorem d_1_variableOf_95 : zD prog_3_method_8_code 95 (.ireturn) 1 96 := ⟨by decide +kernel, rfl⟩
theorem d_1_variableOf_96 : zD prog_3_method_8_code 96 (.aload_n 2) 1 97 := ⟨by decide +kernel, rfl⟩
theorem d_1_variableOf_97 : zD prog_3_method_8_code 97 (.getfield 77) 3 100 := ⟨by decide +kernel, rfl⟩
theorem d_1_variableOf_100 : zD prog_3_method_8_code 100 (.ireturn) 1 101 := ⟨by decide +kernel, rfl⟩
theorem d_1_variableOf_101 : zD prog_3_method_8_code 101 (.aload_n 2) 1 102 := ⟨by decide +kernel, rfl⟩
theorem d_1_variableOf_102 : zD prog_3_method_8_code 102 (.iload 4) 2 104 := ⟨by decide +kernel, rfl⟩
theorem d_1_variableOf_104 : zD prog_3_method_8_code 104 (.invokevirtual 80) 3 107 := ⟨by decide +kernel, rfl⟩
theorem d_1_variableOf_107 : zD prog_3_method_8_code 107 (.ireturn) 1 108 := ⟨by decide +kernel, rfl⟩
theorem d_1_variableOf_108 : zD prog_3_method_8_code 108 (.aload_n 0) 1 109 := ⟨by decide +kernel, rfl⟩
theorem d_1_variableOf_109 : zD prog_3_method_8_code 109 (.getfield 15) 3 112 := ⟨by decide +kernel, rfl⟩
theorem d_1_variableOf_112 : zD prog_3_method_8_code 112 (.iload 4) 2 114 := ⟨by decide +kernel, rfl⟩
theorem d_1_variableOf_114 : zD prog_3_method_8_code 114 (.iaload) 1 115 := ⟨by decide +kernel, rfl⟩
theorem d_1_variableOf_115 : zD prog_3_method_8_code 115 (.ireturn) 1 116 := ⟨by decide +kernel, rfl⟩
theorem d_1_variableOf_116 : zD prog_3_method_8_code 116 (.iload 4) 2 118 := ⟨by decide +kernel, rfl⟩
theorem d_1_variableOf_118 : zD prog_3_method_8_code 118 (.ireturn) 1 119 := ⟨by decide +kernel, rfl⟩
theorem d_1_variableOf_119 : zD prog_3_method_8_code 119 (.aload_n 2) 1 120 := ⟨by decide +kernel, rfl⟩
theorem d_1_variableOf_120 : zD prog_3_method_8_code 120 (.getfield 83) 3 123 := ⟨by decide +kernel, rfl⟩
theorem d_1_variableOf_123 : zD prog_3_method_8_code 123 (.invokestatic 86) 3 126 := ⟨by decide +kernel, rfl⟩
theorem d_1_variableOf_126 : zD prog_3_method_8_code 126 (.ireturn) 1 127 := ⟨by decide +kernel, rfl⟩
theorem d_1_reckon_0 : zD prog_3_method_7_code 0 (.iload_n 0) 1 1 := ⟨by decide +kernel, rfl⟩
theorem d_1_reckon_1 : zD prog_3_method_7_code 1 (.tableswitch 39 (-13) (-11) #[35, 31, 27]) 27 28 := ⟨by decide +kernel, rfl⟩
theorem d_1_reckon_28 : zD prog_3_method_7_code 28 (.iload_n 1) 1 29 := ⟨by decide +kernel, rfl⟩
theorem d_1_reckon_29 : zD prog_3_method_7_code 29 (.iload_n 2) 1 30 := ⟨by decide +kernel, rfl⟩
theorem d_1_reckon_30 : zD prog_3_method_7_code 30 (.iadd) 1 31 := ⟨by decide +kernel, rfl⟩
theorem d_1_reckon_31 : zD prog_3_method_7_code 31 (.ireturn) 1 32 := ⟨by decide +kernel, rfl⟩
theorem d_1_reckon_32 : zD prog_3_method_7_code 32 (.iload_n 1) 1 33 := ⟨by decide +kernel, rfl⟩
theorem d_1_reckon_33 : zD prog_3_method_7_code 33 (.iload_n 2) 1 34 := ⟨by decide +kernel, rfl⟩
theorem d_1_reckon_34 : zD prog_3_method_7_code 34 (.isub) 1 35 := ⟨by decide +kernel, rfl⟩
theorem d_1_reckon_35 : zD prog_3_method_7_code 35 (.ireturn) 1 36 := ⟨by decide +kernel, rfl⟩
theorem d_1_reckon_36 : zD prog_3_method_7_code 36 (.iload_n 1) 1 37 := ⟨by decide +kernel, rfl⟩
theorem d_1_reckon_37 : zD prog_3_method_7_code 37 (.iload_n 2) 1 38 := ⟨by decide +kernel, rfl⟩
theorem d_1_reckon_38 : zD prog_3_method_7_code 38 (.imul) 1 39 := ⟨by decide +kernel, rfl⟩
theorem d_1_reckon_39 : zD prog_3_method_7_code 39 (.ireturn) 1 40 := ⟨by decide +kernel, rfl⟩
theorem d_1_reckon_40 : zD prog_3_method_7_code 40 (.iload_n 2) 1 41 := ⟨by decide +kernel, rfl⟩
theorem d_1_reckon_41 : zD prog_3_method_7_code 41 (.ifCond .ne 7) 3 44 := ⟨by decide +kernel, rfl⟩
theorem d_1_reckon_44 : zD prog_3_method_7_code 44 (.iconst 0) 1 45 := ⟨by decide +kernel, rfl⟩
theorem d_1_reckon_45 : zD prog_3_method_7_code 45 (.goto 6) 3 48 := ⟨by decide +kernel, rfl⟩
theorem d_1_reckon_48 : zD prog_3_method_7_code 48 (.iload_n 1) 1 49 := ⟨by decide +kernel, rfl⟩
theorem d_1_reckon_49 : zD prog_3_method_7_code 49 (.iload_n 2) 1 50 := ⟨by decide +kernel, rfl⟩
theorem d_1_reckon_50 : zD prog_3_method_7_code 50 (.idiv) 1 51 := ⟨by decide +kernel, rfl⟩
theorem d_1_reckon_51 : zD prog_3_method_7_code 51 (.ireturn) 1 52 := ⟨by decide +kernel, rfl⟩
theorem d_1_valueOf_0 : zD prog_3_method_6_code 0 (.aload_n 1) 1 1 := ⟨by decide +kernel, rfl⟩
theorem d_1_valueOf_1 : zD prog_3_method_6_code 1 (.getfield 52) 3 4 := ⟨by decide +kernel, rfl⟩
theorem d_1_valueOf_4 : zD prog_3_method_6_code 4 (.iload_n 3) 1 5 := ⟨by decide +kernel, rfl⟩
theorem d_1_valueOf_5 : zD prog_3_method_6_code 5 (.iaload) 1 6 := ⟨by decide +kernel, rfl⟩
theorem d_1_valueOf_6 : zD prog_3_method_6_code 6 (.istore 6) 2 8 := ⟨by decide +kernel, rfl⟩
theorem d_1_valueOf_8 : zD prog_3_method_6_code 8 (.iconst 0) 1 9 := ⟨by decide +kernel, rfl⟩
theorem d_1_valueOf_9 : zD prog_3_method_6_code 9 (.istore 7) 2 11 := ⟨by decide +kernel, rfl⟩
theorem d_1_valueOf_11 : zD prog_3_method_6_code 11 (.iconst 0) 1 12 := ⟨by decide +kernel, rfl⟩
theorem d_1_valueOf_12 : zD prog_3_method_6_code 12 (.istore 8) 2 14 := ⟨by decide +kernel, rfl⟩
theorem d_1_valueOf_14 : zD prog_3_method_6_code 14 (.iload 8) 2 16 := ⟨by decide +kernel, rfl⟩
theorem d_1_valueOf_16 : zD prog_3_method_6_code 16 (.sipush 404) 3 19 := ⟨by decide +kernel, rfl⟩
theorem d_1_valueOf_19 : zD prog_3_method_6_code 19 (.if_icmp .ge 220) 3 22 := ⟨by decide +kernel, rfl⟩
theorem d_1_valueOf_22 : zD prog_3_method_6_code 22 (.iload 6) 2 24 := ⟨by decide +kernel, rfl⟩
theorem d_1_valueOf_24 : zD prog_3_method_6_code 24 (.ifCond .lt 215) 3 27 := ⟨by decide +kernel, rfl⟩
theorem d_1_valueOf_27 : zD prog_3_method_6_code 27 (.iload 6) 2 29 := ⟨by decide +kernel, rfl⟩
theorem d_1_valueOf_29 : zD prog_3_method_6_code 29 (.aload_n 1) 1 30 := ⟨by decide +kernel, rfl⟩
theorem d_1_valueOf_30 : zD prog_3_method_6_code 30 (.getfield 55) 3 33 := ⟨by decide +kernel, rfl⟩
theorem d_1_valueOf_33 : zD prog_3_method_6_code 33 (.if_icmp .ge 206) 3 36 := ⟨by decide +kernel, rfl⟩
theorem d_1_valueOf_36 : zD prog_3_method_6_code 36 (.aload_n 1) 1 37 := ⟨by decide +kernel, rfl⟩
theorem d_1_valueOf_37 : zD prog_3_method_6_code 37 (.getfield 58) 3 40 := ⟨by decide +kernel, rfl⟩
theorem d_1_valueOf_40 : zD prog_3_method_6_code 40 (.iload 6) 2 42 := ⟨by decide +kernel, rfl⟩
theorem d_1_valueOf_42 : zD prog_3_method_6_code 42 (.iaload) 1 43 := ⟨by decide +kernel, rfl⟩
theorem d_1_valueOf_43 : zD prog_3_method_6_code 43 (.istore 9) 2 45 := ⟨by decide +kernel, rfl⟩
theorem d_1_valueOf_45 : zD prog_3_method_6_code 45 (.iinc 6 1) 3 48 := ⟨by decide +kernel, rfl⟩
theorem d_1_valueOf_48 : zD prog_3_method_6_code 48 (.iload 9) 2 50 := ⟨by decide +kernel, rfl⟩
theorem d_1_valueOf_50 : zD prog_3_method_6_code 50 (.bipush (-10)) 2 52 := ⟨by decide +kernel, rfl⟩
theorem d_1_valueOf_52 : zD prog_3_method_6_code 52 (.if_icmp .le 49) 3 55 := ⟨by decide +kernel, rfl⟩
theorem d_1_valueOf_55 : zD prog_3_method_6_code 55 (.iload 7) 2 57 := ⟨by decide +kernel, rfl⟩
theorem d_1_valueOf_57 : zD prog_3_method_6_code 57 (.bipush 16) 2 59 := ⟨by decide +kernel, rfl⟩
theorem d_1_valueOf_59 : zD prog_3_method_6_code 59 (.if_icmp .lt 5) 3 62 := ⟨by decide +kernel, rfl⟩
theorem d_1_valueOf_62 : zD prog_3_method_6_code 62 (.iconst 0) 1 63 := ⟨by decide +kernel, rfl⟩
theorem d_1_valueOf_63 : zD prog_3_method_6_code 63 (.ireturn) 1 64 := ⟨by decide +kernel, rfl⟩
theorem d_1_valueOf_64 : zD prog_3_method_6_code 64 (.aload_n 0) 1 65 := ⟨by decide +kernel, rfl⟩
theorem d_1_valueOf_65 : zD prog_3_method_6_code 65 (.getfield 21) 3 68 := ⟨by decide +kernel, rfl⟩
theorem d_1_valueOf_68 : zD prog_3_method_6_code 68 (.iload 7) 2 70 := ⟨by decide +kernel, rfl⟩
theorem d_1_valueOf_70 : zD prog_3_method_6_code 70 (.iload 9) 2 72 := ⟨by decide +kernel, rfl⟩
theorem d_1_valueOf_72 : zD prog_3_method_6_code 72 (.ifCond .lt 8) 3 75 := ⟨by decide +kernel, rfl⟩
theorem d_1_valueOf_75 : zD prog_3_method_6_code 75 (.iload 9) 2 77 := ⟨by decide +kernel, rfl⟩
theorem d_1_valueOf_77 : zD prog_3_method_6_code 77 (.goto 17) 3 80 := ⟨by decide +kernel, rfl⟩
theorem d_1_valueOf_80 : zD prog_3_method_6_code 80 (.aload_n 0) 1 81 := ⟨by decide +kernel, rfl⟩
theorem d_1_valueOf_81 : zD prog_3_method_6_code 81 (.aload_n 1) 1 82 := ⟨by decide +kernel, rfl⟩
theorem d_1_valueOf_82 : zD prog_3_method_6_code 82 (.aload_n 2) 1 83 := ⟨by decide +kernel, rfl⟩
theorem d_1_valueOf_83 : zD prog_3_method_6_code 83 (.iconst (-1)) 1 84 := ⟨by decide +kernel, rfl⟩
theorem d_1_valueOf_84 : zD prog_3_method_6_code 84 (.iload 9) 2 86 := ⟨by decide +kernel, rfl⟩
theorem d_1_valueOf_86 : zD prog_3_method_6_code 86 (.isub) 1 87 := ⟨by decide +kernel, rfl⟩
theorem d_1_valueOf_87 : zD prog_3_method_6_code 87 (.iload 4) 2 89 := ⟨by decide +kernel, rfl⟩
theorem d_1_valueOf_89 : zD prog_3_method_6_code 89 (.iload 5) 2 91 := ⟨by decide +kernel, rfl⟩
theorem d_1_valueOf_91 : zD prog_3_method_6_code 91 (.invokevirtual 61) 3 94 := ⟨by decide +kernel, rfl⟩
theorem d_1_valueOf_94 : zD prog_3_method_6_code 94 (.iastore) 1 95 := ⟨by decide +kernel, rfl⟩
theorem d_1_valueOf_95 : zD prog_3_method_6_code 95 (.iinc 7 1) 3 98 := ⟨by decide +kernel, rfl⟩
theorem d_1_valueOf_98 : zD prog_3_method_6_code 98 (.goto 135) 3 101 := ⟨by decide +kernel, rfl⟩
theorem d_1_valueOf_101 : zD prog_3_method_6_code 101 (.iload 9) 2 103 := ⟨by decide +kernel, rfl⟩
theorem d_1_valueOf_103 : zD prog_3_method_6_code 103 (.bipush (-15)) 2 105 := ⟨by decide +kernel, rfl⟩
theorem d_1_valueOf_105 : zD prog_3_method_6_code 105 (.if_icmp .ne 22) 3 108 := ⟨by decide +kernel, rfl⟩
theorem d_1_valueOf_108 : zD prog_3_method_6_code 108 (.iload 7) 2 110 := ⟨by decide +kernel, rfl⟩
theorem d_1_valueOf_110 : zD prog_3_method_6_code 110 (.ifCond .le 15) 3 113 := ⟨by decide +kernel, rfl⟩
theorem d_1_valueOf_113 : zD prog_3_method_6_code 113 (.aload_n 0) 1 114 := ⟨by decide +kernel, rfl⟩
theorem d_1_valueOf_114 : zD prog_3_method_6_code 114 (.getfield 21) 3 117 := ⟨by decide +kernel, rfl⟩
theorem d_1_valueOf_117 : zD prog_3_method_6_code 117 (.iload 7) 2 119 := ⟨by decide +kernel, rfl⟩
theorem d_1_valueOf_119 : zD prog_3_method_6_code 119 (.iconst 1) 1 120 := ⟨by decide +kernel, rfl⟩
theorem d_1_valueOf_120 : zD prog_3_method_6_code 120 (.isub) 1 121 := ⟨by decide +kernel, rfl⟩
theorem d_1_valueOf_121 : zD prog_3_method_6_code 121 (.iaload) 1 122 := ⟨by decide +kernel, rfl⟩
theorem d_1_valueOf_122 : zD prog_3_method_6_code 122 (.goto 4) 3 125 := ⟨by decide +kernel, rfl⟩
theorem d_1_valueOf_125 : zD prog_3_method_6_code 125 (.iconst 0) 1 126 := ⟨by decide +kernel, rfl⟩
theorem d_1_valueOf_126 : zD prog_3_method_6_code 126 (.ireturn) 1 127 := ⟨by decide +kernel, rfl⟩
theorem d_1_valueOf_127 : zD prog_3_method_6_code 127 (.iload 7) 2 129 := ⟨by decide +kernel, rfl⟩
theorem d_1_valueOf_129 : zD prog_3_method_6_code 129 (.iconst 2) 1 130 := ⟨by decide +kernel, rfl⟩
theorem d_1_valueOf_130 : zD prog_3_method_6_code 130 (.if_icmp .ge 5) 3 133 := ⟨by decide +kernel, rfl⟩
theorem d_1_valueOf_133 : zD prog_3_method_6_code 133 (.iconst 0) 1 134 := ⟨by decide +kernel, rfl⟩
theorem d_1_valueOf_134 : zD prog_3_method_6_code 134 (.ireturn) 1 135 := ⟨by decide +kernel, rfl⟩
theorem d_1_valueOf_135 : zD prog_3_method_6_code 135 (.iload 9) 2 137 := ⟨by decide +kernel, rfl⟩
theorem d_1_valueOf_137 : zD prog_3_method_6_code 137 (.bipush (-100)) 2 139 := ⟨by decide +kernel, rfl⟩
theorem d_1_valueOf_139 : zD prog_3_method_6_code 139 (.if_icmp .gt 40) 3 142 := ⟨by decide +kernel, rfl⟩
theorem d_1_valueOf_142 : zD prog_3_method_6_code 142 (.iinc 7 (-2)) 3 145 := ⟨by decide +kernel, rfl⟩
theorem d_1_valueOf_145 : zD prog_3_method_6_code 145 (.aload_n 0) 1 146 := ⟨by decide +kernel, rfl⟩
theorem d_1_valueOf_146 : zD prog_3_method_6_code 146 (.getfield 21) 3 149 := ⟨by decide +kernel, rfl⟩
theorem d_1_valueOf_149 : zD prog_3_method_6_code 149 (.iload 7) 2 151 := ⟨by decide +kernel, rfl⟩
theorem d_1_valueOf_151 : zD prog_3_method_6_code 151 (.iaload) 1 152 := ⟨by decide +kernel, rfl⟩
theorem d_1_valueOf_152 : zD prog_3_method_6_code 152 (.aload_n 0) 1 153 := ⟨by decide +kernel, rfl⟩
theorem d_1_valueOf_153 : zD prog_3_method_6_code 153 (.getfield 21) 3 156 := ⟨by decide +kernel, rfl⟩
theorem d_1_valueOf_156 : zD prog_3_method_6_code 156 (.iload 7) 2 158 := ⟨by decide +kernel, rfl⟩
theorem d_1_valueOf_158 : zD prog_3_method_6_code 158 (.iconst 1) 1 159 := ⟨by decide +kernel, rfl⟩
theorem d_1_valueOf_159 : zD prog_3_method_6_code 159 (.iadd) 1 160 := ⟨by decide +kernel, rfl⟩
theorem d_1_valueOf_160 : zD prog_3_method_6_code 160 (.iaload) 1 161 := ⟨by decide +kernel, rfl⟩
theorem d_1_valueOf_161 : zD prog_3_method_6_code 161 (.if_icmp .ge 8) 3 164 := ⟨by decide +kernel, rfl⟩
theorem d_1_valueOf_164 : zD prog_3_method_6_code 164 (.iload 6) 2 166 := ⟨by decide +kernel, rfl⟩
theorem d_1_valueOf_166 : zD prog_3_method_6_code 166 (.goto 8) 3 169 := ⟨by decide +kernel, rfl⟩
theorem d_1_valueOf_169 : zD prog_3_method_6_code 169 (.bipush (-100)) 2 171 := ⟨by decide +kernel, rfl⟩
theorem d_1_valueOf_171 : zD prog_3_method_6_code 171 (.iload 9) 2 173 := ⟨by decide +kernel, rfl⟩
theorem d_1_valueOf_173 : zD prog_3_method_6_code 173 (.isub) 1 174 := ⟨by decide +kernel, rfl⟩
theorem d_1_valueOf_174 : zD prog_3_method_6_code 174 (.istore 6) 2 176 := ⟨by decide +kernel, rfl⟩
theorem d_1_valueOf_176 : zD prog_3_method_6_code 176 (.goto 57) 3 179 := ⟨by decide +kernel, rfl⟩
theorem d_1_valueOf_179 : zD prog_3_method_6_code 179 (.iload 9) 2 181 := ⟨by decide +kernel, rfl⟩
theorem d_1_valueOf_181 : zD prog_3_method_6_code 181 (.bipush (-14)) 2 183 := ⟨by decide +kernel, rfl⟩
theorem d_1_valueOf_183 : zD prog_3_method_6_code 183 (.if_icmp .ne 17) 3 186 := ⟨by decide +kernel, rfl⟩
theorem d_1_valueOf_186 : zD prog_3_method_6_code 186 (.aload_n 0) 1 187 := ⟨by decide +kernel, rfl⟩
theorem d_1_valueOf_187 : zD prog_3_method_6_code 187 (.getfield 21) 3 190 := ⟨by decide +kernel, rfl⟩
theorem d_1_valueOf_190 : zD prog_3_method_6_code 190 (.iload 7) 2 192 := ⟨by decide +kernel, rfl⟩
theorem d_1_valueOf_192 : zD prog_3_method_6_code 192 (.iconst 1) 1 193 := ⟨by decide +kernel, rfl⟩
theorem d_1_valueOf_193 : zD prog_3_method_6_code 193 (.isub) 1 194 := ⟨by decide +kernel, rfl⟩
theorem d_1_valueOf_194 : zD prog_3_method_6_code 194 (.iaload) 1 195 := ⟨by decide +kernel, rfl⟩
theorem d_1_valueOf_195 : zD prog_3_method_6_code 195 (.ifCond .ne 5) 3 198 := ⟨by decide +kernel, rfl⟩
theorem d_1_valueOf_198 : zD prog_3_method_6_code 198 (.iconst 0) 1 199 := ⟨by decide +kernel, rfl⟩
theorem d_1_valueOf_199 : zD prog_3_method_6_code 199 (.ireturn) 1 200 := ⟨by decide +kernel, rfl⟩
theorem d_1_valueOf_200 : zD prog_3_method_6_code 200 (.iinc 7 (-1)) 3 203 := ⟨by decide +kernel, rfl⟩
theorem d_1_valueOf_203 : zD prog_3_method_6_code 203 (.aload_n 0) 1 204 := ⟨by decide +kernel, rfl⟩
theorem d_1_valueOf_204 : zD prog_3_method_6_code 204 (.getfield 21) 3 207 := ⟨by decide +kernel, rfl⟩
theorem d_1_valueOf_207 : zD prog_3_method_6_code 207 (.iload 7) 2 209 := ⟨by decide +kernel, rfl⟩
theorem d_1_valueOf_209 : zD prog_3_method_6_code 209 (.iconst 1) 1 210 := ⟨by decide +kernel, rfl⟩
theorem d_1_valueOf_210 : zD prog_3_method_6_code 210 (.isub) 1 211 := ⟨by decide +kernel, rfl⟩
theorem d_1_valueOf_211 : zD prog_3_method_6_code 211 (.iload 9) 2 213 := ⟨by decide +kernel, rfl⟩
theorem d_1_valueOf_213 : zD prog_3_method_6_code 213 (.aload_n 0) 1 214 := ⟨by decide +kernel, rfl⟩
theorem d_1_valueOf_214 : zD prog_3_method_6_code 214 (.getfield 21) 3 217 := ⟨by decide +kernel, rfl⟩
theorem d_1_valueOf_217 : zD prog_3_method_6_code 217 (.iload 7) 2 219 := ⟨by decide +kernel, rfl⟩
theorem d_1_valueOf_219 : zD prog_3_method_6_code 219 (.iconst 1) 1 220 := ⟨by decide +kernel, rfl⟩
theorem d_1_valueOf_220 : zD prog_3_method_6_code 220 (.isub) 1 221 := ⟨by decide +kernel, rfl⟩
theorem d_1_valueOf_221 : zD prog_3_method_6_code 221 (.iaload) 1 222 := ⟨by decide +kernel, rfl⟩
theorem d_1_valueOf_222 : zD prog_3_method_6_code 222 (.aload_n 0) 1 223 := ⟨by decide +kernel, rfl⟩
theorem d_1_valueOf_223 : zD prog_3_method_6_code 223 (.getfield 21) 3 226 := ⟨by decide +kernel, rfl⟩
theorem d_1_valueOf_226 : zD prog_3_method_6_code 226 (.iload 7) 2 228 := ⟨by decide +kernel, rfl⟩
theorem d_1_valueOf_228 : zD prog_3_method_6_code 228 (.iaload) 1 229 := ⟨by decide +kernel, rfl⟩
theorem d_1_valueOf_229 : zD prog_3_method_6_code 229 (.invokestatic 64) 3 232 := ⟨by decide +kernel, rfl⟩
theorem d_1_valueOf_232 : zD prog_3_method_6_code 232 (.iastore) 1 233 := ⟨by decide +kernel, rfl⟩
theorem d_1_valueOf_233 : zD prog_3_method_6_code 233 (.iinc 8 1) 3 236 := ⟨by decide +kernel, rfl⟩
theorem d_1_valueOf_236 : zD prog_3_method_6_code 236 (.goto (-222)) 3 239 := ⟨by decide +kernel, rfl⟩
theorem d_1_valueOf_239 : zD prog_3_method_6_code 239 (.iconst 0) 1 240 := ⟨by decide +kernel, rfl⟩
theorem d_1_valueOf_240 : zD prog_3_method_6_code 240 (.ireturn) 1 241 := ⟨by decide +kernel, rfl⟩
theorem d_j9_min_7cf53_0 : zD prog_14_method_69_code 0 (.iload_n 0) 1 1 := ⟨by decide +kernel, rfl⟩
theorem d_j9_min_7cf53_1 : zD prog_14_method_69_code 1 (.iload_n 1) 1 2 := ⟨by decide +kernel, rfl⟩
theorem d_j9_min_7cf53_2 : zD prog_14_method_69_code 2 (.if_icmp .gt 7) 3 5 := ⟨by decide +kernel, rfl⟩
theorem d_j9_min_7cf53_5 : zD prog_14_method_69_code 5 (.iload_n 0) 1 6 := ⟨by decide +kernel, rfl⟩
theorem d_j9_min_7cf53_6 : zD prog_14_method_69_code 6 (.goto 4) 3 9 := ⟨by decide +kernel, rfl⟩
theorem d_j9_min_7cf53_9 : zD prog_14_method_69_code 9 (.iload_n 1) 1 10 := ⟨by decide +kernel, rfl⟩
theorem d_j9_min_7cf53_10 : zD prog_14_method_69_code 10 (.ireturn) 1 11 := ⟨by decide +kernel, rfl⟩
theorem d_j9_max_7cf53_0 : zD prog_14_method_65_code 0 (.iload_n 0) 1 1 := ⟨by decide +kernel, rfl⟩
theorem d_j9_max_7cf53_1 : zD prog_14_method_65_code 1 (.iload_n 1) 1 2 := ⟨by decide +kernel, rfl⟩
theorem d_j9_max_7cf53_2 : zD prog_14_method_65_code 2 (.if_icmp .lt 7) 3 5 := ⟨by decide +kernel, rfl⟩
theorem d_j9_max_7cf53_5 : zD prog_14_method_65_code 5 (.iload_n 0) 1 6 := ⟨by decide +kernel, rfl⟩
theorem d_j9_max_7cf53_6 : zD prog_14_method_65_code 6 (.goto 4) 3 9 := ⟨by decide +kernel, rfl⟩
theorem d_j9_max_7cf53_9 : zD prog_14_method_65_code 9 (.iload_n 1) 1 10 := ⟨by decide +kernel, rfl⟩
theorem d_j9_max_7cf53_10 : zD prog_14_method_65_code 10 (.ireturn) 1 11 := ⟨by decide +kernel, rfl⟩
theorem d_1_rentsOf_0 : zD prog_3_method_4_code 0 (.aload_n 0) 1 1 := ⟨by decide +kernel, rfl⟩
theorem d_1_rentsOf_1 : zD prog_3_method_4_code 1 (.getfield 9) 3 4 := ⟨by decide +kernel, rfl⟩
theorem d_1_rentsOf_4 : zD prog_3_method_4_code 4 (.iload_n 3) 1 5 := ⟨by decide +kernel, rfl⟩
theorem d_1_rentsOf_5 : zD prog_3_method_4_code 5 (.iaload) 1 6 := ⟨by decide +kernel, rfl⟩
theorem d_1_rentsOf_6 : zD prog_3_method_4_code 6 (.istore 4) 2 8 := ⟨by decide +kernel, rfl⟩
theorem d_1_rentsOf_8 : zD prog_3_method_4_code 8 (.iload 4) 2 10 := ⟨by decide +kernel, rfl⟩
theorem d_1_rentsOf_10 : zD prog_3_method_4_code 10 (.ifCond .ge 5) 3 13 := ⟨by decide +kernel, rfl⟩
theorem d_1_rentsOf_13 : zD prog_3_method_4_code 13 (.iconst 0) 1 14 := ⟨by decide +kernel, rfl⟩
theorem d_1_rentsOf_14 : zD prog_3_method_4_code 14 (.ireturn) 1 15 := ⟨by decide +kernel, rfl⟩
theorem d_1_rentsOf_15 : zD prog_3_method_4_code 15 (.iconst 0) 1 16 := ⟨by decide +kernel, rfl⟩
theorem d_1_rentsOf_16 : zD prog_3_method_4_code 16 (.bipush 99) 2 18 := ⟨by decide +kernel, rfl⟩
theorem d_1_rentsOf_18 : zD prog_3_method_4_code 18 (.aload_n 0) 1 19 := ⟨by decide +kernel, rfl⟩
theorem d_1_rentsOf_19 : zD prog_3_method_4_code 19 (.aload_n 1) 1 20 := ⟨by decide +kernel, rfl⟩
theorem d_1_rentsOf_20 : zD prog_3_method_4_code 20 (.aload_n 2) 1 21 := ⟨by decide +kernel, rfl⟩
theorem d_1_rentsOf_21 : zD prog_3_method_4_code 21 (.iconst 3) 1 22 := ⟨by decide +kernel, rfl⟩
theorem d_1_rentsOf_22 : zD prog_3_method_4_code 22 (.iload 4) 2 24 := ⟨by decide +kernel, rfl⟩
theorem d_1_rentsOf_24 : zD prog_3_method_4_code 24 (.iload_n 3) 1 25 := ⟨by decide +kernel, rfl⟩
theorem d_1_rentsOf_25 : zD prog_3_method_4_code 25 (.invokevirtual 39) 3 28 := ⟨by decide +kernel, rfl⟩
theorem d_1_rentsOf_28 : zD prog_3_method_4_code 28 (.invokestatic 43) 3 31 := ⟨by decide +kernel, rfl⟩
theorem d_1_rentsOf_31 : zD prog_3_method_4_code 31 (.invokestatic 49) 3 34 := ⟨by decide +kernel, rfl⟩
theorem d_1_rentsOf_34 : zD prog_3_method_4_code 34 (.ireturn) 1 35 := ⟨by decide +kernel, rfl⟩
theorem d_0_reckonDue_0 : zD prog_2_method_4_code 0 (.iconst 0) 1 1 := ⟨by decide +kernel, rfl⟩
theorem d_0_reckonDue_1 : zD prog_2_method_4_code 1 (.istore_n 3) 1 2 := ⟨by decide +kernel, rfl⟩
theorem d_0_reckonDue_2 : zD prog_2_method_4_code 2 (.iload_n 3) 1 3 := ⟨by decide +kernel, rfl⟩
theorem d_0_reckonDue_3 : zD prog_2_method_4_code 3 (.bipush 7) 2 5 := ⟨by decide +kernel, rfl⟩
theorem d_0_reckonDue_5 : zD prog_2_method_4_code 5 (.if_icmp .ge 16) 3 8 := ⟨by decide +kernel, rfl⟩
theorem d_0_reckonDue_8 : zD prog_2_method_4_code 8 (.aload_n 0) 1 9 := ⟨by decide +kernel, rfl⟩
theorem d_0_reckonDue_9 : zD prog_2_method_4_code 9 (.getfield 18) 3 12 := ⟨by decide +kernel, rfl⟩
theorem d_0_reckonDue_12 : zD prog_2_method_4_code 12 (.iload_n 3) 1 13 := ⟨by decide +kernel, rfl⟩
theorem d_0_reckonDue_13 : zD prog_2_method_4_code 13 (.iconst 0) 1 14 := ⟨by decide +kernel, rfl⟩
theorem d_0_reckonDue_14 : zD prog_2_method_4_code 14 (.iastore) 1 15 := ⟨by decide +kernel, rfl⟩
theorem d_0_reckonDue_15 : zD prog_2_method_4_code 15 (.iinc 3 1) 3 18 := ⟨by decide +kernel, rfl⟩
theorem d_0_reckonDue_18 : zD prog_2_method_4_code 18 (.goto (-16)) 3 21 := ⟨by decide +kernel, rfl⟩
theorem d_0_reckonDue_21 : zD prog_2_method_4_code 21 (.iconst 0) 1 22 := ⟨by decide +kernel, rfl⟩
theorem d_0_reckonDue_22 : zD prog_2_method_4_code 22 (.istore_n 3) 1 23 := ⟨by decide +kernel, rfl⟩
theorem d_0_reckonDue_23 : zD prog_2_method_4_code 23 (.iload_n 3) 1 24 := ⟨by decide +kernel, rfl⟩
theorem d_0_reckonDue_24 : zD prog_2_method_4_code 24 (.aload_n 1) 1 25 := ⟨by decide +kernel, rfl⟩
theorem d_0_reckonDue_25 : zD prog_2_method_4_code 25 (.getfield 50) 3 28 := ⟨by decide +kernel, rfl⟩
theorem d_0_reckonDue_28 : zD prog_2_method_4_code 28 (.if_icmp .ge 44) 3 31 := ⟨by decide +kernel, rfl⟩
theorem d_0_reckonDue_31 : zD prog_2_method_4_code 31 (.aload_n 0) 1 32 := ⟨by decide +kernel, rfl⟩
theorem d_0_reckonDue_32 : zD prog_2_method_4_code 32 (.getfield 12) 3 35 := ⟨by decide +kernel, rfl⟩
theorem d_0_reckonDue_35 : zD prog_2_method_4_code 35 (.iload_n 3) 1 36 := ⟨by decide +kernel, rfl⟩
theorem d_0_reckonDue_36 : zD prog_2_method_4_code 36 (.invokevirtual 55) 3 39 := ⟨by decide +kernel, rfl⟩
theorem d_0_reckonDue_39 : zD prog_2_method_4_code 39 (.istore 4) 2 41 := ⟨by decide +kernel, rfl⟩
theorem d_0_reckonDue_41 : zD prog_2_method_4_code 41 (.iload 4) 2 43 := ⟨by decide +kernel, rfl⟩
theorem d_0_reckonDue_43 : zD prog_2_method_4_code 43 (.ifCond .lt 23) 3 46 := ⟨by decide +kernel, rfl⟩
theorem d_0_reckonDue_46 : zD prog_2_method_4_code 46 (.aload_n 0) 1 47 := ⟨by decide +kernel, rfl⟩
theorem d_0_reckonDue_47 : zD prog_2_method_4_code 47 (.getfield 18) 3 50 := ⟨by decide +kernel, rfl⟩
theorem d_0_reckonDue_50 : zD prog_2_method_4_code 50 (.iload 4) 2 52 := ⟨by decide +kernel, rfl⟩
theorem d_0_reckonDue_52 : zD prog_2_method_4_code 52 (.dup2) 1 53 := ⟨by decide +kernel, rfl⟩
theorem d_0_reckonDue_53 : zD prog_2_method_4_code 53 (.iaload) 1 54 := ⟨by decide +kernel, rfl⟩
theorem d_0_reckonDue_54 : zD prog_2_method_4_code 54 (.aload_n 0) 1 55 := ⟨by decide +kernel, rfl⟩
theorem d_0_reckonDue_55 : zD prog_2_method_4_code 55 (.getfield 12) 3 58 := ⟨by decide +kernel, rfl⟩
theorem d_0_reckonDue_58 : zD prog_2_method_4_code 58 (.aload_n 1) 1 59 := ⟨by decide +kernel, rfl⟩
theorem d_0_reckonDue_59 : zD prog_2_method_4_code 59 (.aload_n 2) 1 60 := ⟨by decide +kernel, rfl⟩
theorem d_0_reckonDue_60 : zD prog_2_method_4_code 60 (.iload_n 3) 1 61 := ⟨by decide +kernel, rfl⟩
theorem d_0_reckonDue_61 : zD prog_2_method_4_code 61 (.invokevirtual 59) 3 64 := ⟨by decide +kernel, rfl⟩
theorem d_0_reckonDue_64 : zD prog_2_method_4_code 64 (.iadd) 1 65 := ⟨by decide +kernel, rfl⟩
theorem d_0_reckonDue_65 : zD prog_2_method_4_code 65 (.iastore) 1 66 := ⟨by decide +kernel, rfl⟩
theorem d_0_reckonDue_66 : zD prog_2_method_4_code 66 (.iinc 3 1) 3 69 := ⟨by decide +kernel, rfl⟩
theorem d_0_reckonDue_69 : zD prog_2_method_4_code 69 (.goto (-46)) 3 72 := ⟨by decide +kernel, rfl⟩
theorem d_0_reckonDue_72 : zD prog_2_method_4_code 72 (.return_) 1 73 := ⟨by decide +kernel, rfl⟩
theorem d_5_alive_0 : zD prog_7_method_4_code 0 (.aload_n 0) 1 1 := ⟨by decide +kernel, rfl⟩
theorem d_5_alive_1 : zD prog_7_method_4_code 1 (.getfield 15) 3 4 := ⟨by decide +kernel, rfl⟩
theorem d_5_alive_4 : zD prog_7_method_4_code 4 (.aload_n 0) 1 5 := ⟨by decide +kernel, rfl⟩
theorem d_5_alive_5 : zD prog_7_method_4_code 5 (.getfield 18) 3 8 := ⟨by decide +kernel, rfl⟩
theorem d_5_alive_8 : zD prog_7_method_4_code 8 (.ior) 1 9 := ⟨by decide +kernel, rfl⟩
theorem d_5_alive_9 : zD prog_7_method_4_code 9 (.ireturn) 1 10 := ⟨by decide +kernel, rfl⟩
theorem d_0_mix_0 : zD prog_2_method_7_code 0 (.iload_n 0) 1 1 := ⟨by decide +kernel, rfl⟩
theorem d_0_mix_1 : zD prog_2_method_7_code 1 (.iload_n 1) 1 2 := ⟨by decide +kernel, rfl⟩
theorem d_0_mix_2 : zD prog_2_method_7_code 2 (.ixor) 1 3 := ⟨by decide +kernel, rfl⟩
theorem d_0_mix_3 : zD prog_2_method_7_code 3 (.ldc 84) 2 5 := ⟨by decide +kernel, rfl⟩
theorem d_0_mix_5 : zD prog_2_method_7_code 5 (.imul) 1 6 := ⟨by decide +kernel, rfl⟩
theorem d_0_mix_6 : zD prog_2_method_7_code 6 (.sipush 12345) 3 9 := ⟨by decide +kernel, rfl⟩
theorem d_0_mix_9 : zD prog_2_method_7_code 9 (.iadd) 1 10 := ⟨by decide +kernel, rfl⟩
theorem d_0_mix_10 : zD prog_2_method_7_code 10 (.istore_n 2) 1 11 := ⟨by decide +kernel, rfl⟩
theorem d_0_mix_11 : zD prog_2_method_7_code 11 (.iload_n 2) 1 12 := ⟨by decide +kernel, rfl⟩
theorem d_0_mix_12 : zD prog_2_method_7_code 12 (.iload_n 2) 1 13 := ⟨by decide +kernel, rfl⟩
theorem d_0_mix_13 : zD prog_2_method_7_code 13 (.bipush 15) 2 15 := ⟨by decide +kernel, rfl⟩
theorem d_0_mix_15 : zD prog_2_method_7_code 15 (.iushr) 1 16 := ⟨by decide +kernel, rfl⟩
theorem d_0_mix_16 : zD prog_2_method_7_code 16 (.ixor) 1 17 := ⟨by decide +kernel, rfl⟩
theorem d_0_mix_17 : zD prog_2_method_7_code 17 (.ireturn) 1 18 := ⟨by decide +kernel, rfl⟩
theorem d_0_lotOfHundred_0 : zD prog_2_method_6_code 0 (.iload_n 0) 1 1 := ⟨by decide +kernel, rfl⟩
theorem d_0_lotOfHundred_1 : zD prog_2_method_6_code 1 (.sipush 181) 3 4 := ⟨by decide +kernel, rfl⟩
theorem d_0_lotOfHundred_4 : zD prog_2_method_6_code 4 (.invokestatic 81) 3 7 := ⟨by decide +kernel, rfl⟩
theorem d_0_lotOfHundred_7 : zD prog_2_method_6_code 7 (.iload_n 1) 1 8 := ⟨by decide +kernel, rfl⟩
theorem d_0_lotOfHundred_8 : zD prog_2_method_6_code 8 (.invokestatic 81) 3 11 := ⟨by decide +kernel, rfl⟩
theorem d_0_lotOfHundred_11 : zD prog_2_method_6_code 11 (.istore_n 2) 1 12 := ⟨by decide +kernel, rfl⟩
theorem d_0_lotOfHundred_12 : zD prog_2_method_6_code 12 (.iload_n 2) 1 13 := ⟨by decide +kernel, rfl⟩
theorem d_0_lotOfHundred_13 : zD prog_2_method_6_code 13 (.iconst 1) 1 14 := ⟨by decide +kernel, rfl⟩
theorem d_0_lotOfHundred_14 : zD prog_2_method_6_code 14 (.iushr) 1 15 := ⟨by decide +kernel, rfl⟩
theorem d_0_lotOfHundred_15 : zD prog_2_method_6_code 15 (.bipush 100) 2 17 := ⟨by decide +kernel, rfl⟩
theorem d_0_lotOfHundred_17 : zD prog_2_method_6_code 17 (.irem) 1 18 := ⟨by decide +kernel, rfl⟩
theorem d_0_lotOfHundred_18 : zD prog_2_method_6_code 18 (.ireturn) 1 19 := ⟨by decide +kernel, rfl⟩
theorem d_1_chanceOf_0 : zD prog_3_method_5_code 0 (.iconst 0) 1 1 := ⟨by decide +kernel, rfl⟩
theorem d_1_chanceOf_1 : zD prog_3_method_5_code 1 (.bipush 100) 2 3 := ⟨by decide +kernel, rfl⟩
theorem d_1_chanceOf_3 : zD prog_3_method_5_code 3 (.aload_n 0) 1 4 := ⟨by decide +kernel, rfl⟩
theorem d_1_chanceOf_4 : zD prog_3_method_5_code 4 (.aload_n 1) 1 5 := ⟨by decide +kernel, rfl⟩
theorem d_1_chanceOf_5 : zD prog_3_method_5_code 5 (.aload_n 2) 1 6 := ⟨by decide +kernel, rfl⟩
theorem d_1_chanceOf_6 : zD prog_3_method_5_code 6 (.iload_n 3) 1 7 := ⟨by decide +kernel, rfl⟩
theorem d_1_chanceOf_7 : zD prog_3_method_5_code 7 (.iload 4) 2 9 := ⟨by decide +kernel, rfl⟩
theorem d_1_chanceOf_9 : zD prog_3_method_5_code 9 (.iconst (-1)) 1 10 := ⟨by decide +kernel, rfl⟩
theorem d_1_chanceOf_10 : zD prog_3_method_5_code 10 (.invokevirtual 39) 3 13 := ⟨by decide +kernel, rfl⟩
theorem d_1_chanceOf_13 : zD prog_3_method_5_code 13 (.invokestatic 43) 3 16 := ⟨by decide +kernel, rfl⟩
theorem d_1_chanceOf_16 : zD prog_3_method_5_code 16 (.invokestatic 49) 3 19 := ⟨by decide +kernel, rfl⟩
theorem d_1_chanceOf_19 : zD prog_3_method_5_code 19 (.ireturn) 1 20 := ⟨by decide +kernel, rfl⟩
theorem d_0_struckBy_0 : zD prog_2_method_5_code 0 (.iconst 0) 1 1 := ⟨by decide +kernel, rfl⟩
theorem d_0_struckBy_1 : zD prog_2_method_5_code 1 (.istore 6) 2 3 := ⟨by decide +kernel, rfl⟩
theorem d_0_struckBy_3 : zD prog_2_method_5_code 3 (.iconst 0) 1 4 := ⟨by decide +kernel, rfl⟩
theorem d_0_struckBy_4 : zD prog_2_method_5_code 4 (.istore 7) 2 6 := ⟨by decide +kernel, rfl⟩
theorem d_0_struckBy_6 : zD prog_2_method_5_code 6 (.iload 7) 2 8 := ⟨by decide +kernel, rfl⟩
theorem d_0_struckBy_8 : zD prog_2_method_5_code 8 (.bipush 7) 2 10 := ⟨by decide +kernel, rfl⟩
theorem d_0_struckBy_10 : zD prog_2_method_5_code 10 (.if_icmp .ge 68) 3 13 := ⟨by decide +kernel, rfl⟩
theorem d_0_struckBy_13 : zD prog_2_method_5_code 13 (.iload 4) 2 15 := ⟨by decide +kernel, rfl⟩
theorem d_0_struckBy_15 : zD prog_2_method_5_code 15 (.iload 7) 2 17 := ⟨by decide +kernel, rfl⟩
theorem d_0_struckBy_17 : zD prog_2_method_5_code 17 (.invokestatic 63) 3 20 := ⟨by decide +kernel, rfl⟩
theorem d_0_struckBy_20 : zD prog_2_method_5_code 20 (.ifCond .eq 52) 3 23 := ⟨by decide +kernel, rfl⟩
theorem d_0_struckBy_23 : zD prog_2_method_5_code 23 (.bipush 32) 2 25 := ⟨by decide +kernel, rfl⟩
theorem d_0_struckBy_25 : zD prog_2_method_5_code 25 (.aload_n 2) 1 26 := ⟨by decide +kernel, rfl⟩
theorem d_0_struckBy_26 : zD prog_2_method_5_code 26 (.getfield 67) 3 29 := ⟨by decide +kernel, rfl⟩
theorem d_0_struckBy_29 : zD prog_2_method_5_code 29 (.imul) 1 30 := ⟨by decide +kernel, rfl⟩
theorem d_0_struckBy_30 : zD prog_2_method_5_code 30 (.getstatic 70) 3 33 := ⟨by decide +kernel, rfl⟩
theorem d_0_struckBy_33 : zD prog_2_method_5_code 33 (.iload_n 3) 1 34 := ⟨by decide +kernel, rfl⟩
theorem d_0_struckBy_34 : zD prog_2_method_5_code 34 (.iaload) 1 35 := ⟨by decide +kernel, rfl⟩
theorem d_0_struckBy_35 : zD prog_2_method_5_code 35 (.iadd) 1 36 := ⟨by decide +kernel, rfl⟩
theorem d_0_struckBy_36 : zD prog_2_method_5_code 36 (.iload 7) 2 38 := ⟨by decide +kernel, rfl⟩
theorem d_0_struckBy_38 : zD prog_2_method_5_code 38 (.iadd) 1 39 := ⟨by decide +kernel, rfl⟩
theorem d_0_struckBy_39 : zD prog_2_method_5_code 39 (.istore 8) 2 41 := ⟨by decide +kernel, rfl⟩
theorem d_0_struckBy_41 : zD prog_2_method_5_code 41 (.iload 5) 2 43 := ⟨by decide +kernel, rfl⟩
theorem d_0_struckBy_43 : zD prog_2_method_5_code 43 (.iload 8) 2 45 := ⟨by decide +kernel, rfl⟩
theorem d_0_struckBy_45 : zD prog_2_method_5_code 45 (.invokestatic 73) 3 48 := ⟨by decide +kernel, rfl⟩
theorem d_0_struckBy_48 : zD prog_2_method_5_code 48 (.aload_n 0) 1 49 := ⟨by decide +kernel, rfl⟩
theorem d_0_struckBy_49 : zD prog_2_method_5_code 49 (.getfield 12) 3 52 := ⟨by decide +kernel, rfl⟩
theorem d_0_struckBy_52 : zD prog_2_method_5_code 52 (.aload_n 1) 1 53 := ⟨by decide +kernel, rfl⟩
theorem d_0_struckBy_53 : zD prog_2_method_5_code 53 (.aload_n 2) 1 54 := ⟨by decide +kernel, rfl⟩
theorem d_0_struckBy_54 : zD prog_2_method_5_code 54 (.iload_n 3) 1 55 := ⟨by decide +kernel, rfl⟩
theorem d_0_struckBy_55 : zD prog_2_method_5_code 55 (.iload 7) 2 57 := ⟨by decide +kernel, rfl⟩
theorem d_0_struckBy_57 : zD prog_2_method_5_code 57 (.invokevirtual 77) 3 60 := ⟨by decide +kernel, rfl⟩
theorem d_0_struckBy_60 : zD prog_2_method_5_code 60 (.if_icmp .ge 12) 3 63 := ⟨by decide +kernel, rfl⟩
theorem d_0_struckBy_63 : zD prog_2_method_5_code 63 (.iload 6) 2 65 := ⟨by decide +kernel, rfl⟩
theorem d_0_struckBy_65 : zD prog_2_method_5_code 65 (.iconst 1) 1 66 := ⟨by decide +kernel, rfl⟩
theorem d_0_struckBy_66 : zD prog_2_method_5_code 66 (.iload 7) 2 68 := ⟨by decide +kernel, rfl⟩
theorem d_0_struckBy_68 : zD prog_2_method_5_code 68 (.ishl) 1 69 := ⟨by decide +kernel, rfl⟩
theorem d_0_struckBy_69 : zD prog_2_method_5_code 69 (.ior) 1 70 := ⟨by decide +kernel, rfl⟩
theorem d_0_struckBy_70 : zD prog_2_method_5_code 70 (.istore 6) 2 72 := ⟨by decide +kernel, rfl⟩
theorem d_0_struckBy_72 : zD prog_2_method_5_code 72 (.iinc 7 1) 3 75 := ⟨by decide +kernel, rfl⟩
theorem d_0_struckBy_75 : zD prog_2_method_5_code 75 (.goto (-69)) 3 78 := ⟨by decide +kernel, rfl⟩
theorem d_0_struckBy_78 : zD prog_2_method_5_code 78 (.iload 6) 2 80 := ⟨by decide +kernel, rfl⟩
theorem d_0_struckBy_80 : zD prog_2_method_5_code 80 (.ireturn) 1 81 := ⟨by decide +kernel, rfl⟩
theorem d_5_die_0 : zD prog_7_method_7_code 0 (.aload_n 0) 1 1 := ⟨by decide +kernel, rfl⟩
theorem d_5_die_1 : zD prog_7_method_7_code 1 (.dup) 1 2 := ⟨by decide +kernel, rfl⟩
theorem d_5_die_2 : zD prog_7_method_7_code 2 (.getfield 15) 3 5 := ⟨by decide +kernel, rfl⟩
theorem d_5_die_5 : zD prog_7_method_7_code 5 (.iconst 1) 1 6 := ⟨by decide +kernel, rfl⟩
theorem d_5_die_6 : zD prog_7_method_7_code 6 (.iload_n 1) 1 7 := ⟨by decide +kernel, rfl⟩
theorem d_5_die_7 : zD prog_7_method_7_code 7 (.ishl) 1 8 := ⟨by decide +kernel, rfl⟩
theorem d_5_die_8 : zD prog_7_method_7_code 8 (.iconst (-1)) 1 9 := ⟨by decide +kernel, rfl⟩
theorem d_5_die_9 : zD prog_7_method_7_code 9 (.ixor) 1 10 := ⟨by decide +kernel, rfl⟩
theorem d_5_die_10 : zD prog_7_method_7_code 10 (.iand) 1 11 := ⟨by decide +kernel, rfl⟩
theorem d_5_die_11 : zD prog_7_method_7_code 11 (.putfield 15) 3 14 := ⟨by decide +kernel, rfl⟩
theorem d_5_die_14 : zD prog_7_method_7_code 14 (.aload_n 0) 1 15 := ⟨by decide +kernel, rfl⟩
theorem d_5_die_15 : zD prog_7_method_7_code 15 (.dup) 1 16 := ⟨by decide +kernel, rfl⟩
theorem d_5_die_16 : zD prog_7_method_7_code 16 (.getfield 18) 3 19 := ⟨by decide +kernel, rfl⟩
theorem d_5_die_19 : zD prog_7_method_7_code 19 (.iconst 1) 1 20 := ⟨by decide +kernel, rfl⟩
theorem d_5_die_20 : zD prog_7_method_7_code 20 (.iload_n 1) 1 21 := ⟨by decide +kernel, rfl⟩
theorem d_5_die_21 : zD prog_7_method_7_code 21 (.ishl) 1 22 := ⟨by decide +kernel, rfl⟩
theorem d_5_die_22 : zD prog_7_method_7_code 22 (.iconst (-1)) 1 23 := ⟨by decide +kernel, rfl⟩
theorem d_5_die_23 : zD prog_7_method_7_code 23 (.ixor) 1 24 := ⟨by decide +kernel, rfl⟩
theorem d_5_die_24 : zD prog_7_method_7_code 24 (.iand) 1 25 := ⟨by decide +kernel, rfl⟩
theorem d_5_die_25 : zD prog_7_method_7_code 25 (.putfield 18) 3 28 := ⟨by decide +kernel, rfl⟩
theorem d_5_die_28 : zD prog_7_method_7_code 28 (.aload_n 0) 1 29 := ⟨by decide +kernel, rfl⟩
theorem d_5_die_29 : zD prog_7_method_7_code 29 (.getfield 21) 3 32 := ⟨by decide +kernel, rfl⟩
theorem d_5_die_32 : zD prog_7_method_7_code 32 (.iload_n 1) 1 33 := ⟨by decide +kernel, rfl⟩
theorem d_5_die_33 : zD prog_7_method_7_code 33 (.iconst 0) 1 34 := ⟨by decide +kernel, rfl⟩
theorem d_5_die_34 : zD prog_7_method_7_code 34 (.iastore) 1 35 := ⟨by decide +kernel, rfl⟩
theorem d_5_die_35 : zD prog_7_method_7_code 35 (.return_) 1 36 := ⟨by decide +kernel, rfl⟩
theorem d_5_goAway_0 : zD prog_7_method_5_code 0 (.aload_n 0) 1 1 := ⟨by decide +kernel, rfl⟩
theorem d_5_goAway_1 : zD prog_7_method_5_code 1 (.dup) 1 2 := ⟨by decide +kernel, rfl⟩
theorem d_5_goAway_2 : zD prog_7_method_5_code 2 (.getfield 15) 3 5 := ⟨by decide +kernel, rfl⟩
theorem d_5_goAway_5 : zD prog_7_method_5_code 5 (.iconst 1) 1 6 := ⟨by decide +kernel, rfl⟩
theorem d_5_goAway_6 : zD prog_7_method_5_code 6 (.iload_n 1) 1 7 := ⟨by decide +kernel, rfl⟩
theorem d_5_goAway_7 : zD prog_7_method_5_code 7 (.ishl) 1 8 := ⟨by decide +kernel, rfl⟩
theorem d_5_goAway_8 : zD prog_7_method_5_code 8 (.iconst (-1)) 1 9 := ⟨by decide +kernel, rfl⟩
theorem d_5_goAway_9 : zD prog_7_method_5_code 9 (.ixor) 1 10 := ⟨by decide +kernel, rfl⟩
theorem d_5_goAway_10 : zD prog_7_method_5_code 10 (.iand) 1 11 := ⟨by decide +kernel, rfl⟩
theorem d_5_goAway_11 : zD prog_7_method_5_code 11 (.putfield 15) 3 14 := ⟨by decide +kernel, rfl⟩
theorem d_5_goAway_14 : zD prog_7_method_5_code 14 (.aload_n 0) 1 15 := ⟨by decide +kernel, rfl⟩
theorem d_5_goAway_15 : zD prog_7_method_5_code 15 (.dup) 1 16 := ⟨by decide +kernel, rfl⟩
theorem d_5_goAway_16 : zD prog_7_method_5_code 16 (.getfield 18) 3 19 := ⟨by decide +kernel, rfl⟩
theorem d_5_goAway_19 : zD prog_7_method_5_code 19 (.iconst 1) 1 20 := ⟨by decide +kernel, rfl⟩
theorem d_5_goAway_20 : zD prog_7_method_5_code 20 (.iload_n 1) 1 21 := ⟨by decide +kernel, rfl⟩
theorem d_5_goAway_21 : zD prog_7_method_5_code 21 (.ishl) 1 22 := ⟨by decide +kernel, rfl⟩
theorem d_5_goAway_22 : zD prog_7_method_5_code 22 (.ior) 1 23 := ⟨by decide +kernel, rfl⟩
theorem d_5_goAway_23 : zD prog_7_method_5_code 23 (.putfield 18) 3 26 := ⟨by decide +kernel, rfl⟩
theorem d_5_goAway_26 : zD prog_7_method_5_code 26 (.aload_n 0) 1 27 := ⟨by decide +kernel, rfl⟩
theorem d_5_goAway_27 : zD prog_7_method_5_code 27 (.getfield 21) 3 30 := ⟨by decide +kernel, rfl⟩
theorem d_5_goAway_30 : zD prog_7_method_5_code 30 (.iload_n 1) 1 31 := ⟨by decide +kernel, rfl⟩
theorem d_5_goAway_31 : zD prog_7_method_5_code 31 (.iconst 0) 1 32 := ⟨by decide +kernel, rfl⟩
theorem d_5_goAway_32 : zD prog_7_method_5_code 32 (.iastore) 1 33 := ⟨by decide +kernel, rfl⟩
theorem d_5_goAway_33 : zD prog_7_method_5_code 33 (.return_) 1 34 := ⟨by decide +kernel, rfl⟩
theorem d_5_comeHome_0 : zD prog_7_method_6_code 0 (.aload_n 0) 1 1 := ⟨by decide +kernel, rfl⟩
theorem d_5_comeHome_1 : zD prog_7_method_6_code 1 (.dup) 1 2 := ⟨by decide +kernel, rfl⟩
theorem d_5_comeHome_2 : zD prog_7_method_6_code 2 (.getfield 18) 3 5 := ⟨by decide +kernel, rfl⟩
theorem d_5_comeHome_5 : zD prog_7_method_6_code 5 (.iconst 1) 1 6 := ⟨by decide +kernel, rfl⟩
theorem d_5_comeHome_6 : zD prog_7_method_6_code 6 (.iload_n 1) 1 7 := ⟨by decide +kernel, rfl⟩
theorem d_5_comeHome_7 : zD prog_7_method_6_code 7 (.ishl) 1 8 := ⟨by decide +kernel, rfl⟩
theorem d_5_comeHome_8 : zD prog_7_method_6_code 8 (.iconst (-1)) 1 9 := ⟨by decide +kernel, rfl⟩
theorem d_5_comeHome_9 : zD prog_7_method_6_code 9 (.ixor) 1 10 := ⟨by decide +kernel, rfl⟩
theorem d_5_comeHome_10 : zD prog_7_method_6_code 10 (.iand) 1 11 := ⟨by decide +kernel, rfl⟩
theorem d_5_comeHome_11 : zD prog_7_method_6_code 11 (.putfield 18) 3 14 := ⟨by decide +kernel, rfl⟩
theorem d_5_comeHome_14 : zD prog_7_method_6_code 14 (.aload_n 0) 1 15 := ⟨by decide +kernel, rfl⟩
theorem d_5_comeHome_15 : zD prog_7_method_6_code 15 (.dup) 1 16 := ⟨by decide +kernel, rfl⟩
theorem d_5_comeHome_16 : zD prog_7_method_6_code 16 (.getfield 15) 3 19 := ⟨by decide +kernel, rfl⟩
theorem d_5_comeHome_19 : zD prog_7_method_6_code 19 (.iconst 1) 1 20 := ⟨by decide +kernel, rfl⟩
theorem d_5_comeHome_20 : zD prog_7_method_6_code 20 (.iload_n 1) 1 21 := ⟨by decide +kernel, rfl⟩
theorem d_5_comeHome_21 : zD prog_7_method_6_code 21 (.ishl) 1 22 := ⟨by decide +kernel, rfl⟩
theorem d_5_comeHome_22 : zD prog_7_method_6_code 22 (.ior) 1 23 := ⟨by decide +kernel, rfl⟩
theorem d_5_comeHome_23 : zD prog_7_method_6_code 23 (.putfield 15) 3 26 := ⟨by decide +kernel, rfl⟩
theorem d_5_comeHome_26 : zD prog_7_method_6_code 26 (.aload_n 0) 1 27 := ⟨by decide +kernel, rfl⟩
theorem d_5_comeHome_27 : zD prog_7_method_6_code 27 (.getfield 21) 3 30 := ⟨by decide +kernel, rfl⟩
theorem d_5_comeHome_30 : zD prog_7_method_6_code 30 (.iload_n 1) 1 31 := ⟨by decide +kernel, rfl⟩
theorem d_5_comeHome_31 : zD prog_7_method_6_code 31 (.iconst 0) 1 32 := ⟨by decide +kernel, rfl⟩
theorem d_5_comeHome_32 : zD prog_7_method_6_code 32 (.iastore) 1 33 := ⟨by decide +kernel, rfl⟩
theorem d_5_comeHome_33 : zD prog_7_method_6_code 33 (.return_) 1 34 := ⟨by decide +kernel, rfl⟩
theorem d_0_turn_0 : zD prog_2_method_8_code 0 (.iconst 0) 1 1 := ⟨by decide +kernel, rfl⟩
theorem d_0_turn_1 : zD prog_2_method_8_code 1 (.istore 6) 2 3 := ⟨by decide +kernel, rfl⟩
theorem d_0_turn_3 : zD prog_2_method_8_code 3 (.iload 6) 2 5 := ⟨by decide +kernel, rfl⟩
theorem d_0_turn_5 : zD prog_2_method_8_code 5 (.aload_n 1) 1 6 := ⟨by decide +kernel, rfl⟩
theorem d_0_turn_6 : zD prog_2_method_8_code 6 (.getfield 85) 3 9 := ⟨by decide +kernel, rfl⟩
theorem d_0_turn_9 : zD prog_2_method_8_code 9 (.if_icmp .ge 128) 3 12 := ⟨by decide +kernel, rfl⟩
theorem d_0_turn_12 : zD prog_2_method_8_code 12 (.aload_n 2) 1 13 := ⟨by decide +kernel, rfl⟩
theorem d_0_turn_13 : zD prog_2_method_8_code 13 (.getfield 88) 3 16 := ⟨by decide +kernel, rfl⟩
theorem d_0_turn_16 : zD prog_2_method_8_code 16 (.iload 6) 2 18 := ⟨by decide +kernel, rfl⟩
theorem d_0_turn_18 : zD prog_2_method_8_code 18 (.dup2) 1 19 := ⟨by decide +kernel, rfl⟩
theorem d_0_turn_19 : zD prog_2_method_8_code 19 (.iaload) 1 20 := ⟨by decide +kernel, rfl⟩
theorem d_0_turn_20 : zD prog_2_method_8_code 20 (.aload_n 0) 1 21 := ⟨by decide +kernel, rfl⟩
theorem d_0_turn_21 : zD prog_2_method_8_code 21 (.getfield 18) 3 24 := ⟨by decide +kernel, rfl⟩
theorem d_0_turn_24 : zD prog_2_method_8_code 24 (.iload 6) 2 26 := ⟨by decide +kernel, rfl⟩
theorem d_0_turn_26 : zD prog_2_method_8_code 26 (.iaload) 1 27 := ⟨by decide +kernel, rfl⟩
theorem d_0_turn_27 : zD prog_2_method_8_code 27 (.iadd) 1 28 := ⟨by decide +kernel, rfl⟩
theorem d_0_turn_28 : zD prog_2_method_8_code 28 (.iastore) 1 29 := ⟨by decide +kernel, rfl⟩
theorem d_0_turn_29 : zD prog_2_method_8_code 29 (.iload_n 3) 1 30 := ⟨by decide +kernel, rfl⟩
theorem d_0_turn_30 : zD prog_2_method_8_code 30 (.iload 6) 2 32 := ⟨by decide +kernel, rfl⟩
theorem d_0_turn_32 : zD prog_2_method_8_code 32 (.invokestatic 63) 3 35 := ⟨by decide +kernel, rfl⟩
theorem d_0_turn_35 : zD prog_2_method_8_code 35 (.ifCond .eq 12) 3 38 := ⟨by decide +kernel, rfl⟩
theorem d_0_turn_38 : zD prog_2_method_8_code 38 (.aload_n 2) 1 39 := ⟨by decide +kernel, rfl⟩
theorem d_0_turn_39 : zD prog_2_method_8_code 39 (.iload 6) 2 41 := ⟨by decide +kernel, rfl⟩
theorem d_0_turn_41 : zD prog_2_method_8_code 41 (.invokevirtual 91) 3 44 := ⟨by decide +kernel, rfl⟩
theorem d_0_turn_44 : zD prog_2_method_8_code 44 (.goto 64) 3 47 := ⟨by decide +kernel, rfl⟩
theorem d_0_turn_47 : zD prog_2_method_8_code 47 (.iload 4) 2 49 := ⟨by decide +kernel, rfl⟩
theorem d_0_turn_49 : zD prog_2_method_8_code 49 (.iload 6) 2 51 := ⟨by decide +kernel, rfl⟩
theorem d_0_turn_51 : zD prog_2_method_8_code 51 (.invokestatic 63) 3 54 := ⟨by decide +kernel, rfl⟩
theorem d_0_turn_54 : zD prog_2_method_8_code 54 (.ifCond .eq 12) 3 57 := ⟨by decide +kernel, rfl⟩
theorem d_0_turn_57 : zD prog_2_method_8_code 57 (.aload_n 2) 1 58 := ⟨by decide +kernel, rfl⟩
theorem d_0_turn_58 : zD prog_2_method_8_code 58 (.iload 6) 2 60 := ⟨by decide +kernel, rfl⟩
theorem d_0_turn_60 : zD prog_2_method_8_code 60 (.invokevirtual 95) 3 63 := ⟨by decide +kernel, rfl⟩
theorem d_0_turn_63 : zD prog_2_method_8_code 63 (.goto 45) 3 66 := ⟨by decide +kernel, rfl⟩
theorem d_0_turn_66 : zD prog_2_method_8_code 66 (.iload 5) 2 68 := ⟨by decide +kernel, rfl⟩
theorem d_0_turn_68 : zD prog_2_method_8_code 68 (.iload 6) 2 70 := ⟨by decide +kernel, rfl⟩
theorem d_0_turn_70 : zD prog_2_method_8_code 70 (.invokestatic 63) 3 73 := ⟨by decide +kernel, rfl⟩
theorem d_0_turn_73 : zD prog_2_method_8_code 73 (.ifCond .eq 12) 3 76 := ⟨by decide +kernel, rfl⟩
theorem d_0_turn_76 : zD prog_2_method_8_code 76 (.aload_n 2) 1 77 := ⟨by decide +kernel, rfl⟩
theorem d_0_turn_77 : zD prog_2_method_8_code 77 (.iload 6) 2 79 := ⟨by decide +kernel, rfl⟩
theorem d_0_turn_79 : zD prog_2_method_8_code 79 (.invokevirtual 98) 3 82 := ⟨by decide +kernel, rfl⟩
theorem d_0_turn_82 : zD prog_2_method_8_code 82 (.goto 26) 3 85 := ⟨by decide +kernel, rfl⟩
theorem d_0_turn_85 : zD prog_2_method_8_code 85 (.aload_n 2) 1 86 := ⟨by decide +kernel, rfl⟩
theorem d_0_turn_86 : zD prog_2_method_8_code 86 (.getfield 43) 3 89 := ⟨by decide +kernel, rfl⟩
theorem d_0_turn_89 : zD prog_2_method_8_code 89 (.iload 6) 2 91 := ⟨by decide +kernel, rfl⟩
theorem d_0_turn_91 : zD prog_2_method_8_code 91 (.invokestatic 63) 3 94 := ⟨by decide +kernel, rfl⟩
theorem d_0_turn_94 : zD prog_2_method_8_code 94 (.ifCond .eq 14) 3 97 := ⟨by decide +kernel, rfl⟩
theorem d_0_turn_97 : zD prog_2_method_8_code 97 (.aload_n 2) 1 98 := ⟨by decide +kernel, rfl⟩
theorem d_0_turn_98 : zD prog_2_method_8_code 98 (.getfield 101) 3 101 := ⟨by decide +kernel, rfl⟩
theorem d_0_turn_101 : zD prog_2_method_8_code 101 (.iload 6) 2 103 := ⟨by decide +kernel, rfl⟩
theorem d_0_turn_103 : zD prog_2_method_8_code 103 (.dup2) 1 104 := ⟨by decide +kernel, rfl⟩
theorem d_0_turn_104 : zD prog_2_method_8_code 104 (.iaload) 1 105 := ⟨by decide +kernel, rfl⟩
theorem d_0_turn_105 : zD prog_2_method_8_code 105 (.iconst 1) 1 106 := ⟨by decide +kernel, rfl⟩
theorem d_0_turn_106 : zD prog_2_method_8_code 106 (.iadd) 1 107 := ⟨by decide +kernel, rfl⟩
theorem d_0_turn_107 : zD prog_2_method_8_code 107 (.iastore) 1 108 := ⟨by decide +kernel, rfl⟩
theorem d_0_turn_108 : zD prog_2_method_8_code 108 (.aload_n 2) 1 109 := ⟨by decide +kernel, rfl⟩
theorem d_0_turn_109 : zD prog_2_method_8_code 109 (.invokevirtual 29) 3 112 := ⟨by decide +kernel, rfl⟩
theorem d_0_turn_112 : zD prog_2_method_8_code 112 (.iload 6) 2 114 := ⟨by decide +kernel, rfl⟩
theorem d_0_turn_114 : zD prog_2_method_8_code 114 (.invokestatic 63) 3 117 := ⟨by decide +kernel, rfl⟩
theorem d_0_turn_117 : zD prog_2_method_8_code 117 (.ifCond .eq 14) 3 120 := ⟨by decide +kernel, rfl⟩
theorem d_0_turn_120 : zD prog_2_method_8_code 120 (.aload_n 2) 1 121 := ⟨by decide +kernel, rfl⟩
theorem d_0_turn_121 : zD prog_2_method_8_code 121 (.getfield 104) 3 124 := ⟨by decide +kernel, rfl⟩
theorem d_0_turn_124 : zD prog_2_method_8_code 124 (.iload 6) 2 126 := ⟨by decide +kernel, rfl⟩
theorem d_0_turn_126 : zD prog_2_method_8_code 126 (.dup2) 1 127 := ⟨by decide +kernel, rfl⟩
theorem d_0_turn_127 : zD prog_2_method_8_code 127 (.iaload) 1 128 := ⟨by decide +kernel, rfl⟩
theorem d_0_turn_128 : zD prog_2_method_8_code 128 (.iconst 1) 1 129 := ⟨by decide +kernel, rfl⟩
theorem d_0_turn_129 : zD prog_2_method_8_code 129 (.iadd) 1 130 := ⟨by decide +kernel, rfl⟩
theorem d_0_turn_130 : zD prog_2_method_8_code 130 (.iastore) 1 131 := ⟨by decide +kernel, rfl⟩
theorem d_0_turn_131 : zD prog_2_method_8_code 131 (.iinc 6 1) 3 134 := ⟨by decide +kernel, rfl⟩
theorem d_0_turn_134 : zD prog_2_method_8_code 134 (.goto (-131)) 3 137 := ⟨by decide +kernel, rfl⟩
theorem d_0_turn_137 : zD prog_2_method_8_code 137 (.aload_n 2) 1 138 := ⟨by decide +kernel, rfl⟩
theorem d_0_turn_138 : zD prog_2_method_8_code 138 (.dup) 1 139 := ⟨by decide +kernel, rfl⟩
theorem d_0_turn_139 : zD prog_2_method_8_code 139 (.getfield 67) 3 142 := ⟨by decide +kernel, rfl⟩
theorem d_0_turn_142 : zD prog_2_method_8_code 142 (.iconst 1) 1 143 := ⟨by decide +kernel, rfl⟩
theorem d_0_turn_143 : zD prog_2_method_8_code 143 (.iadd) 1 144 := ⟨by decide +kernel, rfl⟩
theorem d_0_turn_144 : zD prog_2_method_8_code 144 (.putfield 67) 3 147 := ⟨by decide +kernel, rfl⟩
theorem d_0_turn_147 : zD prog_2_method_8_code 147 (.return_) 1 148 := ⟨by decide +kernel, rfl⟩
theorem d_0_goOn_0 : zD prog_2_method_2_code 0 (.iconst 0) 1 1 := ⟨by decide +kernel, rfl⟩
theorem d_0_goOn_1 : zD prog_2_method_2_code 1 (.istore 5) 2 3 := ⟨by decide +kernel, rfl⟩
theorem d_0_goOn_3 : zD prog_2_method_2_code 3 (.iload 5) 2 5 := ⟨by decide +kernel, rfl⟩
theorem d_0_goOn_5 : zD prog_2_method_2_code 5 (.iload_n 3) 1 6 := ⟨by decide +kernel, rfl⟩
theorem d_0_goOn_6 : zD prog_2_method_2_code 6 (.if_icmp .ge 91) 3 9 := ⟨by decide +kernel, rfl⟩
theorem d_0_goOn_9 : zD prog_2_method_2_code 9 (.aload_n 0) 1 10 := ⟨by decide +kernel, rfl⟩
theorem d_0_goOn_10 : zD prog_2_method_2_code 10 (.getfield 12) 3 13 := ⟨by decide +kernel, rfl⟩
theorem d_0_goOn_13 : zD prog_2_method_2_code 13 (.aload_n 1) 1 14 := ⟨by decide +kernel, rfl⟩
theorem d_0_goOn_14 : zD prog_2_method_2_code 14 (.aload_n 2) 1 15 := ⟨by decide +kernel, rfl⟩
theorem d_0_goOn_15 : zD prog_2_method_2_code 15 (.invokevirtual 22) 3 18 := ⟨by decide +kernel, rfl⟩
theorem d_0_goOn_18 : zD prog_2_method_2_code 18 (.aload_n 0) 1 19 := ⟨by decide +kernel, rfl⟩
theorem d_0_goOn_19 : zD prog_2_method_2_code 19 (.aload_n 1) 1 20 := ⟨by decide +kernel, rfl⟩
theorem d_0_goOn_20 : zD prog_2_method_2_code 20 (.aload_n 2) 1 21 := ⟨by decide +kernel, rfl⟩
theorem d_0_goOn_21 : zD prog_2_method_2_code 21 (.invokevirtual 26) 3 24 := ⟨by decide +kernel, rfl⟩
theorem d_0_goOn_24 : zD prog_2_method_2_code 24 (.aload_n 0) 1 25 := ⟨by decide +kernel, rfl⟩
theorem d_0_goOn_25 : zD prog_2_method_2_code 25 (.aload_n 1) 1 26 := ⟨by decide +kernel, rfl⟩
theorem d_0_goOn_26 : zD prog_2_method_2_code 26 (.aload_n 2) 1 27 := ⟨by decide +kernel, rfl⟩
theorem d_0_goOn_27 : zD prog_2_method_2_code 27 (.iconst 2) 1 28 := ⟨by decide +kernel, rfl⟩
theorem d_0_goOn_28 : zD prog_2_method_2_code 28 (.aload_n 2) 1 29 := ⟨by decide +kernel, rfl⟩
theorem d_0_goOn_29 : zD prog_2_method_2_code 29 (.invokevirtual 29) 3 32 := ⟨by decide +kernel, rfl⟩
theorem d_0_goOn_32 : zD prog_2_method_2_code 32 (.iload 4) 2 34 := ⟨by decide +kernel, rfl⟩
theorem d_0_goOn_34 : zD prog_2_method_2_code 34 (.invokevirtual 35) 3 37 := ⟨by decide +kernel, rfl⟩
theorem d_0_goOn_37 : zD prog_2_method_2_code 37 (.istore 6) 2 39 := ⟨by decide +kernel, rfl⟩
theorem d_0_goOn_39 : zD prog_2_method_2_code 39 (.aload_n 0) 1 40 := ⟨by decide +kernel, rfl⟩
theorem d_0_goOn_40 : zD prog_2_method_2_code 40 (.aload_n 1) 1 41 := ⟨by decide +kernel, rfl⟩
theorem d_0_goOn_41 : zD prog_2_method_2_code 41 (.aload_n 2) 1 42 := ⟨by decide +kernel, rfl⟩
theorem d_0_goOn_42 : zD prog_2_method_2_code 42 (.iconst 0) 1 43 := ⟨by decide +kernel, rfl⟩
theorem d_0_goOn_43 : zD prog_2_method_2_code 43 (.aload_n 2) 1 44 := ⟨by decide +kernel, rfl⟩
theorem d_0_goOn_44 : zD prog_2_method_2_code 44 (.getfield 39) 3 47 := ⟨by decide +kernel, rfl⟩
theorem d_0_goOn_47 : zD prog_2_method_2_code 47 (.iload 6) 2 49 := ⟨by decide +kernel, rfl⟩
theorem d_0_goOn_49 : zD prog_2_method_2_code 49 (.iconst (-1)) 1 50 := ⟨by decide +kernel, rfl⟩
theorem d_0_goOn_50 : zD prog_2_method_2_code 50 (.ixor) 1 51 := ⟨by decide +kernel, rfl⟩
theorem d_0_goOn_51 : zD prog_2_method_2_code 51 (.iand) 1 52 := ⟨by decide +kernel, rfl⟩
theorem d_0_goOn_52 : zD prog_2_method_2_code 52 (.iload 4) 2 54 := ⟨by decide +kernel, rfl⟩
theorem d_0_goOn_54 : zD prog_2_method_2_code 54 (.invokevirtual 35) 3 57 := ⟨by decide +kernel, rfl⟩
theorem d_0_goOn_57 : zD prog_2_method_2_code 57 (.istore 7) 2 59 := ⟨by decide +kernel, rfl⟩
theorem d_0_goOn_59 : zD prog_2_method_2_code 59 (.aload_n 0) 1 60 := ⟨by decide +kernel, rfl⟩
theorem d_0_goOn_60 : zD prog_2_method_2_code 60 (.aload_n 1) 1 61 := ⟨by decide +kernel, rfl⟩
theorem d_0_goOn_61 : zD prog_2_method_2_code 61 (.aload_n 2) 1 62 := ⟨by decide +kernel, rfl⟩
theorem d_0_goOn_62 : zD prog_2_method_2_code 62 (.iconst 1) 1 63 := ⟨by decide +kernel, rfl⟩
theorem d_0_goOn_63 : zD prog_2_method_2_code 63 (.aload_n 2) 1 64 := ⟨by decide +kernel, rfl⟩
theorem d_0_goOn_64 : zD prog_2_method_2_code 64 (.getfield 43) 3 67 := ⟨by decide +kernel, rfl⟩
theorem d_0_goOn_67 : zD prog_2_method_2_code 67 (.iload 6) 2 69 := ⟨by decide +kernel, rfl⟩
theorem d_0_goOn_69 : zD prog_2_method_2_code 69 (.iconst (-1)) 1 70 := ⟨by decide +kernel, rfl⟩
theorem d_0_goOn_70 : zD prog_2_method_2_code 70 (.ixor) 1 71 := ⟨by decide +kernel, rfl⟩
theorem d_0_goOn_71 : zD prog_2_method_2_code 71 (.iand) 1 72 := ⟨by decide +kernel, rfl⟩
theorem d_0_goOn_72 : zD prog_2_method_2_code 72 (.iload 4) 2 74 := ⟨by decide +kernel, rfl⟩
theorem d_0_goOn_74 : zD prog_2_method_2_code 74 (.invokevirtual 35) 3 77 := ⟨by decide +kernel, rfl⟩
theorem d_0_goOn_77 : zD prog_2_method_2_code 77 (.istore 8) 2 79 := ⟨by decide +kernel, rfl⟩
theorem d_0_goOn_79 : zD prog_2_method_2_code 79 (.aload_n 0) 1 80 := ⟨by decide +kernel, rfl⟩
theorem d_0_goOn_80 : zD prog_2_method_2_code 80 (.aload_n 1) 1 81 := ⟨by decide +kernel, rfl⟩
theorem d_0_goOn_81 : zD prog_2_method_2_code 81 (.aload_n 2) 1 82 := ⟨by decide +kernel, rfl⟩
theorem d_0_goOn_82 : zD prog_2_method_2_code 82 (.iload 6) 2 84 := ⟨by decide +kernel, rfl⟩
theorem d_0_goOn_84 : zD prog_2_method_2_code 84 (.iload 7) 2 86 := ⟨by decide +kernel, rfl⟩
theorem d_0_goOn_86 : zD prog_2_method_2_code 86 (.iload 8) 2 88 := ⟨by decide +kernel, rfl⟩
theorem d_0_goOn_88 : zD prog_2_method_2_code 88 (.invokevirtual 46) 3 91 := ⟨by decide +kernel, rfl⟩
theorem d_0_goOn_91 : zD prog_2_method_2_code 91 (.iinc 5 1) 3 94 := ⟨by decide +kernel, rfl⟩
theorem d_0_goOn_94 : zD prog_2_method_2_code 94 (.goto (-91)) 3 97 := ⟨by decide +kernel, rfl⟩
theorem d_0_goOn_97 : zD prog_2_method_2_code 97 (.return_) 1 98 := ⟨by decide +kernel, rfl⟩
theorem d_0_standStill_0 : zD prog_2_method_3_code 0 (.aload_n 0) 1 1 := ⟨by decide +kernel, rfl⟩
theorem d_0_standStill_1 : zD prog_2_method_3_code 1 (.getfield 12) 3 4 := ⟨by decide +kernel, rfl⟩
theorem d_0_standStill_4 : zD prog_2_method_3_code 4 (.aload_n 1) 1 5 := ⟨by decide +kernel, rfl⟩
theorem d_0_standStill_5 : zD prog_2_method_3_code 5 (.aload_n 2) 1 6 := ⟨by decide +kernel, rfl⟩
theorem d_0_standStill_6 : zD prog_2_method_3_code 6 (.invokevirtual 22) 3 9 := ⟨by decide +kernel, rfl⟩
theorem d_0_standStill_9 : zD prog_2_method_3_code 9 (.iconst 0) 1 10 := ⟨by decide +kernel, rfl⟩
theorem d_0_standStill_10 : zD prog_2_method_3_code 10 (.istore 4) 2 12 := ⟨by decide +kernel, rfl⟩
theorem d_0_standStill_12 : zD prog_2_method_3_code 12 (.iload 4) 2 14 := ⟨by decide +kernel, rfl⟩
theorem d_0_standStill_14 : zD prog_2_method_3_code 14 (.iload_n 3) 1 15 := ⟨by decide +kernel, rfl⟩
theorem d_0_standStill_15 : zD prog_2_method_3_code 15 (.if_icmp .ge 24) 3 18 := ⟨by decide +kernel, rfl⟩
theorem d_0_standStill_18 : zD prog_2_method_3_code 18 (.aload_n 0) 1 19 := ⟨by decide +kernel, rfl⟩
theorem d_0_standStill_19 : zD prog_2_method_3_code 19 (.aload_n 1) 1 20 := ⟨by decide +kernel, rfl⟩
theorem d_0_standStill_20 : zD prog_2_method_3_code 20 (.aload_n 2) 1 21 := ⟨by decide +kernel, rfl⟩
theorem d_0_standStill_21 : zD prog_2_method_3_code 21 (.invokevirtual 26) 3 24 := ⟨by decide +kernel, rfl⟩
theorem d_0_standStill_24 : zD prog_2_method_3_code 24 (.aload_n 0) 1 25 := ⟨by decide +kernel, rfl⟩
theorem d_0_standStill_25 : zD prog_2_method_3_code 25 (.aload_n 1) 1 26 := ⟨by decide +kernel, rfl⟩
theorem d_0_standStill_26 : zD prog_2_method_3_code 26 (.aload_n 2) 1 27 := ⟨by decide +kernel, rfl⟩
theorem d_0_standStill_27 : zD prog_2_method_3_code 27 (.iconst 0) 1 28 := ⟨by decide +kernel, rfl⟩
theorem d_0_standStill_28 : zD prog_2_method_3_code 28 (.iconst 0) 1 29 := ⟨by decide +kernel, rfl⟩
theorem d_0_standStill_29 : zD prog_2_method_3_code 29 (.iconst 0) 1 30 := ⟨by decide +kernel, rfl⟩
theorem d_0_standStill_30 : zD prog_2_method_3_code 30 (.invokevirtual 46) 3 33 := ⟨by decide +kernel, rfl⟩
theorem d_0_standStill_33 : zD prog_2_method_3_code 33 (.iinc 4 1) 3 36 := ⟨by decide +kernel, rfl⟩
theorem d_0_standStill_36 : zD prog_2_method_3_code 36 (.goto (-24)) 3 39 := ⟨by decide +kernel, rfl⟩
theorem d_0_standStill_39 : zD prog_2_method_3_code 39 (.return_) 1 40 := ⟨by decide +kernel, rfl⟩
theorem d_2_clear_0 : zD prog_4_method_2_code 0 (.aload_n 0) 1 1 := ⟨by decide +kernel, rfl⟩
theorem d_2_clear_1 : zD prog_4_method_2_code 1 (.iconst 0) 1 2 := ⟨by decide +kernel, rfl⟩
theorem d_2_clear_2 : zD prog_4_method_2_code 2 (.putfield 18) 3 5 := ⟨by decide +kernel, rfl⟩
theorem d_2_clear_5 : zD prog_4_method_2_code 5 (.return_) 1 6 := ⟨by decide +kernel, rfl⟩
theorem d_2_add_0 : zD prog_4_method_3_code 0 (.aload_n 0) 1 1 := ⟨by decide +kernel, rfl⟩
theorem d_2_add_1 : zD prog_4_method_3_code 1 (.getfield 18) 3 4 := ⟨by decide +kernel, rfl⟩
theorem d_2_add_4 : zD prog_4_method_3_code 4 (.bipush 20) 2 6 := ⟨by decide +kernel, rfl⟩
theorem d_2_add_6 : zD prog_4_method_3_code 6 (.if_icmp .lt 5) 3 9 := ⟨by decide +kernel, rfl⟩
theorem d_2_add_9 : zD prog_4_method_3_code 9 (.iconst (-1)) 1 10 := ⟨by decide +kernel, rfl⟩
theorem d_2_add_10 : zD prog_4_method_3_code 10 (.ireturn) 1 11 := ⟨by decide +kernel, rfl⟩
theorem d_2_add_11 : zD prog_4_method_3_code 11 (.aload_n 0) 1 12 := ⟨by decide +kernel, rfl⟩
theorem d_2_add_12 : zD prog_4_method_3_code 12 (.getfield 11) 3 15 := ⟨by decide +kernel, rfl⟩
theorem d_2_add_15 : zD prog_4_method_3_code 15 (.aload_n 0) 1 16 := ⟨by decide +kernel, rfl⟩
theorem d_2_add_16 : zD prog_4_method_3_code 16 (.getfield 18) 3 19 := ⟨by decide +kernel, rfl⟩
theorem d_2_add_19 : zD prog_4_method_3_code 19 (.iload_n 1) 1 20 := ⟨by decide +kernel, rfl⟩
theorem d_2_add_20 : zD prog_4_method_3_code 20 (.iastore) 1 21 := ⟨by decide +kernel, rfl⟩
theorem d_2_add_21 : zD prog_4_method_3_code 21 (.aload_n 0) 1 22 := ⟨by decide +kernel, rfl⟩
theorem d_2_add_22 : zD prog_4_method_3_code 22 (.getfield 15) 3 25 := ⟨by decide +kernel, rfl⟩
theorem d_2_add_25 : zD prog_4_method_3_code 25 (.aload_n 0) 1 26 := ⟨by decide +kernel, rfl⟩
theorem d_2_add_26 : zD prog_4_method_3_code 26 (.getfield 18) 3 29 := ⟨by decide +kernel, rfl⟩
theorem d_2_add_29 : zD prog_4_method_3_code 29 (.iload_n 2) 1 30 := ⟨by decide +kernel, rfl⟩
theorem d_2_add_30 : zD prog_4_method_3_code 30 (.iastore) 1 31 := ⟨by decide +kernel, rfl⟩
theorem d_2_add_31 : zD prog_4_method_3_code 31 (.aload_n 0) 1 32 := ⟨by decide +kernel, rfl⟩
theorem d_2_add_32 : zD prog_4_method_3_code 32 (.dup) 1 33 := ⟨by decide +kernel, rfl⟩
theorem d_2_add_33 : zD prog_4_method_3_code 33 (.getfield 18) 3 36 := ⟨by decide +kernel, rfl⟩
theorem d_2_add_36 : zD prog_4_method_3_code 36 (.iconst 1) 1 37 := ⟨by decide +kernel, rfl⟩
theorem d_2_add_37 : zD prog_4_method_3_code 37 (.iadd) 1 38 := ⟨by decide +kernel, rfl⟩
theorem d_2_add_38 : zD prog_4_method_3_code 38 (.putfield 18) 3 41 := ⟨by decide +kernel, rfl⟩
theorem d_2_add_41 : zD prog_4_method_3_code 41 (.aload_n 0) 1 42 := ⟨by decide +kernel, rfl⟩
theorem d_2_add_42 : zD prog_4_method_3_code 42 (.getfield 18) 3 45 := ⟨by decide +kernel, rfl⟩
theorem d_2_add_45 : zD prog_4_method_3_code 45 (.iconst 1) 1 46 := ⟨by decide +kernel, rfl⟩
theorem d_2_add_46 : zD prog_4_method_3_code 46 (.isub) 1 47 := ⟨by decide +kernel, rfl⟩
theorem d_2_add_47 : zD prog_4_method_3_code 47 (.ireturn) 1 48 := ⟨by decide +kernel, rfl⟩
theorem d_8_everybody_0 : zD prog_1_method_74_code 0 (.iconst 1) 1 1 := ⟨by decide +kernel, rfl⟩
theorem d_8_everybody_1 : zD prog_1_method_74_code 1 (.iload_n 0) 1 2 := ⟨by decide +kernel, rfl⟩
theorem d_8_everybody_2 : zD prog_1_method_74_code 2 (.ishl) 1 3 := ⟨by decide +kernel, rfl⟩
theorem d_8_everybody_3 : zD prog_1_method_74_code 3 (.iconst 1) 1 4 := ⟨by decide +kernel, rfl⟩
theorem d_8_everybody_4 : zD prog_1_method_74_code 4 (.isub) 1 5 := ⟨by decide +kernel, rfl⟩
theorem d_8_everybody_5 : zD prog_1_method_74_code 5 (.ireturn) 1 6 := ⟨by decide +kernel, rfl⟩
theorem d_2_canFollow_0 : zD prog_4_method_7_code 0 (.iload_n 1) 1 1 := ⟨by decide +kernel, rfl⟩
theorem d_2_canFollow_1 : zD prog_4_method_7_code 1 (.iload_n 2) 1 2 := ⟨by decide +kernel, rfl⟩
theorem d_2_canFollow_2 : zD prog_4_method_7_code 2 (.invokestatic 44) 3 5 := ⟨by decide +kernel, rfl⟩
theorem d_2_canFollow_5 : zD prog_4_method_7_code 5 (.ifCond .ne 20) 3 8 := ⟨by decide +kernel, rfl⟩
theorem d_2_canFollow_8 : zD prog_4_method_7_code 8 (.aload_n 0) 1 9 := ⟨by decide +kernel, rfl⟩
theorem d_2_canFollow_9 : zD prog_4_method_7_code 9 (.getfield 25) 3 12 := ⟨by decide +kernel, rfl⟩
theorem d_2_canFollow_12 : zD prog_4_method_7_code 12 (.iload_n 2) 1 13 := ⟨by decide +kernel, rfl⟩
theorem d_2_canFollow_13 : zD prog_4_method_7_code 13 (.iaload) 1 14 := ⟨by decide +kernel, rfl⟩
theorem d_2_canFollow_14 : zD prog_4_method_7_code 14 (.iload_n 1) 1 15 := ⟨by decide +kernel, rfl⟩
theorem d_2_canFollow_15 : zD prog_4_method_7_code 15 (.iconst (-1)) 1 16 := ⟨by decide +kernel, rfl⟩
theorem d_2_canFollow_16 : zD prog_4_method_7_code 16 (.ixor) 1 17 := ⟨by decide +kernel, rfl⟩
theorem d_2_canFollow_17 : zD prog_4_method_7_code 17 (.iand) 1 18 := ⟨by decide +kernel, rfl⟩
theorem d_2_canFollow_18 : zD prog_4_method_7_code 18 (.ifCond .ne 7) 3 21 := ⟨by decide +kernel, rfl⟩
theorem d_2_canFollow_21 : zD prog_4_method_7_code 21 (.iconst 1) 1 22 := ⟨by decide +kernel, rfl⟩
theorem d_2_canFollow_22 : zD prog_4_method_7_code 22 (.goto 4) 3 25 := ⟨by decide +kernel, rfl⟩
theorem d_2_canFollow_25 : zD prog_4_method_7_code 25 (.iconst 0) 1 26 := ⟨by decide +kernel, rfl⟩
theorem d_2_canFollow_26 : zD prog_4_method_7_code 26 (.ireturn) 1 27 := ⟨by decide +kernel, rfl⟩
theorem d_2_headsOf_0 : zD prog_4_method_5_code 0 (.iconst 0) 1 1 := ⟨by decide +kernel, rfl⟩
theorem d_2_headsOf_1 : zD prog_4_method_5_code 1 (.istore_n 2) 1 2 := ⟨by decide +kernel, rfl⟩
theorem d_2_headsOf_2 : zD prog_4_method_5_code 2 (.iconst 0) 1 3 := ⟨by decide +kernel, rfl⟩
theorem d_2_headsOf_3 : zD prog_4_method_5_code 3 (.istore_n 3) 1 4 := ⟨by decide +kernel, rfl⟩
theorem d_2_headsOf_4 : zD prog_4_method_5_code 4 (.iload_n 3) 1 5 := ⟨by decide +kernel, rfl⟩
theorem d_2_headsOf_5 : zD prog_4_method_5_code 5 (.aload_n 0) 1 6 := ⟨by decide +kernel, rfl⟩
theorem d_2_headsOf_6 : zD prog_4_method_5_code 6 (.getfield 22) 3 9 := ⟨by decide +kernel, rfl⟩
theorem d_2_headsOf_9 : zD prog_4_method_5_code 9 (.if_icmp .ge 46) 3 12 := ⟨by decide +kernel, rfl⟩
theorem d_2_headsOf_12 : zD prog_4_method_5_code 12 (.iload_n 1) 1 13 := ⟨by decide +kernel, rfl⟩
theorem d_2_headsOf_13 : zD prog_4_method_5_code 13 (.iconst 1) 1 14 := ⟨by decide +kernel, rfl⟩
theorem d_2_headsOf_14 : zD prog_4_method_5_code 14 (.iload_n 3) 1 15 := ⟨by decide +kernel, rfl⟩
theorem d_2_headsOf_15 : zD prog_4_method_5_code 15 (.ishl) 1 16 := ⟨by decide +kernel, rfl⟩
theorem d_2_headsOf_16 : zD prog_4_method_5_code 16 (.iconst (-1)) 1 17 := ⟨by decide +kernel, rfl⟩
theorem d_2_headsOf_17 : zD prog_4_method_5_code 17 (.ixor) 1 18 := ⟨by decide +kernel, rfl⟩
theorem d_2_headsOf_18 : zD prog_4_method_5_code 18 (.iand) 1 19 := ⟨by decide +kernel, rfl⟩
theorem d_2_headsOf_19 : zD prog_4_method_5_code 19 (.istore 4) 2 21 := ⟨by decide +kernel, rfl⟩
theorem d_2_headsOf_21 : zD prog_4_method_5_code 21 (.iload_n 1) 1 22 := ⟨by decide +kernel, rfl⟩
theorem d_2_headsOf_22 : zD prog_4_method_5_code 22 (.iload_n 3) 1 23 := ⟨by decide +kernel, rfl⟩
theorem d_2_headsOf_23 : zD prog_4_method_5_code 23 (.invokestatic 44) 3 26 := ⟨by decide +kernel, rfl⟩
theorem d_2_headsOf_26 : zD prog_4_method_5_code 26 (.ifCond .eq 23) 3 29 := ⟨by decide +kernel, rfl⟩
theorem d_2_headsOf_29 : zD prog_4_method_5_code 29 (.aload_n 0) 1 30 := ⟨by decide +kernel, rfl⟩
theorem d_2_headsOf_30 : zD prog_4_method_5_code 30 (.iload 4) 2 32 := ⟨by decide +kernel, rfl⟩
theorem d_2_headsOf_32 : zD prog_4_method_5_code 32 (.iload_n 3) 1 33 := ⟨by decide +kernel, rfl⟩
theorem d_2_headsOf_33 : zD prog_4_method_5_code 33 (.invokevirtual 48) 3 36 := ⟨by decide +kernel, rfl⟩
theorem d_2_headsOf_36 : zD prog_4_method_5_code 36 (.ifCond .eq 13) 3 39 := ⟨by decide +kernel, rfl⟩
theorem d_2_headsOf_39 : zD prog_4_method_5_code 39 (.iload_n 2) 1 40 := ⟨by decide +kernel, rfl⟩
theorem d_2_headsOf_40 : zD prog_4_method_5_code 40 (.aload_n 0) 1 41 := ⟨by decide +kernel, rfl⟩
theorem d_2_headsOf_41 : zD prog_4_method_5_code 41 (.getfield 28) 3 44 := ⟨by decide +kernel, rfl⟩
theorem d_2_headsOf_44 : zD prog_4_method_5_code 44 (.iload 4) 2 46 := ⟨by decide +kernel, rfl⟩
theorem d_2_headsOf_46 : zD prog_4_method_5_code 46 (.iaload) 1 47 := ⟨by decide +kernel, rfl⟩
theorem d_2_headsOf_47 : zD prog_4_method_5_code 47 (.iadd) 1 48 := ⟨by decide +kernel, rfl⟩
theorem d_2_headsOf_48 : zD prog_4_method_5_code 48 (.istore_n 2) 1 49 := ⟨by decide +kernel, rfl⟩
theorem d_2_headsOf_49 : zD prog_4_method_5_code 49 (.iinc 3 1) 3 52 := ⟨by decide +kernel, rfl⟩
theorem d_2_headsOf_52 : zD prog_4_method_5_code 52 (.goto (-48)) 3 55 := ⟨by decide +kernel, rfl⟩
theorem d_2_headsOf_55 : zD prog_4_method_5_code 55 (.iload_n 2) 1 56 := ⟨by decide +kernel, rfl⟩
theorem d_2_headsOf_56 : zD prog_4_method_5_code 56 (.ireturn) 1 57 := ⟨by decide +kernel, rfl⟩
theorem d_2_tailsOf_0 : zD prog_4_method_6_code 0 (.iconst 0) 1 1 := ⟨by decide +kernel, rfl⟩
theorem d_2_tailsOf_1 : zD prog_4_method_6_code 1 (.istore_n 2) 1 2 := ⟨by decide +kernel, rfl⟩
theorem d_2_tailsOf_2 : zD prog_4_method_6_code 2 (.iconst 0) 1 3 := ⟨by decide +kernel, rfl⟩
theorem d_2_tailsOf_3 : zD prog_4_method_6_code 3 (.istore_n 3) 1 4 := ⟨by decide +kernel, rfl⟩
theorem d_2_tailsOf_4 : zD prog_4_method_6_code 4 (.iload_n 3) 1 5 := ⟨by decide +kernel, rfl⟩
theorem d_2_tailsOf_5 : zD prog_4_method_6_code 5 (.aload_n 0) 1 6 := ⟨by decide +kernel, rfl⟩
theorem d_2_tailsOf_6 : zD prog_4_method_6_code 6 (.getfield 22) 3 9 := ⟨by decide +kernel, rfl⟩
theorem d_2_tailsOf_9 : zD prog_4_method_6_code 9 (.if_icmp .ge 31) 3 12 := ⟨by decide +kernel, rfl⟩
theorem d_2_tailsOf_12 : zD prog_4_method_6_code 12 (.aload_n 0) 1 13 := ⟨by decide +kernel, rfl⟩
theorem d_2_tailsOf_13 : zD prog_4_method_6_code 13 (.iload_n 1) 1 14 := ⟨by decide +kernel, rfl⟩
theorem d_2_tailsOf_14 : zD prog_4_method_6_code 14 (.iload_n 3) 1 15 := ⟨by decide +kernel, rfl⟩
theorem d_2_tailsOf_15 : zD prog_4_method_6_code 15 (.invokevirtual 48) 3 18 := ⟨by decide +kernel, rfl⟩
theorem d_2_tailsOf_18 : zD prog_4_method_6_code 18 (.ifCond .eq 16) 3 21 := ⟨by decide +kernel, rfl⟩
theorem d_2_tailsOf_21 : zD prog_4_method_6_code 21 (.iload_n 2) 1 22 := ⟨by decide +kernel, rfl⟩
theorem d_2_tailsOf_22 : zD prog_4_method_6_code 22 (.aload_n 0) 1 23 := ⟨by decide +kernel, rfl⟩
theorem d_2_tailsOf_23 : zD prog_4_method_6_code 23 (.getfield 31) 3 26 := ⟨by decide +kernel, rfl⟩
theorem d_2_tailsOf_26 : zD prog_4_method_6_code 26 (.iload_n 1) 1 27 := ⟨by decide +kernel, rfl⟩
theorem d_2_tailsOf_27 : zD prog_4_method_6_code 27 (.iconst 1) 1 28 := ⟨by decide +kernel, rfl⟩
theorem d_2_tailsOf_28 : zD prog_4_method_6_code 28 (.iload_n 3) 1 29 := ⟨by decide +kernel, rfl⟩
theorem d_2_tailsOf_29 : zD prog_4_method_6_code 29 (.ishl) 1 30 := ⟨by decide +kernel, rfl⟩
theorem d_2_tailsOf_30 : zD prog_4_method_6_code 30 (.ior) 1 31 := ⟨by decide +kernel, rfl⟩
theorem d_2_tailsOf_31 : zD prog_4_method_6_code 31 (.iaload) 1 32 := ⟨by decide +kernel, rfl⟩
theorem d_2_tailsOf_32 : zD prog_4_method_6_code 32 (.iadd) 1 33 := ⟨by decide +kernel, rfl⟩
theorem d_2_tailsOf_33 : zD prog_4_method_6_code 33 (.istore_n 2) 1 34 := ⟨by decide +kernel, rfl⟩
theorem d_2_tailsOf_34 : zD prog_4_method_6_code 34 (.iinc 3 1) 3 37 := ⟨by decide +kernel, rfl⟩
theorem d_2_tailsOf_37 : zD prog_4_method_6_code 37 (.goto (-33)) 3 40 := ⟨by decide +kernel, rfl⟩
theorem d_2_tailsOf_40 : zD prog_4_method_6_code 40 (.iload_n 2) 1 41 := ⟨by decide +kernel, rfl⟩
theorem d_2_tailsOf_41 : zD prog_4_method_6_code 41 (.ireturn) 1 42 := ⟨by decide +kernel, rfl⟩
theorem d_2_weigh_0 : zD prog_4_method_4_code 0 (.aload_n 0) 1 1 := ⟨by decide +kernel, rfl⟩
theorem d_2_weigh_1 : zD prog_4_method_4_code 1 (.iload_n 1) 1 2 := ⟨by decide +kernel, rfl⟩
theorem d_2_weigh_2 : zD prog_4_method_4_code 2 (.putfield 22) 3 5 := ⟨by decide +kernel, rfl⟩
theorem d_2_weigh_5 : zD prog_4_method_4_code 5 (.iconst 0) 1 6 := ⟨by decide +kernel, rfl⟩
theorem d_2_weigh_6 : zD prog_4_method_4_code 6 (.istore_n 3) 1 7 := ⟨by decide +kernel, rfl⟩
theorem d_2_weigh_7 : zD prog_4_method_4_code 7 (.iload_n 3) 1 8 := ⟨by decide +kernel, rfl⟩
theorem d_2_weigh_8 : zD prog_4_method_4_code 8 (.bipush 7) 2 10 := ⟨by decide +kernel, rfl⟩
theorem d_2_weigh_10 : zD prog_4_method_4_code 10 (.if_icmp .ge 16) 3 13 := ⟨by decide +kernel, rfl⟩
theorem d_2_weigh_13 : zD prog_4_method_4_code 13 (.aload_n 0) 1 14 := ⟨by decide +kernel, rfl⟩
theorem d_2_weigh_14 : zD prog_4_method_4_code 14 (.getfield 25) 3 17 := ⟨by decide +kernel, rfl⟩
theorem d_2_weigh_17 : zD prog_4_method_4_code 17 (.iload_n 3) 1 18 := ⟨by decide +kernel, rfl⟩
theorem d_2_weigh_18 : zD prog_4_method_4_code 18 (.iconst 0) 1 19 := ⟨by decide +kernel, rfl⟩
theorem d_2_weigh_19 : zD prog_4_method_4_code 19 (.iastore) 1 20 := ⟨by decide +kernel, rfl⟩
theorem d_2_weigh_20 : zD prog_4_method_4_code 20 (.iinc 3 1) 3 23 := ⟨by decide +kernel, rfl⟩
theorem d_2_weigh_23 : zD prog_4_method_4_code 23 (.goto (-16)) 3 26 := ⟨by decide +kernel, rfl⟩
theorem d_2_weigh_26 : zD prog_4_method_4_code 26 (.iconst 0) 1 27 := ⟨by decide +kernel, rfl⟩
theorem d_2_weigh_27 : zD prog_4_method_4_code 27 (.istore_n 3) 1 28 := ⟨by decide +kernel, rfl⟩
theorem d_2_weigh_28 : zD prog_4_method_4_code 28 (.iload_n 3) 1 29 := ⟨by decide +kernel, rfl⟩
theorem d_2_weigh_29 : zD prog_4_method_4_code 29 (.iload_n 2) 1 30 := ⟨by decide +kernel, rfl⟩
theorem d_2_weigh_30 : zD prog_4_method_4_code 30 (.if_icmp .ge 39) 3 33 := ⟨by decide +kernel, rfl⟩
theorem d_2_weigh_33 : zD prog_4_method_4_code 33 (.iload_n 3) 1 34 := ⟨by decide +kernel, rfl⟩
theorem d_2_weigh_34 : zD prog_4_method_4_code 34 (.aload_n 0) 1 35 := ⟨by decide +kernel, rfl⟩
theorem d_2_weigh_35 : zD prog_4_method_4_code 35 (.getfield 18) 3 38 := ⟨by decide +kernel, rfl⟩
theorem d_2_weigh_38 : zD prog_4_method_4_code 38 (.if_icmp .ge 31) 3 41 := ⟨by decide +kernel, rfl⟩
theorem d_2_weigh_41 : zD prog_4_method_4_code 41 (.aload_n 0) 1 42 := ⟨by decide +kernel, rfl⟩
theorem d_2_weigh_42 : zD prog_4_method_4_code 42 (.getfield 25) 3 45 := ⟨by decide +kernel, rfl⟩
theorem d_2_weigh_45 : zD prog_4_method_4_code 45 (.aload_n 0) 1 46 := ⟨by decide +kernel, rfl⟩
theorem d_2_weigh_46 : zD prog_4_method_4_code 46 (.getfield 15) 3 49 := ⟨by decide +kernel, rfl⟩
theorem d_2_weigh_49 : zD prog_4_method_4_code 49 (.iload_n 3) 1 50 := ⟨by decide +kernel, rfl⟩
theorem d_2_weigh_50 : zD prog_4_method_4_code 50 (.iaload) 1 51 := ⟨by decide +kernel, rfl⟩
theorem d_2_weigh_51 : zD prog_4_method_4_code 51 (.dup2) 1 52 := ⟨by decide +kernel, rfl⟩
theorem d_2_weigh_52 : zD prog_4_method_4_code 52 (.iaload) 1 53 := ⟨by decide +kernel, rfl⟩
theorem d_2_weigh_53 : zD prog_4_method_4_code 53 (.iconst 1) 1 54 := ⟨by decide +kernel, rfl⟩
theorem d_2_weigh_54 : zD prog_4_method_4_code 54 (.aload_n 0) 1 55 := ⟨by decide +kernel, rfl⟩
theorem d_2_weigh_55 : zD prog_4_method_4_code 55 (.getfield 11) 3 58 := ⟨by decide +kernel, rfl⟩
theorem d_2_weigh_58 : zD prog_4_method_4_code 58 (.iload_n 3) 1 59 := ⟨by decide +kernel, rfl⟩
theorem d_2_weigh_59 : zD prog_4_method_4_code 59 (.iaload) 1 60 := ⟨by decide +kernel, rfl⟩
theorem d_2_weigh_60 : zD prog_4_method_4_code 60 (.ishl) 1 61 := ⟨by decide +kernel, rfl⟩
theorem d_2_weigh_61 : zD prog_4_method_4_code 61 (.ior) 1 62 := ⟨by decide +kernel, rfl⟩
theorem d_2_weigh_62 : zD prog_4_method_4_code 62 (.iastore) 1 63 := ⟨by decide +kernel, rfl⟩
theorem d_2_weigh_63 : zD prog_4_method_4_code 63 (.iinc 3 1) 3 66 := ⟨by decide +kernel, rfl⟩
theorem d_2_weigh_66 : zD prog_4_method_4_code 66 (.goto (-38)) 3 69 := ⟨by decide +kernel, rfl⟩
theorem d_2_weigh_69 : zD prog_4_method_4_code 69 (.iconst 0) 1 70 := ⟨by decide +kernel, rfl⟩
theorem d_2_weigh_70 : zD prog_4_method_4_code 70 (.istore_n 3) 1 71 := ⟨by decide +kernel, rfl⟩
theorem d_2_weigh_71 : zD prog_4_method_4_code 71 (.iload_n 3) 1 72 := ⟨by decide +kernel, rfl⟩
theorem d_2_weigh_72 : zD prog_4_method_4_code 72 (.aload_n 0) 1 73 := ⟨by decide +kernel, rfl⟩
theorem d_2_weigh_73 : zD prog_4_method_4_code 73 (.getfield 22) 3 76 := ⟨by decide +kernel, rfl⟩
theorem d_2_weigh_76 : zD prog_4_method_4_code 76 (.invokestatic 34) 3 79 := ⟨by decide +kernel, rfl⟩
theorem d_2_weigh_79 : zD prog_4_method_4_code 79 (.if_icmp .gt 28) 3 82 := ⟨by decide +kernel, rfl⟩
theorem d_2_weigh_82 : zD prog_4_method_4_code 82 (.aload_n 0) 1 83 := ⟨by decide +kernel, rfl⟩
theorem d_2_weigh_83 : zD prog_4_method_4_code 83 (.getfield 28) 3 86 := ⟨by decide +kernel, rfl⟩
theorem d_2_weigh_86 : zD prog_4_method_4_code 86 (.iload_n 3) 1 87 := ⟨by decide +kernel, rfl⟩
theorem d_2_weigh_87 : zD prog_4_method_4_code 87 (.iload_n 3) 1 88 := ⟨by decide +kernel, rfl⟩
theorem d_2_weigh_88 : zD prog_4_method_4_code 88 (.ifCond .ne 7) 3 91 := ⟨by decide +kernel, rfl⟩
theorem d_2_weigh_91 : zD prog_4_method_4_code 91 (.iconst 1) 1 92 := ⟨by decide +kernel, rfl⟩
theorem d_2_weigh_92 : zD prog_4_method_4_code 92 (.goto 8) 3 95 := ⟨by decide +kernel, rfl⟩
theorem d_2_weigh_95 : zD prog_4_method_4_code 95 (.aload_n 0) 1 96 := ⟨by decide +kernel, rfl⟩
theorem d_2_weigh_96 : zD prog_4_method_4_code 96 (.iload_n 3) 1 97 := ⟨by decide +kernel, rfl⟩
theorem d_2_weigh_97 : zD prog_4_method_4_code 97 (.invokevirtual 38) 3 100 := ⟨by decide +kernel, rfl⟩
theorem d_2_weigh_100 : zD prog_4_method_4_code 100 (.iastore) 1 101 := ⟨by decide +kernel, rfl⟩
theorem d_2_weigh_101 : zD prog_4_method_4_code 101 (.iinc 3 1) 3 104 := ⟨by decide +kernel, rfl⟩
theorem d_2_weigh_104 : zD prog_4_method_4_code 104 (.goto (-33)) 3 107 := ⟨by decide +kernel, rfl⟩
theorem d_2_weigh_107 : zD prog_4_method_4_code 107 (.aload_n 0) 1 108 := ⟨by decide +kernel, rfl⟩
theorem d_2_weigh_108 : zD prog_4_method_4_code 108 (.getfield 22) 3 111 := ⟨by decide +kernel, rfl⟩
theorem d_2_weigh_111 : zD prog_4_method_4_code 111 (.invokestatic 34) 3 114 := ⟨by decide +kernel, rfl⟩
theorem d_2_weigh_114 : zD prog_4_method_4_code 114 (.istore_n 3) 1 115 := ⟨by decide +kernel, rfl⟩
theorem d_2_weigh_115 : zD prog_4_method_4_code 115 (.iload_n 3) 1 116 := ⟨by decide +kernel, rfl⟩
theorem d_2_weigh_116 : zD prog_4_method_4_code 116 (.ifCond .lt 35) 3 119 := ⟨by decide +kernel, rfl⟩
theorem d_2_weigh_119 : zD prog_4_method_4_code 119 (.aload_n 0) 1 120 := ⟨by decide +kernel, rfl⟩
theorem d_2_weigh_120 : zD prog_4_method_4_code 120 (.getfield 31) 3 123 := ⟨by decide +kernel, rfl⟩
theorem d_2_weigh_123 : zD prog_4_method_4_code 123 (.iload_n 3) 1 124 := ⟨by decide +kernel, rfl⟩
theorem d_2_weigh_124 : zD prog_4_method_4_code 124 (.iload_n 3) 1 125 := ⟨by decide +kernel, rfl⟩
theorem d_2_weigh_125 : zD prog_4_method_4_code 125 (.aload_n 0) 1 126 := ⟨by decide +kernel, rfl⟩
theorem d_2_weigh_126 : zD prog_4_method_4_code 126 (.getfield 22) 3 129 := ⟨by decide +kernel, rfl⟩
theorem d_2_weigh_129 : zD prog_4_method_4_code 129 (.invokestatic 34) 3 132 := ⟨by decide +kernel, rfl⟩
theorem d_2_weigh_132 : zD prog_4_method_4_code 132 (.if_icmp .ne 7) 3 135 := ⟨by decide +kernel, rfl⟩
theorem d_2_weigh_135 : zD prog_4_method_4_code 135 (.iconst 1) 1 136 := ⟨by decide +kernel, rfl⟩
theorem d_2_weigh_136 : zD prog_4_method_4_code 136 (.goto 8) 3 139 := ⟨by decide +kernel, rfl⟩
theorem d_2_weigh_139 : zD prog_4_method_4_code 139 (.aload_n 0) 1 140 := ⟨by decide +kernel, rfl⟩
theorem d_2_weigh_140 : zD prog_4_method_4_code 140 (.iload_n 3) 1 141 := ⟨by decide +kernel, rfl⟩
theorem d_2_weigh_141 : zD prog_4_method_4_code 141 (.invokevirtual 41) 3 144 := ⟨by decide +kernel, rfl⟩
theorem d_2_weigh_144 : zD prog_4_method_4_code 144 (.iastore) 1 145 := ⟨by decide +kernel, rfl⟩
theorem d_2_weigh_145 : zD prog_4_method_4_code 145 (.iinc 3 (-1)) 3 148 := ⟨by decide +kernel, rfl⟩
theorem d_2_weigh_148 : zD prog_4_method_4_code 148 (.goto (-33)) 3 151 := ⟨by decide +kernel, rfl⟩
theorem d_2_weigh_151 : zD prog_4_method_4_code 151 (.return_) 1 152 := ⟨by decide +kernel, rfl⟩
theorem d_2_all_0 : zD prog_4_method_8_code 0 (.aload_n 0) 1 1 := ⟨by decide +kernel, rfl⟩
theorem d_2_all_1 : zD prog_4_method_8_code 1 (.getfield 31) 3 4 := ⟨by decide +kernel, rfl⟩
theorem d_2_all_4 : zD prog_4_method_8_code 4 (.iconst 0) 1 5 := ⟨by decide +kernel, rfl⟩
theorem d_2_all_5 : zD prog_4_method_8_code 5 (.iaload) 1 6 := ⟨by decide +kernel, rfl⟩
theorem d_2_all_6 : zD prog_4_method_8_code 6 (.ireturn) 1 7 := ⟨by decide +kernel, rfl⟩
theorem d_2_timesBehind_0 : zD prog_4_method_9_code 0 (.aload_n 0) 1 1 := ⟨by decide +kernel, rfl⟩
theorem d_2_timesBehind_1 : zD prog_4_method_9_code 1 (.iload_n 1) 1 2 := ⟨by decide +kernel, rfl⟩
theorem d_2_timesBehind_2 : zD prog_4_method_9_code 2 (.iload_n 2) 1 3 := ⟨by decide +kernel, rfl⟩
theorem d_2_timesBehind_3 : zD prog_4_method_9_code 3 (.invokevirtual 48) 3 6 := ⟨by decide +kernel, rfl⟩
theorem d_2_timesBehind_6 : zD prog_4_method_9_code 6 (.ifCond .eq 23) 3 9 := ⟨by decide +kernel, rfl⟩
theorem d_2_timesBehind_9 : zD prog_4_method_9_code 9 (.aload_n 0) 1 10 := ⟨by decide +kernel, rfl⟩
theorem d_2_timesBehind_10 : zD prog_4_method_9_code 10 (.getfield 28) 3 13 := ⟨by decide +kernel, rfl⟩
theorem d_2_timesBehind_13 : zD prog_4_method_9_code 13 (.iload_n 1) 1 14 := ⟨by decide +kernel, rfl⟩
theorem d_2_timesBehind_14 : zD prog_4_method_9_code 14 (.iaload) 1 15 := ⟨by decide +kernel, rfl⟩
theorem d_2_timesBehind_15 : zD prog_4_method_9_code 15 (.aload_n 0) 1 16 := ⟨by decide +kernel, rfl⟩
theorem d_2_timesBehind_16 : zD prog_4_method_9_code 16 (.getfield 31) 3 19 := ⟨by decide +kernel, rfl⟩
theorem d_2_timesBehind_19 : zD prog_4_method_9_code 19 (.iload_n 1) 1 20 := ⟨by decide +kernel, rfl⟩
theorem d_2_timesBehind_20 : zD prog_4_method_9_code 20 (.iconst 1) 1 21 := ⟨by decide +kernel, rfl⟩
theorem d_2_timesBehind_21 : zD prog_4_method_9_code 21 (.iload_n 2) 1 22 := ⟨by decide +kernel, rfl⟩
theorem d_2_timesBehind_22 : zD prog_4_method_9_code 22 (.ishl) 1 23 := ⟨by decide +kernel, rfl⟩
theorem d_2_timesBehind_23 : zD prog_4_method_9_code 23 (.ior) 1 24 := ⟨by decide +kernel, rfl⟩
theorem d_2_timesBehind_24 : zD prog_4_method_9_code 24 (.iaload) 1 25 := ⟨by decide +kernel, rfl⟩
theorem d_2_timesBehind_25 : zD prog_4_method_9_code 25 (.imul) 1 26 := ⟨by decide +kernel, rfl⟩
theorem d_2_timesBehind_26 : zD prog_4_method_9_code 26 (.goto 4) 3 29 := ⟨by decide +kernel, rfl⟩
theorem d_2_timesBehind_29 : zD prog_4_method_9_code 29 (.iconst 0) 1 30 := ⟨by decide +kernel, rfl⟩
theorem d_2_timesBehind_30 : zD prog_4_method_9_code 30 (.ireturn) 1 31 := ⟨by decide +kernel, rfl⟩
theorem d_2_timesAt_0 : zD prog_4_method_10_code 0 (.iconst 0) 1 1 := ⟨by decide +kernel, rfl⟩
theorem d_2_timesAt_1 : zD prog_4_method_10_code 1 (.istore_n 3) 1 2 := ⟨by decide +kernel, rfl⟩
theorem d_2_timesAt_2 : zD prog_4_method_10_code 2 (.iconst 0) 1 3 := ⟨by decide +kernel, rfl⟩
theorem d_2_timesAt_3 : zD prog_4_method_10_code 3 (.istore 4) 2 5 := ⟨by decide +kernel, rfl⟩
theorem d_2_timesAt_5 : zD prog_4_method_10_code 5 (.iload 4) 2 7 := ⟨by decide +kernel, rfl⟩
theorem d_2_timesAt_7 : zD prog_4_method_10_code 7 (.aload_n 0) 1 8 := ⟨by decide +kernel, rfl⟩
theorem d_2_timesAt_8 : zD prog_4_method_10_code 8 (.getfield 22) 3 11 := ⟨by decide +kernel, rfl⟩
theorem d_2_timesAt_11 : zD prog_4_method_10_code 11 (.invokestatic 34) 3 14 := ⟨by decide +kernel, rfl⟩
theorem d_2_timesAt_14 : zD prog_4_method_10_code 14 (.if_icmp .gt 28) 3 17 := ⟨by decide +kernel, rfl⟩
theorem d_2_timesAt_17 : zD prog_4_method_10_code 17 (.iload 4) 2 19 := ⟨by decide +kernel, rfl⟩
theorem d_2_timesAt_19 : zD prog_4_method_10_code 19 (.invokestatic 51) 3 22 := ⟨by decide +kernel, rfl⟩
theorem d_2_timesAt_22 : zD prog_4_method_10_code 22 (.iload_n 2) 1 23 := ⟨by decide +kernel, rfl⟩
theorem d_2_timesAt_23 : zD prog_4_method_10_code 23 (.if_icmp .ne 13) 3 26 := ⟨by decide +kernel, rfl⟩
theorem d_2_timesAt_26 : zD prog_4_method_10_code 26 (.iload_n 3) 1 27 := ⟨by decide +kernel, rfl⟩
theorem d_2_timesAt_27 : zD prog_4_method_10_code 27 (.aload_n 0) 1 28 := ⟨by decide +kernel, rfl⟩
theorem d_2_timesAt_28 : zD prog_4_method_10_code 28 (.iload 4) 2 30 := ⟨by decide +kernel, rfl⟩
theorem d_2_timesAt_30 : zD prog_4_method_10_code 30 (.iload_n 1) 1 31 := ⟨by decide +kernel, rfl⟩
theorem d_2_timesAt_31 : zD prog_4_method_10_code 31 (.invokevirtual 56) 3 34 := ⟨by decide +kernel, rfl⟩
theorem d_2_timesAt_34 : zD prog_4_method_10_code 34 (.iadd) 1 35 := ⟨by decide +kernel, rfl⟩
theorem d_2_timesAt_35 : zD prog_4_method_10_code 35 (.istore_n 3) 1 36 := ⟨by decide +kernel, rfl⟩
theorem d_2_timesAt_36 : zD prog_4_method_10_code 36 (.iinc 4 1) 3 39 := ⟨by decide +kernel, rfl⟩
theorem d_2_timesAt_39 : zD prog_4_method_10_code 39 (.goto (-34)) 3 42 := ⟨by decide +kernel, rfl⟩
theorem d_2_timesAt_42 : zD prog_4_method_10_code 42 (.iload_n 3) 1 43 := ⟨by decide +kernel, rfl⟩
theorem d_2_timesAt_43 : zD prog_4_method_10_code 43 (.ireturn) 1 44 := ⟨by decide +kernel, rfl⟩
theorem d_2_timesAhead_0 : zD prog_4_method_11_code 0 (.iconst 0) 1 1 := ⟨by decide +kernel, rfl⟩
theorem d_2_timesAhead_1 : zD prog_4_method_11_code 1 (.istore_n 3) 1 2 := ⟨by decide +kernel, rfl⟩
theorem d_2_timesAhead_2 : zD prog_4_method_11_code 2 (.iconst 0) 1 3 := ⟨by decide +kernel, rfl⟩
theorem d_2_timesAhead_3 : zD prog_4_method_11_code 3 (.istore 4) 2 5 := ⟨by decide +kernel, rfl⟩
theorem d_2_timesAhead_5 : zD prog_4_method_11_code 5 (.iload 4) 2 7 := ⟨by decide +kernel, rfl⟩
theorem d_2_timesAhead_7 : zD prog_4_method_11_code 7 (.aload_n 0) 1 8 := ⟨by decide +kernel, rfl⟩
theorem d_2_timesAhead_8 : zD prog_4_method_11_code 8 (.getfield 22) 3 11 := ⟨by decide +kernel, rfl⟩
theorem d_2_timesAhead_11 : zD prog_4_method_11_code 11 (.invokestatic 34) 3 14 := ⟨by decide +kernel, rfl⟩
theorem d_2_timesAhead_14 : zD prog_4_method_11_code 14 (.if_icmp .gt 28) 3 17 := ⟨by decide +kernel, rfl⟩
theorem d_2_timesAhead_17 : zD prog_4_method_11_code 17 (.iload 4) 2 19 := ⟨by decide +kernel, rfl⟩
theorem d_2_timesAhead_19 : zD prog_4_method_11_code 19 (.iload_n 1) 1 20 := ⟨by decide +kernel, rfl⟩
theorem d_2_timesAhead_20 : zD prog_4_method_11_code 20 (.invokestatic 44) 3 23 := ⟨by decide +kernel, rfl⟩
theorem d_2_timesAhead_23 : zD prog_4_method_11_code 23 (.ifCond .eq 13) 3 26 := ⟨by decide +kernel, rfl⟩
theorem d_2_timesAhead_26 : zD prog_4_method_11_code 26 (.iload_n 3) 1 27 := ⟨by decide +kernel, rfl⟩
theorem d_2_timesAhead_27 : zD prog_4_method_11_code 27 (.aload_n 0) 1 28 := ⟨by decide +kernel, rfl⟩
theorem d_2_timesAhead_28 : zD prog_4_method_11_code 28 (.iload 4) 2 30 := ⟨by decide +kernel, rfl⟩
theorem d_2_timesAhead_30 : zD prog_4_method_11_code 30 (.iload_n 2) 1 31 := ⟨by decide +kernel, rfl⟩
theorem d_2_timesAhead_31 : zD prog_4_method_11_code 31 (.invokevirtual 56) 3 34 := ⟨by decide +kernel, rfl⟩
theorem d_2_timesAhead_34 : zD prog_4_method_11_code 34 (.iadd) 1 35 := ⟨by decide +kernel, rfl⟩
theorem d_2_timesAhead_35 : zD prog_4_method_11_code 35 (.istore_n 3) 1 36 := ⟨by decide +kernel, rfl⟩
theorem d_2_timesAhead_36 : zD prog_4_method_11_code 36 (.iinc 4 1) 3 39 := ⟨by decide +kernel, rfl⟩
theorem d_2_timesAhead_39 : zD prog_4_method_11_code 39 (.goto (-34)) 3 42 := ⟨by decide +kernel, rfl⟩
theorem d_2_timesAhead_42 : zD prog_4_method_11_code 42 (.iload_n 3) 1 43 := ⟨by decide +kernel, rfl⟩
theorem d_2_timesAhead_43 : zD prog_4_method_11_code 43 (.ireturn) 1 44 := ⟨by decide +kernel, rfl⟩
theorem d_2_whoIsAt_0 : zD prog_4_method_12_code 0 (.iconst 0) 1 1 := ⟨by decide +kernel, rfl⟩
theorem d_2_whoIsAt_1 : zD prog_4_method_12_code 1 (.istore_n 3) 1 2 := ⟨by decide +kernel, rfl⟩
theorem d_2_whoIsAt_2 : zD prog_4_method_12_code 2 (.iload_n 1) 1 3 := ⟨by decide +kernel, rfl⟩
theorem d_2_whoIsAt_3 : zD prog_4_method_12_code 3 (.istore 4) 2 5 := ⟨by decide +kernel, rfl⟩
theorem d_2_whoIsAt_5 : zD prog_4_method_12_code 5 (.iconst (-1)) 1 6 := ⟨by decide +kernel, rfl⟩
theorem d_2_whoIsAt_6 : zD prog_4_method_12_code 6 (.istore 5) 2 8 := ⟨by decide +kernel, rfl⟩
theorem d_2_whoIsAt_8 : zD prog_4_method_12_code 8 (.iconst 0) 1 9 := ⟨by decide +kernel, rfl⟩
theorem d_2_whoIsAt_9 : zD prog_4_method_12_code 9 (.istore 6) 2 11 := ⟨by decide +kernel, rfl⟩
theorem d_2_whoIsAt_11 : zD prog_4_method_12_code 11 (.iload 6) 2 13 := ⟨by decide +kernel, rfl⟩
theorem d_2_whoIsAt_13 : zD prog_4_method_12_code 13 (.iload_n 2) 1 14 := ⟨by decide +kernel, rfl⟩
theorem d_2_whoIsAt_14 : zD prog_4_method_12_code 14 (.if_icmp .gt 108) 3 17 := ⟨by decide +kernel, rfl⟩
theorem d_2_whoIsAt_17 : zD prog_4_method_12_code 17 (.iload 6) 2 19 := ⟨by decide +kernel, rfl⟩
theorem d_2_whoIsAt_19 : zD prog_4_method_12_code 19 (.aload_n 0) 1 20 := ⟨by decide +kernel, rfl⟩
theorem d_2_whoIsAt_20 : zD prog_4_method_12_code 20 (.getfield 22) 3 23 := ⟨by decide +kernel, rfl⟩
theorem d_2_whoIsAt_23 : zD prog_4_method_12_code 23 (.if_icmp .ge 99) 3 26 := ⟨by decide +kernel, rfl⟩
theorem d_2_whoIsAt_26 : zD prog_4_method_12_code 26 (.iconst (-1)) 1 27 := ⟨by decide +kernel, rfl⟩
theorem d_2_whoIsAt_27 : zD prog_4_method_12_code 27 (.istore 5) 2 29 := ⟨by decide +kernel, rfl⟩
theorem d_2_whoIsAt_29 : zD prog_4_method_12_code 29 (.iconst 0) 1 30 := ⟨by decide +kernel, rfl⟩
theorem d_2_whoIsAt_30 : zD prog_4_method_12_code 30 (.istore 7) 2 32 := ⟨by decide +kernel, rfl⟩
theorem d_2_whoIsAt_32 : zD prog_4_method_12_code 32 (.iload 7) 2 34 := ⟨by decide +kernel, rfl⟩
theorem d_2_whoIsAt_34 : zD prog_4_method_12_code 34 (.aload_n 0) 1 35 := ⟨by decide +kernel, rfl⟩
theorem d_2_whoIsAt_35 : zD prog_4_method_12_code 35 (.getfield 22) 3 38 := ⟨by decide +kernel, rfl⟩
theorem d_2_whoIsAt_38 : zD prog_4_method_12_code 38 (.if_icmp .ge 63) 3 41 := ⟨by decide +kernel, rfl⟩
theorem d_2_whoIsAt_41 : zD prog_4_method_12_code 41 (.iload 5) 2 43 := ⟨by decide +kernel, rfl⟩
theorem d_2_whoIsAt_43 : zD prog_4_method_12_code 43 (.iconst (-1)) 1 44 := ⟨by decide +kernel, rfl⟩
theorem d_2_whoIsAt_44 : zD prog_4_method_12_code 44 (.if_icmp .ne 57) 3 47 := ⟨by decide +kernel, rfl⟩
theorem d_2_whoIsAt_47 : zD prog_4_method_12_code 47 (.aload_n 0) 1 48 := ⟨by decide +kernel, rfl⟩
theorem d_2_whoIsAt_48 : zD prog_4_method_12_code 48 (.iload_n 3) 1 49 := ⟨by decide +kernel, rfl⟩
theorem d_2_whoIsAt_49 : zD prog_4_method_12_code 49 (.iload 7) 2 51 := ⟨by decide +kernel, rfl⟩
theorem d_2_whoIsAt_51 : zD prog_4_method_12_code 51 (.invokevirtual 48) 3 54 := ⟨by decide +kernel, rfl⟩
theorem d_2_whoIsAt_54 : zD prog_4_method_12_code 54 (.ifCond .eq 17) 3 57 := ⟨by decide +kernel, rfl⟩
theorem d_2_whoIsAt_57 : zD prog_4_method_12_code 57 (.aload_n 0) 1 58 := ⟨by decide +kernel, rfl⟩
theorem d_2_whoIsAt_58 : zD prog_4_method_12_code 58 (.getfield 31) 3 61 := ⟨by decide +kernel, rfl⟩
theorem d_2_whoIsAt_61 : zD prog_4_method_12_code 61 (.iload_n 3) 1 62 := ⟨by decide +kernel, rfl⟩
theorem d_2_whoIsAt_62 : zD prog_4_method_12_code 62 (.iconst 1) 1 63 := ⟨by decide +kernel, rfl⟩
theorem d_2_whoIsAt_63 : zD prog_4_method_12_code 63 (.iload 7) 2 65 := ⟨by decide +kernel, rfl⟩
theorem d_2_whoIsAt_65 : zD prog_4_method_12_code 65 (.ishl) 1 66 := ⟨by decide +kernel, rfl⟩
theorem d_2_whoIsAt_66 : zD prog_4_method_12_code 66 (.ior) 1 67 := ⟨by decide +kernel, rfl⟩
theorem d_2_whoIsAt_67 : zD prog_4_method_12_code 67 (.iaload) 1 68 := ⟨by decide +kernel, rfl⟩
theorem d_2_whoIsAt_68 : zD prog_4_method_12_code 68 (.goto 4) 3 71 := ⟨by decide +kernel, rfl⟩
theorem d_2_whoIsAt_71 : zD prog_4_method_12_code 71 (.iconst 0) 1 72 := ⟨by decide +kernel, rfl⟩
theorem d_2_whoIsAt_72 : zD prog_4_method_12_code 72 (.istore 8) 2 74 := ⟨by decide +kernel, rfl⟩
theorem d_2_whoIsAt_74 : zD prog_4_method_12_code 74 (.iload 4) 2 76 := ⟨by decide +kernel, rfl⟩
theorem d_2_whoIsAt_76 : zD prog_4_method_12_code 76 (.iload 8) 2 78 := ⟨by decide +kernel, rfl⟩
theorem d_2_whoIsAt_78 : zD prog_4_method_12_code 78 (.if_icmp .ge 10) 3 81 := ⟨by decide +kernel, rfl⟩
theorem d_2_whoIsAt_81 : zD prog_4_method_12_code 81 (.iload 7) 2 83 := ⟨by decide +kernel, rfl⟩
theorem d_2_whoIsAt_83 : zD prog_4_method_12_code 83 (.istore 5) 2 85 := ⟨by decide +kernel, rfl⟩
theorem d_2_whoIsAt_85 : zD prog_4_method_12_code 85 (.goto 10) 3 88 := ⟨by decide +kernel, rfl⟩
theorem d_2_whoIsAt_88 : zD prog_4_method_12_code 88 (.iload 4) 2 90 := ⟨by decide +kernel, rfl⟩
theorem d_2_whoIsAt_90 : zD prog_4_method_12_code 90 (.iload 8) 2 92 := ⟨by decide +kernel, rfl⟩
theorem d_2_whoIsAt_92 : zD prog_4_method_12_code 92 (.isub) 1 93 := ⟨by decide +kernel, rfl⟩
theorem d_2_whoIsAt_93 : zD prog_4_method_12_code 93 (.istore 4) 2 95 := ⟨by decide +kernel, rfl⟩
theorem d_2_whoIsAt_95 : zD prog_4_method_12_code 95 (.iinc 7 1) 3 98 := ⟨by decide +kernel, rfl⟩
theorem d_2_whoIsAt_98 : zD prog_4_method_12_code 98 (.goto (-66)) 3 101 := ⟨by decide +kernel, rfl⟩
theorem d_2_whoIsAt_101 : zD prog_4_method_12_code 101 (.iload 5) 2 103 := ⟨by decide +kernel, rfl⟩
theorem d_2_whoIsAt_103 : zD prog_4_method_12_code 103 (.iconst (-1)) 1 104 := ⟨by decide +kernel, rfl⟩
theorem d_2_whoIsAt_104 : zD prog_4_method_12_code 104 (.if_icmp .ne 5) 3 107 := ⟨by decide +kernel, rfl⟩
theorem d_2_whoIsAt_107 : zD prog_4_method_12_code 107 (.iconst (-1)) 1 108 := ⟨by decide +kernel, rfl⟩
theorem d_2_whoIsAt_108 : zD prog_4_method_12_code 108 (.ireturn) 1 109 := ⟨by decide +kernel, rfl⟩
theorem d_2_whoIsAt_109 : zD prog_4_method_12_code 109 (.iload_n 3) 1 110 := ⟨by decide +kernel, rfl⟩
theorem d_2_whoIsAt_110 : zD prog_4_method_12_code 110 (.iconst 1) 1 111 := ⟨by decide +kernel, rfl⟩
theorem d_2_whoIsAt_111 : zD prog_4_method_12_code 111 (.iload 5) 2 113 := ⟨by decide +kernel, rfl⟩
theorem d_2_whoIsAt_113 : zD prog_4_method_12_code 113 (.ishl) 1 114 := ⟨by decide +kernel, rfl⟩
theorem d_2_whoIsAt_114 : zD prog_4_method_12_code 114 (.ior) 1 115 := ⟨by decide +kernel, rfl⟩
theorem d_2_whoIsAt_115 : zD prog_4_method_12_code 115 (.istore_n 3) 1 116 := ⟨by decide +kernel, rfl⟩
theorem d_2_whoIsAt_116 : zD prog_4_method_12_code 116 (.iinc 6 1) 3 119 := ⟨by decide +kernel, rfl⟩
theorem d_2_whoIsAt_119 : zD prog_4_method_12_code 119 (.goto (-108)) 3 122 := ⟨by decide +kernel, rfl⟩
theorem d_2_whoIsAt_122 : zD prog_4_method_12_code 122 (.iload 5) 2 124 := ⟨by decide +kernel, rfl⟩
theorem d_2_whoIsAt_124 : zD prog_4_method_12_code 124 (.ireturn) 1 125 := ⟨by decide +kernel, rfl⟩
theorem d_3_clear_0 : zD prog_5_method_2_code 0 (.aload_n 0) 1 1 := ⟨by decide +kernel, rfl⟩
theorem d_3_clear_1 : zD prog_5_method_2_code 1 (.iconst 0) 1 2 := ⟨by decide +kernel, rfl⟩
theorem d_3_clear_2 : zD prog_5_method_2_code 2 (.putfield 19) 3 5 := ⟨by decide +kernel, rfl⟩
theorem d_3_clear_5 : zD prog_5_method_2_code 5 (.return_) 1 6 := ⟨by decide +kernel, rfl⟩
theorem d_5_copyFrom_0 : zD prog_7_method_3_code 0 (.aload_n 0) 1 1 := ⟨by decide +kernel, rfl⟩
theorem d_5_copyFrom_1 : zD prog_7_method_3_code 1 (.aload_n 1) 1 2 := ⟨by decide +kernel, rfl⟩
theorem d_5_copyFrom_2 : zD prog_7_method_3_code 2 (.getfield 9) 3 5 := ⟨by decide +kernel, rfl⟩
theorem d_5_copyFrom_5 : zD prog_7_method_3_code 5 (.putfield 9) 3 8 := ⟨by decide +kernel, rfl⟩
theorem d_5_copyFrom_8 : zD prog_7_method_3_code 8 (.aload_n 0) 1 9 := ⟨by decide +kernel, rfl⟩
theorem d_5_copyFrom_9 : zD prog_7_method_3_code 9 (.aload_n 1) 1 10 := ⟨by decide +kernel, rfl⟩
theorem d_5_copyFrom_10 : zD prog_7_method_3_code 10 (.getfield 15) 3 13 := ⟨by decide +kernel, rfl⟩
theorem d_5_copyFrom_13 : zD prog_7_method_3_code 13 (.putfield 15) 3 16 := ⟨by decide +kernel, rfl⟩
theorem d_5_copyFrom_16 : zD prog_7_method_3_code 16 (.aload_n 0) 1 17 := ⟨by decide +kernel, rfl⟩
theorem d_5_copyFrom_17 : zD prog_7_method_3_code 17 (.aload_n 1) 1 18 := ⟨by decide +kernel, rfl⟩
theorem d_5_copyFrom_18 : zD prog_7_method_3_code 18 (.getfield 18) 3 21 := ⟨by decide +kernel, rfl⟩
theorem d_5_copyFrom_21 : zD prog_7_method_3_code 21 (.putfield 18) 3 24 := ⟨by decide +kernel, rfl⟩
theorem d_5_copyFrom_24 : zD prog_7_method_3_code 24 (.aload_n 1) 1 25 := ⟨by decide +kernel, rfl⟩
theorem d_5_copyFrom_25 : zD prog_7_method_3_code 25 (.getfield 21) 3 28 := ⟨by decide +kernel, rfl⟩
theorem d_5_copyFrom_28 : zD prog_7_method_3_code 28 (.iconst 0) 1 29 := ⟨by decide +kernel, rfl⟩
theorem d_5_copyFrom_29 : zD prog_7_method_3_code 29 (.aload_n 0) 1 30 := ⟨by decide +kernel, rfl⟩
theorem d_5_copyFrom_30 : zD prog_7_method_3_code 30 (.getfield 21) 3 33 := ⟨by decide +kernel, rfl⟩
theorem d_5_copyFrom_33 : zD prog_7_method_3_code 33 (.iconst 0) 1 34 := ⟨by decide +kernel, rfl⟩
theorem d_5_copyFrom_34 : zD prog_7_method_3_code 34 (.bipush 7) 2 36 := ⟨by decide +kernel, rfl⟩
theorem d_5_copyFrom_36 : zD prog_7_method_3_code 36 (.invokestatic 52) 3 39 := ⟨by decide +kernel, rfl⟩
theorem d_5_copyFrom_39 : zD prog_7_method_3_code 39 (.aload_n 1) 1 40 := ⟨by decide +kernel, rfl⟩
theorem d_5_copyFrom_40 : zD prog_7_method_3_code 40 (.getfield 25) 3 43 := ⟨by decide +kernel, rfl⟩
theorem d_5_copyFrom_43 : zD prog_7_method_3_code 43 (.iconst 0) 1 44 := ⟨by decide +kernel, rfl⟩
theorem d_5_copyFrom_44 : zD prog_7_method_3_code 44 (.aload_n 0) 1 45 := ⟨by decide +kernel, rfl⟩
theorem d_5_copyFrom_45 : zD prog_7_method_3_code 45 (.getfield 25) 3 48 := ⟨by decide +kernel, rfl⟩
theorem d_5_copyFrom_48 : zD prog_7_method_3_code 48 (.iconst 0) 1 49 := ⟨by decide +kernel, rfl⟩
theorem d_5_copyFrom_49 : zD prog_7_method_3_code 49 (.bipush 7) 2 51 := ⟨by decide +kernel, rfl⟩
theorem d_5_copyFrom_51 : zD prog_7_method_3_code 51 (.invokestatic 52) 3 54 := ⟨by decide +kernel, rfl⟩
theorem d_5_copyFrom_54 : zD prog_7_method_3_code 54 (.aload_n 1) 1 55 := ⟨by decide +kernel, rfl⟩
theorem d_5_copyFrom_55 : zD prog_7_method_3_code 55 (.getfield 28) 3 58 := ⟨by decide +kernel, rfl⟩
theorem d_5_copyFrom_58 : zD prog_7_method_3_code 58 (.iconst 0) 1 59 := ⟨by decide +kernel, rfl⟩
theorem d_5_copyFrom_59 : zD prog_7_method_3_code 59 (.aload_n 0) 1 60 := ⟨by decide +kernel, rfl⟩
theorem d_5_copyFrom_60 : zD prog_7_method_3_code 60 (.getfield 28) 3 63 := ⟨by decide +kernel, rfl⟩
theorem d_5_copyFrom_63 : zD prog_7_method_3_code 63 (.iconst 0) 1 64 := ⟨by decide +kernel, rfl⟩
theorem d_5_copyFrom_64 : zD prog_7_method_3_code 64 (.bipush 7) 2 66 := ⟨by decide +kernel, rfl⟩
theorem d_5_copyFrom_66 : zD prog_7_method_3_code 66 (.invokestatic 52) 3 69 := ⟨by decide +kernel, rfl⟩
theorem d_5_copyFrom_69 : zD prog_7_method_3_code 69 (.aload_n 1) 1 70 := ⟨by decide +kernel, rfl⟩
theorem d_5_copyFrom_70 : zD prog_7_method_3_code 70 (.getfield 31) 3 73 := ⟨by decide +kernel, rfl⟩
theorem d_5_copyFrom_73 : zD prog_7_method_3_code 73 (.iconst 0) 1 74 := ⟨by decide +kernel, rfl⟩
theorem d_5_copyFrom_74 : zD prog_7_method_3_code 74 (.aload_n 0) 1 75 := ⟨by decide +kernel, rfl⟩
theorem d_5_copyFrom_75 : zD prog_7_method_3_code 75 (.getfield 31) 3 78 := ⟨by decide +kernel, rfl⟩
theorem d_5_copyFrom_78 : zD prog_7_method_3_code 78 (.iconst 0) 1 79 := ⟨by decide +kernel, rfl⟩
theorem d_5_copyFrom_79 : zD prog_7_method_3_code 79 (.iconst 5) 1 80 := ⟨by decide +kernel, rfl⟩
theorem d_5_copyFrom_80 : zD prog_7_method_3_code 80 (.invokestatic 52) 3 83 := ⟨by decide +kernel, rfl⟩
theorem d_5_copyFrom_83 : zD prog_7_method_3_code 83 (.return_) 1 84 := ⟨by decide +kernel, rfl⟩
theorem d_3_keep_0 : zD prog_5_method_3_code 0 (.aload_n 0) 1 1 := ⟨by decide +kernel, rfl⟩
theorem d_3_keep_1 : zD prog_5_method_3_code 1 (.getfield 11) 3 4 := ⟨by decide +kernel, rfl⟩
theorem d_3_keep_4 : zD prog_5_method_3_code 4 (.aload_n 0) 1 5 := ⟨by decide +kernel, rfl⟩
theorem d_3_keep_5 : zD prog_5_method_3_code 5 (.getfield 15) 3 8 := ⟨by decide +kernel, rfl⟩
theorem d_3_keep_8 : zD prog_5_method_3_code 8 (.aaload) 1 9 := ⟨by decide +kernel, rfl⟩
theorem d_3_keep_9 : zD prog_5_method_3_code 9 (.aload_n 1) 1 10 := ⟨by decide +kernel, rfl⟩
theorem d_3_keep_10 : zD prog_5_method_3_code 10 (.invokevirtual 23) 3 13 := ⟨by decide +kernel, rfl⟩
theorem d_3_keep_13 : zD prog_5_method_3_code 13 (.aload_n 0) 1 14 := ⟨by decide +kernel, rfl⟩
theorem d_3_keep_14 : zD prog_5_method_3_code 14 (.aload_n 0) 1 15 := ⟨by decide +kernel, rfl⟩
theorem d_3_keep_15 : zD prog_5_method_3_code 15 (.getfield 15) 3 18 := ⟨by decide +kernel, rfl⟩
theorem d_3_keep_18 : zD prog_5_method_3_code 18 (.iconst 1) 1 19 := ⟨by decide +kernel, rfl⟩
theorem d_3_keep_19 : zD prog_5_method_3_code 19 (.iadd) 1 20 := ⟨by decide +kernel, rfl⟩
theorem d_3_keep_20 : zD prog_5_method_3_code 20 (.bipush 40) 2 22 := ⟨by decide +kernel, rfl⟩
theorem d_3_keep_22 : zD prog_5_method_3_code 22 (.irem) 1 23 := ⟨by decide +kernel, rfl⟩
theorem d_3_keep_23 : zD prog_5_method_3_code 23 (.putfield 15) 3 26 := ⟨by decide +kernel, rfl⟩
theorem d_3_keep_26 : zD prog_5_method_3_code 26 (.aload_n 0) 1 27 := ⟨by decide +kernel, rfl⟩
theorem d_3_keep_27 : zD prog_5_method_3_code 27 (.aload_n 0) 1 28 := ⟨by decide +kernel, rfl⟩
theorem d_3_keep_28 : zD prog_5_method_3_code 28 (.getfield 19) 3 31 := ⟨by decide +kernel, rfl⟩
theorem d_3_keep_31 : zD prog_5_method_3_code 31 (.iconst 1) 1 32 := ⟨by decide +kernel, rfl⟩
theorem d_3_keep_32 : zD prog_5_method_3_code 32 (.iadd) 1 33 := ⟨by decide +kernel, rfl⟩
theorem d_3_keep_33 : zD prog_5_method_3_code 33 (.bipush 40) 2 35 := ⟨by decide +kernel, rfl⟩
theorem d_3_keep_35 : zD prog_5_method_3_code 35 (.invokestatic 27) 3 38 := ⟨by decide +kernel, rfl⟩
theorem d_3_keep_38 : zD prog_5_method_3_code 38 (.putfield 19) 3 41 := ⟨by decide +kernel, rfl⟩
theorem d_3_keep_41 : zD prog_5_method_3_code 41 (.return_) 1 42 := ⟨by decide +kernel, rfl⟩
theorem d_3_takeBack_0 : zD prog_5_method_4_code 0 (.aload_n 0) 1 1 := ⟨by decide +kernel, rfl⟩
theorem d_3_takeBack_1 : zD prog_5_method_4_code 1 (.getfield 19) 3 4 := ⟨by decide +kernel, rfl⟩
theorem d_3_takeBack_4 : zD prog_5_method_4_code 4 (.ifCond .ne 5) 3 7 := ⟨by decide +kernel, rfl⟩
theorem d_3_takeBack_7 : zD prog_5_method_4_code 7 (.iconst 0) 1 8 := ⟨by decide +kernel, rfl⟩
theorem d_3_takeBack_8 : zD prog_5_method_4_code 8 (.ireturn) 1 9 := ⟨by decide +kernel, rfl⟩
theorem d_3_takeBack_9 : zD prog_5_method_4_code 9 (.aload_n 0) 1 10 := ⟨by decide +kernel, rfl⟩
theorem d_3_takeBack_10 : zD prog_5_method_4_code 10 (.aload_n 0) 1 11 := ⟨by decide +kernel, rfl⟩
theorem d_3_takeBack_11 : zD prog_5_method_4_code 11 (.getfield 15) 3 14 := ⟨by decide +kernel, rfl⟩
theorem d_3_takeBack_14 : zD prog_5_method_4_code 14 (.bipush 40) 2 16 := ⟨by decide +kernel, rfl⟩
theorem d_3_takeBack_16 : zD prog_5_method_4_code 16 (.iadd) 1 17 := ⟨by decide +kernel, rfl⟩
theorem d_3_takeBack_17 : zD prog_5_method_4_code 17 (.iconst 1) 1 18 := ⟨by decide +kernel, rfl⟩
theorem d_3_takeBack_18 : zD prog_5_method_4_code 18 (.isub) 1 19 := ⟨by decide +kernel, rfl⟩
theorem d_3_takeBack_19 : zD prog_5_method_4_code 19 (.bipush 40) 2 21 := ⟨by decide +kernel, rfl⟩
theorem d_3_takeBack_21 : zD prog_5_method_4_code 21 (.irem) 1 22 := ⟨by decide +kernel, rfl⟩
theorem d_3_takeBack_22 : zD prog_5_method_4_code 22 (.putfield 15) 3 25 := ⟨by decide +kernel, rfl⟩
theorem d_3_takeBack_25 : zD prog_5_method_4_code 25 (.aload_n 0) 1 26 := ⟨by decide +kernel, rfl⟩
theorem d_3_takeBack_26 : zD prog_5_method_4_code 26 (.dup) 1 27 := ⟨by decide +kernel, rfl⟩
theorem d_3_takeBack_27 : zD prog_5_method_4_code 27 (.getfield 19) 3 30 := ⟨by decide +kernel, rfl⟩
theorem d_3_takeBack_30 : zD prog_5_method_4_code 30 (.iconst 1) 1 31 := ⟨by decide +kernel, rfl⟩
theorem d_3_takeBack_31 : zD prog_5_method_4_code 31 (.isub) 1 32 := ⟨by decide +kernel, rfl⟩
theorem d_3_takeBack_32 : zD prog_5_method_4_code 32 (.putfield 19) 3 35 := ⟨by decide +kernel, rfl⟩
theorem d_3_takeBack_35 : zD prog_5_method_4_code 35 (.aload_n 1) 1 36 := ⟨by decide +kernel, rfl⟩
theorem d_3_takeBack_36 : zD prog_5_method_4_code 36 (.aload_n 0) 1 37 := ⟨by decide +kernel, rfl⟩
theorem d_3_takeBack_37 : zD prog_5_method_4_code 37 (.getfield 11) 3 40 := ⟨by decide +kernel, rfl⟩
theorem d_3_takeBack_40 : zD prog_5_method_4_code 40 (.aload_n 0) 1 41 := ⟨by decide +kernel, rfl⟩
theorem d_3_takeBack_41 : zD prog_5_method_4_code 41 (.getfield 15) 3 44 := ⟨by decide +kernel, rfl⟩
theorem d_3_takeBack_44 : zD prog_5_method_4_code 44 (.aaload) 1 45 := ⟨by decide +kernel, rfl⟩
theorem d_3_takeBack_45 : zD prog_5_method_4_code 45 (.invokevirtual 23) 3 48 := ⟨by decide +kernel, rfl⟩
theorem d_3_takeBack_48 : zD prog_5_method_4_code 48 (.iconst 1) 1 49 := ⟨by decide +kernel, rfl⟩
theorem d_3_takeBack_49 : zD prog_5_method_4_code 49 (.ireturn) 1 50 := ⟨by decide +kernel, rfl⟩
theorem d_6_write_0 : zD prog_8_method_3_code 0 (.aload_n 0) 1 1 := ⟨by decide +kernel, rfl⟩
theorem d_6_write_1 : zD prog_8_method_3_code 1 (.getfield 40) 3 4 := ⟨by decide +kernel, rfl⟩
theorem d_6_write_4 : zD prog_8_method_3_code 4 (.sipush 404) 3 7 := ⟨by decide +kernel, rfl⟩
theorem d_6_write_7 : zD prog_8_method_3_code 7 (.if_icmp .ge 23) 3 10 := ⟨by decide +kernel, rfl⟩
theorem d_6_write_10 : zD prog_8_method_3_code 10 (.aload_n 0) 1 11 := ⟨by decide +kernel, rfl⟩
theorem d_6_write_11 : zD prog_8_method_3_code 11 (.getfield 34) 3 14 := ⟨by decide +kernel, rfl⟩
theorem d_6_write_14 : zD prog_8_method_3_code 14 (.aload_n 0) 1 15 := ⟨by decide +kernel, rfl⟩
theorem d_6_write_15 : zD prog_8_method_3_code 15 (.getfield 40) 3 18 := ⟨by decide +kernel, rfl⟩
theorem d_6_write_18 : zD prog_8_method_3_code 18 (.iload_n 1) 1 19 := ⟨by decide +kernel, rfl⟩
theorem d_6_write_19 : zD prog_8_method_3_code 19 (.iastore) 1 20 := ⟨by decide +kernel, rfl⟩
theorem d_6_write_20 : zD prog_8_method_3_code 20 (.aload_n 0) 1 21 := ⟨by decide +kernel, rfl⟩
theorem d_6_write_21 : zD prog_8_method_3_code 21 (.dup) 1 22 := ⟨by decide +kernel, rfl⟩
theorem d_6_write_22 : zD prog_8_method_3_code 22 (.getfield 40) 3 25 := ⟨by decide +kernel, rfl⟩
theorem d_6_write_25 : zD prog_8_method_3_code 25 (.iconst 1) 1 26 := ⟨by decide +kernel, rfl⟩
theorem d_6_write_26 : zD prog_8_method_3_code 26 (.iadd) 1 27 := ⟨by decide +kernel, rfl⟩
theorem d_6_write_27 : zD prog_8_method_3_code 27 (.putfield 40) 3 30 := ⟨by decide +kernel, rfl⟩
theorem d_6_write_30 : zD prog_8_method_3_code 30 (.return_) 1 31 := ⟨by decide +kernel, rfl⟩
theorem d_6_empty_0 : zD prog_8_method_2_code 0 (.aload_n 0) 1 1 := ⟨by decide +kernel, rfl⟩
theorem d_6_empty_1 : zD prog_8_method_2_code 1 (.iconst 0) 1 2 := ⟨by decide +kernel, rfl⟩
theorem d_6_empty_2 : zD prog_8_method_2_code 2 (.putfield 9) 3 5 := ⟨by decide +kernel, rfl⟩
theorem d_6_empty_5 : zD prog_8_method_2_code 5 (.aload_n 0) 1 6 := ⟨by decide +kernel, rfl⟩
theorem d_6_empty_6 : zD prog_8_method_2_code 6 (.iconst 0) 1 7 := ⟨by decide +kernel, rfl⟩
theorem d_6_empty_7 : zD prog_8_method_2_code 7 (.putfield 15) 3 10 := ⟨by decide +kernel, rfl⟩
theorem d_6_empty_10 : zD prog_8_method_2_code 10 (.aload_n 0) 1 11 := ⟨by decide +kernel, rfl⟩
theorem d_6_empty_11 : zD prog_8_method_2_code 11 (.iconst 0) 1 12 := ⟨by decide +kernel, rfl⟩
theorem d_6_empty_12 : zD prog_8_method_2_code 12 (.putfield 18) 3 15 := ⟨by decide +kernel, rfl⟩
theorem d_6_empty_15 : zD prog_8_method_2_code 15 (.iconst 0) 1 16 := ⟨by decide +kernel, rfl⟩
theorem d_6_empty_16 : zD prog_8_method_2_code 16 (.istore_n 1) 1 17 := ⟨by decide +kernel, rfl⟩
theorem d_6_empty_17 : zD prog_8_method_2_code 17 (.iload_n 1) 1 18 := ⟨by decide +kernel, rfl⟩
theorem d_6_empty_18 : zD prog_8_method_2_code 18 (.iconst 5) 1 19 := ⟨by decide +kernel, rfl⟩
theorem d_6_empty_19 : zD prog_8_method_2_code 19 (.if_icmp .ge 16) 3 22 := ⟨by decide +kernel, rfl⟩
theorem d_6_empty_22 : zD prog_8_method_2_code 22 (.aload_n 0) 1 23 := ⟨by decide +kernel, rfl⟩
theorem d_6_empty_23 : zD prog_8_method_2_code 23 (.getfield 25) 3 26 := ⟨by decide +kernel, rfl⟩
theorem d_6_empty_26 : zD prog_8_method_2_code 26 (.iload_n 1) 1 27 := ⟨by decide +kernel, rfl⟩
theorem d_6_empty_27 : zD prog_8_method_2_code 27 (.iconst 0) 1 28 := ⟨by decide +kernel, rfl⟩
theorem d_6_empty_28 : zD prog_8_method_2_code 28 (.iastore) 1 29 := ⟨by decide +kernel, rfl⟩
theorem d_6_empty_29 : zD prog_8_method_2_code 29 (.iinc 1 1) 3 32 := ⟨by decide +kernel, rfl⟩
theorem d_6_empty_32 : zD prog_8_method_2_code 32 (.goto (-15)) 3 35 := ⟨by decide +kernel, rfl⟩
theorem d_6_empty_35 : zD prog_8_method_2_code 35 (.iconst 0) 1 36 := ⟨by decide +kernel, rfl⟩
theorem d_6_empty_36 : zD prog_8_method_2_code 36 (.istore_n 1) 1 37 := ⟨by decide +kernel, rfl⟩
theorem d_6_empty_37 : zD prog_8_method_2_code 37 (.iload_n 1) 1 38 := ⟨by decide +kernel, rfl⟩
theorem d_6_empty_38 : zD prog_8_method_2_code 38 (.bipush 7) 2 40 := ⟨by decide +kernel, rfl⟩
theorem d_6_empty_40 : zD prog_8_method_2_code 40 (.if_icmp .ge 16) 3 43 := ⟨by decide +kernel, rfl⟩
theorem d_6_empty_43 : zD prog_8_method_2_code 43 (.aload_n 0) 1 44 := ⟨by decide +kernel, rfl⟩
theorem d_6_empty_44 : zD prog_8_method_2_code 44 (.getfield 31) 3 47 := ⟨by decide +kernel, rfl⟩
theorem d_6_empty_47 : zD prog_8_method_2_code 47 (.iload_n 1) 1 48 := ⟨by decide +kernel, rfl⟩
theorem d_6_empty_48 : zD prog_8_method_2_code 48 (.iconst (-1)) 1 49 := ⟨by decide +kernel, rfl⟩
theorem d_6_empty_49 : zD prog_8_method_2_code 49 (.iastore) 1 50 := ⟨by decide +kernel, rfl⟩
theorem d_6_empty_50 : zD prog_8_method_2_code 50 (.iinc 1 1) 3 53 := ⟨by decide +kernel, rfl⟩
theorem d_6_empty_53 : zD prog_8_method_2_code 53 (.goto (-16)) 3 56 := ⟨by decide +kernel, rfl⟩
theorem d_6_empty_56 : zD prog_8_method_2_code 56 (.aload_n 0) 1 57 := ⟨by decide +kernel, rfl⟩
theorem d_6_empty_57 : zD prog_8_method_2_code 57 (.iconst 0) 1 58 := ⟨by decide +kernel, rfl⟩
theorem d_6_empty_58 : zD prog_8_method_2_code 58 (.putfield 40) 3 61 := ⟨by decide +kernel, rfl⟩
theorem d_6_empty_61 : zD prog_8_method_2_code 61 (.aload_n 0) 1 62 := ⟨by decide +kernel, rfl⟩
theorem d_6_empty_62 : zD prog_8_method_2_code 62 (.getfield 37) 3 65 := ⟨by decide +kernel, rfl⟩
theorem d_6_empty_65 : zD prog_8_method_2_code 65 (.iconst 0) 1 66 := ⟨by decide +kernel, rfl⟩
theorem d_6_empty_66 : zD prog_8_method_2_code 66 (.aload_n 0) 1 67 := ⟨by decide +kernel, rfl⟩
theorem d_6_empty_67 : zD prog_8_method_2_code 67 (.getfield 40) 3 70 := ⟨by decide +kernel, rfl⟩
theorem d_6_empty_70 : zD prog_8_method_2_code 70 (.iastore) 1 71 := ⟨by decide +kernel, rfl⟩
theorem d_6_empty_71 : zD prog_8_method_2_code 71 (.aload_n 0) 1 72 := ⟨by decide +kernel, rfl⟩
theorem d_6_empty_72 : zD prog_8_method_2_code 72 (.getfield 37) 3 75 := ⟨by decide +kernel, rfl⟩
theorem d_6_empty_75 : zD prog_8_method_2_code 75 (.iconst 1) 1 76 := ⟨by decide +kernel, rfl⟩
theorem d_6_empty_76 : zD prog_8_method_2_code 76 (.aload_n 0) 1 77 := ⟨by decide +kernel, rfl⟩
theorem d_6_empty_77 : zD prog_8_method_2_code 77 (.getfield 40) 3 80 := ⟨by decide +kernel, rfl⟩
theorem d_6_empty_80 : zD prog_8_method_2_code 80 (.iastore) 1 81 := ⟨by decide +kernel, rfl⟩
theorem d_6_empty_81 : zD prog_8_method_2_code 81 (.aload_n 0) 1 82 := ⟨by decide +kernel, rfl⟩
theorem d_6_empty_82 : zD prog_8_method_2_code 82 (.getfield 37) 3 85 := ⟨by decide +kernel, rfl⟩
theorem d_6_empty_85 : zD prog_8_method_2_code 85 (.iconst 2) 1 86 := ⟨by decide +kernel, rfl⟩
theorem d_6_empty_86 : zD prog_8_method_2_code 86 (.aload_n 0) 1 87 := ⟨by decide +kernel, rfl⟩
theorem d_6_empty_87 : zD prog_8_method_2_code 87 (.getfield 40) 3 90 := ⟨by decide +kernel, rfl⟩
theorem d_6_empty_90 : zD prog_8_method_2_code 90 (.iastore) 1 91 := ⟨by decide +kernel, rfl⟩
theorem d_6_empty_91 : zD prog_8_method_2_code 91 (.aload_n 0) 1 92 := ⟨by decide +kernel, rfl⟩
theorem d_6_empty_92 : zD prog_8_method_2_code 92 (.iconst 0) 1 93 := ⟨by decide +kernel, rfl⟩
theorem d_6_empty_93 : zD prog_8_method_2_code 93 (.invokevirtual 46) 3 96 := ⟨by decide +kernel, rfl⟩
theorem d_6_empty_96 : zD prog_8_method_2_code 96 (.aload_n 0) 1 97 := ⟨by decide +kernel, rfl⟩
theorem d_6_empty_97 : zD prog_8_method_2_code 97 (.bipush (-15)) 2 99 := ⟨by decide +kernel, rfl⟩
theorem d_6_empty_99 : zD prog_8_method_2_code 99 (.invokevirtual 46) 3 102 := ⟨by decide +kernel, rfl⟩
theorem d_6_empty_102 : zD prog_8_method_2_code 102 (.aload_n 0) 1 103 := ⟨by decide +kernel, rfl⟩
theorem d_6_empty_103 : zD prog_8_method_2_code 103 (.getfield 37) 3 106 := ⟨by decide +kernel, rfl⟩
theorem d_6_empty_106 : zD prog_8_method_2_code 106 (.iconst 3) 1 107 := ⟨by decide +kernel, rfl⟩
theorem d_6_empty_107 : zD prog_8_method_2_code 107 (.aload_n 0) 1 108 := ⟨by decide +kernel, rfl⟩
theorem d_6_empty_108 : zD prog_8_method_2_code 108 (.getfield 40) 3 111 := ⟨by decide +kernel, rfl⟩
theorem d_6_empty_111 : zD prog_8_method_2_code 111 (.iastore) 1 112 := ⟨by decide +kernel, rfl⟩
theorem d_6_empty_112 : zD prog_8_method_2_code 112 (.aload_n 0) 1 113 := ⟨by decide +kernel, rfl⟩
theorem d_6_empty_113 : zD prog_8_method_2_code 113 (.iconst (-1)) 1 114 := ⟨by decide +kernel, rfl⟩
theorem d_6_empty_114 : zD prog_8_method_2_code 114 (.invokevirtual 46) 3 117 := ⟨by decide +kernel, rfl⟩
theorem d_6_empty_117 : zD prog_8_method_2_code 117 (.aload_n 0) 1 118 := ⟨by decide +kernel, rfl⟩
theorem d_6_empty_118 : zD prog_8_method_2_code 118 (.bipush (-15)) 2 120 := ⟨by decide +kernel, rfl⟩
theorem d_6_empty_120 : zD prog_8_method_2_code 120 (.invokevirtual 46) 3 123 := ⟨by decide +kernel, rfl⟩
theorem d_6_empty_123 : zD prog_8_method_2_code 123 (.return_) 1 124 := ⟨by decide +kernel, rfl⟩
def f8_has (a0 : Int32) (a1 : Int32) : Int32 :=
  (if ((a0 >>> (a1 &&& 31)) &&& (1 : Int32)) = 0 then (0 : Int32) else (1 : Int32))
theorem s8_has {P : zP} {μ : zMem} {a0 : Int32} {a1 : Int32} {r : Int32} (h : f8_has a0 a1 = r) : z_Sp P y_8_has M_8_has 1 [zI a0, zI a1] μ (some (zI r)) μ := by
  refine z_Sp.of (plainFor_of_name (by decide)) rfl (l0 := [some (zI a0), some (zI a1)]) rfl (Nat.le_of_ble_eq_true rfl) ?_
  unfold f8_has at h
  refine zr_iload_n (i := 0) d_8_has_0 rfl rfl ?_
  refine zr_iload_n (i := 1) d_8_has_1 rfl rfl ?_
  refine zr_ishr d_8_has_2 ?_
  refine zr_iconst (v := (1 : Int32)) d_8_has_3 rfl ?_
  refine zr_iand d_8_has_4 ?_
  refine zr_if_eq (tgt := 12) d_8_has_5 rfl (fun hc1 => ?_) (fun hc1 => ?_)
  · replace h := z_ip h hc1
    refine zr_iconst (v := (0 : Int32)) d_8_has_12 rfl ?_
    obtain rfl := h
    exact ze_z d_8_has_13 rfl rfl
  · replace h := z_im h hc1
    refine zr_iconst (v := (1 : Int32)) d_8_has_8 rfl ?_
    refine zr_goto (tgt := 13) d_8_has_9 rfl ?_
    obtain rfl := h
    exact ze_z d_8_has_13 rfl rfl
def f5_longestGone_L1 (o0 : Nat) (a1 : Int32) (μ : zMem) : (Int32 × Int32 × Int32) → Option ((Int32 × Int32 × Int32) ⊕ (Int32)) := (z_u3 fun x2 x3 x4 => 
  (if x4 < (7 : Int32) then ((if (f8_has a1 x4) = 0 then some (x2, x3) else (if x2 = (-2 : Int32) then if z_in x4 7 = true then z_let (μ.1 22 o0 x4.toNatClampNeg) fun v12 => some (x4, v12) else none else if z_in x4 7 = true then (if x3 < (μ.1 22 o0 x4.toNatClampNeg) then z_let (μ.1 22 o0 x4.toNatClampNeg) fun v16 => some (x4, v16) else some (x2, x3)) else none)) : Option (Int32 × Int32)).bind (z_u2 fun j18 j19 => some (.inl (j18, j19, (x4 + (1 : Int32))))) else some (.inr x2)))
def f5_longestGone (o0 : Nat) (a1 : Int32) (μ : zMem) : Option (Int32) :=
  (z_it (f5_longestGone_L1 o0 a1 μ) z_fu ((-2 : Int32), (-1 : Int32), (0 : Int32))).bind (fun e20 => some e20)
theorem s5_longestGone_L1 {P : zP} {ro : Option zV} {μo : zMem} (o0 : Nat) (a1 : Int32) (μ : zMem) (x2 : Int32) (x3 : Int32) (x4 : Int32) (K : (Int32 × Int32 × Int32) ⊕ (Int32)) (h : f5_longestGone_L1 o0 a1 μ (x2, x3, x4) = some K) (hI : ∀ (y0 : Int32) (y1 : Int32) (y2 : Int32), K = .inl (y0, y1, y2) → z_RQ P M_5_longestGone (z_rm 2) (z_mq P ro μo) 0 0 8 [some (zA 5 o0), some (zI a1), some (zI y0), some (zI y1), some (zI y2)] [] μ) (hE : ∀ (z0 : Int32), K = .inr z0 → z_RQ P M_5_longestGone (z_rm 2) (z_mq P ro μo) 0 0 58 [none, none, some (zI z0), none, none] [] μ)  : z_RQ P M_5_longestGone (z_rm 2) (z_mq P ro μo) 0 0 8 [some (zA 5 o0), some (zI a1), some (zI x2), some (zI x3), some (zI x4)] [] μ := by
  unfold f5_longestGone_L1 at h
  replace h := z_h3 h
  refine zr_iload d_5_longestGone_8 rfl ?_
  refine zr_bipush (v := (7 : Int32)) d_5_longestGone_10 rfl ?_
  refine zr_icmp_ge (tgt := 58) d_5_longestGone_12 rfl (fun hc5 => ?_) (fun hc5 => ?_)
  · replace h := z_ip h hc5
    refine zr_iload_n (i := 1) d_5_longestGone_15 rfl rfl ?_
    refine zr_iload d_5_longestGone_16 rfl ?_
    refine zr_callSNi (av := [zI a1, zI x4]) (st := []) d_5_longestGone_18 mw_8_has nl_5_58 is_8_has rfl rfl (Nat.le_of_ble_eq_true rfl) fit_1_2_2 (s8_has rfl) ?_
    obtain ⟨⟨j18, j19⟩, hT7, h⟩ := z_bd h
    replace h := z_h2 h
    have hJ8 : z_RQ P M_5_longestGone (z_rm 2) (z_mq P ro μo) 0 0 52 [some (zA 5 o0), some (zI a1), some (zI j18), some (zI j19), some (zI x4)] [] μ := by
      refine zr_iinc (v := (x4 + (1 : Int32))) (l' := [some (zA 5 o0), some (zI a1), some (zI j18), some (zI j19), some (zI (x4 + (1 : Int32)))]) d_5_longestGone_52 (by decide) rfl rfl rfl ?_
      refine zr_goto (tgt := 8) d_5_longestGone_55 rfl ?_
      obtain rfl := Option.some.inj h
      exact zr_wk2 (hI j18 j19 (x4 + (1 : Int32)) rfl) ⟨rfl, ⟨rfl, ⟨rfl, ⟨rfl, ⟨rfl, trivial⟩⟩⟩⟩⟩
    refine zr_if_eq (tgt := 52) d_5_longestGone_21 rfl (fun hc9 => ?_) (fun hc9 => ?_)
    · replace hT7 := z_ip hT7 hc9
      obtain ⟨rfl, rfl⟩ := z_i2 (Option.some.inj hT7)
      exact zr_wk2 hJ8 ⟨rfl, ⟨rfl, ⟨rfl, ⟨rfl, ⟨rfl, trivial⟩⟩⟩⟩⟩
    · replace hT7 := z_im hT7 hc9
      refine zr_iload_n (i := 2) d_5_longestGone_24 rfl rfl ?_
      refine zr_bipush (v := (-2 : Int32)) d_5_longestGone_25 (by decide) ?_
      refine zr_icmp_eq (tgt := 41) d_5_longestGone_27 rfl (fun hc10 => ?_) (fun hc10 => ?_)
      · replace hT7 := z_ip hT7 hc10
        refine zr_iload d_5_longestGone_41 rfl ?_
        refine zr_istore_n (i := 2) (l' := [some (zA 5 o0), some (zI a1), some (zI x4), some (zI x3), some (zI x4)]) d_5_longestGone_43 rfl (by decide) rfl ?_
        refine zr_aload_n (i := 0) d_5_longestGone_44 rfl rfl ?_
        refine zr_gets (i' := o0) d_5_longestGone_45 fw_5_21 rfl ?_
        refine zr_iload d_5_longestGone_48 rfl ?_
        obtain ⟨hb11, hT7⟩ := z_gd hT7
        refine zr_iald d_5_longestGone_50 sa_22 rfl hb11 ?_
        obtain ⟨v12, hv13, hT7⟩ := z_lt hT7
        refine zr_nm hv13 ?_
        refine zr_istore_n (i := 3) (l' := [some (zA 5 o0), some (zI a1), some (zI x4), some (zI v12), some (zI x4)]) d_5_longestGone_51 rfl (by decide) rfl ?_
        obtain ⟨rfl, rfl⟩ := z_i2 (Option.some.inj hT7)
        exact zr_wk2 hJ8 ⟨rfl, ⟨rfl, ⟨rfl, ⟨rfl, ⟨rfl, trivial⟩⟩⟩⟩⟩
      · replace hT7 := z_im hT7 hc10
        refine zr_aload_n (i := 0) d_5_longestGone_30 rfl rfl ?_
        refine zr_gets (i' := o0) d_5_longestGone_31 fw_5_21 rfl ?_
        refine zr_iload d_5_longestGone_34 rfl ?_
        obtain ⟨hb14, hT7⟩ := z_gd hT7
        refine zr_iald d_5_longestGone_36 sa_22 rfl hb14 ?_
        refine zr_iload_n (i := 3) d_5_longestGone_37 rfl rfl ?_
        refine zr_icmp_le (tgt := 52) d_5_longestGone_38 rfl (fun hc15 => ?_) (fun hc15 => ?_)
        · replace hT7 := z_ip hT7 hc15
          refine zr_iload d_5_longestGone_41 rfl ?_
          refine zr_istore_n (i := 2) (l' := [some (zA 5 o0), some (zI a1), some (zI x4), some (zI x3), some (zI x4)]) d_5_longestGone_43 rfl (by decide) rfl ?_
          refine zr_aload_n (i := 0) d_5_longestGone_44 rfl rfl ?_
          refine zr_gets (i' := o0) d_5_longestGone_45 fw_5_21 rfl ?_
          refine zr_iload d_5_longestGone_48 rfl ?_
          refine zr_iald d_5_longestGone_50 sa_22 rfl hb14 ?_
          obtain ⟨v16, hv17, hT7⟩ := z_lt hT7
          refine zr_nm hv17 ?_
          refine zr_istore_n (i := 3) (l' := [some (zA 5 o0), some (zI a1), some (zI x4), some (zI v16), some (zI x4)]) d_5_longestGone_51 rfl (by decide) rfl ?_
          obtain ⟨rfl, rfl⟩ := z_i2 (Option.some.inj hT7)
          exact zr_wk2 hJ8 ⟨rfl, ⟨rfl, ⟨rfl, ⟨rfl, ⟨rfl, trivial⟩⟩⟩⟩⟩
        · replace hT7 := z_im hT7 hc15
          obtain ⟨rfl, rfl⟩ := z_i2 (Option.some.inj hT7)
          exact zr_wk2 hJ8 ⟨rfl, ⟨rfl, ⟨rfl, ⟨rfl, ⟨rfl, trivial⟩⟩⟩⟩⟩
  · replace h := z_im h hc5
    obtain rfl := Option.some.inj h
    exact zr_wk2 (hE x2 rfl) ⟨rfl, trivial⟩
theorem s5_longestGone {P : zP} {μ : zMem} {o0 : Nat} {a1 : Int32} {r : Int32} (h : f5_longestGone o0 a1 μ = some r) : z_Sp P y_5_longestGone M_5_longestGone 2 [zA 5 o0, zI a1] μ (some (zI r)) μ := by
  refine z_Sp.of (plainFor_of_name (by decide)) rfl (l0 := [some (zA 5 o0), some (zI a1), none, none, none]) rfl (Nat.le_of_ble_eq_true rfl) ?_
  unfold f5_longestGone at h
  refine zr_bipush (v := (-2 : Int32)) d_5_longestGone_0 (by decide) ?_
  refine zr_istore_n (i := 2) (l' := [some (zA 5 o0), some (zI a1), some (zI (-2 : Int32)), none, none]) d_5_longestGone_2 rfl (by decide) rfl ?_
  refine zr_iconst (v := (-1 : Int32)) d_5_longestGone_3 rfl ?_
  refine zr_istore_n (i := 3) (l' := [some (zA 5 o0), some (zI a1), some (zI (-2 : Int32)), some (zI (-1 : Int32)), none]) d_5_longestGone_4 rfl (by decide) rfl ?_
  refine zr_iconst (v := (0 : Int32)) d_5_longestGone_5 rfl ?_
  refine zr_istore (i := 4) (l' := [some (zA 5 o0), some (zI a1), some (zI (-2 : Int32)), some (zI (-1 : Int32)), some (zI (0 : Int32))]) d_5_longestGone_6 (by decide) rfl ?_
  obtain ⟨e20, hl21, h⟩ := z_bd h
  refine zr_wk (l' := [some (zA 5 o0), some (zI a1), some (zI (-2 : Int32)), some (zI (-1 : Int32)), some (zI (0 : Int32))]) ⟨rfl, ⟨rfl, ⟨rfl, ⟨rfl, ⟨rfl, trivial⟩⟩⟩⟩⟩ ?_
  refine z_loop (Hd := (z_u3 fun y0 y1 y2 => z_RQ P M_5_longestGone (z_rm 2) (z_mq P (some (zI r)) μ) 0 0 8 [some (zA 5 o0), some (zI a1), some (zI y0), some (zI y1), some (zI y2)] [] μ)) (Ex := (fun z0 => z_RQ P M_5_longestGone (z_rm 2) (z_mq P (some (zI r)) μ) 0 0 58 [none, none, some (zI z0), none, none] [] μ)) (fun ⟨x2, x3, x4⟩ K h hI hE => s5_longestGone_L1 o0 a1 μ x2 x3 x4 K h (fun y0 y1 y2 e => hI (y0, y1, y2) e) (fun z0 e => hE z0 e) ) _ _ _ hl21 ?_
  refine zr_iload_n (i := 2) d_5_longestGone_58 rfl rfl ?_
  obtain rfl := Option.some.inj h
  exact ze_i d_5_longestGone_59 rfl
def f5_landlordOf (o0 : Nat) (a1 : Int32) (μ : zMem) : Option (Int32) :=
  if z_in a1 5 = true then (f5_longestGone o0 ((μ.1 25 o0 a1.toNatClampNeg) &&& (μ.1 5 o0 2)) μ).bind (fun q2 => some q2) else none
theorem s5_landlordOf {P : zP} {μ : zMem} {o0 : Nat} {a1 : Int32} {r : Int32} (h : f5_landlordOf o0 a1 μ = some r) : z_Sp P y_5_landlordOf M_5_landlordOf 3 [zA 5 o0, zI a1] μ (some (zI r)) μ := by
  refine z_Sp.of (plainFor_of_name (by decide)) rfl (l0 := [some (zA 5 o0), some (zI a1)]) rfl (Nat.le_of_ble_eq_true rfl) ?_
  unfold f5_landlordOf at h
  refine zr_aload_n (i := 0) d_5_landlordOf_0 rfl rfl ?_
  refine zr_aload_n (i := 0) d_5_landlordOf_1 rfl rfl ?_
  refine zr_gets (i' := o0) d_5_landlordOf_2 fw_5_31 rfl ?_
  refine zr_iload_n (i := 1) d_5_landlordOf_5 rfl rfl ?_
  obtain ⟨hb1, h⟩ := z_gd h
  refine zr_iald d_5_landlordOf_6 sa_25 rfl hb1 ?_
  refine zr_aload_n (i := 0) d_5_landlordOf_7 rfl rfl ?_
  refine zr_geti d_5_landlordOf_8 fw_5_18 (by decide) ?_
  refine zr_iand d_5_landlordOf_11 ?_
  obtain ⟨q2, hq3, h⟩ := z_bd h
  refine zr_callVi (av := [zI ((μ.1 25 o0 a1.toNatClampNeg) &&& (μ.1 5 o0 2))]) (st := []) d_5_landlordOf_12 mw_5_longestGone ml_5_66 im_5_longestGone se_5_longestGone rfl rfl (Nat.le_of_ble_eq_true rfl) fit_2_5_3 rfl rfl rfl (s5_longestGone hq3) ?_
  obtain rfl := Option.some.inj h
  exact ze_i d_5_landlordOf_15 rfl
def f1_look_L1 (o0 : Nat) : (Int32 × zMem) → Option ((Int32 × zMem) ⊕ (zMem)) := (z_u2 fun x2 xm3 => 
  (if x2 < (7 : Int32) then if z_in x2 7 = true then z_let (z_sI xm3 11 o0 x2.toNatClampNeg (0 : Int32)) fun m5 => z_let (z_sI m5 12 o0 x2.toNatClampNeg (0 : Int32)) fun m8 => some (.inl ((x2 + (1 : Int32)), m8)) else none else some (.inr xm3)))
def f1_look_L12 (o0 : Nat) (o1 : Nat) (o2 : Nat) : (Int32 × zMem) → Option ((Int32 × zMem) ⊕ (zMem)) := (z_u2 fun x13 xm14 => 
  (if x13 < (xm14.1 6 o1 0) then (f5_landlordOf o2 x13 xm14).bind (fun q16 => if z_in x13 5 = true then z_let (z_sI xm14 10 o0 x13.toNatClampNeg q16) fun m18 => ((if q16 < 0 then some m18 else if z_in q16 7 = true then z_let (z_sI m18 11 o0 q16.toNatClampNeg ((m18.1 11 o0 q16.toNatClampNeg) + (1 : Int32))) fun m25 => if z_in x13 (z_len 26 (2 * o1)) = true then z_let (z_sI m25 12 o0 q16.toNatClampNeg ((m25.1 12 o0 q16.toNatClampNeg) + (m25.1 26 (2 * o1) x13.toNatClampNeg))) fun m28 => some m28 else none else none) : Option (zMem)).bind (fun jm30 => some (.inl ((x13 + (1 : Int32)), jm30))) else none) else some (.inr xm14)))
def f1_look (o0 : Nat) (o1 : Nat) (o2 : Nat) (μ : zMem) : Option (zMem) :=
  (z_it (f1_look_L1 o0) z_fu ((0 : Int32), μ)).bind (fun e10 => (z_it (f1_look_L12 o0 o1 o2) z_fu ((0 : Int32), e10)).bind (fun e31 => some e31))
theorem s1_look_L1 {P : zP} {ro : Option zV} {μo : zMem} (o0 : Nat) (o1 : Nat) (o2 : Nat) (x2 : Int32) (xm3 : zMem) (K : (Int32 × zMem) ⊕ (zMem)) (h : f1_look_L1 o0 (x2, xm3) = some K) (hI : ∀ (y0 : Int32) (y1 : zMem), K = .inl (y0, y1) → z_RQ P M_1_look (z_rm 4) (z_mq P ro μo) 0 0 2 [some (zA 1 o0), some (zA 6 o1), some (zA 5 o2), some (zI y0), none] [] y1) (hE : ∀ (z0 : zMem), K = .inr z0 → z_RQ P M_1_look (z_rm 4) (z_mq P ro μo) 0 0 28 [some (zA 1 o0), some (zA 6 o1), some (zA 5 o2), none, none] [] z0)  : z_RQ P M_1_look (z_rm 4) (z_mq P ro μo) 0 0 2 [some (zA 1 o0), some (zA 6 o1), some (zA 5 o2), some (zI x2), none] [] xm3 := by
  unfold f1_look_L1 at h
  replace h := z_h2 h
  refine zr_iload_n (i := 3) d_1_look_2 rfl rfl ?_
  refine zr_bipush (v := (7 : Int32)) d_1_look_3 rfl ?_
  refine zr_icmp_ge (tgt := 28) d_1_look_5 rfl (fun hc4 => ?_) (fun hc4 => ?_)
  · replace h := z_ip h hc4
    refine zr_aload_n (i := 0) d_1_look_8 rfl rfl ?_
    refine zr_gets (i' := o0) d_1_look_9 fw_1_15 rfl ?_
    refine zr_iload_n (i := 3) d_1_look_12 rfl rfl ?_
    refine zr_iconst (v := (0 : Int32)) d_1_look_13 rfl ?_
    obtain ⟨hb7, h⟩ := z_gd h
    obtain ⟨m5, hm6, h⟩ := z_lt h
    refine zr_iast d_1_look_14 sa_11 rfl hb7 hm6 ?_
    refine zr_aload_n (i := 0) d_1_look_15 rfl rfl ?_
    refine zr_gets (i' := o0) d_1_look_16 fw_1_18 rfl ?_
    refine zr_iload_n (i := 3) d_1_look_19 rfl rfl ?_
    refine zr_iconst (v := (0 : Int32)) d_1_look_20 rfl ?_
    obtain ⟨m8, hm9, h⟩ := z_lt h
    refine zr_iast d_1_look_21 sa_12 rfl hb7 hm9 ?_
    refine zr_iinc (v := (x2 + (1 : Int32))) (l' := [some (zA 1 o0), some (zA 6 o1), some (zA 5 o2), some (zI (x2 + (1 : Int32))), none]) d_1_look_22 (by decide) rfl rfl rfl ?_
    refine zr_goto (tgt := 2) d_1_look_25 rfl ?_
    obtain rfl := Option.some.inj h
    exact zr_wk2 (hI (x2 + (1 : Int32)) m8 rfl) ⟨rfl, ⟨rfl, ⟨rfl, ⟨rfl, trivial⟩⟩⟩⟩
  · replace h := z_im h hc4
    obtain rfl := Option.some.inj h
    exact zr_wk2 (hE xm3 rfl) ⟨rfl, ⟨rfl, ⟨rfl, trivial⟩⟩⟩
theorem s1_look_L12 {P : zP} {ro : Option zV} {μo : zMem} (o0 : Nat) (o1 : Nat) (o2 : Nat) (x13 : Int32) (xm14 : zMem) (K : (Int32 × zMem) ⊕ (zMem)) (h : f1_look_L12 o0 o1 o2 (x13, xm14) = some K) (hI : ∀ (y0 : Int32) (y1 : zMem), K = .inl (y0, y1) → z_RQ P M_1_look (z_rm 4) (z_mq P ro μo) 0 0 30 [some (zA 1 o0), some (zA 6 o1), some (zA 5 o2), some (zI y0), none] [] y1) (hE : ∀ (z0 : zMem), K = .inr z0 → z_RQ P M_1_look (z_rm 4) (z_mq P ro μo) 0 0 91 [none, none, none, none, none] [] z0)  : z_RQ P M_1_look (z_rm 4) (z_mq P ro μo) 0 0 30 [some (zA 1 o0), some (zA 6 o1), some (zA 5 o2), some (zI x13), none] [] xm14 := by
  unfold f1_look_L12 at h
  replace h := z_h2 h
  refine zr_iload_n (i := 3) d_1_look_30 rfl rfl ?_
  refine zr_aload_n (i := 1) d_1_look_31 rfl rfl ?_
  refine zr_geti d_1_look_32 fw_1_24 (by decide) ?_
  refine zr_icmp_ge (tgt := 91) d_1_look_35 rfl (fun hc15 => ?_) (fun hc15 => ?_)
  · replace h := z_ip h hc15
    refine zr_aload_n (i := 2) d_1_look_38 rfl rfl ?_
    refine zr_iload_n (i := 3) d_1_look_39 rfl rfl ?_
    obtain ⟨q16, hq17, h⟩ := z_bd h
    refine zr_callVi (av := [zI x13]) (st := []) d_1_look_40 mw_5_landlordOf ml_1_30 im_5_landlordOf se_5_landlordOf rfl rfl (Nat.le_of_ble_eq_true rfl) fit_3_2_4 rfl rfl rfl (s5_landlordOf hq17) ?_
    refine zr_istore (i := 4) (l' := [some (zA 1 o0), some (zA 6 o1), some (zA 5 o2), some (zI x13), some (zI q16)]) d_1_look_43 (by decide) rfl ?_
    refine zr_aload_n (i := 0) d_1_look_45 rfl rfl ?_
    refine zr_gets (i' := o0) d_1_look_46 fw_1_9 rfl ?_
    refine zr_iload_n (i := 3) d_1_look_49 rfl rfl ?_
    refine zr_iload d_1_look_50 rfl ?_
    obtain ⟨hb20, h⟩ := z_gd h
    obtain ⟨m18, hm19, h⟩ := z_lt h
    refine zr_iast d_1_look_52 sa_10 rfl hb20 hm19 ?_
    refine zr_iload d_1_look_53 rfl ?_
    obtain ⟨jm30, hT21, h⟩ := z_bd h
    have hJ22 : z_RQ P M_1_look (z_rm 4) (z_mq P ro μo) 0 0 85 [some (zA 1 o0), some (zA 6 o1), some (zA 5 o2), some (zI x13), none] [] jm30 := by
      refine zr_iinc (v := (x13 + (1 : Int32))) (l' := [some (zA 1 o0), some (zA 6 o1), some (zA 5 o2), some (zI (x13 + (1 : Int32))), none]) d_1_look_85 (by decide) rfl rfl rfl ?_
      refine zr_goto (tgt := 30) d_1_look_88 rfl ?_
      obtain rfl := Option.some.inj h
      exact zr_wk2 (hI (x13 + (1 : Int32)) jm30 rfl) ⟨rfl, ⟨rfl, ⟨rfl, ⟨rfl, trivial⟩⟩⟩⟩
    refine zr_if_lt (tgt := 85) d_1_look_55 rfl (fun hc23 => ?_) (fun hc23 => ?_)
    · replace hT21 := z_ip hT21 hc23
      obtain rfl := Option.some.inj hT21
      exact zr_wk2 hJ22 ⟨rfl, ⟨rfl, ⟨rfl, ⟨rfl, trivial⟩⟩⟩⟩
    · replace hT21 := z_im hT21 hc23
      refine zr_aload_n (i := 0) d_1_look_58 rfl rfl ?_
      refine zr_gets (i' := o0) d_1_look_59 fw_1_15 rfl ?_
      refine zr_iload d_1_look_62 rfl ?_
      refine zr_dup2 d_1_look_64 ?_
      obtain ⟨hb24, hT21⟩ := z_gd hT21
      refine zr_iald d_1_look_65 sa_11 rfl hb24 ?_
      refine zr_iconst (v := (1 : Int32)) d_1_look_66 rfl ?_
      refine zr_iadd d_1_look_67 ?_
      obtain ⟨m25, hm26, hT21⟩ := z_lt hT21
      refine zr_iast d_1_look_68 sa_11 rfl hb24 hm26 ?_
      refine zr_aload_n (i := 0) d_1_look_69 rfl rfl ?_
      refine zr_gets (i' := o0) d_1_look_70 fw_1_18 rfl ?_
      refine zr_iload d_1_look_73 rfl ?_
      refine zr_dup2 d_1_look_75 ?_
      refine zr_iald d_1_look_76 sa_12 rfl hb24 ?_
      refine zr_aload_n (i := 1) d_1_look_77 rfl rfl ?_
      refine zr_gets (i' := (2 * o1)) d_1_look_78 fw_1_36 rfl ?_
      refine zr_iload_n (i := 3) d_1_look_81 rfl rfl ?_
      obtain ⟨hb27, hT21⟩ := z_gd hT21
      refine zr_iald d_1_look_82 sa_26 rfl hb27 ?_
      refine zr_iadd d_1_look_83 ?_
      obtain ⟨m28, hm29, hT21⟩ := z_lt hT21
      refine zr_iast d_1_look_84 sa_12 rfl hb24 hm29 ?_
      obtain rfl := Option.some.inj hT21
      exact zr_wk2 hJ22 ⟨rfl, ⟨rfl, ⟨rfl, ⟨rfl, trivial⟩⟩⟩⟩
  · replace h := z_im h hc15
    obtain rfl := Option.some.inj h
    exact zr_wk2 (hE xm14 rfl) trivial
theorem s1_look {P : zP} {μ : zMem} {o0 : Nat} {o1 : Nat} {o2 : Nat} {μ' : zMem} (h : f1_look o0 o1 o2 μ = some μ') : z_Sp P y_1_look M_1_look 4 [zA 1 o0, zA 6 o1, zA 5 o2] μ none μ' := by
  refine z_Sp.of (plainFor_of_name (by decide)) rfl (l0 := [some (zA 1 o0), some (zA 6 o1), some (zA 5 o2), none, none]) rfl (Nat.le_of_ble_eq_true rfl) ?_
  unfold f1_look at h
  refine zr_iconst (v := (0 : Int32)) d_1_look_0 rfl ?_
  refine zr_istore_n (i := 3) (l' := [some (zA 1 o0), some (zA 6 o1), some (zA 5 o2), some (zI (0 : Int32)), none]) d_1_look_1 rfl (by decide) rfl ?_
  obtain ⟨e10, hl11, h⟩ := z_bd h
  refine zr_wk (l' := [some (zA 1 o0), some (zA 6 o1), some (zA 5 o2), some (zI (0 : Int32)), none]) ⟨rfl, ⟨rfl, ⟨rfl, ⟨rfl, trivial⟩⟩⟩⟩ ?_
  refine z_loop (Hd := (z_u2 fun y0 y1 => z_RQ P M_1_look (z_rm 4) (z_mq P none μ') 0 0 2 [some (zA 1 o0), some (zA 6 o1), some (zA 5 o2), some (zI y0), none] [] y1)) (Ex := (fun z0 => z_RQ P M_1_look (z_rm 4) (z_mq P none μ') 0 0 28 [some (zA 1 o0), some (zA 6 o1), some (zA 5 o2), none, none] [] z0)) (fun ⟨x2, xm3⟩ K h hI hE => s1_look_L1 o0 o1 o2 x2 xm3 K h (fun y0 y1 e => hI (y0, y1) e) (fun z0 e => hE z0 e) ) _ _ _ hl11 ?_
  refine zr_iconst (v := (0 : Int32)) d_1_look_28 rfl ?_
  refine zr_istore_n (i := 3) (l' := [some (zA 1 o0), some (zA 6 o1), some (zA 5 o2), some (zI (0 : Int32)), none]) d_1_look_29 rfl (by decide) rfl ?_
  obtain ⟨e31, hl32, h⟩ := z_bd h
  refine zr_wk (l' := [some (zA 1 o0), some (zA 6 o1), some (zA 5 o2), some (zI (0 : Int32)), none]) ⟨rfl, ⟨rfl, ⟨rfl, ⟨rfl, trivial⟩⟩⟩⟩ ?_
  refine z_loop (Hd := (z_u2 fun y0 y1 => z_RQ P M_1_look (z_rm 4) (z_mq P none μ') 0 0 30 [some (zA 1 o0), some (zA 6 o1), some (zA 5 o2), some (zI y0), none] [] y1)) (Ex := (fun z0 => z_RQ P M_1_look (z_rm 4) (z_mq P none μ') 0 0 91 [none, none, none, none, none] [] z0)) (fun ⟨x13, xm14⟩ K h hI hE => s1_look_L12 o0 o1 o2 x13 xm14 K h (fun y0 y1 e => hI (y0, y1) e) (fun z0 e => hE z0 e) ) _ _ _ hl32 ?_
  obtain rfl := Option.some.inj h
  exact ze_v d_1_look_91 rfl
def f1_landlordSeen (o0 : Nat) (a1 : Int32) (μ : zMem) : Option (Int32) :=
  if z_in a1 5 = true then some (μ.1 10 o0 a1.toNatClampNeg) else none
theorem s1_landlordSeen {P : zP} {μ : zMem} {o0 : Nat} {a1 : Int32} {r : Int32} (h : f1_landlordSeen o0 a1 μ = some r) : z_Sp P y_1_landlordSeen M_1_landlordSeen 1 [zA 1 o0, zI a1] μ (some (zI r)) μ := by
  refine z_Sp.of (plainFor_of_name (by decide)) rfl (l0 := [some (zA 1 o0), some (zI a1)]) rfl (Nat.le_of_ble_eq_true rfl) ?_
  unfold f1_landlordSeen at h
  refine zr_aload_n (i := 0) d_1_landlordSeen_0 rfl rfl ?_
  refine zr_gets (i' := o0) d_1_landlordSeen_1 fw_1_9 rfl ?_
  refine zr_iload_n (i := 1) d_1_landlordSeen_4 rfl rfl ?_
  obtain ⟨hb1, h⟩ := z_gd h
  refine zr_iald d_1_landlordSeen_5 sa_10 rfl hb1 ?_
  obtain rfl := Option.some.inj h
  exact ze_i d_1_landlordSeen_6 rfl
def f5_rightsHeld_L1 (o0 : Nat) (a1 : Int32) (μ : zMem) : (Int32 × Int32) → Option ((Int32 × Int32) ⊕ (Int32)) := (z_u2 fun x2 x3 => 
  (if x3 < (5 : Int32) then if z_in x3 5 = true then z_let (x2 + (((μ.1 25 o0 x3.toNatClampNeg) >>> (a1 &&& 31)) &&& (1 : Int32))) fun v6 => some (.inl (v6, (x3 + (1 : Int32)))) else none else some (.inr x2)))
def f5_rightsHeld (o0 : Nat) (a1 : Int32) (μ : zMem) : Option (Int32) :=
  (z_it (f5_rightsHeld_L1 o0 a1 μ) z_fu ((0 : Int32), (0 : Int32))).bind (fun e8 => some e8)
theorem s5_rightsHeld_L1 {P : zP} {ro : Option zV} {μo : zMem} (o0 : Nat) (a1 : Int32) (μ : zMem) (x2 : Int32) (x3 : Int32) (K : (Int32 × Int32) ⊕ (Int32)) (h : f5_rightsHeld_L1 o0 a1 μ (x2, x3) = some K) (hI : ∀ (y0 : Int32) (y1 : Int32), K = .inl (y0, y1) → z_RQ P M_5_rightsHeld (z_rm 1) (z_mq P ro μo) 0 0 4 [some (zA 5 o0), some (zI a1), some (zI y0), some (zI y1)] [] μ) (hE : ∀ (z0 : Int32), K = .inr z0 → z_RQ P M_5_rightsHeld (z_rm 1) (z_mq P ro μo) 0 0 28 [none, none, some (zI z0), none] [] μ)  : z_RQ P M_5_rightsHeld (z_rm 1) (z_mq P ro μo) 0 0 4 [some (zA 5 o0), some (zI a1), some (zI x2), some (zI x3)] [] μ := by
  unfold f5_rightsHeld_L1 at h
  replace h := z_h2 h
  refine zr_iload_n (i := 3) d_5_rightsHeld_4 rfl rfl ?_
  refine zr_iconst (v := (5 : Int32)) d_5_rightsHeld_5 rfl ?_
  refine zr_icmp_ge (tgt := 28) d_5_rightsHeld_6 rfl (fun hc4 => ?_) (fun hc4 => ?_)
  · replace h := z_ip h hc4
    refine zr_iload_n (i := 2) d_5_rightsHeld_9 rfl rfl ?_
    refine zr_aload_n (i := 0) d_5_rightsHeld_10 rfl rfl ?_
    refine zr_gets (i' := o0) d_5_rightsHeld_11 fw_5_31 rfl ?_
    refine zr_iload_n (i := 3) d_5_rightsHeld_14 rfl rfl ?_
    obtain ⟨hb5, h⟩ := z_gd h
    refine zr_iald d_5_rightsHeld_15 sa_25 rfl hb5 ?_
    refine zr_iload_n (i := 1) d_5_rightsHeld_16 rfl rfl ?_
    refine zr_ishr d_5_rightsHeld_17 ?_
    refine zr_iconst (v := (1 : Int32)) d_5_rightsHeld_18 rfl ?_
    refine zr_iand d_5_rightsHeld_19 ?_
    refine zr_iadd d_5_rightsHeld_20 ?_
    obtain ⟨v6, hv7, h⟩ := z_lt h
    refine zr_nm hv7 ?_
    refine zr_istore_n (i := 2) (l' := [some (zA 5 o0), some (zI a1), some (zI v6), some (zI x3)]) d_5_rightsHeld_21 rfl (by decide) rfl ?_
    refine zr_iinc (v := (x3 + (1 : Int32))) (l' := [some (zA 5 o0), some (zI a1), some (zI v6), some (zI (x3 + (1 : Int32)))]) d_5_rightsHeld_22 (by decide) rfl rfl rfl ?_
    refine zr_goto (tgt := 4) d_5_rightsHeld_25 rfl ?_
    obtain rfl := Option.some.inj h
    exact zr_wk2 (hI v6 (x3 + (1 : Int32)) rfl) ⟨rfl, ⟨rfl, ⟨rfl, ⟨rfl, trivial⟩⟩⟩⟩
  · replace h := z_im h hc4
    obtain rfl := Option.some.inj h
    exact zr_wk2 (hE x2 rfl) ⟨rfl, trivial⟩
theorem s5_rightsHeld {P : zP} {μ : zMem} {o0 : Nat} {a1 : Int32} {r : Int32} (h : f5_rightsHeld o0 a1 μ = some r) : z_Sp P y_5_rightsHeld M_5_rightsHeld 1 [zA 5 o0, zI a1] μ (some (zI r)) μ := by
  refine z_Sp.of (plainFor_of_name (by decide)) rfl (l0 := [some (zA 5 o0), some (zI a1), none, none]) rfl (Nat.le_of_ble_eq_true rfl) ?_
  unfold f5_rightsHeld at h
  refine zr_iconst (v := (0 : Int32)) d_5_rightsHeld_0 rfl ?_
  refine zr_istore_n (i := 2) (l' := [some (zA 5 o0), some (zI a1), some (zI (0 : Int32)), none]) d_5_rightsHeld_1 rfl (by decide) rfl ?_
  refine zr_iconst (v := (0 : Int32)) d_5_rightsHeld_2 rfl ?_
  refine zr_istore_n (i := 3) (l' := [some (zA 5 o0), some (zI a1), some (zI (0 : Int32)), some (zI (0 : Int32))]) d_5_rightsHeld_3 rfl (by decide) rfl ?_
  obtain ⟨e8, hl9, h⟩ := z_bd h
  refine zr_wk (l' := [some (zA 5 o0), some (zI a1), some (zI (0 : Int32)), some (zI (0 : Int32))]) ⟨rfl, ⟨rfl, ⟨rfl, ⟨rfl, trivial⟩⟩⟩⟩ ?_
  refine z_loop (Hd := (z_u2 fun y0 y1 => z_RQ P M_5_rightsHeld (z_rm 1) (z_mq P (some (zI r)) μ) 0 0 4 [some (zA 5 o0), some (zI a1), some (zI y0), some (zI y1)] [] μ)) (Ex := (fun z0 => z_RQ P M_5_rightsHeld (z_rm 1) (z_mq P (some (zI r)) μ) 0 0 28 [none, none, some (zI z0), none] [] μ)) (fun ⟨x2, x3⟩ K h hI hE => s5_rightsHeld_L1 o0 a1 μ x2 x3 K h (fun y0 y1 e => hI (y0, y1) e) (fun z0 e => hE z0 e) ) _ _ _ hl9 ?_
  refine zr_iload_n (i := 2) d_5_rightsHeld_28 rfl rfl ?_
  obtain rfl := Option.some.inj h
  exact ze_i d_5_rightsHeld_29 rfl
def fj6_bitCount_0f7a4 (a0 : Int32) : Int32 :=
  z_let (a0 - ((a0.toUInt32 >>> ((1 : Int32).toUInt32 &&& Int32.toUInt32 31)).toInt32 &&& (1431655765 : Int32))) fun v1 => z_let ((v1 &&& (858993459 : Int32)) + ((v1.toUInt32 >>> ((2 : Int32).toUInt32 &&& Int32.toUInt32 31)).toInt32 &&& (858993459 : Int32))) fun v3 => z_let ((v3 + (v3.toUInt32 >>> ((4 : Int32).toUInt32 &&& Int32.toUInt32 31)).toInt32) &&& (252645135 : Int32)) fun v5 => z_let (v5 + (v5.toUInt32 >>> ((8 : Int32).toUInt32 &&& Int32.toUInt32 31)).toInt32) fun v7 => z_let (v7 + (v7.toUInt32 >>> ((16 : Int32).toUInt32 &&& Int32.toUInt32 31)).toInt32) fun v9 => (v9 &&& (63 : Int32))
theorem sj6_bitCount_0f7a4 {P : zP} {μ : zMem} {a0 : Int32} {r : Int32} (h : fj6_bitCount_0f7a4 a0 = r) : z_Sp P y_j6_bitCount_0f7a4 M_j6_bitCount_0f7a4 1 [zI a0] μ (some (zI r)) μ := by
  refine z_Sp.of (by decide +kernel) rfl (l0 := [some (zI a0)]) rfl (Nat.le_of_ble_eq_true rfl) ?_
  unfold fj6_bitCount_0f7a4 at h
  refine zr_iload_n (i := 0) d_j6_bitCount_0f7a4_0 rfl rfl ?_
  refine zr_iload_n (i := 0) d_j6_bitCount_0f7a4_1 rfl rfl ?_
  refine zr_iconst (v := (1 : Int32)) d_j6_bitCount_0f7a4_2 rfl ?_
  refine zr_iushr d_j6_bitCount_0f7a4_3 ?_
  refine zr_ldcw (v := (1431655765 : Int32)) d_j6_bitCount_0f7a4_4 kc_J5_265 ?_
  refine zr_iand d_j6_bitCount_0f7a4_7 ?_
  refine zr_isub d_j6_bitCount_0f7a4_8 ?_
  obtain ⟨v1, hv2, h⟩ := z_lt h
  refine zr_nm hv2 ?_
  refine zr_istore_n (i := 0) (l' := [some (zI v1)]) d_j6_bitCount_0f7a4_9 rfl (by decide) rfl ?_
  refine zr_iload_n (i := 0) d_j6_bitCount_0f7a4_10 rfl rfl ?_
  refine zr_ldcw (v := (858993459 : Int32)) d_j6_bitCount_0f7a4_11 kc_J5_266 ?_
  refine zr_iand d_j6_bitCount_0f7a4_14 ?_
  refine zr_iload_n (i := 0) d_j6_bitCount_0f7a4_15 rfl rfl ?_
  refine zr_iconst (v := (2 : Int32)) d_j6_bitCount_0f7a4_16 rfl ?_
  refine zr_iushr d_j6_bitCount_0f7a4_17 ?_
  refine zr_ldcw (v := (858993459 : Int32)) d_j6_bitCount_0f7a4_18 kc_J5_266 ?_
  refine zr_iand d_j6_bitCount_0f7a4_21 ?_
  refine zr_iadd d_j6_bitCount_0f7a4_22 ?_
  obtain ⟨v3, hv4, h⟩ := z_lt h
  refine zr_nm hv4 ?_
  refine zr_istore_n (i := 0) (l' := [some (zI v3)]) d_j6_bitCount_0f7a4_23 rfl (by decide) rfl ?_
  refine zr_iload_n (i := 0) d_j6_bitCount_0f7a4_24 rfl rfl ?_
  refine zr_iload_n (i := 0) d_j6_bitCount_0f7a4_25 rfl rfl ?_
  refine zr_iconst (v := (4 : Int32)) d_j6_bitCount_0f7a4_26 rfl ?_
  refine zr_iushr d_j6_bitCount_0f7a4_27 ?_
  refine zr_iadd d_j6_bitCount_0f7a4_28 ?_
  refine zr_ldcw (v := (252645135 : Int32)) d_j6_bitCount_0f7a4_29 kc_J5_267 ?_
  refine zr_iand d_j6_bitCount_0f7a4_32 ?_
  obtain ⟨v5, hv6, h⟩ := z_lt h
  refine zr_nm hv6 ?_
  refine zr_istore_n (i := 0) (l' := [some (zI v5)]) d_j6_bitCount_0f7a4_33 rfl (by decide) rfl ?_
  refine zr_iload_n (i := 0) d_j6_bitCount_0f7a4_34 rfl rfl ?_
  refine zr_iload_n (i := 0) d_j6_bitCount_0f7a4_35 rfl rfl ?_
  refine zr_bipush (v := (8 : Int32)) d_j6_bitCount_0f7a4_36 rfl ?_
  refine zr_iushr d_j6_bitCount_0f7a4_38 ?_
  refine zr_iadd d_j6_bitCount_0f7a4_39 ?_
  obtain ⟨v7, hv8, h⟩ := z_lt h
  refine zr_nm hv8 ?_
  refine zr_istore_n (i := 0) (l' := [some (zI v7)]) d_j6_bitCount_0f7a4_40 rfl (by decide) rfl ?_
  refine zr_iload_n (i := 0) d_j6_bitCount_0f7a4_41 rfl rfl ?_
  refine zr_iload_n (i := 0) d_j6_bitCount_0f7a4_42 rfl rfl ?_
  refine zr_bipush (v := (16 : Int32)) d_j6_bitCount_0f7a4_43 rfl ?_
  refine zr_iushr d_j6_bitCount_0f7a4_45 ?_
  refine zr_iadd d_j6_bitCount_0f7a4_46 ?_
  obtain ⟨v9, hv10, h⟩ := z_lt h
  refine zr_nm hv10 ?_
  refine zr_istore_n (i := 0) (l' := [some (zI v9)]) d_j6_bitCount_0f7a4_47 rfl (by decide) rfl ?_
  refine zr_iload_n (i := 0) d_j6_bitCount_0f7a4_48 rfl rfl ?_
  refine zr_bipush (v := (63 : Int32)) d_j6_bitCount_0f7a4_49 rfl ?_
  refine zr_iand d_j6_bitCount_0f7a4_51 ?_
  obtain rfl := h
  exact ze_i d_j6_bitCount_0f7a4_52 rfl
def f1_variableOf (o0 : Nat) (o1 : Nat) (o2 : Nat) (a3 : Int32) (a4 : Int32) (a5 : Int32) (μ : zMem) : Option (Int32) :=
  (if a3 = (0 : Int32) then (if a5 = (-1 : Int32) then if z_in a4 7 = true then some (μ.1 12 o0 a4.toNatClampNeg) else none else if z_in a5 (z_len 26 (2 * o1)) = true then some (μ.1 26 (2 * o1) a5.toNatClampNeg) else none) else (if a3 = (1 : Int32) then if z_in a4 7 = true then some (μ.1 24 o2 a4.toNatClampNeg) else none else (if a3 = (2 : Int32) then if z_in a4 7 = true then some (μ.1 22 o2 a4.toNatClampNeg) else none else (if a3 = (3 : Int32) then if z_in a4 7 = true then some (μ.1 23 o2 a4.toNatClampNeg) else none else (if a3 = (4 : Int32) then some (μ.1 5 o2 0) else (if a3 = (5 : Int32) then (f5_rightsHeld o2 a4 μ).bind (fun q13 => some q13) else (if a3 = (6 : Int32) then if z_in a4 7 = true then some (μ.1 11 o0 a4.toNatClampNeg) else none else (if a3 = (7 : Int32) then some a4 else some (fj6_bitCount_0f7a4 (μ.1 5 o2 1))))))))))
theorem s1_variableOf {P : zP} {μ : zMem} {o0 : Nat} {o1 : Nat} {o2 : Nat} {a3 : Int32} {a4 : Int32} {a5 : Int32} {r : Int32} (h : f1_variableOf o0 o1 o2 a3 a4 a5 μ = some r) : z_Sp P y_1_variableOf M_1_variableOf 2 [zA 1 o0, zA 6 o1, zA 5 o2, zI a3, zI a4, zI a5] μ (some (zI r)) μ := by
  refine z_Sp.of (plainFor_of_name (by decide)) rfl (l0 := [some (zA 1 o0), some (zA 6 o1), some (zA 5 o2), some (zI a3), some (zI a4), some (zI a5)]) rfl (Nat.le_of_ble_eq_true rfl) ?_
  unfold f1_variableOf at h
  refine zr_iload_n (i := 3) d_1_variableOf_0 rfl rfl ?_
  by_cases hs1 : a3 = (0 : Int32)
  · replace h := z_ip h hs1
    refine zr_tbl (off := 47) (tgt := 48) hs1 d_1_variableOf_1 (by decide) (by decide) rfl rfl ?_
    refine zr_iload d_1_variableOf_48 rfl ?_
    refine zr_iconst (v := (-1 : Int32)) d_1_variableOf_50 rfl ?_
    refine zr_icmp_ne (tgt := 64) d_1_variableOf_51 rfl (fun hc2 => ?_) (fun hc2 => ?_)
    · replace h := z_ip h hc2
      refine zr_aload_n (i := 0) d_1_variableOf_54 rfl rfl ?_
      refine zr_gets (i' := o0) d_1_variableOf_55 fw_1_18 rfl ?_
      refine zr_iload d_1_variableOf_58 rfl ?_
      obtain ⟨hb3, h⟩ := z_gd h
      refine zr_iald d_1_variableOf_60 sa_12 rfl hb3 ?_
      refine zr_goto (tgt := 71) d_1_variableOf_61 rfl ?_
      obtain rfl := Option.some.inj h
      exact ze_i d_1_variableOf_71 rfl
    · replace h := z_im h hc2
      refine zr_aload_n (i := 1) d_1_variableOf_64 rfl rfl ?_
      refine zr_gets (i' := (2 * o1)) d_1_variableOf_65 fw_1_36 rfl ?_
      refine zr_iload d_1_variableOf_68 rfl ?_
      obtain ⟨hb4, h⟩ := z_gd h
      refine zr_iald d_1_variableOf_70 sa_26 rfl hb4 ?_
      obtain rfl := Option.some.inj h
      exact ze_i d_1_variableOf_71 rfl
  · replace h := z_im h hs1
    by_cases hs5 : a3 = (1 : Int32)
    · replace h := z_ip h hs5
      refine zr_tbl (off := 71) (tgt := 72) hs5 d_1_variableOf_1 (by decide) (by decide) rfl rfl ?_
      refine zr_aload_n (i := 2) d_1_variableOf_72 rfl rfl ?_
      refine zr_gets (i' := o2) d_1_variableOf_73 fw_1_68 rfl ?_
      refine zr_iload d_1_variableOf_76 rfl ?_
      obtain ⟨hb6, h⟩ := z_gd h
      refine zr_iald d_1_variableOf_78 sa_24 rfl hb6 ?_
      obtain rfl := Option.some.inj h
      exact ze_i d_1_variableOf_79 rfl
    · replace h := z_im h hs5
      by_cases hs7 : a3 = (2 : Int32)
      · replace h := z_ip h hs7
        refine zr_tbl (off := 79) (tgt := 80) hs7 d_1_variableOf_1 (by decide) (by decide) rfl rfl ?_
        refine zr_aload_n (i := 2) d_1_variableOf_80 rfl rfl ?_
        refine zr_gets (i' := o2) d_1_variableOf_81 fw_1_71 rfl ?_
        refine zr_iload d_1_variableOf_84 rfl ?_
        obtain ⟨hb8, h⟩ := z_gd h
        refine zr_iald d_1_variableOf_86 sa_22 rfl hb8 ?_
        obtain rfl := Option.some.inj h
        exact ze_i d_1_variableOf_87 rfl
      · replace h := z_im h hs7
        by_cases hs9 : a3 = (3 : Int32)
        · replace h := z_ip h hs9
          refine zr_tbl (off := 87) (tgt := 88) hs9 d_1_variableOf_1 (by decide) (by decide) rfl rfl ?_
          refine zr_aload_n (i := 2) d_1_variableOf_88 rfl rfl ?_
          refine zr_gets (i' := o2) d_1_variableOf_89 fw_1_74 rfl ?_
          refine zr_iload d_1_variableOf_92 rfl ?_
          obtain ⟨hb10, h⟩ := z_gd h
          refine zr_iald d_1_variableOf_94 sa_23 rfl hb10 ?_
          obtain rfl := Option.some.inj h
          exact ze_i d_1_variableOf_95 rfl
        · replace h := z_im h hs9
          by_cases hs11 : a3 = (4 : Int32)
          · replace h := z_ip h hs11
            refine zr_tbl (off := 95) (tgt := 96) hs11 d_1_variableOf_1 (by decide) (by decide) rfl rfl ?_
            refine zr_aload_n (i := 2) d_1_variableOf_96 rfl rfl ?_
            refine zr_geti d_1_variableOf_97 fw_1_77 (by decide) ?_
            obtain rfl := Option.some.inj h
            exact ze_i d_1_variableOf_100 rfl
          · replace h := z_im h hs11
            by_cases hs12 : a3 = (5 : Int32)
            · replace h := z_ip h hs12
              refine zr_tbl (off := 100) (tgt := 101) hs12 d_1_variableOf_1 (by decide) (by decide) rfl rfl ?_
              refine zr_aload_n (i := 2) d_1_variableOf_101 rfl rfl ?_
              refine zr_iload d_1_variableOf_102 rfl ?_
              obtain ⟨q13, hq14, h⟩ := z_bd h
              refine zr_callVi (av := [zI a4]) (st := []) d_1_variableOf_104 mw_5_rightsHeld ml_1_80 im_5_rightsHeld se_5_rightsHeld rfl rfl (Nat.le_of_ble_eq_true rfl) fit_1_4_2 rfl rfl rfl (s5_rightsHeld hq14) ?_
              obtain rfl := Option.some.inj h
              exact ze_i d_1_variableOf_107 rfl
            · replace h := z_im h hs12
              by_cases hs15 : a3 = (6 : Int32)
              · replace h := z_ip h hs15
                refine zr_tbl (off := 107) (tgt := 108) hs15 d_1_variableOf_1 (by decide) (by decide) rfl rfl ?_
                refine zr_aload_n (i := 0) d_1_variableOf_108 rfl rfl ?_
                refine zr_gets (i' := o0) d_1_variableOf_109 fw_1_15 rfl ?_
                refine zr_iload d_1_variableOf_112 rfl ?_
                obtain ⟨hb16, h⟩ := z_gd h
                refine zr_iald d_1_variableOf_114 sa_11 rfl hb16 ?_
                obtain rfl := Option.some.inj h
                exact ze_i d_1_variableOf_115 rfl
              · replace h := z_im h hs15
                by_cases hs17 : a3 = (7 : Int32)
                · replace h := z_ip h hs17
                  refine zr_tbl (off := 115) (tgt := 116) hs17 d_1_variableOf_1 (by decide) (by decide) rfl rfl ?_
                  refine zr_iload d_1_variableOf_116 rfl ?_
                  obtain rfl := Option.some.inj h
                  exact ze_i d_1_variableOf_118 rfl
                · replace h := z_im h hs17
                  have hs1t := z_ti hs1
                  have hs5t := z_ti hs5
                  have hs7t := z_ti hs7
                  have hs9t := z_ti hs9
                  have hs11t := z_ti hs11
                  have hs12t := z_ti hs12
                  have hs15t := z_ti hs15
                  have hs17t := z_ti hs17
                  simp only [show ((0 : Int32)).toInt = 0 from rfl, show ((1 : Int32)).toInt = 1 from rfl, show ((2 : Int32)).toInt = 2 from rfl, show ((3 : Int32)).toInt = 3 from rfl, show ((4 : Int32)).toInt = 4 from rfl, show ((5 : Int32)).toInt = 5 from rfl, show ((6 : Int32)).toInt = 6 from rfl, show ((7 : Int32)).toInt = 7 from rfl] at hs1t hs5t hs7t hs9t hs11t hs12t hs15t hs17t
                  refine zr_tableOut (tgt := 119) d_1_variableOf_1 (by omega) rfl ?_
                  refine zr_aload_n (i := 2) d_1_variableOf_119 rfl rfl ?_
                  refine zr_geti d_1_variableOf_120 fw_1_83 (by decide) ?_
                  refine zr_callSi (av := [zI (μ.1 5 o2 1)]) (st := []) d_1_variableOf_123 mw_j6_bitCount_0f7a4 ml_1_86 is_j6_bitCount_0f7a4 rfl rfl (Nat.le_of_ble_eq_true rfl) fit_1_1_2 (sj6_bitCount_0f7a4 rfl) ?_
                  obtain rfl := Option.some.inj h
                  exact ze_i d_1_variableOf_126 rfl
def f1_reckon (a0 : Int32) (a1 : Int32) (a2 : Int32) : Option (Int32) :=
  (if a0 = (-13 : Int32) then some (a1 * a2) else (if a0 = (-12 : Int32) then some (a1 - a2) else (if a0 = (-11 : Int32) then some (a1 + a2) else (if a2 = 0 then some (0 : Int32) else if a2 = 0 then none else some (a1 / a2)))))
theorem s1_reckon {P : zP} {μ : zMem} {a0 : Int32} {a1 : Int32} {a2 : Int32} {r : Int32} (h : f1_reckon a0 a1 a2 = some r) : z_Sp P y_1_reckon M_1_reckon 1 [zI a0, zI a1, zI a2] μ (some (zI r)) μ := by
  refine z_Sp.of (plainFor_of_name (by decide)) rfl (l0 := [some (zI a0), some (zI a1), some (zI a2)]) rfl (Nat.le_of_ble_eq_true rfl) ?_
  unfold f1_reckon at h
  refine zr_iload_n (i := 0) d_1_reckon_0 rfl rfl ?_
  by_cases hs1 : a0 = (-13 : Int32)
  · replace h := z_ip h hs1
    refine zr_tbl (off := 35) (tgt := 36) hs1 d_1_reckon_1 (by decide) (by decide) rfl rfl ?_
    refine zr_iload_n (i := 1) d_1_reckon_36 rfl rfl ?_
    refine zr_iload_n (i := 2) d_1_reckon_37 rfl rfl ?_
    refine zr_imul d_1_reckon_38 ?_
    obtain rfl := Option.some.inj h
    exact ze_i d_1_reckon_39 rfl
  · replace h := z_im h hs1
    by_cases hs2 : a0 = (-12 : Int32)
    · replace h := z_ip h hs2
      refine zr_tbl (off := 31) (tgt := 32) hs2 d_1_reckon_1 (by decide) (by decide) rfl rfl ?_
      refine zr_iload_n (i := 1) d_1_reckon_32 rfl rfl ?_
      refine zr_iload_n (i := 2) d_1_reckon_33 rfl rfl ?_
      refine zr_isub d_1_reckon_34 ?_
      obtain rfl := Option.some.inj h
      exact ze_i d_1_reckon_35 rfl
    · replace h := z_im h hs2
      by_cases hs3 : a0 = (-11 : Int32)
      · replace h := z_ip h hs3
        refine zr_tbl (off := 27) (tgt := 28) hs3 d_1_reckon_1 (by decide) (by decide) rfl rfl ?_
        refine zr_iload_n (i := 1) d_1_reckon_28 rfl rfl ?_
        refine zr_iload_n (i := 2) d_1_reckon_29 rfl rfl ?_
        refine zr_iadd d_1_reckon_30 ?_
        obtain rfl := Option.some.inj h
        exact ze_i d_1_reckon_31 rfl
      · replace h := z_im h hs3
        have hs1t := z_ti hs1
        have hs2t := z_ti hs2
        have hs3t := z_ti hs3
        simp only [show ((-13 : Int32)).toInt = (-13) from rfl, show ((-12 : Int32)).toInt = (-12) from rfl, show ((-11 : Int32)).toInt = (-11) from rfl] at hs1t hs2t hs3t
        refine zr_tableOut (tgt := 40) d_1_reckon_1 (by omega) rfl ?_
        refine zr_iload_n (i := 2) d_1_reckon_40 rfl rfl ?_
        refine zr_if_ne (tgt := 48) d_1_reckon_41 rfl (fun hc4 => ?_) (fun hc4 => ?_)
        · replace h := z_ip h hc4
          refine zr_iconst (v := (0 : Int32)) d_1_reckon_44 rfl ?_
          refine zr_goto (tgt := 51) d_1_reckon_45 rfl ?_
          obtain rfl := Option.some.inj h
          exact ze_i d_1_reckon_51 rfl
        · replace h := z_im h hc4
          refine zr_iload_n (i := 1) d_1_reckon_48 rfl rfl ?_
          refine zr_iload_n (i := 2) d_1_reckon_49 rfl rfl ?_
          obtain ⟨hz5, h⟩ := z_nz h
          refine zr_idiv d_1_reckon_50 hz5 ?_
          obtain rfl := Option.some.inj h
          exact ze_i d_1_reckon_51 rfl
def f1_valueOf_L4 (o0 : Nat) (o1 : Nat) (o2 : Nat) (a4 : Int32) (a5 : Int32) : (Int32 × Int32 × Int32 × zMem) → Option ((Int32 × Int32 × Int32 × zMem) ⊕ ((zMem) ⊕ (Int32 × zMem))) := (z_u4 fun x5 x6 x7 xm8 => 
  (if x7 < (404 : Int32) then (if x5 < 0 then some (.inr (.inl xm8)) else (if x5 < (xm8.1 6 o1 9) then if z_in x5 404 = true then z_let (xm8.1 29 o1 x5.toNatClampNeg) fun v13 => (if (-10 : Int32) < v13 then (if x6 < (16 : Int32) then ((if v13 < 0 then (f1_variableOf o0 o1 o2 ((-1 : Int32) - v13) a4 a5 xm8).bind (fun q20 => some q20) else some v13) : Option (Int32)).bind (fun j22 => if z_in x6 16 = true then z_let (z_sI xm8 13 o0 x6.toNatClampNeg j22) fun m23 => some (.inl ((x5 + (1 : Int32)), (x6 + (1 : Int32)), (x7 + (1 : Int32)), m23)) else none) else some (.inr (.inr ((0 : Int32), xm8)))) else (if v13 = (-15 : Int32) then (if 0 < x6 then if z_in (x6 - (1 : Int32)) 16 = true then some (.inr (.inr ((xm8.1 13 o0 (x6 - (1 : Int32)).toNatClampNeg), xm8))) else none else some (.inr (.inr ((0 : Int32), xm8)))) else (if x6 < (2 : Int32) then some (.inr (.inr ((0 : Int32), xm8))) else (if (-100 : Int32) < v13 then (if v13 = (-14 : Int32) then if z_in (x6 - (1 : Int32)) 16 = true then (if (xm8.1 13 o0 (x6 - (1 : Int32)).toNatClampNeg) = 0 then some (.inr (.inr ((0 : Int32), xm8))) else if z_in ((x6 + (-1 : Int32)) - (1 : Int32)) 16 = true then if z_in (x6 + (-1 : Int32)) 16 = true then (f1_reckon v13 (xm8.1 13 o0 ((x6 + (-1 : Int32)) - (1 : Int32)).toNatClampNeg) (xm8.1 13 o0 (x6 + (-1 : Int32)).toNatClampNeg)).bind (fun q36 => z_let (z_sI xm8 13 o0 ((x6 + (-1 : Int32)) - (1 : Int32)).toNatClampNeg q36) fun m38 => some (.inl ((x5 + (1 : Int32)), (x6 + (-1 : Int32)), (x7 + (1 : Int32)), m38))) else none else none) else none else if z_in ((x6 + (-1 : Int32)) - (1 : Int32)) 16 = true then if z_in (x6 + (-1 : Int32)) 16 = true then (f1_reckon v13 (xm8.1 13 o0 ((x6 + (-1 : Int32)) - (1 : Int32)).toNatClampNeg) (xm8.1 13 o0 (x6 + (-1 : Int32)).toNatClampNeg)).bind (fun q42 => z_let (z_sI xm8 13 o0 ((x6 + (-1 : Int32)) - (1 : Int32)).toNatClampNeg q42) fun m44 => some (.inl ((x5 + (1 : Int32)), (x6 + (-1 : Int32)), (x7 + (1 : Int32)), m44))) else none else none) else if z_in (x6 + (-2 : Int32)) 16 = true then if z_in ((x6 + (-2 : Int32)) + (1 : Int32)) 16 = true then ((if (xm8.1 13 o0 (x6 + (-2 : Int32)).toNatClampNeg) < (xm8.1 13 o0 ((x6 + (-2 : Int32)) + (1 : Int32)).toNatClampNeg) then some (x5 + (1 : Int32)) else some ((-100 : Int32) - v13)) : Option (Int32)).bind (fun j51 => some (.inl (j51, (x6 + (-2 : Int32)), (x7 + (1 : Int32)), xm8))) else none else none)))) else none else some (.inr (.inl xm8)))) else some (.inr (.inl xm8))))
def f1_valueOf (o0 : Nat) (o1 : Nat) (o2 : Nat) (a3 : Int32) (a4 : Int32) (a5 : Int32) (μ : zMem) : Option (Int32 × zMem) :=
  if z_in a3 4 = true then z_let (μ.1 30 o1 a3.toNatClampNeg) fun v2 => (z_it (f1_valueOf_L4 o0 o1 o2 a4 a5) z_fu (v2, (0 : Int32), (0 : Int32), μ)).bind (Sum.elim (fun e52 => some ((0 : Int32), e52)) (z_u2 fun qr54 qr55 => some (qr54, qr55))) else none
theorem s1_valueOf_L4 {P : zP} {ro : Option zV} {μo : zMem} (o0 : Nat) (o1 : Nat) (o2 : Nat) (a4 : Int32) (a5 : Int32) (x5 : Int32) (x6 : Int32) (x7 : Int32) (xm8 : zMem) (K : (Int32 × Int32 × Int32 × zMem) ⊕ ((zMem) ⊕ (Int32 × zMem))) (h : f1_valueOf_L4 o0 o1 o2 a4 a5 (x5, x6, x7, xm8) = some K) (hI : ∀ (y0 : Int32) (y1 : Int32) (y2 : Int32) (y3 : zMem), K = .inl (y0, y1, y2, y3) → z_RQ P M_1_valueOf (z_rm 3) (z_mq P ro μo) 0 0 14 [some (zA 1 o0), some (zA 6 o1), some (zA 5 o2), none, some (zI a4), some (zI a5), some (zI y0), some (zI y1), some (zI y2), none] [] y3) (hE : ∀ (z0 : zMem), K = .inr (.inl z0) → z_RQ P M_1_valueOf (z_rm 3) (z_mq P ro μo) 0 0 239 [none, none, none, none, none, none, none, none, none, none] [] z0) (hR : ∀ (qr : Int32) (qm : zMem), K = .inr (.inr (qr, qm)) → ro = some (zI qr) ∧ μo = qm) : z_RQ P M_1_valueOf (z_rm 3) (z_mq P ro μo) 0 0 14 [some (zA 1 o0), some (zA 6 o1), some (zA 5 o2), none, some (zI a4), some (zI a5), some (zI x5), some (zI x6), some (zI x7), none] [] xm8 := by
  unfold f1_valueOf_L4 at h
  replace h := z_h4 h
  refine zr_iload d_1_valueOf_14 rfl ?_
  refine zr_sipush (v := (404 : Int32)) d_1_valueOf_16 rfl ?_
  refine zr_icmp_ge (tgt := 239) d_1_valueOf_19 rfl (fun hc9 => ?_) (fun hc9 => ?_)
  · replace h := z_ip h hc9
    refine zr_iload d_1_valueOf_22 rfl ?_
    refine zr_if_lt (tgt := 239) d_1_valueOf_24 rfl (fun hc10 => ?_) (fun hc10 => ?_)
    · replace h := z_ip h hc10
      obtain rfl := Option.some.inj h
      exact zr_wk2 (hE xm8 rfl) trivial
    · replace h := z_im h hc10
      refine zr_iload d_1_valueOf_27 rfl ?_
      refine zr_aload_n (i := 1) d_1_valueOf_29 rfl rfl ?_
      refine zr_geti d_1_valueOf_30 fw_1_55 (by decide) ?_
      refine zr_icmp_ge (tgt := 239) d_1_valueOf_33 rfl (fun hc11 => ?_) (fun hc11 => ?_)
      · replace h := z_ip h hc11
        refine zr_aload_n (i := 1) d_1_valueOf_36 rfl rfl ?_
        refine zr_gets (i' := o1) d_1_valueOf_37 fw_1_58 rfl ?_
        refine zr_iload d_1_valueOf_40 rfl ?_
        obtain ⟨hb12, h⟩ := z_gd h
        refine zr_iald d_1_valueOf_42 sa_29 rfl hb12 ?_
        obtain ⟨v13, hv14, h⟩ := z_lt h
        refine zr_nm hv14 ?_
        refine zr_istore (i := 9) (l' := [some (zA 1 o0), some (zA 6 o1), some (zA 5 o2), none, some (zI a4), some (zI a5), some (zI x5), some (zI x6), some (zI x7), some (zI v13)]) d_1_valueOf_43 (by decide) rfl ?_
        refine zr_iinc (v := (x5 + (1 : Int32))) (l' := [some (zA 1 o0), some (zA 6 o1), some (zA 5 o2), none, some (zI a4), some (zI a5), some (zI (x5 + (1 : Int32))), some (zI x6), some (zI x7), some (zI v13)]) d_1_valueOf_45 (by decide) rfl rfl rfl ?_
        refine zr_iload d_1_valueOf_48 rfl ?_
        refine zr_bipush (v := (-10 : Int32)) d_1_valueOf_50 (by decide) ?_
        refine zr_icmp_le (tgt := 101) d_1_valueOf_52 rfl (fun hc15 => ?_) (fun hc15 => ?_)
        · replace h := z_ip h hc15
          refine zr_iload d_1_valueOf_55 rfl ?_
          refine zr_bipush (v := (16 : Int32)) d_1_valueOf_57 rfl ?_
          refine zr_icmp_lt (tgt := 64) d_1_valueOf_59 rfl (fun hc16 => ?_) (fun hc16 => ?_)
          · replace h := z_ip h hc16
            refine zr_aload_n (i := 0) d_1_valueOf_64 rfl rfl ?_
            refine zr_gets (i' := o0) d_1_valueOf_65 fw_1_21 rfl ?_
            refine zr_iload d_1_valueOf_68 rfl ?_
            refine zr_iload d_1_valueOf_70 rfl ?_
            obtain ⟨j22, hT17, h⟩ := z_bd h
            have hJ18 : z_RQ P M_1_valueOf (z_rm 3) (z_mq P ro μo) 0 0 94 [some (zA 1 o0), some (zA 6 o1), some (zA 5 o2), none, some (zI a4), some (zI a5), some (zI (x5 + (1 : Int32))), some (zI x6), some (zI x7), none] [zI j22, zI x6, zA 13 o0] xm8 := by
              obtain ⟨hb25, h⟩ := z_gd h
              obtain ⟨m23, hm24, h⟩ := z_lt h
              refine zr_iast d_1_valueOf_94 sa_13 rfl hb25 hm24 ?_
              refine zr_iinc (v := (x6 + (1 : Int32))) (l' := [some (zA 1 o0), some (zA 6 o1), some (zA 5 o2), none, some (zI a4), some (zI a5), some (zI (x5 + (1 : Int32))), some (zI (x6 + (1 : Int32))), some (zI x7), none]) d_1_valueOf_95 (by decide) rfl rfl rfl ?_
              refine zr_goto (tgt := 233) d_1_valueOf_98 rfl ?_
              refine zr_iinc (v := (x7 + (1 : Int32))) (l' := [some (zA 1 o0), some (zA 6 o1), some (zA 5 o2), none, some (zI a4), some (zI a5), some (zI (x5 + (1 : Int32))), some (zI (x6 + (1 : Int32))), some (zI (x7 + (1 : Int32))), none]) d_1_valueOf_233 (by decide) rfl rfl rfl ?_
              refine zr_goto (tgt := 14) d_1_valueOf_236 rfl ?_
              obtain rfl := Option.some.inj h
              exact zr_wk2 (hI (x5 + (1 : Int32)) (x6 + (1 : Int32)) (x7 + (1 : Int32)) m23 rfl) ⟨rfl, ⟨rfl, ⟨rfl, ⟨rfl, ⟨rfl, ⟨rfl, ⟨rfl, ⟨rfl, trivial⟩⟩⟩⟩⟩⟩⟩⟩
            refine zr_if_lt (tgt := 80) d_1_valueOf_72 rfl (fun hc19 => ?_) (fun hc19 => ?_)
            · replace hT17 := z_ip hT17 hc19
              refine zr_aload_n (i := 0) d_1_valueOf_80 rfl rfl ?_
              refine zr_aload_n (i := 1) d_1_valueOf_81 rfl rfl ?_
              refine zr_aload_n (i := 2) d_1_valueOf_82 rfl rfl ?_
              refine zr_iconst (v := (-1 : Int32)) d_1_valueOf_83 rfl ?_
              refine zr_iload d_1_valueOf_84 rfl ?_
              refine zr_isub d_1_valueOf_86 ?_
              refine zr_iload d_1_valueOf_87 rfl ?_
              refine zr_iload d_1_valueOf_89 rfl ?_
              obtain ⟨q20, hq21, hT17⟩ := z_bd hT17
              refine zr_callVi (av := [zA 6 o1, zA 5 o2, zI ((-1 : Int32) - v13), zI a4, zI a5]) (st := [zI x6, zA 13 o0]) d_1_valueOf_91 mw_1_variableOf ml_1_61 im_1_variableOf se_1_variableOf rfl rfl (Nat.le_of_ble_eq_true rfl) fit_2_6_3 rfl rfl rfl (s1_variableOf hq21) ?_
              obtain rfl := Option.some.inj hT17
              exact zr_wk2 hJ18 ⟨rfl, ⟨rfl, ⟨rfl, ⟨rfl, ⟨rfl, ⟨rfl, ⟨rfl, ⟨rfl, trivial⟩⟩⟩⟩⟩⟩⟩⟩
            · replace hT17 := z_im hT17 hc19
              refine zr_iload d_1_valueOf_75 rfl ?_
              refine zr_goto (tgt := 94) d_1_valueOf_77 rfl ?_
              obtain rfl := Option.some.inj hT17
              exact zr_wk2 hJ18 ⟨rfl, ⟨rfl, ⟨rfl, ⟨rfl, ⟨rfl, ⟨rfl, ⟨rfl, ⟨rfl, trivial⟩⟩⟩⟩⟩⟩⟩⟩
          · replace h := z_im h hc16
            refine zr_iconst (v := (0 : Int32)) d_1_valueOf_62 rfl ?_
            obtain rfl := Option.some.inj h
            obtain ⟨rfl, rfl⟩ := hR (0 : Int32) xm8 rfl
            exact ze_i d_1_valueOf_63 rfl
        · replace h := z_im h hc15
          refine zr_iload d_1_valueOf_101 rfl ?_
          refine zr_bipush (v := (-15 : Int32)) d_1_valueOf_103 (by decide) ?_
          refine zr_icmp_ne (tgt := 127) d_1_valueOf_105 rfl (fun hc26 => ?_) (fun hc26 => ?_)
          · replace h := z_ip h hc26
            refine zr_iload d_1_valueOf_108 rfl ?_
            refine zr_if_le (tgt := 125) d_1_valueOf_110 rfl (fun hc27 => ?_) (fun hc27 => ?_)
            · replace h := z_ip h hc27
              refine zr_aload_n (i := 0) d_1_valueOf_113 rfl rfl ?_
              refine zr_gets (i' := o0) d_1_valueOf_114 fw_1_21 rfl ?_
              refine zr_iload d_1_valueOf_117 rfl ?_
              refine zr_iconst (v := (1 : Int32)) d_1_valueOf_119 rfl ?_
              refine zr_isub d_1_valueOf_120 ?_
              obtain ⟨hb28, h⟩ := z_gd h
              refine zr_iald d_1_valueOf_121 sa_13 rfl hb28 ?_
              refine zr_goto (tgt := 126) d_1_valueOf_122 rfl ?_
              obtain rfl := Option.some.inj h
              obtain ⟨rfl, rfl⟩ := hR (xm8.1 13 o0 (x6 - (1 : Int32)).toNatClampNeg) xm8 rfl
              exact ze_i d_1_valueOf_126 rfl
            · replace h := z_im h hc27
              refine zr_iconst (v := (0 : Int32)) d_1_valueOf_125 rfl ?_
              obtain rfl := Option.some.inj h
              obtain ⟨rfl, rfl⟩ := hR (0 : Int32) xm8 rfl
              exact ze_i d_1_valueOf_126 rfl
          · replace h := z_im h hc26
            refine zr_iload d_1_valueOf_127 rfl ?_
            refine zr_iconst (v := (2 : Int32)) d_1_valueOf_129 rfl ?_
            refine zr_icmp_ge (tgt := 135) d_1_valueOf_130 rfl (fun hc29 => ?_) (fun hc29 => ?_)
            · replace h := z_ip h hc29
              refine zr_iconst (v := (0 : Int32)) d_1_valueOf_133 rfl ?_
              obtain rfl := Option.some.inj h
              obtain ⟨rfl, rfl⟩ := hR (0 : Int32) xm8 rfl
              exact ze_i d_1_valueOf_134 rfl
            · replace h := z_im h hc29
              refine zr_iload d_1_valueOf_135 rfl ?_
              refine zr_bipush (v := (-100 : Int32)) d_1_valueOf_137 (by decide) ?_
              refine zr_icmp_gt (tgt := 179) d_1_valueOf_139 rfl (fun hc30 => ?_) (fun hc30 => ?_)
              · replace h := z_ip h hc30
                refine zr_iload d_1_valueOf_179 rfl ?_
                refine zr_bipush (v := (-14 : Int32)) d_1_valueOf_181 (by decide) ?_
                refine zr_icmp_ne (tgt := 200) d_1_valueOf_183 rfl (fun hc31 => ?_) (fun hc31 => ?_)
                · replace h := z_ip h hc31
                  refine zr_aload_n (i := 0) d_1_valueOf_186 rfl rfl ?_
                  refine zr_gets (i' := o0) d_1_valueOf_187 fw_1_21 rfl ?_
                  refine zr_iload d_1_valueOf_190 rfl ?_
                  refine zr_iconst (v := (1 : Int32)) d_1_valueOf_192 rfl ?_
                  refine zr_isub d_1_valueOf_193 ?_
                  obtain ⟨hb32, h⟩ := z_gd h
                  refine zr_iald d_1_valueOf_194 sa_13 rfl hb32 ?_
                  refine zr_if_ne (tgt := 200) d_1_valueOf_195 rfl (fun hc33 => ?_) (fun hc33 => ?_)
                  · replace h := z_ip h hc33
                    refine zr_iconst (v := (0 : Int32)) d_1_valueOf_198 rfl ?_
                    obtain rfl := Option.some.inj h
                    obtain ⟨rfl, rfl⟩ := hR (0 : Int32) xm8 rfl
                    exact ze_i d_1_valueOf_199 rfl
                  · replace h := z_im h hc33
                    refine zr_iinc (v := (x6 + (-1 : Int32))) (l' := [some (zA 1 o0), some (zA 6 o1), some (zA 5 o2), none, some (zI a4), some (zI a5), some (zI (x5 + (1 : Int32))), some (zI (x6 + (-1 : Int32))), some (zI x7), some (zI v13)]) d_1_valueOf_200 (by decide) rfl (z_neg_1 _) rfl ?_
                    refine zr_aload_n (i := 0) d_1_valueOf_203 rfl rfl ?_
                    refine zr_gets (i' := o0) d_1_valueOf_204 fw_1_21 rfl ?_
                    refine zr_iload d_1_valueOf_207 rfl ?_
                    refine zr_iconst (v := (1 : Int32)) d_1_valueOf_209 rfl ?_
                    refine zr_isub d_1_valueOf_210 ?_
                    refine zr_iload d_1_valueOf_211 rfl ?_
                    refine zr_aload_n (i := 0) d_1_valueOf_213 rfl rfl ?_
                    refine zr_gets (i' := o0) d_1_valueOf_214 fw_1_21 rfl ?_
                    refine zr_iload d_1_valueOf_217 rfl ?_
                    refine zr_iconst (v := (1 : Int32)) d_1_valueOf_219 rfl ?_
                    refine zr_isub d_1_valueOf_220 ?_
                    obtain ⟨hb34, h⟩ := z_gd h
                    refine zr_iald d_1_valueOf_221 sa_13 rfl hb34 ?_
                    refine zr_aload_n (i := 0) d_1_valueOf_222 rfl rfl ?_
                    refine zr_gets (i' := o0) d_1_valueOf_223 fw_1_21 rfl ?_
                    refine zr_iload d_1_valueOf_226 rfl ?_
                    obtain ⟨hb35, h⟩ := z_gd h
                    refine zr_iald d_1_valueOf_228 sa_13 rfl hb35 ?_
                    obtain ⟨q36, hq37, h⟩ := z_bd h
                    refine zr_callSi (av := [zI v13, zI (xm8.1 13 o0 ((x6 + (-1 : Int32)) - (1 : Int32)).toNatClampNeg), zI (xm8.1 13 o0 (x6 + (-1 : Int32)).toNatClampNeg)]) (st := [zI ((x6 + (-1 : Int32)) - (1 : Int32)), zA 13 o0]) d_1_valueOf_229 mw_1_reckon ml_1_64 is_1_reckon rfl rfl (Nat.le_of_ble_eq_true rfl) fit_1_3_3 (s1_reckon hq37) ?_
                    obtain ⟨m38, hm39, h⟩ := z_lt h
                    refine zr_iast d_1_valueOf_232 sa_13 rfl hb34 hm39 ?_
                    refine zr_iinc (v := (x7 + (1 : Int32))) (l' := [some (zA 1 o0), some (zA 6 o1), some (zA 5 o2), none, some (zI a4), some (zI a5), some (zI (x5 + (1 : Int32))), some (zI (x6 + (-1 : Int32))), some (zI (x7 + (1 : Int32))), some (zI v13)]) d_1_valueOf_233 (by decide) rfl rfl rfl ?_
                    refine zr_goto (tgt := 14) d_1_valueOf_236 rfl ?_
                    obtain rfl := Option.some.inj h
                    exact zr_wk2 (hI (x5 + (1 : Int32)) (x6 + (-1 : Int32)) (x7 + (1 : Int32)) m38 rfl) ⟨rfl, ⟨rfl, ⟨rfl, ⟨rfl, ⟨rfl, ⟨rfl, ⟨rfl, ⟨rfl, trivial⟩⟩⟩⟩⟩⟩⟩⟩
                · replace h := z_im h hc31
                  refine zr_iinc (v := (x6 + (-1 : Int32))) (l' := [some (zA 1 o0), some (zA 6 o1), some (zA 5 o2), none, some (zI a4), some (zI a5), some (zI (x5 + (1 : Int32))), some (zI (x6 + (-1 : Int32))), some (zI x7), some (zI v13)]) d_1_valueOf_200 (by decide) rfl (z_neg_1 _) rfl ?_
                  refine zr_aload_n (i := 0) d_1_valueOf_203 rfl rfl ?_
                  refine zr_gets (i' := o0) d_1_valueOf_204 fw_1_21 rfl ?_
                  refine zr_iload d_1_valueOf_207 rfl ?_
                  refine zr_iconst (v := (1 : Int32)) d_1_valueOf_209 rfl ?_
                  refine zr_isub d_1_valueOf_210 ?_
                  refine zr_iload d_1_valueOf_211 rfl ?_
                  refine zr_aload_n (i := 0) d_1_valueOf_213 rfl rfl ?_
                  refine zr_gets (i' := o0) d_1_valueOf_214 fw_1_21 rfl ?_
                  refine zr_iload d_1_valueOf_217 rfl ?_
                  refine zr_iconst (v := (1 : Int32)) d_1_valueOf_219 rfl ?_
                  refine zr_isub d_1_valueOf_220 ?_
                  obtain ⟨hb40, h⟩ := z_gd h
                  refine zr_iald d_1_valueOf_221 sa_13 rfl hb40 ?_
                  refine zr_aload_n (i := 0) d_1_valueOf_222 rfl rfl ?_
                  refine zr_gets (i' := o0) d_1_valueOf_223 fw_1_21 rfl ?_
                  refine zr_iload d_1_valueOf_226 rfl ?_
                  obtain ⟨hb41, h⟩ := z_gd h
                  refine zr_iald d_1_valueOf_228 sa_13 rfl hb41 ?_
                  obtain ⟨q42, hq43, h⟩ := z_bd h
                  refine zr_callSi (av := [zI v13, zI (xm8.1 13 o0 ((x6 + (-1 : Int32)) - (1 : Int32)).toNatClampNeg), zI (xm8.1 13 o0 (x6 + (-1 : Int32)).toNatClampNeg)]) (st := [zI ((x6 + (-1 : Int32)) - (1 : Int32)), zA 13 o0]) d_1_valueOf_229 mw_1_reckon ml_1_64 is_1_reckon rfl rfl (Nat.le_of_ble_eq_true rfl) fit_1_3_3 (s1_reckon hq43) ?_
                  obtain ⟨m44, hm45, h⟩ := z_lt h
                  refine zr_iast d_1_valueOf_232 sa_13 rfl hb40 hm45 ?_
                  refine zr_iinc (v := (x7 + (1 : Int32))) (l' := [some (zA 1 o0), some (zA 6 o1), some (zA 5 o2), none, some (zI a4), some (zI a5), some (zI (x5 + (1 : Int32))), some (zI (x6 + (-1 : Int32))), some (zI (x7 + (1 : Int32))), some (zI v13)]) d_1_valueOf_233 (by decide) rfl rfl rfl ?_
                  refine zr_goto (tgt := 14) d_1_valueOf_236 rfl ?_
                  obtain rfl := Option.some.inj h
                  exact zr_wk2 (hI (x5 + (1 : Int32)) (x6 + (-1 : Int32)) (x7 + (1 : Int32)) m44 rfl) ⟨rfl, ⟨rfl, ⟨rfl, ⟨rfl, ⟨rfl, ⟨rfl, ⟨rfl, ⟨rfl, trivial⟩⟩⟩⟩⟩⟩⟩⟩
              · replace h := z_im h hc30
                refine zr_iinc (v := (x6 + (-2 : Int32))) (l' := [some (zA 1 o0), some (zA 6 o1), some (zA 5 o2), none, some (zI a4), some (zI a5), some (zI (x5 + (1 : Int32))), some (zI (x6 + (-2 : Int32))), some (zI x7), some (zI v13)]) d_1_valueOf_142 (by decide) rfl (z_neg_2 _) rfl ?_
                refine zr_aload_n (i := 0) d_1_valueOf_145 rfl rfl ?_
                refine zr_gets (i' := o0) d_1_valueOf_146 fw_1_21 rfl ?_
                refine zr_iload d_1_valueOf_149 rfl ?_
                obtain ⟨hb46, h⟩ := z_gd h
                refine zr_iald d_1_valueOf_151 sa_13 rfl hb46 ?_
                refine zr_aload_n (i := 0) d_1_valueOf_152 rfl rfl ?_
                refine zr_gets (i' := o0) d_1_valueOf_153 fw_1_21 rfl ?_
                refine zr_iload d_1_valueOf_156 rfl ?_
                refine zr_iconst (v := (1 : Int32)) d_1_valueOf_158 rfl ?_
                refine zr_iadd d_1_valueOf_159 ?_
                obtain ⟨hb47, h⟩ := z_gd h
                refine zr_iald d_1_valueOf_160 sa_13 rfl hb47 ?_
                obtain ⟨j51, hT48, h⟩ := z_bd h
                have hJ49 : z_RQ P M_1_valueOf (z_rm 3) (z_mq P ro μo) 0 0 174 [some (zA 1 o0), some (zA 6 o1), some (zA 5 o2), none, some (zI a4), some (zI a5), none, some (zI (x6 + (-2 : Int32))), some (zI x7), none] [zI j51] xm8 := by
                  refine zr_istore (i := 6) (l' := [some (zA 1 o0), some (zA 6 o1), some (zA 5 o2), none, some (zI a4), some (zI a5), some (zI j51), some (zI (x6 + (-2 : Int32))), some (zI x7), none]) d_1_valueOf_174 (by decide) rfl ?_
                  refine zr_goto (tgt := 233) d_1_valueOf_176 rfl ?_
                  refine zr_iinc (v := (x7 + (1 : Int32))) (l' := [some (zA 1 o0), some (zA 6 o1), some (zA 5 o2), none, some (zI a4), some (zI a5), some (zI j51), some (zI (x6 + (-2 : Int32))), some (zI (x7 + (1 : Int32))), none]) d_1_valueOf_233 (by decide) rfl rfl rfl ?_
                  refine zr_goto (tgt := 14) d_1_valueOf_236 rfl ?_
                  obtain rfl := Option.some.inj h
                  exact zr_wk2 (hI j51 (x6 + (-2 : Int32)) (x7 + (1 : Int32)) xm8 rfl) ⟨rfl, ⟨rfl, ⟨rfl, ⟨rfl, ⟨rfl, ⟨rfl, ⟨rfl, ⟨rfl, trivial⟩⟩⟩⟩⟩⟩⟩⟩
                refine zr_icmp_ge (tgt := 169) d_1_valueOf_161 rfl (fun hc50 => ?_) (fun hc50 => ?_)
                · replace hT48 := z_ip hT48 hc50
                  refine zr_iload d_1_valueOf_164 rfl ?_
                  refine zr_goto (tgt := 174) d_1_valueOf_166 rfl ?_
                  obtain rfl := Option.some.inj hT48
                  exact zr_wk2 hJ49 ⟨rfl, ⟨rfl, ⟨rfl, ⟨rfl, ⟨rfl, ⟨rfl, ⟨rfl, trivial⟩⟩⟩⟩⟩⟩⟩
                · replace hT48 := z_im hT48 hc50
                  refine zr_bipush (v := (-100 : Int32)) d_1_valueOf_169 (by decide) ?_
                  refine zr_iload d_1_valueOf_171 rfl ?_
                  refine zr_isub d_1_valueOf_173 ?_
                  obtain rfl := Option.some.inj hT48
                  exact zr_wk2 hJ49 ⟨rfl, ⟨rfl, ⟨rfl, ⟨rfl, ⟨rfl, ⟨rfl, ⟨rfl, trivial⟩⟩⟩⟩⟩⟩⟩
      · replace h := z_im h hc11
        obtain rfl := Option.some.inj h
        exact zr_wk2 (hE xm8 rfl) trivial
  · replace h := z_im h hc9
    obtain rfl := Option.some.inj h
    exact zr_wk2 (hE xm8 rfl) trivial
theorem s1_valueOf {P : zP} {μ : zMem} {o0 : Nat} {o1 : Nat} {o2 : Nat} {a3 : Int32} {a4 : Int32} {a5 : Int32} {r : Int32} {μ' : zMem} (h : f1_valueOf o0 o1 o2 a3 a4 a5 μ = some (r, μ')) : z_Sp P y_1_valueOf M_1_valueOf 3 [zA 1 o0, zA 6 o1, zA 5 o2, zI a3, zI a4, zI a5] μ (some (zI r)) μ' := by
  refine z_Sp.of (plainFor_of_name (by decide)) rfl (l0 := [some (zA 1 o0), some (zA 6 o1), some (zA 5 o2), some (zI a3), some (zI a4), some (zI a5), none, none, none, none]) rfl (Nat.le_of_ble_eq_true rfl) ?_
  unfold f1_valueOf at h
  refine zr_aload_n (i := 1) d_1_valueOf_0 rfl rfl ?_
  refine zr_gets (i' := o1) d_1_valueOf_1 fw_1_52 rfl ?_
  refine zr_iload_n (i := 3) d_1_valueOf_4 rfl rfl ?_
  obtain ⟨hb1, h⟩ := z_gd h
  refine zr_iald d_1_valueOf_5 sa_30 rfl hb1 ?_
  obtain ⟨v2, hv3, h⟩ := z_lt h
  refine zr_nm hv3 ?_
  refine zr_istore (i := 6) (l' := [some (zA 1 o0), some (zA 6 o1), some (zA 5 o2), some (zI a3), some (zI a4), some (zI a5), some (zI v2), none, none, none]) d_1_valueOf_6 (by decide) rfl ?_
  refine zr_iconst (v := (0 : Int32)) d_1_valueOf_8 rfl ?_
  refine zr_istore (i := 7) (l' := [some (zA 1 o0), some (zA 6 o1), some (zA 5 o2), some (zI a3), some (zI a4), some (zI a5), some (zI v2), some (zI (0 : Int32)), none, none]) d_1_valueOf_9 (by decide) rfl ?_
  refine zr_iconst (v := (0 : Int32)) d_1_valueOf_11 rfl ?_
  refine zr_istore (i := 8) (l' := [some (zA 1 o0), some (zA 6 o1), some (zA 5 o2), some (zI a3), some (zI a4), some (zI a5), some (zI v2), some (zI (0 : Int32)), some (zI (0 : Int32)), none]) d_1_valueOf_12 (by decide) rfl ?_
  rcases z_bs h with ⟨e52, hl53, h⟩ | ⟨⟨qr54, qr55⟩, hl53, h⟩
  · refine zr_wk (l' := [some (zA 1 o0), some (zA 6 o1), some (zA 5 o2), none, some (zI a4), some (zI a5), some (zI v2), some (zI (0 : Int32)), some (zI (0 : Int32)), none]) ⟨rfl, ⟨rfl, ⟨rfl, ⟨rfl, ⟨rfl, ⟨rfl, ⟨rfl, ⟨rfl, trivial⟩⟩⟩⟩⟩⟩⟩⟩ ?_
    refine z_loop (Hd := (z_u4 fun y0 y1 y2 y3 => z_RQ P M_1_valueOf (z_rm 3) (z_mq P (some (zI r)) μ') 0 0 14 [some (zA 1 o0), some (zA 6 o1), some (zA 5 o2), none, some (zI a4), some (zI a5), some (zI y0), some (zI y1), some (zI y2), none] [] y3)) (Ex := (Sum.elim (fun z0 => z_RQ P M_1_valueOf (z_rm 3) (z_mq P (some (zI r)) μ') 0 0 239 [none, none, none, none, none, none, none, none, none, none] [] z0) (z_u2 fun qr qm => (some (zI r)) = some (zI qr) ∧ μ' = qm))) (fun ⟨x5, x6, x7, xm8⟩ K h hI hE => s1_valueOf_L4 o0 o1 o2 a4 a5 x5 x6 x7 xm8 K h (fun y0 y1 y2 y3 e => hI (y0, y1, y2, y3) e) (fun z0 e => hE (.inl z0) e) (fun qr qm e => hE (.inr (qr, qm)) e)) _ _ _ hl53 ?_
    refine zr_iconst (v := (0 : Int32)) d_1_valueOf_239 rfl ?_
    obtain ⟨rfl, rfl⟩ := Prod.mk.inj (Option.some.inj h)
    exact ze_i d_1_valueOf_240 rfl
  · replace h := z_h2 h
    refine zr_wk (l' := [some (zA 1 o0), some (zA 6 o1), some (zA 5 o2), none, some (zI a4), some (zI a5), some (zI v2), some (zI (0 : Int32)), some (zI (0 : Int32)), none]) ⟨rfl, ⟨rfl, ⟨rfl, ⟨rfl, ⟨rfl, ⟨rfl, ⟨rfl, ⟨rfl, trivial⟩⟩⟩⟩⟩⟩⟩⟩ ?_
    refine z_loop (Hd := (z_u4 fun y0 y1 y2 y3 => z_RQ P M_1_valueOf (z_rm 3) (z_mq P (some (zI r)) μ') 0 0 14 [some (zA 1 o0), some (zA 6 o1), some (zA 5 o2), none, some (zI a4), some (zI a5), some (zI y0), some (zI y1), some (zI y2), none] [] y3)) (Ex := (Sum.elim (fun z0 => z_RQ P M_1_valueOf (z_rm 3) (z_mq P (some (zI r)) μ') 0 0 239 [none, none, none, none, none, none, none, none, none, none] [] z0) (z_u2 fun qr qm => (some (zI r)) = some (zI qr) ∧ μ' = qm))) (fun ⟨x5, x6, x7, xm8⟩ K h hI hE => s1_valueOf_L4 o0 o1 o2 a4 a5 x5 x6 x7 xm8 K h (fun y0 y1 y2 y3 e => hI (y0, y1, y2, y3) e) (fun z0 e => hE (.inl z0) e) (fun qr qm e => hE (.inr (qr, qm)) e)) _ _ _ hl53 ?_
    obtain ⟨rfl, rfl⟩ := Prod.mk.inj (Option.some.inj h)
    exact ⟨rfl, rfl⟩
def fj9_min_7cf53 (a0 : Int32) (a1 : Int32) : Int32 :=
  (if a1 < a0 then a1 else a0)
theorem sj9_min_7cf53 {P : zP} {μ : zMem} {a0 : Int32} {a1 : Int32} {r : Int32} (h : fj9_min_7cf53 a0 a1 = r) : z_Sp P y_j9_min_7cf53 M_j9_min_7cf53 1 [zI a0, zI a1] μ (some (zI r)) μ := by
  refine z_Sp.of (by decide +kernel) rfl (l0 := [some (zI a0), some (zI a1)]) rfl (Nat.le_of_ble_eq_true rfl) ?_
  unfold fj9_min_7cf53 at h
  refine zr_iload_n (i := 0) d_j9_min_7cf53_0 rfl rfl ?_
  refine zr_iload_n (i := 1) d_j9_min_7cf53_1 rfl rfl ?_
  refine zr_icmp_gt (tgt := 9) d_j9_min_7cf53_2 rfl (fun hc1 => ?_) (fun hc1 => ?_)
  · replace h := z_ip h hc1
    refine zr_iload_n (i := 1) d_j9_min_7cf53_9 rfl rfl ?_
    obtain rfl := h
    exact ze_i d_j9_min_7cf53_10 rfl
  · replace h := z_im h hc1
    refine zr_iload_n (i := 0) d_j9_min_7cf53_5 rfl rfl ?_
    refine zr_goto (tgt := 10) d_j9_min_7cf53_6 rfl ?_
    obtain rfl := h
    exact ze_i d_j9_min_7cf53_10 rfl
def fj9_max_7cf53 (a0 : Int32) (a1 : Int32) : Int32 :=
  (if a0 < a1 then a1 else a0)
theorem sj9_max_7cf53 {P : zP} {μ : zMem} {a0 : Int32} {a1 : Int32} {r : Int32} (h : fj9_max_7cf53 a0 a1 = r) : z_Sp P y_j9_max_7cf53 M_j9_max_7cf53 1 [zI a0, zI a1] μ (some (zI r)) μ := by
  refine z_Sp.of (by decide +kernel) rfl (l0 := [some (zI a0), some (zI a1)]) rfl (Nat.le_of_ble_eq_true rfl) ?_
  unfold fj9_max_7cf53 at h
  refine zr_iload_n (i := 0) d_j9_max_7cf53_0 rfl rfl ?_
  refine zr_iload_n (i := 1) d_j9_max_7cf53_1 rfl rfl ?_
  refine zr_icmp_lt (tgt := 9) d_j9_max_7cf53_2 rfl (fun hc1 => ?_) (fun hc1 => ?_)
  · replace h := z_ip h hc1
    refine zr_iload_n (i := 1) d_j9_max_7cf53_9 rfl rfl ?_
    obtain rfl := h
    exact ze_i d_j9_max_7cf53_10 rfl
  · replace h := z_im h hc1
    refine zr_iload_n (i := 0) d_j9_max_7cf53_5 rfl rfl ?_
    refine zr_goto (tgt := 10) d_j9_max_7cf53_6 rfl ?_
    obtain rfl := h
    exact ze_i d_j9_max_7cf53_10 rfl
def f1_rentsOf (o0 : Nat) (o1 : Nat) (o2 : Nat) (a3 : Int32) (μ : zMem) : Option (Int32 × zMem) :=
  if z_in a3 5 = true then z_let (μ.1 10 o0 a3.toNatClampNeg) fun v2 => (if v2 < 0 then some ((0 : Int32), μ) else (f1_valueOf o0 o1 o2 (3 : Int32) v2 a3 μ).bind (z_u2 fun q5 qm6 => some ((fj9_max_7cf53 (0 : Int32) (fj9_min_7cf53 (99 : Int32) q5)), qm6))) else none
theorem s1_rentsOf {P : zP} {μ : zMem} {o0 : Nat} {o1 : Nat} {o2 : Nat} {a3 : Int32} {r : Int32} {μ' : zMem} (h : f1_rentsOf o0 o1 o2 a3 μ = some (r, μ')) : z_Sp P y_1_rentsOf M_1_rentsOf 4 [zA 1 o0, zA 6 o1, zA 5 o2, zI a3] μ (some (zI r)) μ' := by
  refine z_Sp.of (plainFor_of_name (by decide)) rfl (l0 := [some (zA 1 o0), some (zA 6 o1), some (zA 5 o2), some (zI a3), none]) rfl (Nat.le_of_ble_eq_true rfl) ?_
  unfold f1_rentsOf at h
  refine zr_aload_n (i := 0) d_1_rentsOf_0 rfl rfl ?_
  refine zr_gets (i' := o0) d_1_rentsOf_1 fw_1_9 rfl ?_
  refine zr_iload_n (i := 3) d_1_rentsOf_4 rfl rfl ?_
  obtain ⟨hb1, h⟩ := z_gd h
  refine zr_iald d_1_rentsOf_5 sa_10 rfl hb1 ?_
  obtain ⟨v2, hv3, h⟩ := z_lt h
  refine zr_nm hv3 ?_
  refine zr_istore (i := 4) (l' := [some (zA 1 o0), some (zA 6 o1), some (zA 5 o2), some (zI a3), some (zI v2)]) d_1_rentsOf_6 (by decide) rfl ?_
  refine zr_iload d_1_rentsOf_8 rfl ?_
  refine zr_if_ge (tgt := 15) d_1_rentsOf_10 rfl (fun hc4 => ?_) (fun hc4 => ?_)
  · replace h := z_ip h hc4
    refine zr_iconst (v := (0 : Int32)) d_1_rentsOf_13 rfl ?_
    obtain ⟨rfl, rfl⟩ := Prod.mk.inj (Option.some.inj h)
    exact ze_i d_1_rentsOf_14 rfl
  · replace h := z_im h hc4
    refine zr_iconst (v := (0 : Int32)) d_1_rentsOf_15 rfl ?_
    refine zr_bipush (v := (99 : Int32)) d_1_rentsOf_16 rfl ?_
    refine zr_aload_n (i := 0) d_1_rentsOf_18 rfl rfl ?_
    refine zr_aload_n (i := 1) d_1_rentsOf_19 rfl rfl ?_
    refine zr_aload_n (i := 2) d_1_rentsOf_20 rfl rfl ?_
    refine zr_iconst (v := (3 : Int32)) d_1_rentsOf_21 rfl ?_
    refine zr_iload d_1_rentsOf_22 rfl ?_
    refine zr_iload_n (i := 3) d_1_rentsOf_24 rfl rfl ?_
    obtain ⟨⟨q5, qm6⟩, hq7, h⟩ := z_bd h
    replace h := z_h2 h
    refine zr_callVi (av := [zA 6 o1, zA 5 o2, zI (3 : Int32), zI v2, zI a3]) (st := [zI (99 : Int32), zI (0 : Int32)]) d_1_rentsOf_25 mw_1_valueOf ml_1_39 im_1_valueOf se_1_valueOf rfl rfl (Nat.le_of_ble_eq_true rfl) fit_3_10_4 rfl rfl rfl (s1_valueOf hq7) ?_
    refine zr_callSi (av := [zI (99 : Int32), zI q5]) (st := [zI (0 : Int32)]) d_1_rentsOf_28 mw_j9_min_7cf53 ml_1_43 is_j9_min_7cf53 rfl rfl (Nat.le_of_ble_eq_true rfl) fit_1_2_4 (sj9_min_7cf53 rfl) ?_
    refine zr_callSi (av := [zI (0 : Int32), zI (fj9_min_7cf53 (99 : Int32) q5)]) (st := []) d_1_rentsOf_31 mw_j9_max_7cf53 ml_1_49 is_j9_max_7cf53 rfl rfl (Nat.le_of_ble_eq_true rfl) fit_1_2_4 (sj9_max_7cf53 rfl) ?_
    obtain ⟨rfl, rfl⟩ := Prod.mk.inj (Option.some.inj h)
    exact ze_i d_1_rentsOf_34 rfl
def f0_reckonDue_L1  : (Int32 × zMem) → Option ((Int32 × zMem) ⊕ (zMem)) := (z_u2 fun x2 xm3 => 
  (if x2 < (7 : Int32) then if z_in x2 7 = true then z_let (z_sI xm3 14 0 x2.toNatClampNeg (0 : Int32)) fun m5 => some (.inl ((x2 + (1 : Int32)), m5)) else none else some (.inr xm3)))
def f0_reckonDue_L10 (o1 : Nat) (o2 : Nat) : (Int32 × zMem) → Option ((Int32 × zMem) ⊕ (zMem)) := (z_u2 fun x11 xm12 => 
  (if x11 < (xm12.1 6 o1 0) then (f1_landlordSeen 1 x11 xm12).bind (fun q14 => ((if q14 < 0 then some xm12 else if z_in q14 7 = true then (f1_rentsOf 1 o1 o2 x11 xm12).bind (z_u2 fun q20 qm21 => z_let (z_sI qm21 14 0 q14.toNatClampNeg ((xm12.1 14 0 q14.toNatClampNeg) + q20)) fun m23 => some m23) else none) : Option (zMem)).bind (fun jm25 => some (.inl ((x11 + (1 : Int32)), jm25)))) else some (.inr xm12)))
def f0_reckonDue (o1 : Nat) (o2 : Nat) (μ : zMem) : Option (zMem) :=
  (z_it (f0_reckonDue_L1) z_fu ((0 : Int32), μ)).bind (fun e8 => (z_it (f0_reckonDue_L10 o1 o2) z_fu ((0 : Int32), e8)).bind (fun e26 => some e26))
theorem s0_reckonDue_L1 {P : zP} {ro : Option zV} {μo : zMem} (o1 : Nat) (o2 : Nat) (x2 : Int32) (xm3 : zMem) (K : (Int32 × zMem) ⊕ (zMem)) (h : f0_reckonDue_L1  (x2, xm3) = some K) (hI : ∀ (y0 : Int32) (y1 : zMem), K = .inl (y0, y1) → z_RQ P M_0_reckonDue (z_rm 5) (z_mq P ro μo) 0 0 2 [some (zA 0 0), some (zA 6 o1), some (zA 5 o2), some (zI y0), none] [] y1) (hE : ∀ (z0 : zMem), K = .inr z0 → z_RQ P M_0_reckonDue (z_rm 5) (z_mq P ro μo) 0 0 21 [some (zA 0 0), some (zA 6 o1), some (zA 5 o2), none, none] [] z0)  : z_RQ P M_0_reckonDue (z_rm 5) (z_mq P ro μo) 0 0 2 [some (zA 0 0), some (zA 6 o1), some (zA 5 o2), some (zI x2), none] [] xm3 := by
  unfold f0_reckonDue_L1 at h
  replace h := z_h2 h
  refine zr_iload_n (i := 3) d_0_reckonDue_2 rfl rfl ?_
  refine zr_bipush (v := (7 : Int32)) d_0_reckonDue_3 rfl ?_
  refine zr_icmp_ge (tgt := 21) d_0_reckonDue_5 rfl (fun hc4 => ?_) (fun hc4 => ?_)
  · replace h := z_ip h hc4
    refine zr_aload_n (i := 0) d_0_reckonDue_8 rfl rfl ?_
    refine zr_gets (i' := 0) d_0_reckonDue_9 fw_0_18 rfl ?_
    refine zr_iload_n (i := 3) d_0_reckonDue_12 rfl rfl ?_
    refine zr_iconst (v := (0 : Int32)) d_0_reckonDue_13 rfl ?_
    obtain ⟨hb7, h⟩ := z_gd h
    obtain ⟨m5, hm6, h⟩ := z_lt h
    refine zr_iast d_0_reckonDue_14 sa_14 rfl hb7 hm6 ?_
    refine zr_iinc (v := (x2 + (1 : Int32))) (l' := [some (zA 0 0), some (zA 6 o1), some (zA 5 o2), some (zI (x2 + (1 : Int32))), none]) d_0_reckonDue_15 (by decide) rfl rfl rfl ?_
    refine zr_goto (tgt := 2) d_0_reckonDue_18 rfl ?_
    obtain rfl := Option.some.inj h
    exact zr_wk2 (hI (x2 + (1 : Int32)) m5 rfl) ⟨rfl, ⟨rfl, ⟨rfl, ⟨rfl, trivial⟩⟩⟩⟩
  · replace h := z_im h hc4
    obtain rfl := Option.some.inj h
    exact zr_wk2 (hE xm3 rfl) ⟨rfl, ⟨rfl, ⟨rfl, trivial⟩⟩⟩
theorem s0_reckonDue_L10 {P : zP} {ro : Option zV} {μo : zMem} (o1 : Nat) (o2 : Nat) (x11 : Int32) (xm12 : zMem) (K : (Int32 × zMem) ⊕ (zMem)) (h : f0_reckonDue_L10 o1 o2 (x11, xm12) = some K) (hI : ∀ (y0 : Int32) (y1 : zMem), K = .inl (y0, y1) → z_RQ P M_0_reckonDue (z_rm 5) (z_mq P ro μo) 0 0 23 [some (zA 0 0), some (zA 6 o1), some (zA 5 o2), some (zI y0), none] [] y1) (hE : ∀ (z0 : zMem), K = .inr z0 → z_RQ P M_0_reckonDue (z_rm 5) (z_mq P ro μo) 0 0 72 [none, none, none, none, none] [] z0)  : z_RQ P M_0_reckonDue (z_rm 5) (z_mq P ro μo) 0 0 23 [some (zA 0 0), some (zA 6 o1), some (zA 5 o2), some (zI x11), none] [] xm12 := by
  unfold f0_reckonDue_L10 at h
  replace h := z_h2 h
  refine zr_iload_n (i := 3) d_0_reckonDue_23 rfl rfl ?_
  refine zr_aload_n (i := 1) d_0_reckonDue_24 rfl rfl ?_
  refine zr_geti d_0_reckonDue_25 fw_0_50 (by decide) ?_
  refine zr_icmp_ge (tgt := 72) d_0_reckonDue_28 rfl (fun hc13 => ?_) (fun hc13 => ?_)
  · replace h := z_ip h hc13
    refine zr_aload_n (i := 0) d_0_reckonDue_31 rfl rfl ?_
    refine zr_gets (i' := 1) d_0_reckonDue_32 fw_0_12 rfl ?_
    refine zr_iload_n (i := 3) d_0_reckonDue_35 rfl rfl ?_
    obtain ⟨q14, hq15, h⟩ := z_bd h
    refine zr_callVi (av := [zI x11]) (st := []) d_0_reckonDue_36 mw_1_landlordSeen ml_0_55 im_1_landlordSeen se_1_landlordSeen rfl rfl (Nat.le_of_ble_eq_true rfl) fit_1_2_5 rfl rfl rfl (s1_landlordSeen hq15) ?_
    refine zr_istore (i := 4) (l' := [some (zA 0 0), some (zA 6 o1), some (zA 5 o2), some (zI x11), some (zI q14)]) d_0_reckonDue_39 (by decide) rfl ?_
    refine zr_iload d_0_reckonDue_41 rfl ?_
    obtain ⟨jm25, hT16, h⟩ := z_bd h
    have hJ17 : z_RQ P M_0_reckonDue (z_rm 5) (z_mq P ro μo) 0 0 66 [some (zA 0 0), some (zA 6 o1), some (zA 5 o2), some (zI x11), none] [] jm25 := by
      refine zr_iinc (v := (x11 + (1 : Int32))) (l' := [some (zA 0 0), some (zA 6 o1), some (zA 5 o2), some (zI (x11 + (1 : Int32))), none]) d_0_reckonDue_66 (by decide) rfl rfl rfl ?_
      refine zr_goto (tgt := 23) d_0_reckonDue_69 rfl ?_
      obtain rfl := Option.some.inj h
      exact zr_wk2 (hI (x11 + (1 : Int32)) jm25 rfl) ⟨rfl, ⟨rfl, ⟨rfl, ⟨rfl, trivial⟩⟩⟩⟩
    refine zr_if_lt (tgt := 66) d_0_reckonDue_43 rfl (fun hc18 => ?_) (fun hc18 => ?_)
    · replace hT16 := z_ip hT16 hc18
      obtain rfl := Option.some.inj hT16
      exact zr_wk2 hJ17 ⟨rfl, ⟨rfl, ⟨rfl, ⟨rfl, trivial⟩⟩⟩⟩
    · replace hT16 := z_im hT16 hc18
      refine zr_aload_n (i := 0) d_0_reckonDue_46 rfl rfl ?_
      refine zr_gets (i' := 0) d_0_reckonDue_47 fw_0_18 rfl ?_
      refine zr_iload d_0_reckonDue_50 rfl ?_
      refine zr_dup2 d_0_reckonDue_52 ?_
      obtain ⟨hb19, hT16⟩ := z_gd hT16
      refine zr_iald d_0_reckonDue_53 sa_14 rfl hb19 ?_
      refine zr_aload_n (i := 0) d_0_reckonDue_54 rfl rfl ?_
      refine zr_gets (i' := 1) d_0_reckonDue_55 fw_0_12 rfl ?_
      refine zr_aload_n (i := 1) d_0_reckonDue_58 rfl rfl ?_
      refine zr_aload_n (i := 2) d_0_reckonDue_59 rfl rfl ?_
      refine zr_iload_n (i := 3) d_0_reckonDue_60 rfl rfl ?_
      obtain ⟨⟨q20, qm21⟩, hq22, hT16⟩ := z_bd hT16
      replace hT16 := z_h2 hT16
      refine zr_callVi (av := [zA 6 o1, zA 5 o2, zI x11]) (st := [zI (xm12.1 14 0 q14.toNatClampNeg), zI q14, zA 14 0]) d_0_reckonDue_61 mw_1_rentsOf ml_0_59 im_1_rentsOf se_1_rentsOf rfl rfl (Nat.le_of_ble_eq_true rfl) fit_4_5_5 rfl rfl rfl (s1_rentsOf hq22) ?_
      refine zr_iadd d_0_reckonDue_64 ?_
      obtain ⟨m23, hm24, hT16⟩ := z_lt hT16
      refine zr_iast d_0_reckonDue_65 sa_14 rfl hb19 hm24 ?_
      obtain rfl := Option.some.inj hT16
      exact zr_wk2 hJ17 ⟨rfl, ⟨rfl, ⟨rfl, ⟨rfl, trivial⟩⟩⟩⟩
  · replace h := z_im h hc13
    obtain rfl := Option.some.inj h
    exact zr_wk2 (hE xm12 rfl) trivial
theorem s0_reckonDue {P : zP} {μ : zMem} {o1 : Nat} {o2 : Nat} {μ' : zMem} (h : f0_reckonDue o1 o2 μ = some μ') : z_Sp P y_0_reckonDue M_0_reckonDue 5 [zA 0 0, zA 6 o1, zA 5 o2] μ none μ' := by
  refine z_Sp.of (plainFor_of_name (by decide)) rfl (l0 := [some (zA 0 0), some (zA 6 o1), some (zA 5 o2), none, none]) rfl (Nat.le_of_ble_eq_true rfl) ?_
  unfold f0_reckonDue at h
  refine zr_iconst (v := (0 : Int32)) d_0_reckonDue_0 rfl ?_
  refine zr_istore_n (i := 3) (l' := [some (zA 0 0), some (zA 6 o1), some (zA 5 o2), some (zI (0 : Int32)), none]) d_0_reckonDue_1 rfl (by decide) rfl ?_
  obtain ⟨e8, hl9, h⟩ := z_bd h
  refine zr_wk (l' := [some (zA 0 0), some (zA 6 o1), some (zA 5 o2), some (zI (0 : Int32)), none]) ⟨rfl, ⟨rfl, ⟨rfl, ⟨rfl, trivial⟩⟩⟩⟩ ?_
  refine z_loop (Hd := (z_u2 fun y0 y1 => z_RQ P M_0_reckonDue (z_rm 5) (z_mq P none μ') 0 0 2 [some (zA 0 0), some (zA 6 o1), some (zA 5 o2), some (zI y0), none] [] y1)) (Ex := (fun z0 => z_RQ P M_0_reckonDue (z_rm 5) (z_mq P none μ') 0 0 21 [some (zA 0 0), some (zA 6 o1), some (zA 5 o2), none, none] [] z0)) (fun ⟨x2, xm3⟩ K h hI hE => s0_reckonDue_L1 o1 o2 x2 xm3 K h (fun y0 y1 e => hI (y0, y1) e) (fun z0 e => hE z0 e) ) _ _ _ hl9 ?_
  refine zr_iconst (v := (0 : Int32)) d_0_reckonDue_21 rfl ?_
  refine zr_istore_n (i := 3) (l' := [some (zA 0 0), some (zA 6 o1), some (zA 5 o2), some (zI (0 : Int32)), none]) d_0_reckonDue_22 rfl (by decide) rfl ?_
  obtain ⟨e26, hl27, h⟩ := z_bd h
  refine zr_wk (l' := [some (zA 0 0), some (zA 6 o1), some (zA 5 o2), some (zI (0 : Int32)), none]) ⟨rfl, ⟨rfl, ⟨rfl, ⟨rfl, trivial⟩⟩⟩⟩ ?_
  refine z_loop (Hd := (z_u2 fun y0 y1 => z_RQ P M_0_reckonDue (z_rm 5) (z_mq P none μ') 0 0 23 [some (zA 0 0), some (zA 6 o1), some (zA 5 o2), some (zI y0), none] [] y1)) (Ex := (fun z0 => z_RQ P M_0_reckonDue (z_rm 5) (z_mq P none μ') 0 0 72 [none, none, none, none, none] [] z0)) (fun ⟨x11, xm12⟩ K h hI hE => s0_reckonDue_L10 o1 o2 x11 xm12 K h (fun y0 y1 e => hI (y0, y1) e) (fun z0 e => hE z0 e) ) _ _ _ hl27 ?_
  obtain rfl := Option.some.inj h
  exact ze_v d_0_reckonDue_72 rfl
def f5_alive (o0 : Nat) (μ : zMem) : Int32 :=
  ((μ.1 5 o0 1) ||| (μ.1 5 o0 2))
theorem s5_alive {P : zP} {μ : zMem} {o0 : Nat} {r : Int32} (h : f5_alive o0 μ = r) : z_Sp P y_5_alive M_5_alive 1 [zA 5 o0] μ (some (zI r)) μ := by
  refine z_Sp.of (plainFor_of_name (by decide)) rfl (l0 := [some (zA 5 o0)]) rfl (Nat.le_of_ble_eq_true rfl) ?_
  unfold f5_alive at h
  refine zr_aload_n (i := 0) d_5_alive_0 rfl rfl ?_
  refine zr_geti d_5_alive_1 fw_5_15 (by decide) ?_
  refine zr_aload_n (i := 0) d_5_alive_4 rfl rfl ?_
  refine zr_geti d_5_alive_5 fw_5_18 (by decide) ?_
  refine zr_ior d_5_alive_8 ?_
  obtain rfl := h
  exact ze_i d_5_alive_9 rfl
def f0_mix (a0 : Int32) (a1 : Int32) : Int32 :=
  z_let (((a0 ^^^ a1) * (1103515245 : Int32)) + (12345 : Int32)) fun v1 => (v1 ^^^ (v1.toUInt32 >>> ((15 : Int32).toUInt32 &&& Int32.toUInt32 31)).toInt32)
theorem s0_mix {P : zP} {μ : zMem} {a0 : Int32} {a1 : Int32} {r : Int32} (h : f0_mix a0 a1 = r) : z_Sp P y_0_mix M_0_mix 1 [zI a0, zI a1] μ (some (zI r)) μ := by
  refine z_Sp.of (plainFor_of_name (by decide)) rfl (l0 := [some (zI a0), some (zI a1), none]) rfl (Nat.le_of_ble_eq_true rfl) ?_
  unfold f0_mix at h
  refine zr_iload_n (i := 0) d_0_mix_0 rfl rfl ?_
  refine zr_iload_n (i := 1) d_0_mix_1 rfl rfl ?_
  refine zr_ixor d_0_mix_2 ?_
  refine zr_ldc (v := (1103515245 : Int32)) d_0_mix_3 kc_0_84 ?_
  refine zr_imul d_0_mix_5 ?_
  refine zr_sipush (v := (12345 : Int32)) d_0_mix_6 rfl ?_
  refine zr_iadd d_0_mix_9 ?_
  obtain ⟨v1, hv2, h⟩ := z_lt h
  refine zr_nm hv2 ?_
  refine zr_istore_n (i := 2) (l' := [some (zI a0), some (zI a1), some (zI v1)]) d_0_mix_10 rfl (by decide) rfl ?_
  refine zr_iload_n (i := 2) d_0_mix_11 rfl rfl ?_
  refine zr_iload_n (i := 2) d_0_mix_12 rfl rfl ?_
  refine zr_bipush (v := (15 : Int32)) d_0_mix_13 rfl ?_
  refine zr_iushr d_0_mix_15 ?_
  refine zr_ixor d_0_mix_16 ?_
  obtain rfl := h
  exact ze_i d_0_mix_17 rfl
def f0_lotOfHundred (a0 : Int32) (a1 : Int32) : Int32 :=
  z_let (f0_mix (f0_mix a0 (181 : Int32)) a1) fun v3 => ((v3.toUInt32 >>> ((1 : Int32).toUInt32 &&& Int32.toUInt32 31)).toInt32 - (v3.toUInt32 >>> ((1 : Int32).toUInt32 &&& Int32.toUInt32 31)).toInt32 / (100 : Int32) * (100 : Int32))
theorem s0_lotOfHundred {P : zP} {μ : zMem} {a0 : Int32} {a1 : Int32} {r : Int32} (h : f0_lotOfHundred a0 a1 = r) : z_Sp P y_0_lotOfHundred M_0_lotOfHundred 2 [zI a0, zI a1] μ (some (zI r)) μ := by
  refine z_Sp.of (plainFor_of_name (by decide)) rfl (l0 := [some (zI a0), some (zI a1), none]) rfl (Nat.le_of_ble_eq_true rfl) ?_
  unfold f0_lotOfHundred at h
  refine zr_iload_n (i := 0) d_0_lotOfHundred_0 rfl rfl ?_
  refine zr_sipush (v := (181 : Int32)) d_0_lotOfHundred_1 rfl ?_
  refine zr_callSi (av := [zI a0, zI (181 : Int32)]) (st := []) d_0_lotOfHundred_4 mw_0_mix ml_0_81 is_0_mix rfl rfl (Nat.le_of_ble_eq_true rfl) fit_1_3_2 (s0_mix rfl) ?_
  refine zr_iload_n (i := 1) d_0_lotOfHundred_7 rfl rfl ?_
  refine zr_callSi (av := [zI (f0_mix a0 (181 : Int32)), zI a1]) (st := []) d_0_lotOfHundred_8 mw_0_mix ml_0_81 is_0_mix rfl rfl (Nat.le_of_ble_eq_true rfl) fit_1_3_2 (s0_mix rfl) ?_
  obtain ⟨v3, hv4, h⟩ := z_lt h
  refine zr_nm hv4 ?_
  refine zr_istore_n (i := 2) (l' := [some (zI a0), some (zI a1), some (zI v3)]) d_0_lotOfHundred_11 rfl (by decide) rfl ?_
  refine zr_iload_n (i := 2) d_0_lotOfHundred_12 rfl rfl ?_
  refine zr_iconst (v := (1 : Int32)) d_0_lotOfHundred_13 rfl ?_
  refine zr_iushr d_0_lotOfHundred_14 ?_
  refine zr_bipush (v := (100 : Int32)) d_0_lotOfHundred_15 rfl ?_
  refine zr_irem d_0_lotOfHundred_17 (by decide) ?_
  obtain rfl := h
  exact ze_i d_0_lotOfHundred_18 rfl
def f1_chanceOf (o0 : Nat) (o1 : Nat) (o2 : Nat) (a3 : Int32) (a4 : Int32) (μ : zMem) : Option (Int32 × zMem) :=
  (f1_valueOf o0 o1 o2 a3 a4 (-1 : Int32) μ).bind (z_u2 fun q1 qm2 => some ((fj9_max_7cf53 (0 : Int32) (fj9_min_7cf53 (100 : Int32) q1)), qm2))
theorem s1_chanceOf {P : zP} {μ : zMem} {o0 : Nat} {o1 : Nat} {o2 : Nat} {a3 : Int32} {a4 : Int32} {r : Int32} {μ' : zMem} (h : f1_chanceOf o0 o1 o2 a3 a4 μ = some (r, μ')) : z_Sp P y_1_chanceOf M_1_chanceOf 4 [zA 1 o0, zA 6 o1, zA 5 o2, zI a3, zI a4] μ (some (zI r)) μ' := by
  refine z_Sp.of (plainFor_of_name (by decide)) rfl (l0 := [some (zA 1 o0), some (zA 6 o1), some (zA 5 o2), some (zI a3), some (zI a4)]) rfl (Nat.le_of_ble_eq_true rfl) ?_
  unfold f1_chanceOf at h
  refine zr_iconst (v := (0 : Int32)) d_1_chanceOf_0 rfl ?_
  refine zr_bipush (v := (100 : Int32)) d_1_chanceOf_1 rfl ?_
  refine zr_aload_n (i := 0) d_1_chanceOf_3 rfl rfl ?_
  refine zr_aload_n (i := 1) d_1_chanceOf_4 rfl rfl ?_
  refine zr_aload_n (i := 2) d_1_chanceOf_5 rfl rfl ?_
  refine zr_iload_n (i := 3) d_1_chanceOf_6 rfl rfl ?_
  refine zr_iload d_1_chanceOf_7 rfl ?_
  refine zr_iconst (v := (-1 : Int32)) d_1_chanceOf_9 rfl ?_
  obtain ⟨⟨q1, qm2⟩, hq3, h⟩ := z_bd h
  replace h := z_h2 h
  refine zr_callVi (av := [zA 6 o1, zA 5 o2, zI a3, zI a4, zI (-1 : Int32)]) (st := [zI (100 : Int32), zI (0 : Int32)]) d_1_chanceOf_10 mw_1_valueOf ml_1_39 im_1_valueOf se_1_valueOf rfl rfl (Nat.le_of_ble_eq_true rfl) fit_3_10_4 rfl rfl rfl (s1_valueOf hq3) ?_
  refine zr_callSi (av := [zI (100 : Int32), zI q1]) (st := [zI (0 : Int32)]) d_1_chanceOf_13 mw_j9_min_7cf53 ml_1_43 is_j9_min_7cf53 rfl rfl (Nat.le_of_ble_eq_true rfl) fit_1_2_4 (sj9_min_7cf53 rfl) ?_
  refine zr_callSi (av := [zI (0 : Int32), zI (fj9_min_7cf53 (100 : Int32) q1)]) (st := []) d_1_chanceOf_16 mw_j9_max_7cf53 ml_1_49 is_j9_max_7cf53 rfl rfl (Nat.le_of_ble_eq_true rfl) fit_1_2_4 (sj9_max_7cf53 rfl) ?_
  obtain ⟨rfl, rfl⟩ := Prod.mk.inj (Option.some.inj h)
  exact ze_i d_1_chanceOf_19 rfl
def f0_struckBy_L1 (o1 : Nat) (o2 : Nat) (a3 : Int32) (a4 : Int32) (a5 : Int32) : (Int32 × Int32 × zMem) → Option ((Int32 × Int32 × zMem) ⊕ (Int32 × zMem)) := (z_u3 fun x2 x3 xm4 => 
  (if x3 < (7 : Int32) then ((if (f8_has a4 x3) = 0 then some (x2, xm4) else if z_in a3 3 = true then z_let ((((32 : Int32) * (xm4.1 5 o2 0)) + (z_lots a3.toNatClampNeg)) + x3) fun v11 => (f1_chanceOf 1 o1 o2 a3 x3 xm4).bind (z_u2 fun q14 qm15 => (if (f0_lotOfHundred a5 v11) < q14 then z_let (x2 ||| ((1 : Int32) <<< (x3 &&& 31))) fun v18 => some (v18, qm15) else some (x2, qm15))) else none) : Option (Int32 × zMem)).bind (z_u2 fun j20 jm21 => some (.inl (j20, (x3 + (1 : Int32)), jm21))) else some (.inr (x2, xm4))))
def f0_struckBy (o1 : Nat) (o2 : Nat) (a3 : Int32) (a4 : Int32) (a5 : Int32) (μ : zMem) : Option (Int32 × zMem) :=
  (z_it (f0_struckBy_L1 o1 o2 a3 a4 a5) z_fu ((0 : Int32), (0 : Int32), μ)).bind (z_u2 fun e22 e23 => some (e22, e23))
theorem s0_struckBy_L1 {P : zP} {ro : Option zV} {μo : zMem} (o1 : Nat) (o2 : Nat) (a3 : Int32) (a4 : Int32) (a5 : Int32) (x2 : Int32) (x3 : Int32) (xm4 : zMem) (K : (Int32 × Int32 × zMem) ⊕ (Int32 × zMem)) (h : f0_struckBy_L1 o1 o2 a3 a4 a5 (x2, x3, xm4) = some K) (hI : ∀ (y0 : Int32) (y1 : Int32) (y2 : zMem), K = .inl (y0, y1, y2) → z_RQ P M_0_struckBy (z_rm 5) (z_mq P ro μo) 0 0 6 [some (zA 0 0), some (zA 6 o1), some (zA 5 o2), some (zI a3), some (zI a4), some (zI a5), some (zI y0), some (zI y1), none] [] y2) (hE : ∀ (z0 : Int32) (z1 : zMem), K = .inr (z0, z1) → z_RQ P M_0_struckBy (z_rm 5) (z_mq P ro μo) 0 0 78 [none, none, none, none, none, none, some (zI z0), none, none] [] z1)  : z_RQ P M_0_struckBy (z_rm 5) (z_mq P ro μo) 0 0 6 [some (zA 0 0), some (zA 6 o1), some (zA 5 o2), some (zI a3), some (zI a4), some (zI a5), some (zI x2), some (zI x3), none] [] xm4 := by
  unfold f0_struckBy_L1 at h
  replace h := z_h3 h
  refine zr_iload d_0_struckBy_6 rfl ?_
  refine zr_bipush (v := (7 : Int32)) d_0_struckBy_8 rfl ?_
  refine zr_icmp_ge (tgt := 78) d_0_struckBy_10 rfl (fun hc5 => ?_) (fun hc5 => ?_)
  · replace h := z_ip h hc5
    refine zr_iload d_0_struckBy_13 rfl ?_
    refine zr_iload d_0_struckBy_15 rfl ?_
    refine zr_callSNi (av := [zI a4, zI x3]) (st := []) d_0_struckBy_17 mw_8_has nl_0_63 is_8_has rfl rfl (Nat.le_of_ble_eq_true rfl) fit_1_2_5 (s8_has rfl) ?_
    obtain ⟨⟨j20, jm21⟩, hT7, h⟩ := z_bd h
    replace h := z_h2 h
    have hJ8 : z_RQ P M_0_struckBy (z_rm 5) (z_mq P ro μo) 0 0 72 [some (zA 0 0), some (zA 6 o1), some (zA 5 o2), some (zI a3), some (zI a4), some (zI a5), some (zI j20), some (zI x3), none] [] jm21 := by
      refine zr_iinc (v := (x3 + (1 : Int32))) (l' := [some (zA 0 0), some (zA 6 o1), some (zA 5 o2), some (zI a3), some (zI a4), some (zI a5), some (zI j20), some (zI (x3 + (1 : Int32))), none]) d_0_struckBy_72 (by decide) rfl rfl rfl ?_
      refine zr_goto (tgt := 6) d_0_struckBy_75 rfl ?_
      obtain rfl := Option.some.inj h
      exact zr_wk2 (hI j20 (x3 + (1 : Int32)) jm21 rfl) ⟨rfl, ⟨rfl, ⟨rfl, ⟨rfl, ⟨rfl, ⟨rfl, ⟨rfl, ⟨rfl, trivial⟩⟩⟩⟩⟩⟩⟩⟩
    refine zr_if_eq (tgt := 72) d_0_struckBy_20 rfl (fun hc9 => ?_) (fun hc9 => ?_)
    · replace hT7 := z_ip hT7 hc9
      obtain ⟨rfl, rfl⟩ := z_i2 (Option.some.inj hT7)
      exact zr_wk2 hJ8 ⟨rfl, ⟨rfl, ⟨rfl, ⟨rfl, ⟨rfl, ⟨rfl, ⟨rfl, ⟨rfl, trivial⟩⟩⟩⟩⟩⟩⟩⟩
    · replace hT7 := z_im hT7 hc9
      refine zr_bipush (v := (32 : Int32)) d_0_struckBy_23 rfl ?_
      refine zr_aload_n (i := 2) d_0_struckBy_25 rfl rfl ?_
      refine zr_geti d_0_struckBy_26 fw_0_67 (by decide) ?_
      refine zr_imul d_0_struckBy_29 ?_
      refine zr_lots d_0_struckBy_30 fw_0_70 ?_
      refine zr_iload_n (i := 3) d_0_struckBy_33 rfl rfl ?_
      obtain ⟨hb10, hT7⟩ := z_gd hT7
      refine zr_ld90 d_0_struckBy_34 hb10 ?_
      refine zr_iadd d_0_struckBy_35 ?_
      refine zr_iload d_0_struckBy_36 rfl ?_
      refine zr_iadd d_0_struckBy_38 ?_
      obtain ⟨v11, hv12, hT7⟩ := z_lt hT7
      refine zr_nm hv12 ?_
      refine zr_istore (i := 8) (l' := [some (zA 0 0), some (zA 6 o1), some (zA 5 o2), some (zI a3), some (zI a4), some (zI a5), some (zI x2), some (zI x3), some (zI v11)]) d_0_struckBy_39 (by decide) rfl ?_
      refine zr_iload d_0_struckBy_41 rfl ?_
      refine zr_iload d_0_struckBy_43 rfl ?_
      refine zr_callSi (av := [zI a5, zI v11]) (st := []) d_0_struckBy_45 mw_0_lotOfHundred ml_0_73 is_0_lotOfHundred rfl rfl (Nat.le_of_ble_eq_true rfl) fit_2_3_5 (s0_lotOfHundred rfl) ?_
      refine zr_aload_n (i := 0) d_0_struckBy_48 rfl rfl ?_
      refine zr_gets (i' := 1) d_0_struckBy_49 fw_0_12 rfl ?_
      refine zr_aload_n (i := 1) d_0_struckBy_52 rfl rfl ?_
      refine zr_aload_n (i := 2) d_0_struckBy_53 rfl rfl ?_
      refine zr_iload_n (i := 3) d_0_struckBy_54 rfl rfl ?_
      refine zr_iload d_0_struckBy_55 rfl ?_
      obtain ⟨⟨q14, qm15⟩, hq16, hT7⟩ := z_bd hT7
      replace hT7 := z_h2 hT7
      refine zr_callVi (av := [zA 6 o1, zA 5 o2, zI a3, zI x3]) (st := [zI (f0_lotOfHundred a5 v11)]) d_0_struckBy_57 mw_1_chanceOf ml_0_77 im_1_chanceOf se_1_chanceOf rfl rfl (Nat.le_of_ble_eq_true rfl) fit_4_5_5 rfl rfl rfl (s1_chanceOf hq16) ?_
      refine zr_icmp_ge (tgt := 72) d_0_struckBy_60 rfl (fun hc17 => ?_) (fun hc17 => ?_)
      · replace hT7 := z_ip hT7 hc17
        refine zr_iload d_0_struckBy_63 rfl ?_
        refine zr_iconst (v := (1 : Int32)) d_0_struckBy_65 rfl ?_
        refine zr_iload d_0_struckBy_66 rfl ?_
        refine zr_ishl d_0_struckBy_68 ?_
        refine zr_ior d_0_struckBy_69 ?_
        obtain ⟨v18, hv19, hT7⟩ := z_lt hT7
        refine zr_nm hv19 ?_
        refine zr_istore (i := 6) (l' := [some (zA 0 0), some (zA 6 o1), some (zA 5 o2), some (zI a3), some (zI a4), some (zI a5), some (zI v18), some (zI x3), some (zI v11)]) d_0_struckBy_70 (by decide) rfl ?_
        obtain ⟨rfl, rfl⟩ := z_i2 (Option.some.inj hT7)
        exact zr_wk2 hJ8 ⟨rfl, ⟨rfl, ⟨rfl, ⟨rfl, ⟨rfl, ⟨rfl, ⟨rfl, ⟨rfl, trivial⟩⟩⟩⟩⟩⟩⟩⟩
      · replace hT7 := z_im hT7 hc17
        obtain ⟨rfl, rfl⟩ := z_i2 (Option.some.inj hT7)
        exact zr_wk2 hJ8 ⟨rfl, ⟨rfl, ⟨rfl, ⟨rfl, ⟨rfl, ⟨rfl, ⟨rfl, ⟨rfl, trivial⟩⟩⟩⟩⟩⟩⟩⟩
  · replace h := z_im h hc5
    obtain rfl := Option.some.inj h
    exact zr_wk2 (hE x2 xm4 rfl) ⟨rfl, trivial⟩
theorem s0_struckBy {P : zP} {μ : zMem} {o1 : Nat} {o2 : Nat} {a3 : Int32} {a4 : Int32} {a5 : Int32} {r : Int32} {μ' : zMem} (h : f0_struckBy o1 o2 a3 a4 a5 μ = some (r, μ')) : z_Sp P y_0_struckBy M_0_struckBy 5 [zA 0 0, zA 6 o1, zA 5 o2, zI a3, zI a4, zI a5] μ (some (zI r)) μ' := by
  refine z_Sp.of (plainFor_of_name (by decide)) rfl (l0 := [some (zA 0 0), some (zA 6 o1), some (zA 5 o2), some (zI a3), some (zI a4), some (zI a5), none, none, none]) rfl (Nat.le_of_ble_eq_true rfl) ?_
  unfold f0_struckBy at h
  refine zr_iconst (v := (0 : Int32)) d_0_struckBy_0 rfl ?_
  refine zr_istore (i := 6) (l' := [some (zA 0 0), some (zA 6 o1), some (zA 5 o2), some (zI a3), some (zI a4), some (zI a5), some (zI (0 : Int32)), none, none]) d_0_struckBy_1 (by decide) rfl ?_
  refine zr_iconst (v := (0 : Int32)) d_0_struckBy_3 rfl ?_
  refine zr_istore (i := 7) (l' := [some (zA 0 0), some (zA 6 o1), some (zA 5 o2), some (zI a3), some (zI a4), some (zI a5), some (zI (0 : Int32)), some (zI (0 : Int32)), none]) d_0_struckBy_4 (by decide) rfl ?_
  obtain ⟨⟨e22, e23⟩, hl24, h⟩ := z_bd h
  replace h := z_h2 h
  refine zr_wk (l' := [some (zA 0 0), some (zA 6 o1), some (zA 5 o2), some (zI a3), some (zI a4), some (zI a5), some (zI (0 : Int32)), some (zI (0 : Int32)), none]) ⟨rfl, ⟨rfl, ⟨rfl, ⟨rfl, ⟨rfl, ⟨rfl, ⟨rfl, ⟨rfl, trivial⟩⟩⟩⟩⟩⟩⟩⟩ ?_
  refine z_loop (Hd := (z_u3 fun y0 y1 y2 => z_RQ P M_0_struckBy (z_rm 5) (z_mq P (some (zI r)) μ') 0 0 6 [some (zA 0 0), some (zA 6 o1), some (zA 5 o2), some (zI a3), some (zI a4), some (zI a5), some (zI y0), some (zI y1), none] [] y2)) (Ex := (z_u2 fun z0 z1 => z_RQ P M_0_struckBy (z_rm 5) (z_mq P (some (zI r)) μ') 0 0 78 [none, none, none, none, none, none, some (zI z0), none, none] [] z1)) (fun ⟨x2, x3, xm4⟩ K h hI hE => s0_struckBy_L1 o1 o2 a3 a4 a5 x2 x3 xm4 K h (fun y0 y1 y2 e => hI (y0, y1, y2) e) (fun z0 z1 e => hE (z0, z1) e) ) _ _ _ hl24 ?_
  refine zr_iload d_0_struckBy_78 rfl ?_
  obtain ⟨rfl, rfl⟩ := Prod.mk.inj (Option.some.inj h)
  exact ze_i d_0_struckBy_80 rfl
def f5_die (o0 : Nat) (a1 : Int32) (μ : zMem) : Option (zMem) :=
  z_let (z_sI μ 5 o0 1 ((μ.1 5 o0 1) &&& (((1 : Int32) <<< (a1 &&& 31)) ^^^ (-1 : Int32)))) fun m1 => z_let (z_sI m1 5 o0 2 ((m1.1 5 o0 2) &&& (((1 : Int32) <<< (a1 &&& 31)) ^^^ (-1 : Int32)))) fun m3 => if z_in a1 7 = true then z_let (z_sI m3 22 o0 a1.toNatClampNeg (0 : Int32)) fun m5 => some m5 else none
theorem s5_die {P : zP} {μ : zMem} {o0 : Nat} {a1 : Int32} {μ' : zMem} (h : f5_die o0 a1 μ = some μ') : z_Sp P y_5_die M_5_die 1 [zA 5 o0, zI a1] μ none μ' := by
  refine z_Sp.of (plainFor_of_name (by decide)) rfl (l0 := [some (zA 5 o0), some (zI a1)]) rfl (Nat.le_of_ble_eq_true rfl) ?_
  unfold f5_die at h
  refine zr_aload_n (i := 0) d_5_die_0 rfl rfl ?_
  refine zr_dupa d_5_die_1 ?_
  refine zr_geti d_5_die_2 fw_5_15 (by decide) ?_
  refine zr_iconst (v := (1 : Int32)) d_5_die_5 rfl ?_
  refine zr_iload_n (i := 1) d_5_die_6 rfl rfl ?_
  refine zr_ishl d_5_die_7 ?_
  refine zr_iconst (v := (-1 : Int32)) d_5_die_8 rfl ?_
  refine zr_ixor d_5_die_9 ?_
  refine zr_iand d_5_die_10 ?_
  obtain ⟨m1, hm2, h⟩ := z_lt h
  refine zr_puti d_5_die_11 fw_5_15 pw_5_1 hm2 ?_
  refine zr_aload_n (i := 0) d_5_die_14 rfl rfl ?_
  refine zr_dupa d_5_die_15 ?_
  refine zr_geti d_5_die_16 fw_5_18 (by decide) ?_
  refine zr_iconst (v := (1 : Int32)) d_5_die_19 rfl ?_
  refine zr_iload_n (i := 1) d_5_die_20 rfl rfl ?_
  refine zr_ishl d_5_die_21 ?_
  refine zr_iconst (v := (-1 : Int32)) d_5_die_22 rfl ?_
  refine zr_ixor d_5_die_23 ?_
  refine zr_iand d_5_die_24 ?_
  obtain ⟨m3, hm4, h⟩ := z_lt h
  refine zr_puti d_5_die_25 fw_5_18 pw_5_2 hm4 ?_
  refine zr_aload_n (i := 0) d_5_die_28 rfl rfl ?_
  refine zr_gets (i' := o0) d_5_die_29 fw_5_21 rfl ?_
  refine zr_iload_n (i := 1) d_5_die_32 rfl rfl ?_
  refine zr_iconst (v := (0 : Int32)) d_5_die_33 rfl ?_
  obtain ⟨hb7, h⟩ := z_gd h
  obtain ⟨m5, hm6, h⟩ := z_lt h
  refine zr_iast d_5_die_34 sa_22 rfl hb7 hm6 ?_
  obtain rfl := Option.some.inj h
  exact ze_v d_5_die_35 rfl
def f5_goAway (o0 : Nat) (a1 : Int32) (μ : zMem) : Option (zMem) :=
  z_let (z_sI μ 5 o0 1 ((μ.1 5 o0 1) &&& (((1 : Int32) <<< (a1 &&& 31)) ^^^ (-1 : Int32)))) fun m1 => z_let (z_sI m1 5 o0 2 ((m1.1 5 o0 2) ||| ((1 : Int32) <<< (a1 &&& 31)))) fun m3 => if z_in a1 7 = true then z_let (z_sI m3 22 o0 a1.toNatClampNeg (0 : Int32)) fun m5 => some m5 else none
theorem s5_goAway {P : zP} {μ : zMem} {o0 : Nat} {a1 : Int32} {μ' : zMem} (h : f5_goAway o0 a1 μ = some μ') : z_Sp P y_5_goAway M_5_goAway 1 [zA 5 o0, zI a1] μ none μ' := by
  refine z_Sp.of (plainFor_of_name (by decide)) rfl (l0 := [some (zA 5 o0), some (zI a1)]) rfl (Nat.le_of_ble_eq_true rfl) ?_
  unfold f5_goAway at h
  refine zr_aload_n (i := 0) d_5_goAway_0 rfl rfl ?_
  refine zr_dupa d_5_goAway_1 ?_
  refine zr_geti d_5_goAway_2 fw_5_15 (by decide) ?_
  refine zr_iconst (v := (1 : Int32)) d_5_goAway_5 rfl ?_
  refine zr_iload_n (i := 1) d_5_goAway_6 rfl rfl ?_
  refine zr_ishl d_5_goAway_7 ?_
  refine zr_iconst (v := (-1 : Int32)) d_5_goAway_8 rfl ?_
  refine zr_ixor d_5_goAway_9 ?_
  refine zr_iand d_5_goAway_10 ?_
  obtain ⟨m1, hm2, h⟩ := z_lt h
  refine zr_puti d_5_goAway_11 fw_5_15 pw_5_1 hm2 ?_
  refine zr_aload_n (i := 0) d_5_goAway_14 rfl rfl ?_
  refine zr_dupa d_5_goAway_15 ?_
  refine zr_geti d_5_goAway_16 fw_5_18 (by decide) ?_
  refine zr_iconst (v := (1 : Int32)) d_5_goAway_19 rfl ?_
  refine zr_iload_n (i := 1) d_5_goAway_20 rfl rfl ?_
  refine zr_ishl d_5_goAway_21 ?_
  refine zr_ior d_5_goAway_22 ?_
  obtain ⟨m3, hm4, h⟩ := z_lt h
  refine zr_puti d_5_goAway_23 fw_5_18 pw_5_2 hm4 ?_
  refine zr_aload_n (i := 0) d_5_goAway_26 rfl rfl ?_
  refine zr_gets (i' := o0) d_5_goAway_27 fw_5_21 rfl ?_
  refine zr_iload_n (i := 1) d_5_goAway_30 rfl rfl ?_
  refine zr_iconst (v := (0 : Int32)) d_5_goAway_31 rfl ?_
  obtain ⟨hb7, h⟩ := z_gd h
  obtain ⟨m5, hm6, h⟩ := z_lt h
  refine zr_iast d_5_goAway_32 sa_22 rfl hb7 hm6 ?_
  obtain rfl := Option.some.inj h
  exact ze_v d_5_goAway_33 rfl
def f5_comeHome (o0 : Nat) (a1 : Int32) (μ : zMem) : Option (zMem) :=
  z_let (z_sI μ 5 o0 2 ((μ.1 5 o0 2) &&& (((1 : Int32) <<< (a1 &&& 31)) ^^^ (-1 : Int32)))) fun m1 => z_let (z_sI m1 5 o0 1 ((m1.1 5 o0 1) ||| ((1 : Int32) <<< (a1 &&& 31)))) fun m3 => if z_in a1 7 = true then z_let (z_sI m3 22 o0 a1.toNatClampNeg (0 : Int32)) fun m5 => some m5 else none
theorem s5_comeHome {P : zP} {μ : zMem} {o0 : Nat} {a1 : Int32} {μ' : zMem} (h : f5_comeHome o0 a1 μ = some μ') : z_Sp P y_5_comeHome M_5_comeHome 1 [zA 5 o0, zI a1] μ none μ' := by
  refine z_Sp.of (plainFor_of_name (by decide)) rfl (l0 := [some (zA 5 o0), some (zI a1)]) rfl (Nat.le_of_ble_eq_true rfl) ?_
  unfold f5_comeHome at h
  refine zr_aload_n (i := 0) d_5_comeHome_0 rfl rfl ?_
  refine zr_dupa d_5_comeHome_1 ?_
  refine zr_geti d_5_comeHome_2 fw_5_18 (by decide) ?_
  refine zr_iconst (v := (1 : Int32)) d_5_comeHome_5 rfl ?_
  refine zr_iload_n (i := 1) d_5_comeHome_6 rfl rfl ?_
  refine zr_ishl d_5_comeHome_7 ?_
  refine zr_iconst (v := (-1 : Int32)) d_5_comeHome_8 rfl ?_
  refine zr_ixor d_5_comeHome_9 ?_
  refine zr_iand d_5_comeHome_10 ?_
  obtain ⟨m1, hm2, h⟩ := z_lt h
  refine zr_puti d_5_comeHome_11 fw_5_18 pw_5_2 hm2 ?_
  refine zr_aload_n (i := 0) d_5_comeHome_14 rfl rfl ?_
  refine zr_dupa d_5_comeHome_15 ?_
  refine zr_geti d_5_comeHome_16 fw_5_15 (by decide) ?_
  refine zr_iconst (v := (1 : Int32)) d_5_comeHome_19 rfl ?_
  refine zr_iload_n (i := 1) d_5_comeHome_20 rfl rfl ?_
  refine zr_ishl d_5_comeHome_21 ?_
  refine zr_ior d_5_comeHome_22 ?_
  obtain ⟨m3, hm4, h⟩ := z_lt h
  refine zr_puti d_5_comeHome_23 fw_5_15 pw_5_1 hm4 ?_
  refine zr_aload_n (i := 0) d_5_comeHome_26 rfl rfl ?_
  refine zr_gets (i' := o0) d_5_comeHome_27 fw_5_21 rfl ?_
  refine zr_iload_n (i := 1) d_5_comeHome_30 rfl rfl ?_
  refine zr_iconst (v := (0 : Int32)) d_5_comeHome_31 rfl ?_
  obtain ⟨hb7, h⟩ := z_gd h
  obtain ⟨m5, hm6, h⟩ := z_lt h
  refine zr_iast d_5_comeHome_32 sa_22 rfl hb7 hm6 ?_
  obtain rfl := Option.some.inj h
  exact ze_v d_5_comeHome_33 rfl
def f0_turn_L1 (o1 : Nat) (o2 : Nat) (a3 : Int32) (a4 : Int32) (a5 : Int32) : (Int32 × zMem) → Option ((Int32 × zMem) ⊕ (zMem)) := (z_u2 fun x2 xm3 => 
  (if x2 < (xm3.1 6 o1 1) then if z_in x2 7 = true then z_let (z_sI xm3 23 o2 x2.toNatClampNeg ((xm3.1 23 o2 x2.toNatClampNeg) + (xm3.1 14 0 x2.toNatClampNeg))) fun m6 => ((if (f8_has a3 x2) = 0 then (if (f8_has a4 x2) = 0 then (if (f8_has a5 x2) = 0 then (if (f8_has (m6.1 5 o2 2) x2) = 0 then some m6 else z_let (z_sI m6 22 o2 x2.toNatClampNeg ((m6.1 22 o2 x2.toNatClampNeg) + (1 : Int32))) fun m18 => some m18) else (f5_comeHome o2 x2 m6).bind (fun qm20 => some qm20)) else (f5_goAway o2 x2 m6).bind (fun qm22 => some qm22)) else (f5_die o2 x2 m6).bind (fun qm24 => some qm24)) : Option (zMem)).bind (fun jm26 => ((if (f8_has (f5_alive o2 jm26) x2) = 0 then some jm26 else z_let (z_sI jm26 24 o2 x2.toNatClampNeg ((jm26.1 24 o2 x2.toNatClampNeg) + (1 : Int32))) fun m32 => some m32) : Option (zMem)).bind (fun jm34 => some (.inl ((x2 + (1 : Int32)), jm34)))) else none else some (.inr xm3)))
def f0_turn (o1 : Nat) (o2 : Nat) (a3 : Int32) (a4 : Int32) (a5 : Int32) (μ : zMem) : Option (zMem) :=
  (z_it (f0_turn_L1 o1 o2 a3 a4 a5) z_fu ((0 : Int32), μ)).bind (fun e35 => z_let (z_sI e35 5 o2 0 ((e35.1 5 o2 0) + (1 : Int32))) fun m37 => some m37)
theorem s0_turn_L1 {P : zP} {ro : Option zV} {μo : zMem} (o1 : Nat) (o2 : Nat) (a3 : Int32) (a4 : Int32) (a5 : Int32) (x2 : Int32) (xm3 : zMem) (K : (Int32 × zMem) ⊕ (zMem)) (h : f0_turn_L1 o1 o2 a3 a4 a5 (x2, xm3) = some K) (hI : ∀ (y0 : Int32) (y1 : zMem), K = .inl (y0, y1) → z_RQ P M_0_turn (z_rm 2) (z_mq P ro μo) 0 0 3 [some (zA 0 0), some (zA 6 o1), some (zA 5 o2), some (zI a3), some (zI a4), some (zI a5), some (zI y0)] [] y1) (hE : ∀ (z0 : zMem), K = .inr z0 → z_RQ P M_0_turn (z_rm 2) (z_mq P ro μo) 0 0 137 [none, none, some (zA 5 o2), none, none, none, none] [] z0)  : z_RQ P M_0_turn (z_rm 2) (z_mq P ro μo) 0 0 3 [some (zA 0 0), some (zA 6 o1), some (zA 5 o2), some (zI a3), some (zI a4), some (zI a5), some (zI x2)] [] xm3 := by
  unfold f0_turn_L1 at h
  replace h := z_h2 h
  refine zr_iload d_0_turn_3 rfl ?_
  refine zr_aload_n (i := 1) d_0_turn_5 rfl rfl ?_
  refine zr_geti d_0_turn_6 fw_0_85 (by decide) ?_
  refine zr_icmp_ge (tgt := 137) d_0_turn_9 rfl (fun hc4 => ?_) (fun hc4 => ?_)
  · replace h := z_ip h hc4
    refine zr_aload_n (i := 2) d_0_turn_12 rfl rfl ?_
    refine zr_gets (i' := o2) d_0_turn_13 fw_0_88 rfl ?_
    refine zr_iload d_0_turn_16 rfl ?_
    refine zr_dup2 d_0_turn_18 ?_
    obtain ⟨hb5, h⟩ := z_gd h
    refine zr_iald d_0_turn_19 sa_23 rfl hb5 ?_
    refine zr_aload_n (i := 0) d_0_turn_20 rfl rfl ?_
    refine zr_gets (i' := 0) d_0_turn_21 fw_0_18 rfl ?_
    refine zr_iload d_0_turn_24 rfl ?_
    refine zr_iald d_0_turn_26 sa_14 rfl hb5 ?_
    refine zr_iadd d_0_turn_27 ?_
    obtain ⟨m6, hm7, h⟩ := z_lt h
    refine zr_iast d_0_turn_28 sa_23 rfl hb5 hm7 ?_
    refine zr_iload_n (i := 3) d_0_turn_29 rfl rfl ?_
    refine zr_iload d_0_turn_30 rfl ?_
    refine zr_callSNi (av := [zI a3, zI x2]) (st := []) d_0_turn_32 mw_8_has nl_0_63 is_8_has rfl rfl (Nat.le_of_ble_eq_true rfl) fit_1_2_2 (s8_has rfl) ?_
    obtain ⟨jm26, hT9, h⟩ := z_bd h
    have hJ10 : z_RQ P M_0_turn (z_rm 2) (z_mq P ro μo) 0 0 108 [some (zA 0 0), some (zA 6 o1), some (zA 5 o2), some (zI a3), some (zI a4), some (zI a5), some (zI x2)] [] jm26 := by
      refine zr_aload_n (i := 2) d_0_turn_108 rfl rfl ?_
      refine zr_callVi (av := []) (st := []) d_0_turn_109 mw_5_alive ml_0_29 im_5_alive se_5_alive rfl rfl (Nat.le_of_ble_eq_true rfl) fit_1_1_2 rfl rfl rfl (s5_alive rfl) ?_
      refine zr_iload d_0_turn_112 rfl ?_
      refine zr_callSNi (av := [zI (f5_alive o2 jm26), zI x2]) (st := []) d_0_turn_114 mw_8_has nl_0_63 is_8_has rfl rfl (Nat.le_of_ble_eq_true rfl) fit_1_2_2 (s8_has rfl) ?_
      obtain ⟨jm34, hT29, h⟩ := z_bd h
      have hJ30 : z_RQ P M_0_turn (z_rm 2) (z_mq P ro μo) 0 0 131 [some (zA 0 0), some (zA 6 o1), some (zA 5 o2), some (zI a3), some (zI a4), some (zI a5), some (zI x2)] [] jm34 := by
        refine zr_iinc (v := (x2 + (1 : Int32))) (l' := [some (zA 0 0), some (zA 6 o1), some (zA 5 o2), some (zI a3), some (zI a4), some (zI a5), some (zI (x2 + (1 : Int32)))]) d_0_turn_131 (by decide) rfl rfl rfl ?_
        refine zr_goto (tgt := 3) d_0_turn_134 rfl ?_
        obtain rfl := Option.some.inj h
        exact zr_wk2 (hI (x2 + (1 : Int32)) jm34 rfl) ⟨rfl, ⟨rfl, ⟨rfl, ⟨rfl, ⟨rfl, ⟨rfl, ⟨rfl, trivial⟩⟩⟩⟩⟩⟩⟩
      refine zr_if_eq (tgt := 131) d_0_turn_117 rfl (fun hc31 => ?_) (fun hc31 => ?_)
      · replace hT29 := z_ip hT29 hc31
        obtain rfl := Option.some.inj hT29
        exact zr_wk2 hJ30 ⟨rfl, ⟨rfl, ⟨rfl, ⟨rfl, ⟨rfl, ⟨rfl, ⟨rfl, trivial⟩⟩⟩⟩⟩⟩⟩
      · replace hT29 := z_im hT29 hc31
        refine zr_aload_n (i := 2) d_0_turn_120 rfl rfl ?_
        refine zr_gets (i' := o2) d_0_turn_121 fw_0_104 rfl ?_
        refine zr_iload d_0_turn_124 rfl ?_
        refine zr_dup2 d_0_turn_126 ?_
        refine zr_iald d_0_turn_127 sa_24 rfl hb5 ?_
        refine zr_iconst (v := (1 : Int32)) d_0_turn_128 rfl ?_
        refine zr_iadd d_0_turn_129 ?_
        obtain ⟨m32, hm33, hT29⟩ := z_lt hT29
        refine zr_iast d_0_turn_130 sa_24 rfl hb5 hm33 ?_
        obtain rfl := Option.some.inj hT29
        exact zr_wk2 hJ30 ⟨rfl, ⟨rfl, ⟨rfl, ⟨rfl, ⟨rfl, ⟨rfl, ⟨rfl, trivial⟩⟩⟩⟩⟩⟩⟩
    refine zr_if_eq (tgt := 47) d_0_turn_35 rfl (fun hc11 => ?_) (fun hc11 => ?_)
    · replace hT9 := z_ip hT9 hc11
      refine zr_iload d_0_turn_47 rfl ?_
      refine zr_iload d_0_turn_49 rfl ?_
      refine zr_callSNi (av := [zI a4, zI x2]) (st := []) d_0_turn_51 mw_8_has nl_0_63 is_8_has rfl rfl (Nat.le_of_ble_eq_true rfl) fit_1_2_2 (s8_has rfl) ?_
      refine zr_if_eq (tgt := 66) d_0_turn_54 rfl (fun hc13 => ?_) (fun hc13 => ?_)
      · replace hT9 := z_ip hT9 hc13
        refine zr_iload d_0_turn_66 rfl ?_
        refine zr_iload d_0_turn_68 rfl ?_
        refine zr_callSNi (av := [zI a5, zI x2]) (st := []) d_0_turn_70 mw_8_has nl_0_63 is_8_has rfl rfl (Nat.le_of_ble_eq_true rfl) fit_1_2_2 (s8_has rfl) ?_
        refine zr_if_eq (tgt := 85) d_0_turn_73 rfl (fun hc15 => ?_) (fun hc15 => ?_)
        · replace hT9 := z_ip hT9 hc15
          refine zr_aload_n (i := 2) d_0_turn_85 rfl rfl ?_
          refine zr_geti d_0_turn_86 fw_0_43 (by decide) ?_
          refine zr_iload d_0_turn_89 rfl ?_
          refine zr_callSNi (av := [zI (m6.1 5 o2 2), zI x2]) (st := []) d_0_turn_91 mw_8_has nl_0_63 is_8_has rfl rfl (Nat.le_of_ble_eq_true rfl) fit_1_2_2 (s8_has rfl) ?_
          refine zr_if_eq (tgt := 108) d_0_turn_94 rfl (fun hc17 => ?_) (fun hc17 => ?_)
          · replace hT9 := z_ip hT9 hc17
            obtain rfl := Option.some.inj hT9
            exact zr_wk2 hJ10 ⟨rfl, ⟨rfl, ⟨rfl, ⟨rfl, ⟨rfl, ⟨rfl, ⟨rfl, trivial⟩⟩⟩⟩⟩⟩⟩
          · replace hT9 := z_im hT9 hc17
            refine zr_aload_n (i := 2) d_0_turn_97 rfl rfl ?_
            refine zr_gets (i' := o2) d_0_turn_98 fw_0_101 rfl ?_
            refine zr_iload d_0_turn_101 rfl ?_
            refine zr_dup2 d_0_turn_103 ?_
            refine zr_iald d_0_turn_104 sa_22 rfl hb5 ?_
            refine zr_iconst (v := (1 : Int32)) d_0_turn_105 rfl ?_
            refine zr_iadd d_0_turn_106 ?_
            obtain ⟨m18, hm19, hT9⟩ := z_lt hT9
            refine zr_iast d_0_turn_107 sa_22 rfl hb5 hm19 ?_
            obtain rfl := Option.some.inj hT9
            exact zr_wk2 hJ10 ⟨rfl, ⟨rfl, ⟨rfl, ⟨rfl, ⟨rfl, ⟨rfl, ⟨rfl, trivial⟩⟩⟩⟩⟩⟩⟩
        · replace hT9 := z_im hT9 hc15
          refine zr_aload_n (i := 2) d_0_turn_76 rfl rfl ?_
          refine zr_iload d_0_turn_77 rfl ?_
          obtain ⟨qm20, hq21, hT9⟩ := z_bd hT9
          refine zr_callVv (av := [zI x2]) (st := []) d_0_turn_79 mw_5_comeHome ml_0_98 im_5_comeHome se_5_comeHome rfl rfl (Nat.le_of_ble_eq_true rfl) fit_1_2_2 rfl rfl rfl (s5_comeHome hq21) ?_
          refine zr_goto (tgt := 108) d_0_turn_82 rfl ?_
          obtain rfl := Option.some.inj hT9
          exact zr_wk2 hJ10 ⟨rfl, ⟨rfl, ⟨rfl, ⟨rfl, ⟨rfl, ⟨rfl, ⟨rfl, trivial⟩⟩⟩⟩⟩⟩⟩
      · replace hT9 := z_im hT9 hc13
        refine zr_aload_n (i := 2) d_0_turn_57 rfl rfl ?_
        refine zr_iload d_0_turn_58 rfl ?_
        obtain ⟨qm22, hq23, hT9⟩ := z_bd hT9
        refine zr_callVv (av := [zI x2]) (st := []) d_0_turn_60 mw_5_goAway ml_0_95 im_5_goAway se_5_goAway rfl rfl (Nat.le_of_ble_eq_true rfl) fit_1_2_2 rfl rfl rfl (s5_goAway hq23) ?_
        refine zr_goto (tgt := 108) d_0_turn_63 rfl ?_
        obtain rfl := Option.some.inj hT9
        exact zr_wk2 hJ10 ⟨rfl, ⟨rfl, ⟨rfl, ⟨rfl, ⟨rfl, ⟨rfl, ⟨rfl, trivial⟩⟩⟩⟩⟩⟩⟩
    · replace hT9 := z_im hT9 hc11
      refine zr_aload_n (i := 2) d_0_turn_38 rfl rfl ?_
      refine zr_iload d_0_turn_39 rfl ?_
      obtain ⟨qm24, hq25, hT9⟩ := z_bd hT9
      refine zr_callVv (av := [zI x2]) (st := []) d_0_turn_41 mw_5_die ml_0_91 im_5_die se_5_die rfl rfl (Nat.le_of_ble_eq_true rfl) fit_1_2_2 rfl rfl rfl (s5_die hq25) ?_
      refine zr_goto (tgt := 108) d_0_turn_44 rfl ?_
      obtain rfl := Option.some.inj hT9
      exact zr_wk2 hJ10 ⟨rfl, ⟨rfl, ⟨rfl, ⟨rfl, ⟨rfl, ⟨rfl, ⟨rfl, trivial⟩⟩⟩⟩⟩⟩⟩
  · replace h := z_im h hc4
    obtain rfl := Option.some.inj h
    exact zr_wk2 (hE xm3 rfl) ⟨rfl, trivial⟩
theorem s0_turn {P : zP} {μ : zMem} {o1 : Nat} {o2 : Nat} {a3 : Int32} {a4 : Int32} {a5 : Int32} {μ' : zMem} (h : f0_turn o1 o2 a3 a4 a5 μ = some μ') : z_Sp P y_0_turn M_0_turn 2 [zA 0 0, zA 6 o1, zA 5 o2, zI a3, zI a4, zI a5] μ none μ' := by
  refine z_Sp.of (plainFor_of_name (by decide)) rfl (l0 := [some (zA 0 0), some (zA 6 o1), some (zA 5 o2), some (zI a3), some (zI a4), some (zI a5), none]) rfl (Nat.le_of_ble_eq_true rfl) ?_
  unfold f0_turn at h
  refine zr_iconst (v := (0 : Int32)) d_0_turn_0 rfl ?_
  refine zr_istore (i := 6) (l' := [some (zA 0 0), some (zA 6 o1), some (zA 5 o2), some (zI a3), some (zI a4), some (zI a5), some (zI (0 : Int32))]) d_0_turn_1 (by decide) rfl ?_
  obtain ⟨e35, hl36, h⟩ := z_bd h
  refine zr_wk (l' := [some (zA 0 0), some (zA 6 o1), some (zA 5 o2), some (zI a3), some (zI a4), some (zI a5), some (zI (0 : Int32))]) ⟨rfl, ⟨rfl, ⟨rfl, ⟨rfl, ⟨rfl, ⟨rfl, ⟨rfl, trivial⟩⟩⟩⟩⟩⟩⟩ ?_
  refine z_loop (Hd := (z_u2 fun y0 y1 => z_RQ P M_0_turn (z_rm 2) (z_mq P none μ') 0 0 3 [some (zA 0 0), some (zA 6 o1), some (zA 5 o2), some (zI a3), some (zI a4), some (zI a5), some (zI y0)] [] y1)) (Ex := (fun z0 => z_RQ P M_0_turn (z_rm 2) (z_mq P none μ') 0 0 137 [none, none, some (zA 5 o2), none, none, none, none] [] z0)) (fun ⟨x2, xm3⟩ K h hI hE => s0_turn_L1 o1 o2 a3 a4 a5 x2 xm3 K h (fun y0 y1 e => hI (y0, y1) e) (fun z0 e => hE z0 e) ) _ _ _ hl36 ?_
  refine zr_aload_n (i := 2) d_0_turn_137 rfl rfl ?_
  refine zr_dupa d_0_turn_138 ?_
  refine zr_geti d_0_turn_139 fw_0_67 (by decide) ?_
  refine zr_iconst (v := (1 : Int32)) d_0_turn_142 rfl ?_
  refine zr_iadd d_0_turn_143 ?_
  obtain ⟨m37, hm38, h⟩ := z_lt h
  refine zr_puti d_0_turn_144 fw_0_67 pw_5_0 hm38 ?_
  obtain rfl := Option.some.inj h
  exact ze_v d_0_turn_147 rfl
def f0_goOn_L1 (o1 : Nat) (o2 : Nat) (a3 : Int32) (a4 : Int32) : (Int32 × zMem) → Option ((Int32 × zMem) ⊕ (zMem)) := (z_u2 fun x2 xm3 => 
  (if x2 < a3 then (f1_look 1 o1 o2 xm3).bind (fun qm5 => (f0_reckonDue o1 o2 qm5).bind (fun qm7 => (f0_struckBy o1 o2 (2 : Int32) (f5_alive o2 qm7) a4 qm7).bind (z_u2 fun q10 qm11 => (f0_struckBy o1 o2 (0 : Int32) ((qm11.1 5 o2 1) &&& (q10 ^^^ (-1 : Int32))) a4 qm11).bind (z_u2 fun q13 qm14 => (f0_struckBy o1 o2 (1 : Int32) ((qm14.1 5 o2 2) &&& (q10 ^^^ (-1 : Int32))) a4 qm14).bind (z_u2 fun q16 qm17 => (f0_turn o1 o2 q10 q13 q16 qm17).bind (fun qm19 => some (.inl ((x2 + (1 : Int32)), qm19)))))))) else some (.inr xm3)))
def f0_goOn (o1 : Nat) (o2 : Nat) (a3 : Int32) (a4 : Int32) (μ : zMem) : Option (zMem) :=
  (z_it (f0_goOn_L1 o1 o2 a3 a4) z_fu ((0 : Int32), μ)).bind (fun e21 => some e21)
theorem s0_goOn_L1 {P : zP} {ro : Option zV} {μo : zMem} (o1 : Nat) (o2 : Nat) (a3 : Int32) (a4 : Int32) (x2 : Int32) (xm3 : zMem) (K : (Int32 × zMem) ⊕ (zMem)) (h : f0_goOn_L1 o1 o2 a3 a4 (x2, xm3) = some K) (hI : ∀ (y0 : Int32) (y1 : zMem), K = .inl (y0, y1) → z_RQ P M_0_goOn (z_rm 6) (z_mq P ro μo) 0 0 3 [some (zA 0 0), some (zA 6 o1), some (zA 5 o2), some (zI a3), some (zI a4), some (zI y0), none, none, none] [] y1) (hE : ∀ (z0 : zMem), K = .inr z0 → z_RQ P M_0_goOn (z_rm 6) (z_mq P ro μo) 0 0 97 [none, none, none, none, none, none, none, none, none] [] z0)  : z_RQ P M_0_goOn (z_rm 6) (z_mq P ro μo) 0 0 3 [some (zA 0 0), some (zA 6 o1), some (zA 5 o2), some (zI a3), some (zI a4), some (zI x2), none, none, none] [] xm3 := by
  unfold f0_goOn_L1 at h
  replace h := z_h2 h
  refine zr_iload d_0_goOn_3 rfl ?_
  refine zr_iload_n (i := 3) d_0_goOn_5 rfl rfl ?_
  refine zr_icmp_ge (tgt := 97) d_0_goOn_6 rfl (fun hc4 => ?_) (fun hc4 => ?_)
  · replace h := z_ip h hc4
    refine zr_aload_n (i := 0) d_0_goOn_9 rfl rfl ?_
    refine zr_gets (i' := 1) d_0_goOn_10 fw_0_12 rfl ?_
    refine zr_aload_n (i := 1) d_0_goOn_13 rfl rfl ?_
    refine zr_aload_n (i := 2) d_0_goOn_14 rfl rfl ?_
    obtain ⟨qm5, hq6, h⟩ := z_bd h
    refine zr_callVv (av := [zA 6 o1, zA 5 o2]) (st := []) d_0_goOn_15 mw_1_look ml_0_22 im_1_look se_1_look rfl rfl (Nat.le_of_ble_eq_true rfl) fit_4_5_6 rfl rfl rfl (s1_look hq6) ?_
    refine zr_aload_n (i := 0) d_0_goOn_18 rfl rfl ?_
    refine zr_aload_n (i := 1) d_0_goOn_19 rfl rfl ?_
    refine zr_aload_n (i := 2) d_0_goOn_20 rfl rfl ?_
    obtain ⟨qm7, hq8, h⟩ := z_bd h
    refine zr_callVv (av := [zA 6 o1, zA 5 o2]) (st := []) d_0_goOn_21 mw_0_reckonDue ml_0_26 im_0_reckonDue se_0_reckonDue rfl rfl (Nat.le_of_ble_eq_true rfl) fit_5_5_6 rfl rfl rfl (s0_reckonDue hq8) ?_
    refine zr_aload_n (i := 0) d_0_goOn_24 rfl rfl ?_
    refine zr_aload_n (i := 1) d_0_goOn_25 rfl rfl ?_
    refine zr_aload_n (i := 2) d_0_goOn_26 rfl rfl ?_
    refine zr_iconst (v := (2 : Int32)) d_0_goOn_27 rfl ?_
    refine zr_aload_n (i := 2) d_0_goOn_28 rfl rfl ?_
    refine zr_callVi (av := []) (st := [zI (2 : Int32), zA 5 o2, zA 6 o1, zA 0 0]) d_0_goOn_29 mw_5_alive ml_0_29 im_5_alive se_5_alive rfl rfl (Nat.le_of_ble_eq_true rfl) fit_1_1_6 rfl rfl rfl (s5_alive rfl) ?_
    refine zr_iload d_0_goOn_32 rfl ?_
    obtain ⟨⟨q10, qm11⟩, hq12, h⟩ := z_bd h
    replace h := z_h2 h
    refine zr_callVi (av := [zA 6 o1, zA 5 o2, zI (2 : Int32), zI (f5_alive o2 qm7), zI a4]) (st := []) d_0_goOn_34 mw_0_struckBy ml_0_35 im_0_struckBy se_0_struckBy rfl rfl (Nat.le_of_ble_eq_true rfl) fit_5_9_6 rfl rfl rfl (s0_struckBy hq12) ?_
    refine zr_istore (i := 6) (l' := [some (zA 0 0), some (zA 6 o1), some (zA 5 o2), some (zI a3), some (zI a4), some (zI x2), some (zI q10), none, none]) d_0_goOn_37 (by decide) rfl ?_
    refine zr_aload_n (i := 0) d_0_goOn_39 rfl rfl ?_
    refine zr_aload_n (i := 1) d_0_goOn_40 rfl rfl ?_
    refine zr_aload_n (i := 2) d_0_goOn_41 rfl rfl ?_
    refine zr_iconst (v := (0 : Int32)) d_0_goOn_42 rfl ?_
    refine zr_aload_n (i := 2) d_0_goOn_43 rfl rfl ?_
    refine zr_geti d_0_goOn_44 fw_0_39 (by decide) ?_
    refine zr_iload d_0_goOn_47 rfl ?_
    refine zr_iconst (v := (-1 : Int32)) d_0_goOn_49 rfl ?_
    refine zr_ixor d_0_goOn_50 ?_
    refine zr_iand d_0_goOn_51 ?_
    refine zr_iload d_0_goOn_52 rfl ?_
    obtain ⟨⟨q13, qm14⟩, hq15, h⟩ := z_bd h
    replace h := z_h2 h
    refine zr_callVi (av := [zA 6 o1, zA 5 o2, zI (0 : Int32), zI ((qm11.1 5 o2 1) &&& (q10 ^^^ (-1 : Int32))), zI a4]) (st := []) d_0_goOn_54 mw_0_struckBy ml_0_35 im_0_struckBy se_0_struckBy rfl rfl (Nat.le_of_ble_eq_true rfl) fit_5_9_6 rfl rfl rfl (s0_struckBy hq15) ?_
    refine zr_istore (i := 7) (l' := [some (zA 0 0), some (zA 6 o1), some (zA 5 o2), some (zI a3), some (zI a4), some (zI x2), some (zI q10), some (zI q13), none]) d_0_goOn_57 (by decide) rfl ?_
    refine zr_aload_n (i := 0) d_0_goOn_59 rfl rfl ?_
    refine zr_aload_n (i := 1) d_0_goOn_60 rfl rfl ?_
    refine zr_aload_n (i := 2) d_0_goOn_61 rfl rfl ?_
    refine zr_iconst (v := (1 : Int32)) d_0_goOn_62 rfl ?_
    refine zr_aload_n (i := 2) d_0_goOn_63 rfl rfl ?_
    refine zr_geti d_0_goOn_64 fw_0_43 (by decide) ?_
    refine zr_iload d_0_goOn_67 rfl ?_
    refine zr_iconst (v := (-1 : Int32)) d_0_goOn_69 rfl ?_
    refine zr_ixor d_0_goOn_70 ?_
    refine zr_iand d_0_goOn_71 ?_
    refine zr_iload d_0_goOn_72 rfl ?_
    obtain ⟨⟨q16, qm17⟩, hq18, h⟩ := z_bd h
    replace h := z_h2 h
    refine zr_callVi (av := [zA 6 o1, zA 5 o2, zI (1 : Int32), zI ((qm14.1 5 o2 2) &&& (q10 ^^^ (-1 : Int32))), zI a4]) (st := []) d_0_goOn_74 mw_0_struckBy ml_0_35 im_0_struckBy se_0_struckBy rfl rfl (Nat.le_of_ble_eq_true rfl) fit_5_9_6 rfl rfl rfl (s0_struckBy hq18) ?_
    refine zr_istore (i := 8) (l' := [some (zA 0 0), some (zA 6 o1), some (zA 5 o2), some (zI a3), some (zI a4), some (zI x2), some (zI q10), some (zI q13), some (zI q16)]) d_0_goOn_77 (by decide) rfl ?_
    refine zr_aload_n (i := 0) d_0_goOn_79 rfl rfl ?_
    refine zr_aload_n (i := 1) d_0_goOn_80 rfl rfl ?_
    refine zr_aload_n (i := 2) d_0_goOn_81 rfl rfl ?_
    refine zr_iload d_0_goOn_82 rfl ?_
    refine zr_iload d_0_goOn_84 rfl ?_
    refine zr_iload d_0_goOn_86 rfl ?_
    obtain ⟨qm19, hq20, h⟩ := z_bd h
    refine zr_callVv (av := [zA 6 o1, zA 5 o2, zI q10, zI q13, zI q16]) (st := []) d_0_goOn_88 mw_0_turn ml_0_46 im_0_turn se_0_turn rfl rfl (Nat.le_of_ble_eq_true rfl) fit_2_7_6 rfl rfl rfl (s0_turn hq20) ?_
    refine zr_iinc (v := (x2 + (1 : Int32))) (l' := [some (zA 0 0), some (zA 6 o1), some (zA 5 o2), some (zI a3), some (zI a4), some (zI (x2 + (1 : Int32))), some (zI q10), some (zI q13), some (zI q16)]) d_0_goOn_91 (by decide) rfl rfl rfl ?_
    refine zr_goto (tgt := 3) d_0_goOn_94 rfl ?_
    obtain rfl := Option.some.inj h
    exact zr_wk2 (hI (x2 + (1 : Int32)) qm19 rfl) ⟨rfl, ⟨rfl, ⟨rfl, ⟨rfl, ⟨rfl, ⟨rfl, trivial⟩⟩⟩⟩⟩⟩
  · replace h := z_im h hc4
    obtain rfl := Option.some.inj h
    exact zr_wk2 (hE xm3 rfl) trivial
theorem s0_goOn {P : zP} {μ : zMem} {o1 : Nat} {o2 : Nat} {a3 : Int32} {a4 : Int32} {μ' : zMem} (h : f0_goOn o1 o2 a3 a4 μ = some μ') : z_Sp P y_0_goOn M_0_goOn 6 [zA 0 0, zA 6 o1, zA 5 o2, zI a3, zI a4] μ none μ' := by
  refine z_Sp.of (plainFor_of_name (by decide)) rfl (l0 := [some (zA 0 0), some (zA 6 o1), some (zA 5 o2), some (zI a3), some (zI a4), none, none, none, none]) rfl (Nat.le_of_ble_eq_true rfl) ?_
  unfold f0_goOn at h
  refine zr_iconst (v := (0 : Int32)) d_0_goOn_0 rfl ?_
  refine zr_istore (i := 5) (l' := [some (zA 0 0), some (zA 6 o1), some (zA 5 o2), some (zI a3), some (zI a4), some (zI (0 : Int32)), none, none, none]) d_0_goOn_1 (by decide) rfl ?_
  obtain ⟨e21, hl22, h⟩ := z_bd h
  refine zr_wk (l' := [some (zA 0 0), some (zA 6 o1), some (zA 5 o2), some (zI a3), some (zI a4), some (zI (0 : Int32)), none, none, none]) ⟨rfl, ⟨rfl, ⟨rfl, ⟨rfl, ⟨rfl, ⟨rfl, trivial⟩⟩⟩⟩⟩⟩ ?_
  refine z_loop (Hd := (z_u2 fun y0 y1 => z_RQ P M_0_goOn (z_rm 6) (z_mq P none μ') 0 0 3 [some (zA 0 0), some (zA 6 o1), some (zA 5 o2), some (zI a3), some (zI a4), some (zI y0), none, none, none] [] y1)) (Ex := (fun z0 => z_RQ P M_0_goOn (z_rm 6) (z_mq P none μ') 0 0 97 [none, none, none, none, none, none, none, none, none] [] z0)) (fun ⟨x2, xm3⟩ K h hI hE => s0_goOn_L1 o1 o2 a3 a4 x2 xm3 K h (fun y0 y1 e => hI (y0, y1) e) (fun z0 e => hE z0 e) ) _ _ _ hl22 ?_
  obtain rfl := Option.some.inj h
  exact ze_v d_0_goOn_97 rfl
def f0_standStill_L3 (o1 : Nat) (o2 : Nat) (a3 : Int32) : (Int32 × zMem) → Option ((Int32 × zMem) ⊕ (zMem)) := (z_u2 fun x4 xm5 => 
  (if x4 < a3 then (f0_reckonDue o1 o2 xm5).bind (fun qm7 => (f0_turn o1 o2 (0 : Int32) (0 : Int32) (0 : Int32) qm7).bind (fun qm9 => some (.inl ((x4 + (1 : Int32)), qm9)))) else some (.inr xm5)))
def f0_standStill (o1 : Nat) (o2 : Nat) (a3 : Int32) (μ : zMem) : Option (zMem) :=
  (f1_look 1 o1 o2 μ).bind (fun qm1 => (z_it (f0_standStill_L3 o1 o2 a3) z_fu ((0 : Int32), qm1)).bind (fun e11 => some e11))
theorem s0_standStill_L3 {P : zP} {ro : Option zV} {μo : zMem} (o1 : Nat) (o2 : Nat) (a3 : Int32) (x4 : Int32) (xm5 : zMem) (K : (Int32 × zMem) ⊕ (zMem)) (h : f0_standStill_L3 o1 o2 a3 (x4, xm5) = some K) (hI : ∀ (y0 : Int32) (y1 : zMem), K = .inl (y0, y1) → z_RQ P M_0_standStill (z_rm 6) (z_mq P ro μo) 0 0 12 [some (zA 0 0), some (zA 6 o1), some (zA 5 o2), some (zI a3), some (zI y0)] [] y1) (hE : ∀ (z0 : zMem), K = .inr z0 → z_RQ P M_0_standStill (z_rm 6) (z_mq P ro μo) 0 0 39 [none, none, none, none, none] [] z0)  : z_RQ P M_0_standStill (z_rm 6) (z_mq P ro μo) 0 0 12 [some (zA 0 0), some (zA 6 o1), some (zA 5 o2), some (zI a3), some (zI x4)] [] xm5 := by
  unfold f0_standStill_L3 at h
  replace h := z_h2 h
  refine zr_iload d_0_standStill_12 rfl ?_
  refine zr_iload_n (i := 3) d_0_standStill_14 rfl rfl ?_
  refine zr_icmp_ge (tgt := 39) d_0_standStill_15 rfl (fun hc6 => ?_) (fun hc6 => ?_)
  · replace h := z_ip h hc6
    refine zr_aload_n (i := 0) d_0_standStill_18 rfl rfl ?_
    refine zr_aload_n (i := 1) d_0_standStill_19 rfl rfl ?_
    refine zr_aload_n (i := 2) d_0_standStill_20 rfl rfl ?_
    obtain ⟨qm7, hq8, h⟩ := z_bd h
    refine zr_callVv (av := [zA 6 o1, zA 5 o2]) (st := []) d_0_standStill_21 mw_0_reckonDue ml_0_26 im_0_reckonDue se_0_reckonDue rfl rfl (Nat.le_of_ble_eq_true rfl) fit_5_5_6 rfl rfl rfl (s0_reckonDue hq8) ?_
    refine zr_aload_n (i := 0) d_0_standStill_24 rfl rfl ?_
    refine zr_aload_n (i := 1) d_0_standStill_25 rfl rfl ?_
    refine zr_aload_n (i := 2) d_0_standStill_26 rfl rfl ?_
    refine zr_iconst (v := (0 : Int32)) d_0_standStill_27 rfl ?_
    refine zr_iconst (v := (0 : Int32)) d_0_standStill_28 rfl ?_
    refine zr_iconst (v := (0 : Int32)) d_0_standStill_29 rfl ?_
    obtain ⟨qm9, hq10, h⟩ := z_bd h
    refine zr_callVv (av := [zA 6 o1, zA 5 o2, zI (0 : Int32), zI (0 : Int32), zI (0 : Int32)]) (st := []) d_0_standStill_30 mw_0_turn ml_0_46 im_0_turn se_0_turn rfl rfl (Nat.le_of_ble_eq_true rfl) fit_2_7_6 rfl rfl rfl (s0_turn hq10) ?_
    refine zr_iinc (v := (x4 + (1 : Int32))) (l' := [some (zA 0 0), some (zA 6 o1), some (zA 5 o2), some (zI a3), some (zI (x4 + (1 : Int32)))]) d_0_standStill_33 (by decide) rfl rfl rfl ?_
    refine zr_goto (tgt := 12) d_0_standStill_36 rfl ?_
    obtain rfl := Option.some.inj h
    exact zr_wk2 (hI (x4 + (1 : Int32)) qm9 rfl) ⟨rfl, ⟨rfl, ⟨rfl, ⟨rfl, ⟨rfl, trivial⟩⟩⟩⟩⟩
  · replace h := z_im h hc6
    obtain rfl := Option.some.inj h
    exact zr_wk2 (hE xm5 rfl) trivial
theorem s0_standStill {P : zP} {μ : zMem} {o1 : Nat} {o2 : Nat} {a3 : Int32} {μ' : zMem} (h : f0_standStill o1 o2 a3 μ = some μ') : z_Sp P y_0_standStill M_0_standStill 6 [zA 0 0, zA 6 o1, zA 5 o2, zI a3] μ none μ' := by
  refine z_Sp.of (plainFor_of_name (by decide)) rfl (l0 := [some (zA 0 0), some (zA 6 o1), some (zA 5 o2), some (zI a3), none]) rfl (Nat.le_of_ble_eq_true rfl) ?_
  unfold f0_standStill at h
  refine zr_aload_n (i := 0) d_0_standStill_0 rfl rfl ?_
  refine zr_gets (i' := 1) d_0_standStill_1 fw_0_12 rfl ?_
  refine zr_aload_n (i := 1) d_0_standStill_4 rfl rfl ?_
  refine zr_aload_n (i := 2) d_0_standStill_5 rfl rfl ?_
  obtain ⟨qm1, hq2, h⟩ := z_bd h
  refine zr_callVv (av := [zA 6 o1, zA 5 o2]) (st := []) d_0_standStill_6 mw_1_look ml_0_22 im_1_look se_1_look rfl rfl (Nat.le_of_ble_eq_true rfl) fit_4_5_6 rfl rfl rfl (s1_look hq2) ?_
  refine zr_iconst (v := (0 : Int32)) d_0_standStill_9 rfl ?_
  refine zr_istore (i := 4) (l' := [some (zA 0 0), some (zA 6 o1), some (zA 5 o2), some (zI a3), some (zI (0 : Int32))]) d_0_standStill_10 (by decide) rfl ?_
  obtain ⟨e11, hl12, h⟩ := z_bd h
  refine zr_wk (l' := [some (zA 0 0), some (zA 6 o1), some (zA 5 o2), some (zI a3), some (zI (0 : Int32))]) ⟨rfl, ⟨rfl, ⟨rfl, ⟨rfl, ⟨rfl, trivial⟩⟩⟩⟩⟩ ?_
  refine z_loop (Hd := (z_u2 fun y0 y1 => z_RQ P M_0_standStill (z_rm 6) (z_mq P none μ') 0 0 12 [some (zA 0 0), some (zA 6 o1), some (zA 5 o2), some (zI a3), some (zI y0)] [] y1)) (Ex := (fun z0 => z_RQ P M_0_standStill (z_rm 6) (z_mq P none μ') 0 0 39 [none, none, none, none, none] [] z0)) (fun ⟨x4, xm5⟩ K h hI hE => s0_standStill_L3 o1 o2 a3 x4 xm5 K h (fun y0 y1 e => hI (y0, y1) e) (fun z0 e => hE z0 e) ) _ _ _ hl12 ?_
  obtain rfl := Option.some.inj h
  exact ze_v d_0_standStill_39 rfl
def f2_clear  (μ : zMem) : zMem :=
  z_let (z_sI μ 2 0 2 (0 : Int32)) fun m1 => m1
theorem s2_clear {P : zP} {μ : zMem} {μ' : zMem} (h : f2_clear μ = μ') : z_Sp P y_2_clear M_2_clear 1 [zA 2 0] μ none μ' := by
  refine z_Sp.of (plainFor_of_name (by decide)) rfl (l0 := [some (zA 2 0)]) rfl (Nat.le_of_ble_eq_true rfl) ?_
  unfold f2_clear at h
  refine zr_aload_n (i := 0) d_2_clear_0 rfl rfl ?_
  refine zr_iconst (v := (0 : Int32)) d_2_clear_1 rfl ?_
  obtain ⟨m1, hm2, h⟩ := z_lt h
  refine zr_puti d_2_clear_2 fw_2_18 pw_2_2 hm2 ?_
  obtain rfl := h
  exact ze_v d_2_clear_5 rfl
def f2_add (a1 : Int32) (a2 : Int32) (μ : zMem) : Option (Int32 × zMem) :=
  (if (μ.1 2 0 2) < (20 : Int32) then if z_in (μ.1 2 0 2) 20 = true then z_let (z_sI μ 15 0 (μ.1 2 0 2).toNatClampNeg a1) fun m2 => if z_in (m2.1 2 0 2) 20 = true then z_let (z_sI m2 16 0 (m2.1 2 0 2).toNatClampNeg a2) fun m5 => z_let (z_sI m5 2 0 2 ((m5.1 2 0 2) + (1 : Int32))) fun m8 => some (((m8.1 2 0 2) - (1 : Int32)), m8) else none else none else some ((-1 : Int32), μ))
theorem s2_add {P : zP} {μ : zMem} {a1 : Int32} {a2 : Int32} {r : Int32} {μ' : zMem} (h : f2_add a1 a2 μ = some (r, μ')) : z_Sp P y_2_add M_2_add 1 [zA 2 0, zI a1, zI a2] μ (some (zI r)) μ' := by
  refine z_Sp.of (plainFor_of_name (by decide)) rfl (l0 := [some (zA 2 0), some (zI a1), some (zI a2)]) rfl (Nat.le_of_ble_eq_true rfl) ?_
  unfold f2_add at h
  refine zr_aload_n (i := 0) d_2_add_0 rfl rfl ?_
  refine zr_geti d_2_add_1 fw_2_18 (by decide) ?_
  refine zr_bipush (v := (20 : Int32)) d_2_add_4 rfl ?_
  refine zr_icmp_lt (tgt := 11) d_2_add_6 rfl (fun hc1 => ?_) (fun hc1 => ?_)
  · replace h := z_ip h hc1
    refine zr_aload_n (i := 0) d_2_add_11 rfl rfl ?_
    refine zr_gets (i' := 0) d_2_add_12 fw_2_11 rfl ?_
    refine zr_aload_n (i := 0) d_2_add_15 rfl rfl ?_
    refine zr_geti d_2_add_16 fw_2_18 (by decide) ?_
    refine zr_iload_n (i := 1) d_2_add_19 rfl rfl ?_
    obtain ⟨hb4, h⟩ := z_gd h
    obtain ⟨m2, hm3, h⟩ := z_lt h
    refine zr_iast d_2_add_20 sa_15 rfl hb4 hm3 ?_
    refine zr_aload_n (i := 0) d_2_add_21 rfl rfl ?_
    refine zr_gets (i' := 0) d_2_add_22 fw_2_15 rfl ?_
    refine zr_aload_n (i := 0) d_2_add_25 rfl rfl ?_
    refine zr_geti d_2_add_26 fw_2_18 (by decide) ?_
    refine zr_iload_n (i := 2) d_2_add_29 rfl rfl ?_
    obtain ⟨hb7, h⟩ := z_gd h
    obtain ⟨m5, hm6, h⟩ := z_lt h
    refine zr_iast d_2_add_30 sa_16 rfl hb7 hm6 ?_
    refine zr_aload_n (i := 0) d_2_add_31 rfl rfl ?_
    refine zr_dupa d_2_add_32 ?_
    refine zr_geti d_2_add_33 fw_2_18 (by decide) ?_
    refine zr_iconst (v := (1 : Int32)) d_2_add_36 rfl ?_
    refine zr_iadd d_2_add_37 ?_
    obtain ⟨m8, hm9, h⟩ := z_lt h
    refine zr_puti d_2_add_38 fw_2_18 pw_2_2 hm9 ?_
    refine zr_aload_n (i := 0) d_2_add_41 rfl rfl ?_
    refine zr_geti d_2_add_42 fw_2_18 (by decide) ?_
    refine zr_iconst (v := (1 : Int32)) d_2_add_45 rfl ?_
    refine zr_isub d_2_add_46 ?_
    obtain ⟨rfl, rfl⟩ := Prod.mk.inj (Option.some.inj h)
    exact ze_i d_2_add_47 rfl
  · replace h := z_im h hc1
    refine zr_iconst (v := (-1 : Int32)) d_2_add_9 rfl ?_
    obtain ⟨rfl, rfl⟩ := Prod.mk.inj (Option.some.inj h)
    exact ze_i d_2_add_10 rfl
def f8_everybody (a0 : Int32) : Int32 :=
  (((1 : Int32) <<< (a0 &&& 31)) - (1 : Int32))
theorem s8_everybody {P : zP} {μ : zMem} {a0 : Int32} {r : Int32} (h : f8_everybody a0 = r) : z_Sp P y_8_everybody M_8_everybody 1 [zI a0] μ (some (zI r)) μ := by
  refine z_Sp.of (plainFor_of_name (by decide)) rfl (l0 := [some (zI a0)]) rfl (Nat.le_of_ble_eq_true rfl) ?_
  unfold f8_everybody at h
  refine zr_iconst (v := (1 : Int32)) d_8_everybody_0 rfl ?_
  refine zr_iload_n (i := 0) d_8_everybody_1 rfl rfl ?_
  refine zr_ishl d_8_everybody_2 ?_
  refine zr_iconst (v := (1 : Int32)) d_8_everybody_3 rfl ?_
  refine zr_isub d_8_everybody_4 ?_
  obtain rfl := h
  exact ze_i d_8_everybody_5 rfl
def f2_canFollow (a1 : Int32) (a2 : Int32) (μ : zMem) : Option (Int32) :=
  (if (f8_has a1 a2) = 0 then if z_in a2 7 = true then (if ((μ.1 17 0 a2.toNatClampNeg) &&& (a1 ^^^ (-1 : Int32))) = 0 then some (1 : Int32) else some (0 : Int32)) else none else some (0 : Int32))
theorem s2_canFollow {P : zP} {μ : zMem} {a1 : Int32} {a2 : Int32} {r : Int32} (h : f2_canFollow a1 a2 μ = some r) : z_Sp P y_2_canFollow M_2_canFollow 2 [zA 2 0, zI a1, zI a2] μ (some (zI r)) μ := by
  refine z_Sp.of (plainFor_of_name (by decide)) rfl (l0 := [some (zA 2 0), some (zI a1), some (zI a2)]) rfl (Nat.le_of_ble_eq_true rfl) ?_
  unfold f2_canFollow at h
  refine zr_iload_n (i := 1) d_2_canFollow_0 rfl rfl ?_
  refine zr_iload_n (i := 2) d_2_canFollow_1 rfl rfl ?_
  refine zr_callSNi (av := [zI a1, zI a2]) (st := []) d_2_canFollow_2 mw_8_has nl_2_44 is_8_has rfl rfl (Nat.le_of_ble_eq_true rfl) fit_1_2_2 (s8_has rfl) ?_
  refine zr_if_ne (tgt := 25) d_2_canFollow_5 rfl (fun hc2 => ?_) (fun hc2 => ?_)
  · replace h := z_ip h hc2
    refine zr_aload_n (i := 0) d_2_canFollow_8 rfl rfl ?_
    refine zr_gets (i' := 0) d_2_canFollow_9 fw_2_25 rfl ?_
    refine zr_iload_n (i := 2) d_2_canFollow_12 rfl rfl ?_
    obtain ⟨hb3, h⟩ := z_gd h
    refine zr_iald d_2_canFollow_13 sa_17 rfl hb3 ?_
    refine zr_iload_n (i := 1) d_2_canFollow_14 rfl rfl ?_
    refine zr_iconst (v := (-1 : Int32)) d_2_canFollow_15 rfl ?_
    refine zr_ixor d_2_canFollow_16 ?_
    refine zr_iand d_2_canFollow_17 ?_
    refine zr_if_ne (tgt := 25) d_2_canFollow_18 rfl (fun hc4 => ?_) (fun hc4 => ?_)
    · replace h := z_ip h hc4
      refine zr_iconst (v := (1 : Int32)) d_2_canFollow_21 rfl ?_
      refine zr_goto (tgt := 26) d_2_canFollow_22 rfl ?_
      obtain rfl := Option.some.inj h
      exact ze_z d_2_canFollow_26 rfl rfl
    · replace h := z_im h hc4
      refine zr_iconst (v := (0 : Int32)) d_2_canFollow_25 rfl ?_
      obtain rfl := Option.some.inj h
      exact ze_z d_2_canFollow_26 rfl rfl
  · replace h := z_im h hc2
    refine zr_iconst (v := (0 : Int32)) d_2_canFollow_25 rfl ?_
    obtain rfl := Option.some.inj h
    exact ze_z d_2_canFollow_26 rfl rfl
def f2_headsOf_L1 (a1 : Int32) (μ : zMem) : (Int32 × Int32) → Option ((Int32 × Int32) ⊕ (Int32)) := (z_u2 fun x2 x3 => 
  (if x3 < (μ.1 2 0 3) then z_let (a1 &&& (((1 : Int32) <<< (x3 &&& 31)) ^^^ (-1 : Int32))) fun v5 => ((if (f8_has a1 x3) = 0 then some x2 else (f2_canFollow v5 x3 μ).bind (fun q11 => (if q11 = 0 then some x2 else if z_in v5 128 = true then z_let (x2 + (μ.1 18 0 v5.toNatClampNeg)) fun v15 => some v15 else none))) : Option (Int32)).bind (fun j17 => some (.inl (j17, (x3 + (1 : Int32))))) else some (.inr x2)))
def f2_headsOf (a1 : Int32) (μ : zMem) : Option (Int32) :=
  (z_it (f2_headsOf_L1 a1 μ) z_fu ((0 : Int32), (0 : Int32))).bind (fun e18 => some e18)
theorem s2_headsOf_L1 {P : zP} {ro : Option zV} {μo : zMem} (a1 : Int32) (μ : zMem) (x2 : Int32) (x3 : Int32) (K : (Int32 × Int32) ⊕ (Int32)) (h : f2_headsOf_L1 a1 μ (x2, x3) = some K) (hI : ∀ (y0 : Int32) (y1 : Int32), K = .inl (y0, y1) → z_RQ P M_2_headsOf (z_rm 3) (z_mq P ro μo) 0 0 4 [some (zA 2 0), some (zI a1), some (zI y0), some (zI y1), none] [] μ) (hE : ∀ (z0 : Int32), K = .inr z0 → z_RQ P M_2_headsOf (z_rm 3) (z_mq P ro μo) 0 0 55 [none, none, some (zI z0), none, none] [] μ)  : z_RQ P M_2_headsOf (z_rm 3) (z_mq P ro μo) 0 0 4 [some (zA 2 0), some (zI a1), some (zI x2), some (zI x3), none] [] μ := by
  unfold f2_headsOf_L1 at h
  replace h := z_h2 h
  refine zr_iload_n (i := 3) d_2_headsOf_4 rfl rfl ?_
  refine zr_aload_n (i := 0) d_2_headsOf_5 rfl rfl ?_
  refine zr_geti d_2_headsOf_6 fw_2_22 (by decide) ?_
  refine zr_icmp_ge (tgt := 55) d_2_headsOf_9 rfl (fun hc4 => ?_) (fun hc4 => ?_)
  · replace h := z_ip h hc4
    refine zr_iload_n (i := 1) d_2_headsOf_12 rfl rfl ?_
    refine zr_iconst (v := (1 : Int32)) d_2_headsOf_13 rfl ?_
    refine zr_iload_n (i := 3) d_2_headsOf_14 rfl rfl ?_
    refine zr_ishl d_2_headsOf_15 ?_
    refine zr_iconst (v := (-1 : Int32)) d_2_headsOf_16 rfl ?_
    refine zr_ixor d_2_headsOf_17 ?_
    refine zr_iand d_2_headsOf_18 ?_
    obtain ⟨v5, hv6, h⟩ := z_lt h
    refine zr_nm hv6 ?_
    refine zr_istore (i := 4) (l' := [some (zA 2 0), some (zI a1), some (zI x2), some (zI x3), some (zI v5)]) d_2_headsOf_19 (by decide) rfl ?_
    refine zr_iload_n (i := 1) d_2_headsOf_21 rfl rfl ?_
    refine zr_iload_n (i := 3) d_2_headsOf_22 rfl rfl ?_
    refine zr_callSNi (av := [zI a1, zI x3]) (st := []) d_2_headsOf_23 mw_8_has nl_2_44 is_8_has rfl rfl (Nat.le_of_ble_eq_true rfl) fit_1_2_3 (s8_has rfl) ?_
    obtain ⟨j17, hT8, h⟩ := z_bd h
    have hJ9 : z_RQ P M_2_headsOf (z_rm 3) (z_mq P ro μo) 0 0 49 [some (zA 2 0), some (zI a1), some (zI j17), some (zI x3), none] [] μ := by
      refine zr_iinc (v := (x3 + (1 : Int32))) (l' := [some (zA 2 0), some (zI a1), some (zI j17), some (zI (x3 + (1 : Int32))), none]) d_2_headsOf_49 (by decide) rfl rfl rfl ?_
      refine zr_goto (tgt := 4) d_2_headsOf_52 rfl ?_
      obtain rfl := Option.some.inj h
      exact zr_wk2 (hI j17 (x3 + (1 : Int32)) rfl) ⟨rfl, ⟨rfl, ⟨rfl, ⟨rfl, trivial⟩⟩⟩⟩
    refine zr_if_eq (tgt := 49) d_2_headsOf_26 rfl (fun hc10 => ?_) (fun hc10 => ?_)
    · replace hT8 := z_ip hT8 hc10
      obtain rfl := Option.some.inj hT8
      exact zr_wk2 hJ9 ⟨rfl, ⟨rfl, ⟨rfl, ⟨rfl, trivial⟩⟩⟩⟩
    · replace hT8 := z_im hT8 hc10
      refine zr_aload_n (i := 0) d_2_headsOf_29 rfl rfl ?_
      refine zr_iload d_2_headsOf_30 rfl ?_
      refine zr_iload_n (i := 3) d_2_headsOf_32 rfl rfl ?_
      obtain ⟨q11, hq12, hT8⟩ := z_bd hT8
      refine zr_callVi (av := [zI v5, zI x3]) (st := []) d_2_headsOf_33 mw_2_canFollow ml_2_48 im_2_canFollow se_2_canFollow rfl rfl (Nat.le_of_ble_eq_true rfl) fit_2_3_3 rfl rfl rfl (s2_canFollow hq12) ?_
      refine zr_if_eq (tgt := 49) d_2_headsOf_36 rfl (fun hc13 => ?_) (fun hc13 => ?_)
      · replace hT8 := z_ip hT8 hc13
        obtain rfl := Option.some.inj hT8
        exact zr_wk2 hJ9 ⟨rfl, ⟨rfl, ⟨rfl, ⟨rfl, trivial⟩⟩⟩⟩
      · replace hT8 := z_im hT8 hc13
        refine zr_iload_n (i := 2) d_2_headsOf_39 rfl rfl ?_
        refine zr_aload_n (i := 0) d_2_headsOf_40 rfl rfl ?_
        refine zr_gets (i' := 0) d_2_headsOf_41 fw_2_28 rfl ?_
        refine zr_iload d_2_headsOf_44 rfl ?_
        obtain ⟨hb14, hT8⟩ := z_gd hT8
        refine zr_iald d_2_headsOf_46 sa_18 rfl hb14 ?_
        refine zr_iadd d_2_headsOf_47 ?_
        obtain ⟨v15, hv16, hT8⟩ := z_lt hT8
        refine zr_nm hv16 ?_
        refine zr_istore_n (i := 2) (l' := [some (zA 2 0), some (zI a1), some (zI v15), some (zI x3), some (zI v5)]) d_2_headsOf_48 rfl (by decide) rfl ?_
        obtain rfl := Option.some.inj hT8
        exact zr_wk2 hJ9 ⟨rfl, ⟨rfl, ⟨rfl, ⟨rfl, trivial⟩⟩⟩⟩
  · replace h := z_im h hc4
    obtain rfl := Option.some.inj h
    exact zr_wk2 (hE x2 rfl) ⟨rfl, trivial⟩
theorem s2_headsOf {P : zP} {μ : zMem} {a1 : Int32} {r : Int32} (h : f2_headsOf a1 μ = some r) : z_Sp P y_2_headsOf M_2_headsOf 3 [zA 2 0, zI a1] μ (some (zI r)) μ := by
  refine z_Sp.of (plainFor_of_name (by decide)) rfl (l0 := [some (zA 2 0), some (zI a1), none, none, none]) rfl (Nat.le_of_ble_eq_true rfl) ?_
  unfold f2_headsOf at h
  refine zr_iconst (v := (0 : Int32)) d_2_headsOf_0 rfl ?_
  refine zr_istore_n (i := 2) (l' := [some (zA 2 0), some (zI a1), some (zI (0 : Int32)), none, none]) d_2_headsOf_1 rfl (by decide) rfl ?_
  refine zr_iconst (v := (0 : Int32)) d_2_headsOf_2 rfl ?_
  refine zr_istore_n (i := 3) (l' := [some (zA 2 0), some (zI a1), some (zI (0 : Int32)), some (zI (0 : Int32)), none]) d_2_headsOf_3 rfl (by decide) rfl ?_
  obtain ⟨e18, hl19, h⟩ := z_bd h
  refine zr_wk (l' := [some (zA 2 0), some (zI a1), some (zI (0 : Int32)), some (zI (0 : Int32)), none]) ⟨rfl, ⟨rfl, ⟨rfl, ⟨rfl, trivial⟩⟩⟩⟩ ?_
  refine z_loop (Hd := (z_u2 fun y0 y1 => z_RQ P M_2_headsOf (z_rm 3) (z_mq P (some (zI r)) μ) 0 0 4 [some (zA 2 0), some (zI a1), some (zI y0), some (zI y1), none] [] μ)) (Ex := (fun z0 => z_RQ P M_2_headsOf (z_rm 3) (z_mq P (some (zI r)) μ) 0 0 55 [none, none, some (zI z0), none, none] [] μ)) (fun ⟨x2, x3⟩ K h hI hE => s2_headsOf_L1 a1 μ x2 x3 K h (fun y0 y1 e => hI (y0, y1) e) (fun z0 e => hE z0 e) ) _ _ _ hl19 ?_
  refine zr_iload_n (i := 2) d_2_headsOf_55 rfl rfl ?_
  obtain rfl := Option.some.inj h
  exact ze_i d_2_headsOf_56 rfl
def f2_tailsOf_L1 (a1 : Int32) (μ : zMem) : (Int32 × Int32) → Option ((Int32 × Int32) ⊕ (Int32)) := (z_u2 fun x2 x3 => 
  (if x3 < (μ.1 2 0 3) then (f2_canFollow a1 x3 μ).bind (fun q5 => ((if q5 = 0 then some x2 else if z_in (a1 ||| ((1 : Int32) <<< (x3 &&& 31))) 128 = true then z_let (x2 + (μ.1 19 0 (a1 ||| ((1 : Int32) <<< (x3 &&& 31))).toNatClampNeg)) fun v11 => some v11 else none) : Option (Int32)).bind (fun j13 => some (.inl (j13, (x3 + (1 : Int32)))))) else some (.inr x2)))
def f2_tailsOf (a1 : Int32) (μ : zMem) : Option (Int32) :=
  (z_it (f2_tailsOf_L1 a1 μ) z_fu ((0 : Int32), (0 : Int32))).bind (fun e14 => some e14)
theorem s2_tailsOf_L1 {P : zP} {ro : Option zV} {μo : zMem} (a1 : Int32) (μ : zMem) (x2 : Int32) (x3 : Int32) (K : (Int32 × Int32) ⊕ (Int32)) (h : f2_tailsOf_L1 a1 μ (x2, x3) = some K) (hI : ∀ (y0 : Int32) (y1 : Int32), K = .inl (y0, y1) → z_RQ P M_2_tailsOf (z_rm 3) (z_mq P ro μo) 0 0 4 [some (zA 2 0), some (zI a1), some (zI y0), some (zI y1)] [] μ) (hE : ∀ (z0 : Int32), K = .inr z0 → z_RQ P M_2_tailsOf (z_rm 3) (z_mq P ro μo) 0 0 40 [none, none, some (zI z0), none] [] μ)  : z_RQ P M_2_tailsOf (z_rm 3) (z_mq P ro μo) 0 0 4 [some (zA 2 0), some (zI a1), some (zI x2), some (zI x3)] [] μ := by
  unfold f2_tailsOf_L1 at h
  replace h := z_h2 h
  refine zr_iload_n (i := 3) d_2_tailsOf_4 rfl rfl ?_
  refine zr_aload_n (i := 0) d_2_tailsOf_5 rfl rfl ?_
  refine zr_geti d_2_tailsOf_6 fw_2_22 (by decide) ?_
  refine zr_icmp_ge (tgt := 40) d_2_tailsOf_9 rfl (fun hc4 => ?_) (fun hc4 => ?_)
  · replace h := z_ip h hc4
    refine zr_aload_n (i := 0) d_2_tailsOf_12 rfl rfl ?_
    refine zr_iload_n (i := 1) d_2_tailsOf_13 rfl rfl ?_
    refine zr_iload_n (i := 3) d_2_tailsOf_14 rfl rfl ?_
    obtain ⟨q5, hq6, h⟩ := z_bd h
    refine zr_callVi (av := [zI a1, zI x3]) (st := []) d_2_tailsOf_15 mw_2_canFollow ml_2_48 im_2_canFollow se_2_canFollow rfl rfl (Nat.le_of_ble_eq_true rfl) fit_2_3_3 rfl rfl rfl (s2_canFollow hq6) ?_
    obtain ⟨j13, hT7, h⟩ := z_bd h
    have hJ8 : z_RQ P M_2_tailsOf (z_rm 3) (z_mq P ro μo) 0 0 34 [some (zA 2 0), some (zI a1), some (zI j13), some (zI x3)] [] μ := by
      refine zr_iinc (v := (x3 + (1 : Int32))) (l' := [some (zA 2 0), some (zI a1), some (zI j13), some (zI (x3 + (1 : Int32)))]) d_2_tailsOf_34 (by decide) rfl rfl rfl ?_
      refine zr_goto (tgt := 4) d_2_tailsOf_37 rfl ?_
      obtain rfl := Option.some.inj h
      exact zr_wk2 (hI j13 (x3 + (1 : Int32)) rfl) ⟨rfl, ⟨rfl, ⟨rfl, ⟨rfl, trivial⟩⟩⟩⟩
    refine zr_if_eq (tgt := 34) d_2_tailsOf_18 rfl (fun hc9 => ?_) (fun hc9 => ?_)
    · replace hT7 := z_ip hT7 hc9
      obtain rfl := Option.some.inj hT7
      exact zr_wk2 hJ8 ⟨rfl, ⟨rfl, ⟨rfl, ⟨rfl, trivial⟩⟩⟩⟩
    · replace hT7 := z_im hT7 hc9
      refine zr_iload_n (i := 2) d_2_tailsOf_21 rfl rfl ?_
      refine zr_aload_n (i := 0) d_2_tailsOf_22 rfl rfl ?_
      refine zr_gets (i' := 0) d_2_tailsOf_23 fw_2_31 rfl ?_
      refine zr_iload_n (i := 1) d_2_tailsOf_26 rfl rfl ?_
      refine zr_iconst (v := (1 : Int32)) d_2_tailsOf_27 rfl ?_
      refine zr_iload_n (i := 3) d_2_tailsOf_28 rfl rfl ?_
      refine zr_ishl d_2_tailsOf_29 ?_
      refine zr_ior d_2_tailsOf_30 ?_
      obtain ⟨hb10, hT7⟩ := z_gd hT7
      refine zr_iald d_2_tailsOf_31 sa_19 rfl hb10 ?_
      refine zr_iadd d_2_tailsOf_32 ?_
      obtain ⟨v11, hv12, hT7⟩ := z_lt hT7
      refine zr_nm hv12 ?_
      refine zr_istore_n (i := 2) (l' := [some (zA 2 0), some (zI a1), some (zI v11), some (zI x3)]) d_2_tailsOf_33 rfl (by decide) rfl ?_
      obtain rfl := Option.some.inj hT7
      exact zr_wk2 hJ8 ⟨rfl, ⟨rfl, ⟨rfl, ⟨rfl, trivial⟩⟩⟩⟩
  · replace h := z_im h hc4
    obtain rfl := Option.some.inj h
    exact zr_wk2 (hE x2 rfl) ⟨rfl, trivial⟩
theorem s2_tailsOf {P : zP} {μ : zMem} {a1 : Int32} {r : Int32} (h : f2_tailsOf a1 μ = some r) : z_Sp P y_2_tailsOf M_2_tailsOf 3 [zA 2 0, zI a1] μ (some (zI r)) μ := by
  refine z_Sp.of (plainFor_of_name (by decide)) rfl (l0 := [some (zA 2 0), some (zI a1), none, none]) rfl (Nat.le_of_ble_eq_true rfl) ?_
  unfold f2_tailsOf at h
  refine zr_iconst (v := (0 : Int32)) d_2_tailsOf_0 rfl ?_
  refine zr_istore_n (i := 2) (l' := [some (zA 2 0), some (zI a1), some (zI (0 : Int32)), none]) d_2_tailsOf_1 rfl (by decide) rfl ?_
  refine zr_iconst (v := (0 : Int32)) d_2_tailsOf_2 rfl ?_
  refine zr_istore_n (i := 3) (l' := [some (zA 2 0), some (zI a1), some (zI (0 : Int32)), some (zI (0 : Int32))]) d_2_tailsOf_3 rfl (by decide) rfl ?_
  obtain ⟨e14, hl15, h⟩ := z_bd h
  refine zr_wk (l' := [some (zA 2 0), some (zI a1), some (zI (0 : Int32)), some (zI (0 : Int32))]) ⟨rfl, ⟨rfl, ⟨rfl, ⟨rfl, trivial⟩⟩⟩⟩ ?_
  refine z_loop (Hd := (z_u2 fun y0 y1 => z_RQ P M_2_tailsOf (z_rm 3) (z_mq P (some (zI r)) μ) 0 0 4 [some (zA 2 0), some (zI a1), some (zI y0), some (zI y1)] [] μ)) (Ex := (fun z0 => z_RQ P M_2_tailsOf (z_rm 3) (z_mq P (some (zI r)) μ) 0 0 40 [none, none, some (zI z0), none] [] μ)) (fun ⟨x2, x3⟩ K h hI hE => s2_tailsOf_L1 a1 μ x2 x3 K h (fun y0 y1 e => hI (y0, y1) e) (fun z0 e => hE z0 e) ) _ _ _ hl15 ?_
  refine zr_iload_n (i := 2) d_2_tailsOf_40 rfl rfl ?_
  obtain rfl := Option.some.inj h
  exact ze_i d_2_tailsOf_41 rfl
def f2_weigh_L3  : (Int32 × zMem) → Option ((Int32 × zMem) ⊕ (zMem)) := (z_u2 fun x4 xm5 => 
  (if x4 < (7 : Int32) then if z_in x4 7 = true then z_let (z_sI xm5 17 0 x4.toNatClampNeg (0 : Int32)) fun m7 => some (.inl ((x4 + (1 : Int32)), m7)) else none else some (.inr xm5)))
def f2_weigh_L12 (a2 : Int32) : (Int32 × zMem) → Option ((Int32 × zMem) ⊕ (zMem)) := (z_u2 fun x13 xm14 => 
  (if x13 < a2 then (if x13 < (xm14.1 2 0 2) then if z_in x13 20 = true then if z_in (xm14.1 16 0 x13.toNatClampNeg) 7 = true then z_let (z_sI xm14 17 0 (xm14.1 16 0 x13.toNatClampNeg).toNatClampNeg ((xm14.1 17 0 (xm14.1 16 0 x13.toNatClampNeg).toNatClampNeg) ||| ((1 : Int32) <<< ((xm14.1 15 0 x13.toNatClampNeg) &&& 31)))) fun m19 => some (.inl ((x13 + (1 : Int32)), m19)) else none else none else some (.inr xm14)) else some (.inr xm14)))
def f2_weigh_L23  : (Int32 × zMem) → Option ((Int32 × zMem) ⊕ (zMem)) := (z_u2 fun x24 xm25 => 
  (if (f8_everybody (xm25.1 2 0 3)) < x24 then some (.inr xm25) else ((if x24 = 0 then some (1 : Int32) else (f2_headsOf x24 xm25).bind (fun q31 => some q31)) : Option (Int32)).bind (fun j33 => if z_in x24 128 = true then z_let (z_sI xm25 18 0 x24.toNatClampNeg j33) fun m34 => some (.inl ((x24 + (1 : Int32)), m34)) else none)))
def f2_weigh_L42  : (Int32 × zMem) → Option ((Int32 × zMem) ⊕ (zMem)) := (z_u2 fun x43 xm44 => 
  (if x43 < 0 then some (.inr xm44) else ((if x43 = (f8_everybody (xm44.1 2 0 3)) then some (1 : Int32) else (f2_tailsOf x43 xm44).bind (fun q50 => some q50)) : Option (Int32)).bind (fun j52 => if z_in x43 128 = true then z_let (z_sI xm44 19 0 x43.toNatClampNeg j52) fun m53 => some (.inl ((x43 + (-1 : Int32)), m53)) else none)))
def f2_weigh (a1 : Int32) (a2 : Int32) (μ : zMem) : Option (zMem) :=
  z_let (z_sI μ 2 0 3 a1) fun m1 => (z_it (f2_weigh_L3) z_fu ((0 : Int32), m1)).bind (fun e10 => (z_it (f2_weigh_L12 a2) z_fu ((0 : Int32), e10)).bind (fun e21 => (z_it (f2_weigh_L23) z_fu ((0 : Int32), e21)).bind (fun e37 => z_let (f8_everybody (e37.1 2 0 3)) fun v40 => (z_it (f2_weigh_L42) z_fu (v40, e37)).bind (fun e56 => some e56))))
theorem s2_weigh_L3 {P : zP} {ro : Option zV} {μo : zMem} (a2 : Int32) (x4 : Int32) (xm5 : zMem) (K : (Int32 × zMem) ⊕ (zMem)) (h : f2_weigh_L3  (x4, xm5) = some K) (hI : ∀ (y0 : Int32) (y1 : zMem), K = .inl (y0, y1) → z_RQ P M_2_weigh (z_rm 4) (z_mq P ro μo) 0 0 7 [some (zA 2 0), none, some (zI a2), some (zI y0)] [] y1) (hE : ∀ (z0 : zMem), K = .inr z0 → z_RQ P M_2_weigh (z_rm 4) (z_mq P ro μo) 0 0 26 [some (zA 2 0), none, some (zI a2), none] [] z0)  : z_RQ P M_2_weigh (z_rm 4) (z_mq P ro μo) 0 0 7 [some (zA 2 0), none, some (zI a2), some (zI x4)] [] xm5 := by
  unfold f2_weigh_L3 at h
  replace h := z_h2 h
  refine zr_iload_n (i := 3) d_2_weigh_7 rfl rfl ?_
  refine zr_bipush (v := (7 : Int32)) d_2_weigh_8 rfl ?_
  refine zr_icmp_ge (tgt := 26) d_2_weigh_10 rfl (fun hc6 => ?_) (fun hc6 => ?_)
  · replace h := z_ip h hc6
    refine zr_aload_n (i := 0) d_2_weigh_13 rfl rfl ?_
    refine zr_gets (i' := 0) d_2_weigh_14 fw_2_25 rfl ?_
    refine zr_iload_n (i := 3) d_2_weigh_17 rfl rfl ?_
    refine zr_iconst (v := (0 : Int32)) d_2_weigh_18 rfl ?_
    obtain ⟨hb9, h⟩ := z_gd h
    obtain ⟨m7, hm8, h⟩ := z_lt h
    refine zr_iast d_2_weigh_19 sa_17 rfl hb9 hm8 ?_
    refine zr_iinc (v := (x4 + (1 : Int32))) (l' := [some (zA 2 0), none, some (zI a2), some (zI (x4 + (1 : Int32)))]) d_2_weigh_20 (by decide) rfl rfl rfl ?_
    refine zr_goto (tgt := 7) d_2_weigh_23 rfl ?_
    obtain rfl := Option.some.inj h
    exact zr_wk2 (hI (x4 + (1 : Int32)) m7 rfl) ⟨rfl, ⟨rfl, ⟨rfl, trivial⟩⟩⟩
  · replace h := z_im h hc6
    obtain rfl := Option.some.inj h
    exact zr_wk2 (hE xm5 rfl) ⟨rfl, ⟨rfl, trivial⟩⟩
theorem s2_weigh_L12 {P : zP} {ro : Option zV} {μo : zMem} (a2 : Int32) (x13 : Int32) (xm14 : zMem) (K : (Int32 × zMem) ⊕ (zMem)) (h : f2_weigh_L12 a2 (x13, xm14) = some K) (hI : ∀ (y0 : Int32) (y1 : zMem), K = .inl (y0, y1) → z_RQ P M_2_weigh (z_rm 4) (z_mq P ro μo) 0 0 28 [some (zA 2 0), none, some (zI a2), some (zI y0)] [] y1) (hE : ∀ (z0 : zMem), K = .inr z0 → z_RQ P M_2_weigh (z_rm 4) (z_mq P ro μo) 0 0 69 [some (zA 2 0), none, none, none] [] z0)  : z_RQ P M_2_weigh (z_rm 4) (z_mq P ro μo) 0 0 28 [some (zA 2 0), none, some (zI a2), some (zI x13)] [] xm14 := by
  unfold f2_weigh_L12 at h
  replace h := z_h2 h
  refine zr_iload_n (i := 3) d_2_weigh_28 rfl rfl ?_
  refine zr_iload_n (i := 2) d_2_weigh_29 rfl rfl ?_
  refine zr_icmp_ge (tgt := 69) d_2_weigh_30 rfl (fun hc15 => ?_) (fun hc15 => ?_)
  · replace h := z_ip h hc15
    refine zr_iload_n (i := 3) d_2_weigh_33 rfl rfl ?_
    refine zr_aload_n (i := 0) d_2_weigh_34 rfl rfl ?_
    refine zr_geti d_2_weigh_35 fw_2_18 (by decide) ?_
    refine zr_icmp_ge (tgt := 69) d_2_weigh_38 rfl (fun hc16 => ?_) (fun hc16 => ?_)
    · replace h := z_ip h hc16
      refine zr_aload_n (i := 0) d_2_weigh_41 rfl rfl ?_
      refine zr_gets (i' := 0) d_2_weigh_42 fw_2_25 rfl ?_
      refine zr_aload_n (i := 0) d_2_weigh_45 rfl rfl ?_
      refine zr_gets (i' := 0) d_2_weigh_46 fw_2_15 rfl ?_
      refine zr_iload_n (i := 3) d_2_weigh_49 rfl rfl ?_
      obtain ⟨hb17, h⟩ := z_gd h
      refine zr_iald d_2_weigh_50 sa_16 rfl hb17 ?_
      refine zr_dup2 d_2_weigh_51 ?_
      obtain ⟨hb18, h⟩ := z_gd h
      refine zr_iald d_2_weigh_52 sa_17 rfl hb18 ?_
      refine zr_iconst (v := (1 : Int32)) d_2_weigh_53 rfl ?_
      refine zr_aload_n (i := 0) d_2_weigh_54 rfl rfl ?_
      refine zr_gets (i' := 0) d_2_weigh_55 fw_2_11 rfl ?_
      refine zr_iload_n (i := 3) d_2_weigh_58 rfl rfl ?_
      refine zr_iald d_2_weigh_59 sa_15 rfl hb17 ?_
      refine zr_ishl d_2_weigh_60 ?_
      refine zr_ior d_2_weigh_61 ?_
      obtain ⟨m19, hm20, h⟩ := z_lt h
      refine zr_iast d_2_weigh_62 sa_17 rfl hb18 hm20 ?_
      refine zr_iinc (v := (x13 + (1 : Int32))) (l' := [some (zA 2 0), none, some (zI a2), some (zI (x13 + (1 : Int32)))]) d_2_weigh_63 (by decide) rfl rfl rfl ?_
      refine zr_goto (tgt := 28) d_2_weigh_66 rfl ?_
      obtain rfl := Option.some.inj h
      exact zr_wk2 (hI (x13 + (1 : Int32)) m19 rfl) ⟨rfl, ⟨rfl, ⟨rfl, trivial⟩⟩⟩
    · replace h := z_im h hc16
      obtain rfl := Option.some.inj h
      exact zr_wk2 (hE xm14 rfl) ⟨rfl, trivial⟩
  · replace h := z_im h hc15
    obtain rfl := Option.some.inj h
    exact zr_wk2 (hE xm14 rfl) ⟨rfl, trivial⟩
theorem s2_weigh_L23 {P : zP} {ro : Option zV} {μo : zMem}  (x24 : Int32) (xm25 : zMem) (K : (Int32 × zMem) ⊕ (zMem)) (h : f2_weigh_L23  (x24, xm25) = some K) (hI : ∀ (y0 : Int32) (y1 : zMem), K = .inl (y0, y1) → z_RQ P M_2_weigh (z_rm 4) (z_mq P ro μo) 0 0 71 [some (zA 2 0), none, none, some (zI y0)] [] y1) (hE : ∀ (z0 : zMem), K = .inr z0 → z_RQ P M_2_weigh (z_rm 4) (z_mq P ro μo) 0 0 107 [some (zA 2 0), none, none, none] [] z0)  : z_RQ P M_2_weigh (z_rm 4) (z_mq P ro μo) 0 0 71 [some (zA 2 0), none, none, some (zI x24)] [] xm25 := by
  unfold f2_weigh_L23 at h
  replace h := z_h2 h
  refine zr_iload_n (i := 3) d_2_weigh_71 rfl rfl ?_
  refine zr_aload_n (i := 0) d_2_weigh_72 rfl rfl ?_
  refine zr_geti d_2_weigh_73 fw_2_22 (by decide) ?_
  refine zr_callSNi (av := [zI (xm25.1 2 0 3)]) (st := [zI x24]) d_2_weigh_76 mw_8_everybody nl_2_34 is_8_everybody rfl rfl (Nat.le_of_ble_eq_true rfl) fit_1_1_4 (s8_everybody rfl) ?_
  refine zr_icmp_gt (tgt := 107) d_2_weigh_79 rfl (fun hc27 => ?_) (fun hc27 => ?_)
  · replace h := z_ip h hc27
    obtain rfl := Option.some.inj h
    exact zr_wk2 (hE xm25 rfl) ⟨rfl, trivial⟩
  · replace h := z_im h hc27
    refine zr_aload_n (i := 0) d_2_weigh_82 rfl rfl ?_
    refine zr_gets (i' := 0) d_2_weigh_83 fw_2_28 rfl ?_
    refine zr_iload_n (i := 3) d_2_weigh_86 rfl rfl ?_
    refine zr_iload_n (i := 3) d_2_weigh_87 rfl rfl ?_
    obtain ⟨j33, hT28, h⟩ := z_bd h
    have hJ29 : z_RQ P M_2_weigh (z_rm 4) (z_mq P ro μo) 0 0 100 [some (zA 2 0), none, none, some (zI x24)] [zI j33, zI x24, zA 18 0] xm25 := by
      obtain ⟨hb36, h⟩ := z_gd h
      obtain ⟨m34, hm35, h⟩ := z_lt h
      refine zr_iast d_2_weigh_100 sa_18 rfl hb36 hm35 ?_
      refine zr_iinc (v := (x24 + (1 : Int32))) (l' := [some (zA 2 0), none, none, some (zI (x24 + (1 : Int32)))]) d_2_weigh_101 (by decide) rfl rfl rfl ?_
      refine zr_goto (tgt := 71) d_2_weigh_104 rfl ?_
      obtain rfl := Option.some.inj h
      exact zr_wk2 (hI (x24 + (1 : Int32)) m34 rfl) ⟨rfl, ⟨rfl, trivial⟩⟩
    refine zr_if_ne (tgt := 95) d_2_weigh_88 rfl (fun hc30 => ?_) (fun hc30 => ?_)
    · replace hT28 := z_ip hT28 hc30
      refine zr_iconst (v := (1 : Int32)) d_2_weigh_91 rfl ?_
      refine zr_goto (tgt := 100) d_2_weigh_92 rfl ?_
      obtain rfl := Option.some.inj hT28
      exact zr_wk2 hJ29 ⟨rfl, ⟨rfl, trivial⟩⟩
    · replace hT28 := z_im hT28 hc30
      refine zr_aload_n (i := 0) d_2_weigh_95 rfl rfl ?_
      refine zr_iload_n (i := 3) d_2_weigh_96 rfl rfl ?_
      obtain ⟨q31, hq32, hT28⟩ := z_bd hT28
      refine zr_callVi (av := [zI x24]) (st := [zI x24, zA 18 0]) d_2_weigh_97 mw_2_headsOf ml_2_38 im_2_headsOf se_2_headsOf rfl rfl (Nat.le_of_ble_eq_true rfl) fit_3_5_4 rfl rfl rfl (s2_headsOf hq32) ?_
      obtain rfl := Option.some.inj hT28
      exact zr_wk2 hJ29 ⟨rfl, ⟨rfl, trivial⟩⟩
theorem s2_weigh_L42 {P : zP} {ro : Option zV} {μo : zMem}  (x43 : Int32) (xm44 : zMem) (K : (Int32 × zMem) ⊕ (zMem)) (h : f2_weigh_L42  (x43, xm44) = some K) (hI : ∀ (y0 : Int32) (y1 : zMem), K = .inl (y0, y1) → z_RQ P M_2_weigh (z_rm 4) (z_mq P ro μo) 0 0 115 [some (zA 2 0), none, none, some (zI y0)] [] y1) (hE : ∀ (z0 : zMem), K = .inr z0 → z_RQ P M_2_weigh (z_rm 4) (z_mq P ro μo) 0 0 151 [none, none, none, none] [] z0)  : z_RQ P M_2_weigh (z_rm 4) (z_mq P ro μo) 0 0 115 [some (zA 2 0), none, none, some (zI x43)] [] xm44 := by
  unfold f2_weigh_L42 at h
  replace h := z_h2 h
  refine zr_iload_n (i := 3) d_2_weigh_115 rfl rfl ?_
  refine zr_if_lt (tgt := 151) d_2_weigh_116 rfl (fun hc45 => ?_) (fun hc45 => ?_)
  · replace h := z_ip h hc45
    obtain rfl := Option.some.inj h
    exact zr_wk2 (hE xm44 rfl) trivial
  · replace h := z_im h hc45
    refine zr_aload_n (i := 0) d_2_weigh_119 rfl rfl ?_
    refine zr_gets (i' := 0) d_2_weigh_120 fw_2_31 rfl ?_
    refine zr_iload_n (i := 3) d_2_weigh_123 rfl rfl ?_
    refine zr_iload_n (i := 3) d_2_weigh_124 rfl rfl ?_
    refine zr_aload_n (i := 0) d_2_weigh_125 rfl rfl ?_
    refine zr_geti d_2_weigh_126 fw_2_22 (by decide) ?_
    refine zr_callSNi (av := [zI (xm44.1 2 0 3)]) (st := [zI x43, zI x43, zA 19 0]) d_2_weigh_129 mw_8_everybody nl_2_34 is_8_everybody rfl rfl (Nat.le_of_ble_eq_true rfl) fit_1_1_4 (s8_everybody rfl) ?_
    obtain ⟨j52, hT47, h⟩ := z_bd h
    have hJ48 : z_RQ P M_2_weigh (z_rm 4) (z_mq P ro μo) 0 0 144 [some (zA 2 0), none, none, some (zI x43)] [zI j52, zI x43, zA 19 0] xm44 := by
      obtain ⟨hb55, h⟩ := z_gd h
      obtain ⟨m53, hm54, h⟩ := z_lt h
      refine zr_iast d_2_weigh_144 sa_19 rfl hb55 hm54 ?_
      refine zr_iinc (v := (x43 + (-1 : Int32))) (l' := [some (zA 2 0), none, none, some (zI (x43 + (-1 : Int32)))]) d_2_weigh_145 (by decide) rfl (z_neg_1 _) rfl ?_
      refine zr_goto (tgt := 115) d_2_weigh_148 rfl ?_
      obtain rfl := Option.some.inj h
      exact zr_wk2 (hI (x43 + (-1 : Int32)) m53 rfl) ⟨rfl, ⟨rfl, trivial⟩⟩
    refine zr_icmp_ne (tgt := 139) d_2_weigh_132 rfl (fun hc49 => ?_) (fun hc49 => ?_)
    · replace hT47 := z_ip hT47 hc49
      refine zr_iconst (v := (1 : Int32)) d_2_weigh_135 rfl ?_
      refine zr_goto (tgt := 144) d_2_weigh_136 rfl ?_
      obtain rfl := Option.some.inj hT47
      exact zr_wk2 hJ48 ⟨rfl, ⟨rfl, trivial⟩⟩
    · replace hT47 := z_im hT47 hc49
      refine zr_aload_n (i := 0) d_2_weigh_139 rfl rfl ?_
      refine zr_iload_n (i := 3) d_2_weigh_140 rfl rfl ?_
      obtain ⟨q50, hq51, hT47⟩ := z_bd hT47
      refine zr_callVi (av := [zI x43]) (st := [zI x43, zA 19 0]) d_2_weigh_141 mw_2_tailsOf ml_2_41 im_2_tailsOf se_2_tailsOf rfl rfl (Nat.le_of_ble_eq_true rfl) fit_3_4_4 rfl rfl rfl (s2_tailsOf hq51) ?_
      obtain rfl := Option.some.inj hT47
      exact zr_wk2 hJ48 ⟨rfl, ⟨rfl, trivial⟩⟩
theorem s2_weigh {P : zP} {μ : zMem} {a1 : Int32} {a2 : Int32} {μ' : zMem} (h : f2_weigh a1 a2 μ = some μ') : z_Sp P y_2_weigh M_2_weigh 4 [zA 2 0, zI a1, zI a2] μ none μ' := by
  refine z_Sp.of (plainFor_of_name (by decide)) rfl (l0 := [some (zA 2 0), some (zI a1), some (zI a2), none]) rfl (Nat.le_of_ble_eq_true rfl) ?_
  unfold f2_weigh at h
  refine zr_aload_n (i := 0) d_2_weigh_0 rfl rfl ?_
  refine zr_iload_n (i := 1) d_2_weigh_1 rfl rfl ?_
  obtain ⟨m1, hm2, h⟩ := z_lt h
  refine zr_puti d_2_weigh_2 fw_2_22 pw_2_3 hm2 ?_
  refine zr_iconst (v := (0 : Int32)) d_2_weigh_5 rfl ?_
  refine zr_istore_n (i := 3) (l' := [some (zA 2 0), some (zI a1), some (zI a2), some (zI (0 : Int32))]) d_2_weigh_6 rfl (by decide) rfl ?_
  obtain ⟨e10, hl11, h⟩ := z_bd h
  refine zr_wk (l' := [some (zA 2 0), none, some (zI a2), some (zI (0 : Int32))]) ⟨rfl, ⟨rfl, ⟨rfl, trivial⟩⟩⟩ ?_
  refine z_loop (Hd := (z_u2 fun y0 y1 => z_RQ P M_2_weigh (z_rm 4) (z_mq P none μ') 0 0 7 [some (zA 2 0), none, some (zI a2), some (zI y0)] [] y1)) (Ex := (fun z0 => z_RQ P M_2_weigh (z_rm 4) (z_mq P none μ') 0 0 26 [some (zA 2 0), none, some (zI a2), none] [] z0)) (fun ⟨x4, xm5⟩ K h hI hE => s2_weigh_L3 a2 x4 xm5 K h (fun y0 y1 e => hI (y0, y1) e) (fun z0 e => hE z0 e) ) _ _ _ hl11 ?_
  refine zr_iconst (v := (0 : Int32)) d_2_weigh_26 rfl ?_
  refine zr_istore_n (i := 3) (l' := [some (zA 2 0), none, some (zI a2), some (zI (0 : Int32))]) d_2_weigh_27 rfl (by decide) rfl ?_
  obtain ⟨e21, hl22, h⟩ := z_bd h
  refine zr_wk (l' := [some (zA 2 0), none, some (zI a2), some (zI (0 : Int32))]) ⟨rfl, ⟨rfl, ⟨rfl, trivial⟩⟩⟩ ?_
  refine z_loop (Hd := (z_u2 fun y0 y1 => z_RQ P M_2_weigh (z_rm 4) (z_mq P none μ') 0 0 28 [some (zA 2 0), none, some (zI a2), some (zI y0)] [] y1)) (Ex := (fun z0 => z_RQ P M_2_weigh (z_rm 4) (z_mq P none μ') 0 0 69 [some (zA 2 0), none, none, none] [] z0)) (fun ⟨x13, xm14⟩ K h hI hE => s2_weigh_L12 a2 x13 xm14 K h (fun y0 y1 e => hI (y0, y1) e) (fun z0 e => hE z0 e) ) _ _ _ hl22 ?_
  refine zr_iconst (v := (0 : Int32)) d_2_weigh_69 rfl ?_
  refine zr_istore_n (i := 3) (l' := [some (zA 2 0), none, none, some (zI (0 : Int32))]) d_2_weigh_70 rfl (by decide) rfl ?_
  obtain ⟨e37, hl38, h⟩ := z_bd h
  refine zr_wk (l' := [some (zA 2 0), none, none, some (zI (0 : Int32))]) ⟨rfl, ⟨rfl, trivial⟩⟩ ?_
  refine z_loop (Hd := (z_u2 fun y0 y1 => z_RQ P M_2_weigh (z_rm 4) (z_mq P none μ') 0 0 71 [some (zA 2 0), none, none, some (zI y0)] [] y1)) (Ex := (fun z0 => z_RQ P M_2_weigh (z_rm 4) (z_mq P none μ') 0 0 107 [some (zA 2 0), none, none, none] [] z0)) (fun ⟨x24, xm25⟩ K h hI hE => s2_weigh_L23  x24 xm25 K h (fun y0 y1 e => hI (y0, y1) e) (fun z0 e => hE z0 e) ) _ _ _ hl38 ?_
  refine zr_aload_n (i := 0) d_2_weigh_107 rfl rfl ?_
  refine zr_geti d_2_weigh_108 fw_2_22 (by decide) ?_
  refine zr_callSNi (av := [zI (e37.1 2 0 3)]) (st := []) d_2_weigh_111 mw_8_everybody nl_2_34 is_8_everybody rfl rfl (Nat.le_of_ble_eq_true rfl) fit_1_1_4 (s8_everybody rfl) ?_
  obtain ⟨v40, hv41, h⟩ := z_lt h
  refine zr_nm hv41 ?_
  refine zr_istore_n (i := 3) (l' := [some (zA 2 0), none, none, some (zI v40)]) d_2_weigh_114 rfl (by decide) rfl ?_
  obtain ⟨e56, hl57, h⟩ := z_bd h
  refine zr_wk (l' := [some (zA 2 0), none, none, some (zI v40)]) ⟨rfl, ⟨rfl, trivial⟩⟩ ?_
  refine z_loop (Hd := (z_u2 fun y0 y1 => z_RQ P M_2_weigh (z_rm 4) (z_mq P none μ') 0 0 115 [some (zA 2 0), none, none, some (zI y0)] [] y1)) (Ex := (fun z0 => z_RQ P M_2_weigh (z_rm 4) (z_mq P none μ') 0 0 151 [none, none, none, none] [] z0)) (fun ⟨x43, xm44⟩ K h hI hE => s2_weigh_L42  x43 xm44 K h (fun y0 y1 e => hI (y0, y1) e) (fun z0 e => hE z0 e) ) _ _ _ hl57 ?_
  obtain rfl := Option.some.inj h
  exact ze_v d_2_weigh_151 rfl
def f2_all  (μ : zMem) : Option (Int32) :=
  some (μ.1 19 0 (0 : Int32).toNatClampNeg)
theorem s2_all {P : zP} {μ : zMem} {r : Int32} (h : f2_all μ = some r) : z_Sp P y_2_all M_2_all 1 [zA 2 0] μ (some (zI r)) μ := by
  refine z_Sp.of (plainFor_of_name (by decide)) rfl (l0 := [some (zA 2 0)]) rfl (Nat.le_of_ble_eq_true rfl) ?_
  unfold f2_all at h
  refine zr_aload_n (i := 0) d_2_all_0 rfl rfl ?_
  refine zr_gets (i' := 0) d_2_all_1 fw_2_31 rfl ?_
  refine zr_iconst (v := (0 : Int32)) d_2_all_4 rfl ?_
  refine zr_iald d_2_all_5 sa_19 rfl rfl ?_
  obtain rfl := Option.some.inj h
  exact ze_i d_2_all_6 rfl
def f2_timesBehind (a1 : Int32) (a2 : Int32) (μ : zMem) : Option (Int32) :=
  (f2_canFollow a1 a2 μ).bind (fun q1 => (if q1 = 0 then some (0 : Int32) else if z_in a1 128 = true then if z_in (a1 ||| ((1 : Int32) <<< (a2 &&& 31))) 128 = true then some ((μ.1 18 0 a1.toNatClampNeg) * (μ.1 19 0 (a1 ||| ((1 : Int32) <<< (a2 &&& 31))).toNatClampNeg)) else none else none))
theorem s2_timesBehind {P : zP} {μ : zMem} {a1 : Int32} {a2 : Int32} {r : Int32} (h : f2_timesBehind a1 a2 μ = some r) : z_Sp P y_2_timesBehind M_2_timesBehind 3 [zA 2 0, zI a1, zI a2] μ (some (zI r)) μ := by
  refine z_Sp.of (plainFor_of_name (by decide)) rfl (l0 := [some (zA 2 0), some (zI a1), some (zI a2)]) rfl (Nat.le_of_ble_eq_true rfl) ?_
  unfold f2_timesBehind at h
  refine zr_aload_n (i := 0) d_2_timesBehind_0 rfl rfl ?_
  refine zr_iload_n (i := 1) d_2_timesBehind_1 rfl rfl ?_
  refine zr_iload_n (i := 2) d_2_timesBehind_2 rfl rfl ?_
  obtain ⟨q1, hq2, h⟩ := z_bd h
  refine zr_callVi (av := [zI a1, zI a2]) (st := []) d_2_timesBehind_3 mw_2_canFollow ml_2_48 im_2_canFollow se_2_canFollow rfl rfl (Nat.le_of_ble_eq_true rfl) fit_2_3_3 rfl rfl rfl (s2_canFollow hq2) ?_
  refine zr_if_eq (tgt := 29) d_2_timesBehind_6 rfl (fun hc3 => ?_) (fun hc3 => ?_)
  · replace h := z_ip h hc3
    refine zr_iconst (v := (0 : Int32)) d_2_timesBehind_29 rfl ?_
    obtain rfl := Option.some.inj h
    exact ze_i d_2_timesBehind_30 rfl
  · replace h := z_im h hc3
    refine zr_aload_n (i := 0) d_2_timesBehind_9 rfl rfl ?_
    refine zr_gets (i' := 0) d_2_timesBehind_10 fw_2_28 rfl ?_
    refine zr_iload_n (i := 1) d_2_timesBehind_13 rfl rfl ?_
    obtain ⟨hb4, h⟩ := z_gd h
    refine zr_iald d_2_timesBehind_14 sa_18 rfl hb4 ?_
    refine zr_aload_n (i := 0) d_2_timesBehind_15 rfl rfl ?_
    refine zr_gets (i' := 0) d_2_timesBehind_16 fw_2_31 rfl ?_
    refine zr_iload_n (i := 1) d_2_timesBehind_19 rfl rfl ?_
    refine zr_iconst (v := (1 : Int32)) d_2_timesBehind_20 rfl ?_
    refine zr_iload_n (i := 2) d_2_timesBehind_21 rfl rfl ?_
    refine zr_ishl d_2_timesBehind_22 ?_
    refine zr_ior d_2_timesBehind_23 ?_
    obtain ⟨hb5, h⟩ := z_gd h
    refine zr_iald d_2_timesBehind_24 sa_19 rfl hb5 ?_
    refine zr_imul d_2_timesBehind_25 ?_
    refine zr_goto (tgt := 30) d_2_timesBehind_26 rfl ?_
    obtain rfl := Option.some.inj h
    exact ze_i d_2_timesBehind_30 rfl
def f2_timesAt_L1 (a1 : Int32) (a2 : Int32) (μ : zMem) : (Int32 × Int32) → Option ((Int32 × Int32) ⊕ (Int32)) := (z_u2 fun x2 x3 => 
  (if (f8_everybody (μ.1 2 0 3)) < x3 then some (.inr x2) else ((if (fj6_bitCount_0f7a4 x3) = a2 then (f2_timesBehind x3 a1 μ).bind (fun q10 => some (x2 + q10)) else some x2) : Option (Int32)).bind (fun j12 => some (.inl (j12, (x3 + (1 : Int32)))))))
def f2_timesAt (a1 : Int32) (a2 : Int32) (μ : zMem) : Option (Int32) :=
  (z_it (f2_timesAt_L1 a1 a2 μ) z_fu ((0 : Int32), (0 : Int32))).bind (fun e13 => some e13)
theorem s2_timesAt_L1 {P : zP} {ro : Option zV} {μo : zMem} (a1 : Int32) (a2 : Int32) (μ : zMem) (x2 : Int32) (x3 : Int32) (K : (Int32 × Int32) ⊕ (Int32)) (h : f2_timesAt_L1 a1 a2 μ (x2, x3) = some K) (hI : ∀ (y0 : Int32) (y1 : Int32), K = .inl (y0, y1) → z_RQ P M_2_timesAt (z_rm 4) (z_mq P ro μo) 0 0 5 [some (zA 2 0), some (zI a1), some (zI a2), some (zI y0), some (zI y1)] [] μ) (hE : ∀ (z0 : Int32), K = .inr z0 → z_RQ P M_2_timesAt (z_rm 4) (z_mq P ro μo) 0 0 42 [none, none, none, some (zI z0), none] [] μ)  : z_RQ P M_2_timesAt (z_rm 4) (z_mq P ro μo) 0 0 5 [some (zA 2 0), some (zI a1), some (zI a2), some (zI x2), some (zI x3)] [] μ := by
  unfold f2_timesAt_L1 at h
  replace h := z_h2 h
  refine zr_iload d_2_timesAt_5 rfl ?_
  refine zr_aload_n (i := 0) d_2_timesAt_7 rfl rfl ?_
  refine zr_geti d_2_timesAt_8 fw_2_22 (by decide) ?_
  refine zr_callSNi (av := [zI (μ.1 2 0 3)]) (st := [zI x3]) d_2_timesAt_11 mw_8_everybody nl_2_34 is_8_everybody rfl rfl (Nat.le_of_ble_eq_true rfl) fit_1_1_4 (s8_everybody rfl) ?_
  refine zr_icmp_gt (tgt := 42) d_2_timesAt_14 rfl (fun hc5 => ?_) (fun hc5 => ?_)
  · replace h := z_ip h hc5
    obtain rfl := Option.some.inj h
    exact zr_wk2 (hE x2 rfl) ⟨rfl, trivial⟩
  · replace h := z_im h hc5
    refine zr_iload d_2_timesAt_17 rfl ?_
    refine zr_callSi (av := [zI x3]) (st := []) d_2_timesAt_19 mw_j6_bitCount_0f7a4 ml_2_51 is_j6_bitCount_0f7a4 rfl rfl (Nat.le_of_ble_eq_true rfl) fit_1_1_4 (sj6_bitCount_0f7a4 rfl) ?_
    refine zr_iload_n (i := 2) d_2_timesAt_22 rfl rfl ?_
    obtain ⟨j12, hT7, h⟩ := z_bd h
    have hJ8 : z_RQ P M_2_timesAt (z_rm 4) (z_mq P ro μo) 0 0 36 [some (zA 2 0), some (zI a1), some (zI a2), some (zI j12), some (zI x3)] [] μ := by
      refine zr_iinc (v := (x3 + (1 : Int32))) (l' := [some (zA 2 0), some (zI a1), some (zI a2), some (zI j12), some (zI (x3 + (1 : Int32)))]) d_2_timesAt_36 (by decide) rfl rfl rfl ?_
      refine zr_goto (tgt := 5) d_2_timesAt_39 rfl ?_
      obtain rfl := Option.some.inj h
      exact zr_wk2 (hI j12 (x3 + (1 : Int32)) rfl) ⟨rfl, ⟨rfl, ⟨rfl, ⟨rfl, ⟨rfl, trivial⟩⟩⟩⟩⟩
    refine zr_icmp_ne (tgt := 36) d_2_timesAt_23 rfl (fun hc9 => ?_) (fun hc9 => ?_)
    · replace hT7 := z_ip hT7 hc9
      refine zr_iload_n (i := 3) d_2_timesAt_26 rfl rfl ?_
      refine zr_aload_n (i := 0) d_2_timesAt_27 rfl rfl ?_
      refine zr_iload d_2_timesAt_28 rfl ?_
      refine zr_iload_n (i := 1) d_2_timesAt_30 rfl rfl ?_
      obtain ⟨q10, hq11, hT7⟩ := z_bd hT7
      refine zr_callVi (av := [zI x3, zI a1]) (st := [zI x2]) d_2_timesAt_31 mw_2_timesBehind ml_2_56 im_2_timesBehind se_2_timesBehind rfl rfl (Nat.le_of_ble_eq_true rfl) fit_3_3_4 rfl rfl rfl (s2_timesBehind hq11) ?_
      refine zr_iadd d_2_timesAt_34 ?_
      refine zr_istore_n (i := 3) (l' := [some (zA 2 0), some (zI a1), some (zI a2), some (zI (x2 + q10)), some (zI x3)]) d_2_timesAt_35 rfl (by decide) rfl ?_
      obtain rfl := Option.some.inj hT7
      exact zr_wk2 hJ8 ⟨rfl, ⟨rfl, ⟨rfl, ⟨rfl, ⟨rfl, trivial⟩⟩⟩⟩⟩
    · replace hT7 := z_im hT7 hc9
      obtain rfl := Option.some.inj hT7
      exact zr_wk2 hJ8 ⟨rfl, ⟨rfl, ⟨rfl, ⟨rfl, ⟨rfl, trivial⟩⟩⟩⟩⟩
theorem s2_timesAt {P : zP} {μ : zMem} {a1 : Int32} {a2 : Int32} {r : Int32} (h : f2_timesAt a1 a2 μ = some r) : z_Sp P y_2_timesAt M_2_timesAt 4 [zA 2 0, zI a1, zI a2] μ (some (zI r)) μ := by
  refine z_Sp.of (plainFor_of_name (by decide)) rfl (l0 := [some (zA 2 0), some (zI a1), some (zI a2), none, none]) rfl (Nat.le_of_ble_eq_true rfl) ?_
  unfold f2_timesAt at h
  refine zr_iconst (v := (0 : Int32)) d_2_timesAt_0 rfl ?_
  refine zr_istore_n (i := 3) (l' := [some (zA 2 0), some (zI a1), some (zI a2), some (zI (0 : Int32)), none]) d_2_timesAt_1 rfl (by decide) rfl ?_
  refine zr_iconst (v := (0 : Int32)) d_2_timesAt_2 rfl ?_
  refine zr_istore (i := 4) (l' := [some (zA 2 0), some (zI a1), some (zI a2), some (zI (0 : Int32)), some (zI (0 : Int32))]) d_2_timesAt_3 (by decide) rfl ?_
  obtain ⟨e13, hl14, h⟩ := z_bd h
  refine zr_wk (l' := [some (zA 2 0), some (zI a1), some (zI a2), some (zI (0 : Int32)), some (zI (0 : Int32))]) ⟨rfl, ⟨rfl, ⟨rfl, ⟨rfl, ⟨rfl, trivial⟩⟩⟩⟩⟩ ?_
  refine z_loop (Hd := (z_u2 fun y0 y1 => z_RQ P M_2_timesAt (z_rm 4) (z_mq P (some (zI r)) μ) 0 0 5 [some (zA 2 0), some (zI a1), some (zI a2), some (zI y0), some (zI y1)] [] μ)) (Ex := (fun z0 => z_RQ P M_2_timesAt (z_rm 4) (z_mq P (some (zI r)) μ) 0 0 42 [none, none, none, some (zI z0), none] [] μ)) (fun ⟨x2, x3⟩ K h hI hE => s2_timesAt_L1 a1 a2 μ x2 x3 K h (fun y0 y1 e => hI (y0, y1) e) (fun z0 e => hE z0 e) ) _ _ _ hl14 ?_
  refine zr_iload_n (i := 3) d_2_timesAt_42 rfl rfl ?_
  obtain rfl := Option.some.inj h
  exact ze_i d_2_timesAt_43 rfl
def f2_timesAhead_L1 (a1 : Int32) (a2 : Int32) (μ : zMem) : (Int32 × Int32) → Option ((Int32 × Int32) ⊕ (Int32)) := (z_u2 fun x2 x3 => 
  (if (f8_everybody (μ.1 2 0 3)) < x3 then some (.inr x2) else ((if (f8_has x3 a1) = 0 then some x2 else (f2_timesBehind x3 a2 μ).bind (fun q10 => some (x2 + q10))) : Option (Int32)).bind (fun j12 => some (.inl (j12, (x3 + (1 : Int32)))))))
def f2_timesAhead (a1 : Int32) (a2 : Int32) (μ : zMem) : Option (Int32) :=
  (z_it (f2_timesAhead_L1 a1 a2 μ) z_fu ((0 : Int32), (0 : Int32))).bind (fun e13 => some e13)
theorem s2_timesAhead_L1 {P : zP} {ro : Option zV} {μo : zMem} (a1 : Int32) (a2 : Int32) (μ : zMem) (x2 : Int32) (x3 : Int32) (K : (Int32 × Int32) ⊕ (Int32)) (h : f2_timesAhead_L1 a1 a2 μ (x2, x3) = some K) (hI : ∀ (y0 : Int32) (y1 : Int32), K = .inl (y0, y1) → z_RQ P M_2_timesAhead (z_rm 4) (z_mq P ro μo) 0 0 5 [some (zA 2 0), some (zI a1), some (zI a2), some (zI y0), some (zI y1)] [] μ) (hE : ∀ (z0 : Int32), K = .inr z0 → z_RQ P M_2_timesAhead (z_rm 4) (z_mq P ro μo) 0 0 42 [none, none, none, some (zI z0), none] [] μ)  : z_RQ P M_2_timesAhead (z_rm 4) (z_mq P ro μo) 0 0 5 [some (zA 2 0), some (zI a1), some (zI a2), some (zI x2), some (zI x3)] [] μ := by
  unfold f2_timesAhead_L1 at h
  replace h := z_h2 h
  refine zr_iload d_2_timesAhead_5 rfl ?_
  refine zr_aload_n (i := 0) d_2_timesAhead_7 rfl rfl ?_
  refine zr_geti d_2_timesAhead_8 fw_2_22 (by decide) ?_
  refine zr_callSNi (av := [zI (μ.1 2 0 3)]) (st := [zI x3]) d_2_timesAhead_11 mw_8_everybody nl_2_34 is_8_everybody rfl rfl (Nat.le_of_ble_eq_true rfl) fit_1_1_4 (s8_everybody rfl) ?_
  refine zr_icmp_gt (tgt := 42) d_2_timesAhead_14 rfl (fun hc5 => ?_) (fun hc5 => ?_)
  · replace h := z_ip h hc5
    obtain rfl := Option.some.inj h
    exact zr_wk2 (hE x2 rfl) ⟨rfl, trivial⟩
  · replace h := z_im h hc5
    refine zr_iload d_2_timesAhead_17 rfl ?_
    refine zr_iload_n (i := 1) d_2_timesAhead_19 rfl rfl ?_
    refine zr_callSNi (av := [zI x3, zI a1]) (st := []) d_2_timesAhead_20 mw_8_has nl_2_44 is_8_has rfl rfl (Nat.le_of_ble_eq_true rfl) fit_1_2_4 (s8_has rfl) ?_
    obtain ⟨j12, hT7, h⟩ := z_bd h
    have hJ8 : z_RQ P M_2_timesAhead (z_rm 4) (z_mq P ro μo) 0 0 36 [some (zA 2 0), some (zI a1), some (zI a2), some (zI j12), some (zI x3)] [] μ := by
      refine zr_iinc (v := (x3 + (1 : Int32))) (l' := [some (zA 2 0), some (zI a1), some (zI a2), some (zI j12), some (zI (x3 + (1 : Int32)))]) d_2_timesAhead_36 (by decide) rfl rfl rfl ?_
      refine zr_goto (tgt := 5) d_2_timesAhead_39 rfl ?_
      obtain rfl := Option.some.inj h
      exact zr_wk2 (hI j12 (x3 + (1 : Int32)) rfl) ⟨rfl, ⟨rfl, ⟨rfl, ⟨rfl, ⟨rfl, trivial⟩⟩⟩⟩⟩
    refine zr_if_eq (tgt := 36) d_2_timesAhead_23 rfl (fun hc9 => ?_) (fun hc9 => ?_)
    · replace hT7 := z_ip hT7 hc9
      obtain rfl := Option.some.inj hT7
      exact zr_wk2 hJ8 ⟨rfl, ⟨rfl, ⟨rfl, ⟨rfl, ⟨rfl, trivial⟩⟩⟩⟩⟩
    · replace hT7 := z_im hT7 hc9
      refine zr_iload_n (i := 3) d_2_timesAhead_26 rfl rfl ?_
      refine zr_aload_n (i := 0) d_2_timesAhead_27 rfl rfl ?_
      refine zr_iload d_2_timesAhead_28 rfl ?_
      refine zr_iload_n (i := 2) d_2_timesAhead_30 rfl rfl ?_
      obtain ⟨q10, hq11, hT7⟩ := z_bd hT7
      refine zr_callVi (av := [zI x3, zI a2]) (st := [zI x2]) d_2_timesAhead_31 mw_2_timesBehind ml_2_56 im_2_timesBehind se_2_timesBehind rfl rfl (Nat.le_of_ble_eq_true rfl) fit_3_3_4 rfl rfl rfl (s2_timesBehind hq11) ?_
      refine zr_iadd d_2_timesAhead_34 ?_
      refine zr_istore_n (i := 3) (l' := [some (zA 2 0), some (zI a1), some (zI a2), some (zI (x2 + q10)), some (zI x3)]) d_2_timesAhead_35 rfl (by decide) rfl ?_
      obtain rfl := Option.some.inj hT7
      exact zr_wk2 hJ8 ⟨rfl, ⟨rfl, ⟨rfl, ⟨rfl, ⟨rfl, trivial⟩⟩⟩⟩⟩
theorem s2_timesAhead {P : zP} {μ : zMem} {a1 : Int32} {a2 : Int32} {r : Int32} (h : f2_timesAhead a1 a2 μ = some r) : z_Sp P y_2_timesAhead M_2_timesAhead 4 [zA 2 0, zI a1, zI a2] μ (some (zI r)) μ := by
  refine z_Sp.of (plainFor_of_name (by decide)) rfl (l0 := [some (zA 2 0), some (zI a1), some (zI a2), none, none]) rfl (Nat.le_of_ble_eq_true rfl) ?_
  unfold f2_timesAhead at h
  refine zr_iconst (v := (0 : Int32)) d_2_timesAhead_0 rfl ?_
  refine zr_istore_n (i := 3) (l' := [some (zA 2 0), some (zI a1), some (zI a2), some (zI (0 : Int32)), none]) d_2_timesAhead_1 rfl (by decide) rfl ?_
  refine zr_iconst (v := (0 : Int32)) d_2_timesAhead_2 rfl ?_
  refine zr_istore (i := 4) (l' := [some (zA 2 0), some (zI a1), some (zI a2), some (zI (0 : Int32)), some (zI (0 : Int32))]) d_2_timesAhead_3 (by decide) rfl ?_
  obtain ⟨e13, hl14, h⟩ := z_bd h
  refine zr_wk (l' := [some (zA 2 0), some (zI a1), some (zI a2), some (zI (0 : Int32)), some (zI (0 : Int32))]) ⟨rfl, ⟨rfl, ⟨rfl, ⟨rfl, ⟨rfl, trivial⟩⟩⟩⟩⟩ ?_
  refine z_loop (Hd := (z_u2 fun y0 y1 => z_RQ P M_2_timesAhead (z_rm 4) (z_mq P (some (zI r)) μ) 0 0 5 [some (zA 2 0), some (zI a1), some (zI a2), some (zI y0), some (zI y1)] [] μ)) (Ex := (fun z0 => z_RQ P M_2_timesAhead (z_rm 4) (z_mq P (some (zI r)) μ) 0 0 42 [none, none, none, some (zI z0), none] [] μ)) (fun ⟨x2, x3⟩ K h hI hE => s2_timesAhead_L1 a1 a2 μ x2 x3 K h (fun y0 y1 e => hI (y0, y1) e) (fun z0 e => hE z0 e) ) _ _ _ hl14 ?_
  refine zr_iload_n (i := 3) d_2_timesAhead_42 rfl rfl ?_
  obtain rfl := Option.some.inj h
  exact ze_i d_2_timesAhead_43 rfl
def f2_whoIsAt_L8 (μ : zMem) (x2 : Int32) : (Int32 × Int32 × Int32) → Option ((Int32 × Int32 × Int32) ⊕ (Int32 × Int32)) := (z_u3 fun x9 x10 x11 => 
  (if x11 < (μ.1 2 0 3) then (if x10 = (-1 : Int32) then (f2_canFollow x2 x11 μ).bind (fun q14 => ((if q14 = 0 then some (0 : Int32) else if z_in (x2 ||| ((1 : Int32) <<< (x11 &&& 31))) 128 = true then some (μ.1 19 0 (x2 ||| ((1 : Int32) <<< (x11 &&& 31))).toNatClampNeg) else none) : Option (Int32)).bind (fun j20 => ((if x9 < j20 then some (x9, x11) else some ((x9 - j20), x10)) : Option (Int32 × Int32)).bind (z_u2 fun j24 j25 => some (.inl (j24, j25, (x11 + (1 : Int32))))))) else some (.inr (x9, x10))) else some (.inr (x9, x10))))
def f2_whoIsAt_L1 (a2 : Int32) (μ : zMem) : (Int32 × Int32 × Int32 × Int32) → Option ((Int32 × Int32 × Int32 × Int32) ⊕ ((Int32) ⊕ (Int32))) := (z_u4 fun x2 x3 x4 x5 => 
  (if a2 < x5 then some (.inr (.inl x4)) else (if x5 < (μ.1 2 0 3) then (z_it (f2_whoIsAt_L8 μ x2) z_fu (x3, (-1 : Int32), (0 : Int32))).bind (z_u2 fun e26 e27 => (if e27 = (-1 : Int32) then some (.inr (.inr (-1 : Int32))) else z_let (x2 ||| ((1 : Int32) <<< (e27 &&& 31))) fun v30 => some (.inl (v30, e26, e27, (x5 + (1 : Int32)))))) else some (.inr (.inl x4)))))
def f2_whoIsAt (a1 : Int32) (a2 : Int32) (μ : zMem) : Option (Int32) :=
  (z_it (f2_whoIsAt_L1 a2 μ) z_fu ((0 : Int32), a1, (-1 : Int32), (0 : Int32))).bind (Sum.elim (fun e32 => some e32) (fun qr34 => some qr34))
theorem s2_whoIsAt_L8 {P : zP} {ro : Option zV} {μo : zMem} (a2 : Int32) (μ : zMem) (x2 : Int32) (x5 : Int32) (x9 : Int32) (x10 : Int32) (x11 : Int32) (K : (Int32 × Int32 × Int32) ⊕ (Int32 × Int32)) (h : f2_whoIsAt_L8 μ x2 (x9, x10, x11) = some K) (hI : ∀ (y0 : Int32) (y1 : Int32) (y2 : Int32), K = .inl (y0, y1, y2) → z_RQ P M_2_whoIsAt (z_rm 3) (z_mq P ro μo) 0 0 32 [some (zA 2 0), none, some (zI a2), some (zI x2), some (zI y0), some (zI y1), some (zI x5), some (zI y2), none] [] μ) (hE : ∀ (z0 : Int32) (z1 : Int32), K = .inr (z0, z1) → z_RQ P M_2_whoIsAt (z_rm 3) (z_mq P ro μo) 0 0 101 [some (zA 2 0), none, some (zI a2), some (zI x2), some (zI z0), some (zI z1), some (zI x5), none, none] [] μ)  : z_RQ P M_2_whoIsAt (z_rm 3) (z_mq P ro μo) 0 0 32 [some (zA 2 0), none, some (zI a2), some (zI x2), some (zI x9), some (zI x10), some (zI x5), some (zI x11), none] [] μ := by
  unfold f2_whoIsAt_L8 at h
  replace h := z_h3 h
  refine zr_iload d_2_whoIsAt_32 rfl ?_
  refine zr_aload_n (i := 0) d_2_whoIsAt_34 rfl rfl ?_
  refine zr_geti d_2_whoIsAt_35 fw_2_22 (by decide) ?_
  refine zr_icmp_ge (tgt := 101) d_2_whoIsAt_38 rfl (fun hc12 => ?_) (fun hc12 => ?_)
  · replace h := z_ip h hc12
    refine zr_iload d_2_whoIsAt_41 rfl ?_
    refine zr_iconst (v := (-1 : Int32)) d_2_whoIsAt_43 rfl ?_
    refine zr_icmp_ne (tgt := 101) d_2_whoIsAt_44 rfl (fun hc13 => ?_) (fun hc13 => ?_)
    · replace h := z_ip h hc13
      refine zr_aload_n (i := 0) d_2_whoIsAt_47 rfl rfl ?_
      refine zr_iload_n (i := 3) d_2_whoIsAt_48 rfl rfl ?_
      refine zr_iload d_2_whoIsAt_49 rfl ?_
      obtain ⟨q14, hq15, h⟩ := z_bd h
      refine zr_callVi (av := [zI x2, zI x11]) (st := []) d_2_whoIsAt_51 mw_2_canFollow ml_2_48 im_2_canFollow se_2_canFollow rfl rfl (Nat.le_of_ble_eq_true rfl) fit_2_3_3 rfl rfl rfl (s2_canFollow hq15) ?_
      obtain ⟨j20, hT16, h⟩ := z_bd h
      have hJ17 : z_RQ P M_2_whoIsAt (z_rm 3) (z_mq P ro μo) 0 0 72 [some (zA 2 0), none, some (zI a2), some (zI x2), some (zI x9), some (zI x10), some (zI x5), some (zI x11), none] [zI j20] μ := by
        refine zr_istore (i := 8) (l' := [some (zA 2 0), none, some (zI a2), some (zI x2), some (zI x9), some (zI x10), some (zI x5), some (zI x11), some (zI j20)]) d_2_whoIsAt_72 (by decide) rfl ?_
        refine zr_iload d_2_whoIsAt_74 rfl ?_
        refine zr_iload d_2_whoIsAt_76 rfl ?_
        obtain ⟨⟨j24, j25⟩, hT21, h⟩ := z_bd h
        replace h := z_h2 h
        have hJ22 : z_RQ P M_2_whoIsAt (z_rm 3) (z_mq P ro μo) 0 0 95 [some (zA 2 0), none, some (zI a2), some (zI x2), some (zI j24), some (zI j25), some (zI x5), some (zI x11), none] [] μ := by
          refine zr_iinc (v := (x11 + (1 : Int32))) (l' := [some (zA 2 0), none, some (zI a2), some (zI x2), some (zI j24), some (zI j25), some (zI x5), some (zI (x11 + (1 : Int32))), none]) d_2_whoIsAt_95 (by decide) rfl rfl rfl ?_
          refine zr_goto (tgt := 32) d_2_whoIsAt_98 rfl ?_
          obtain rfl := Option.some.inj h
          exact zr_wk2 (hI j24 j25 (x11 + (1 : Int32)) rfl) ⟨rfl, ⟨rfl, ⟨rfl, ⟨rfl, ⟨rfl, ⟨rfl, ⟨rfl, trivial⟩⟩⟩⟩⟩⟩⟩
        refine zr_icmp_ge (tgt := 88) d_2_whoIsAt_78 rfl (fun hc23 => ?_) (fun hc23 => ?_)
        · replace hT21 := z_ip hT21 hc23
          refine zr_iload d_2_whoIsAt_81 rfl ?_
          refine zr_istore (i := 5) (l' := [some (zA 2 0), none, some (zI a2), some (zI x2), some (zI x9), some (zI x11), some (zI x5), some (zI x11), some (zI j20)]) d_2_whoIsAt_83 (by decide) rfl ?_
          refine zr_goto (tgt := 95) d_2_whoIsAt_85 rfl ?_
          obtain ⟨rfl, rfl⟩ := z_i2 (Option.some.inj hT21)
          exact zr_wk2 hJ22 ⟨rfl, ⟨rfl, ⟨rfl, ⟨rfl, ⟨rfl, ⟨rfl, ⟨rfl, trivial⟩⟩⟩⟩⟩⟩⟩
        · replace hT21 := z_im hT21 hc23
          refine zr_iload d_2_whoIsAt_88 rfl ?_
          refine zr_iload d_2_whoIsAt_90 rfl ?_
          refine zr_isub d_2_whoIsAt_92 ?_
          refine zr_istore (i := 4) (l' := [some (zA 2 0), none, some (zI a2), some (zI x2), some (zI (x9 - j20)), some (zI x10), some (zI x5), some (zI x11), some (zI j20)]) d_2_whoIsAt_93 (by decide) rfl ?_
          obtain ⟨rfl, rfl⟩ := z_i2 (Option.some.inj hT21)
          exact zr_wk2 hJ22 ⟨rfl, ⟨rfl, ⟨rfl, ⟨rfl, ⟨rfl, ⟨rfl, ⟨rfl, trivial⟩⟩⟩⟩⟩⟩⟩
      refine zr_if_eq (tgt := 71) d_2_whoIsAt_54 rfl (fun hc18 => ?_) (fun hc18 => ?_)
      · replace hT16 := z_ip hT16 hc18
        refine zr_iconst (v := (0 : Int32)) d_2_whoIsAt_71 rfl ?_
        obtain rfl := Option.some.inj hT16
        exact zr_wk2 hJ17 ⟨rfl, ⟨rfl, ⟨rfl, ⟨rfl, ⟨rfl, ⟨rfl, ⟨rfl, trivial⟩⟩⟩⟩⟩⟩⟩
      · replace hT16 := z_im hT16 hc18
        refine zr_aload_n (i := 0) d_2_whoIsAt_57 rfl rfl ?_
        refine zr_gets (i' := 0) d_2_whoIsAt_58 fw_2_31 rfl ?_
        refine zr_iload_n (i := 3) d_2_whoIsAt_61 rfl rfl ?_
        refine zr_iconst (v := (1 : Int32)) d_2_whoIsAt_62 rfl ?_
        refine zr_iload d_2_whoIsAt_63 rfl ?_
        refine zr_ishl d_2_whoIsAt_65 ?_
        refine zr_ior d_2_whoIsAt_66 ?_
        obtain ⟨hb19, hT16⟩ := z_gd hT16
        refine zr_iald d_2_whoIsAt_67 sa_19 rfl hb19 ?_
        refine zr_goto (tgt := 72) d_2_whoIsAt_68 rfl ?_
        obtain rfl := Option.some.inj hT16
        exact zr_wk2 hJ17 ⟨rfl, ⟨rfl, ⟨rfl, ⟨rfl, ⟨rfl, ⟨rfl, ⟨rfl, trivial⟩⟩⟩⟩⟩⟩⟩
    · replace h := z_im h hc13
      obtain rfl := Option.some.inj h
      exact zr_wk2 (hE x9 x10 rfl) ⟨rfl, ⟨rfl, ⟨rfl, ⟨rfl, ⟨rfl, ⟨rfl, trivial⟩⟩⟩⟩⟩⟩
  · replace h := z_im h hc12
    obtain rfl := Option.some.inj h
    exact zr_wk2 (hE x9 x10 rfl) ⟨rfl, ⟨rfl, ⟨rfl, ⟨rfl, ⟨rfl, ⟨rfl, trivial⟩⟩⟩⟩⟩⟩
theorem s2_whoIsAt_L1 {P : zP} {ro : Option zV} {μo : zMem} (a2 : Int32) (μ : zMem) (x2 : Int32) (x3 : Int32) (x4 : Int32) (x5 : Int32) (K : (Int32 × Int32 × Int32 × Int32) ⊕ ((Int32) ⊕ (Int32))) (h : f2_whoIsAt_L1 a2 μ (x2, x3, x4, x5) = some K) (hI : ∀ (y0 : Int32) (y1 : Int32) (y2 : Int32) (y3 : Int32), K = .inl (y0, y1, y2, y3) → z_RQ P M_2_whoIsAt (z_rm 3) (z_mq P ro μo) 0 0 11 [some (zA 2 0), none, some (zI a2), some (zI y0), some (zI y1), some (zI y2), some (zI y3), none, none] [] μ) (hE : ∀ (z0 : Int32), K = .inr (.inl z0) → z_RQ P M_2_whoIsAt (z_rm 3) (z_mq P ro μo) 0 0 122 [none, none, none, none, none, some (zI z0), none, none, none] [] μ) (hR : ∀ (qr : Int32), K = .inr (.inr qr) → ro = some (zI qr) ∧ μo = μ) : z_RQ P M_2_whoIsAt (z_rm 3) (z_mq P ro μo) 0 0 11 [some (zA 2 0), none, some (zI a2), some (zI x2), some (zI x3), some (zI x4), some (zI x5), none, none] [] μ := by
  unfold f2_whoIsAt_L1 at h
  replace h := z_h4 h
  refine zr_iload d_2_whoIsAt_11 rfl ?_
  refine zr_iload_n (i := 2) d_2_whoIsAt_13 rfl rfl ?_
  refine zr_icmp_gt (tgt := 122) d_2_whoIsAt_14 rfl (fun hc6 => ?_) (fun hc6 => ?_)
  · replace h := z_ip h hc6
    obtain rfl := Option.some.inj h
    exact zr_wk2 (hE x4 rfl) ⟨rfl, trivial⟩
  · replace h := z_im h hc6
    refine zr_iload d_2_whoIsAt_17 rfl ?_
    refine zr_aload_n (i := 0) d_2_whoIsAt_19 rfl rfl ?_
    refine zr_geti d_2_whoIsAt_20 fw_2_22 (by decide) ?_
    refine zr_icmp_ge (tgt := 122) d_2_whoIsAt_23 rfl (fun hc7 => ?_) (fun hc7 => ?_)
    · replace h := z_ip h hc7
      refine zr_iconst (v := (-1 : Int32)) d_2_whoIsAt_26 rfl ?_
      refine zr_istore (i := 5) (l' := [some (zA 2 0), none, some (zI a2), some (zI x2), some (zI x3), some (zI (-1 : Int32)), some (zI x5), none, none]) d_2_whoIsAt_27 (by decide) rfl ?_
      refine zr_iconst (v := (0 : Int32)) d_2_whoIsAt_29 rfl ?_
      refine zr_istore (i := 7) (l' := [some (zA 2 0), none, some (zI a2), some (zI x2), some (zI x3), some (zI (-1 : Int32)), some (zI x5), some (zI (0 : Int32)), none]) d_2_whoIsAt_30 (by decide) rfl ?_
      obtain ⟨⟨e26, e27⟩, hl28, h⟩ := z_bd h
      replace h := z_h2 h
      refine zr_wk (l' := [some (zA 2 0), none, some (zI a2), some (zI x2), some (zI x3), some (zI (-1 : Int32)), some (zI x5), some (zI (0 : Int32)), none]) ⟨rfl, ⟨rfl, ⟨rfl, ⟨rfl, ⟨rfl, ⟨rfl, ⟨rfl, trivial⟩⟩⟩⟩⟩⟩⟩ ?_
      refine z_loop (Hd := (z_u3 fun y0 y1 y2 => z_RQ P M_2_whoIsAt (z_rm 3) (z_mq P ro μo) 0 0 32 [some (zA 2 0), none, some (zI a2), some (zI x2), some (zI y0), some (zI y1), some (zI x5), some (zI y2), none] [] μ)) (Ex := (z_u2 fun z0 z1 => z_RQ P M_2_whoIsAt (z_rm 3) (z_mq P ro μo) 0 0 101 [some (zA 2 0), none, some (zI a2), some (zI x2), some (zI z0), some (zI z1), some (zI x5), none, none] [] μ)) (fun ⟨x9, x10, x11⟩ K h hI hE => s2_whoIsAt_L8 a2 μ x2 x5 x9 x10 x11 K h (fun y0 y1 y2 e => hI (y0, y1, y2) e) (fun z0 z1 e => hE (z0, z1) e) ) _ _ _ hl28 ?_
      refine zr_iload d_2_whoIsAt_101 rfl ?_
      refine zr_iconst (v := (-1 : Int32)) d_2_whoIsAt_103 rfl ?_
      refine zr_icmp_ne (tgt := 109) d_2_whoIsAt_104 rfl (fun hc29 => ?_) (fun hc29 => ?_)
      · replace h := z_ip h hc29
        refine zr_iconst (v := (-1 : Int32)) d_2_whoIsAt_107 rfl ?_
        obtain rfl := Option.some.inj h
        obtain ⟨rfl, rfl⟩ := hR (-1 : Int32) rfl
        exact ze_i d_2_whoIsAt_108 rfl
      · replace h := z_im h hc29
        refine zr_iload_n (i := 3) d_2_whoIsAt_109 rfl rfl ?_
        refine zr_iconst (v := (1 : Int32)) d_2_whoIsAt_110 rfl ?_
        refine zr_iload d_2_whoIsAt_111 rfl ?_
        refine zr_ishl d_2_whoIsAt_113 ?_
        refine zr_ior d_2_whoIsAt_114 ?_
        obtain ⟨v30, hv31, h⟩ := z_lt h
        refine zr_nm hv31 ?_
        refine zr_istore_n (i := 3) (l' := [some (zA 2 0), none, some (zI a2), some (zI v30), some (zI e26), some (zI e27), some (zI x5), none, none]) d_2_whoIsAt_115 rfl (by decide) rfl ?_
        refine zr_iinc (v := (x5 + (1 : Int32))) (l' := [some (zA 2 0), none, some (zI a2), some (zI v30), some (zI e26), some (zI e27), some (zI (x5 + (1 : Int32))), none, none]) d_2_whoIsAt_116 (by decide) rfl rfl rfl ?_
        refine zr_goto (tgt := 11) d_2_whoIsAt_119 rfl ?_
        obtain rfl := Option.some.inj h
        exact zr_wk2 (hI v30 e26 e27 (x5 + (1 : Int32)) rfl) ⟨rfl, ⟨rfl, ⟨rfl, ⟨rfl, ⟨rfl, ⟨rfl, trivial⟩⟩⟩⟩⟩⟩
    · replace h := z_im h hc7
      obtain rfl := Option.some.inj h
      exact zr_wk2 (hE x4 rfl) ⟨rfl, trivial⟩
theorem s2_whoIsAt {P : zP} {μ : zMem} {a1 : Int32} {a2 : Int32} {r : Int32} (h : f2_whoIsAt a1 a2 μ = some r) : z_Sp P y_2_whoIsAt M_2_whoIsAt 3 [zA 2 0, zI a1, zI a2] μ (some (zI r)) μ := by
  refine z_Sp.of (plainFor_of_name (by decide)) rfl (l0 := [some (zA 2 0), some (zI a1), some (zI a2), none, none, none, none, none, none]) rfl (Nat.le_of_ble_eq_true rfl) ?_
  unfold f2_whoIsAt at h
  refine zr_iconst (v := (0 : Int32)) d_2_whoIsAt_0 rfl ?_
  refine zr_istore_n (i := 3) (l' := [some (zA 2 0), some (zI a1), some (zI a2), some (zI (0 : Int32)), none, none, none, none, none]) d_2_whoIsAt_1 rfl (by decide) rfl ?_
  refine zr_iload_n (i := 1) d_2_whoIsAt_2 rfl rfl ?_
  refine zr_istore (i := 4) (l' := [some (zA 2 0), some (zI a1), some (zI a2), some (zI (0 : Int32)), some (zI a1), none, none, none, none]) d_2_whoIsAt_3 (by decide) rfl ?_
  refine zr_iconst (v := (-1 : Int32)) d_2_whoIsAt_5 rfl ?_
  refine zr_istore (i := 5) (l' := [some (zA 2 0), some (zI a1), some (zI a2), some (zI (0 : Int32)), some (zI a1), some (zI (-1 : Int32)), none, none, none]) d_2_whoIsAt_6 (by decide) rfl ?_
  refine zr_iconst (v := (0 : Int32)) d_2_whoIsAt_8 rfl ?_
  refine zr_istore (i := 6) (l' := [some (zA 2 0), some (zI a1), some (zI a2), some (zI (0 : Int32)), some (zI a1), some (zI (-1 : Int32)), some (zI (0 : Int32)), none, none]) d_2_whoIsAt_9 (by decide) rfl ?_
  rcases z_bs h with ⟨e32, hl33, h⟩ | ⟨qr34, hl33, h⟩
  · refine zr_wk (l' := [some (zA 2 0), none, some (zI a2), some (zI (0 : Int32)), some (zI a1), some (zI (-1 : Int32)), some (zI (0 : Int32)), none, none]) ⟨rfl, ⟨rfl, ⟨rfl, ⟨rfl, ⟨rfl, ⟨rfl, trivial⟩⟩⟩⟩⟩⟩ ?_
    refine z_loop (Hd := (z_u4 fun y0 y1 y2 y3 => z_RQ P M_2_whoIsAt (z_rm 3) (z_mq P (some (zI r)) μ) 0 0 11 [some (zA 2 0), none, some (zI a2), some (zI y0), some (zI y1), some (zI y2), some (zI y3), none, none] [] μ)) (Ex := (Sum.elim (fun z0 => z_RQ P M_2_whoIsAt (z_rm 3) (z_mq P (some (zI r)) μ) 0 0 122 [none, none, none, none, none, some (zI z0), none, none, none] [] μ) (fun qr => (some (zI r)) = some (zI qr) ∧ μ = μ))) (fun ⟨x2, x3, x4, x5⟩ K h hI hE => s2_whoIsAt_L1 a2 μ x2 x3 x4 x5 K h (fun y0 y1 y2 y3 e => hI (y0, y1, y2, y3) e) (fun z0 e => hE (.inl z0) e) (fun qr e => hE (.inr qr) e)) _ _ _ hl33 ?_
    refine zr_iload d_2_whoIsAt_122 rfl ?_
    obtain rfl := Option.some.inj h
    exact ze_i d_2_whoIsAt_124 rfl
  · refine zr_wk (l' := [some (zA 2 0), none, some (zI a2), some (zI (0 : Int32)), some (zI a1), some (zI (-1 : Int32)), some (zI (0 : Int32)), none, none]) ⟨rfl, ⟨rfl, ⟨rfl, ⟨rfl, ⟨rfl, ⟨rfl, trivial⟩⟩⟩⟩⟩⟩ ?_
    refine z_loop (Hd := (z_u4 fun y0 y1 y2 y3 => z_RQ P M_2_whoIsAt (z_rm 3) (z_mq P (some (zI r)) μ) 0 0 11 [some (zA 2 0), none, some (zI a2), some (zI y0), some (zI y1), some (zI y2), some (zI y3), none, none] [] μ)) (Ex := (Sum.elim (fun z0 => z_RQ P M_2_whoIsAt (z_rm 3) (z_mq P (some (zI r)) μ) 0 0 122 [none, none, none, none, none, some (zI z0), none, none, none] [] μ) (fun qr => (some (zI r)) = some (zI qr) ∧ μ = μ))) (fun ⟨x2, x3, x4, x5⟩ K h hI hE => s2_whoIsAt_L1 a2 μ x2 x3 x4 x5 K h (fun y0 y1 y2 y3 e => hI (y0, y1, y2, y3) e) (fun z0 e => hE (.inl z0) e) (fun qr e => hE (.inr qr) e)) _ _ _ hl33 ?_
    obtain rfl := Option.some.inj h
    exact ⟨rfl, rfl⟩
def f3_clear  (μ : zMem) : zMem :=
  z_let (z_sI μ 3 0 2 (0 : Int32)) fun m1 => m1
theorem s3_clear {P : zP} {μ : zMem} {μ' : zMem} (h : f3_clear μ = μ') : z_Sp P y_3_clear M_3_clear 1 [zA 3 0] μ none μ' := by
  refine z_Sp.of (plainFor_of_name (by decide)) rfl (l0 := [some (zA 3 0)]) rfl (Nat.le_of_ble_eq_true rfl) ?_
  unfold f3_clear at h
  refine zr_aload_n (i := 0) d_3_clear_0 rfl rfl ?_
  refine zr_iconst (v := (0 : Int32)) d_3_clear_1 rfl ?_
  obtain ⟨m1, hm2, h⟩ := z_lt h
  refine zr_puti d_3_clear_2 fw_3_19 pw_3_2 hm2 ?_
  obtain rfl := h
  exact ze_v d_3_clear_5 rfl
def f5_copyFrom (o0 : Nat) (o1 : Nat) (μ : zMem) : zMem :=
  z_let (z_sI μ 5 o0 0 (μ.1 5 o1 0)) fun m1 => z_let (z_sI m1 5 o0 1 (m1.1 5 o1 1)) fun m3 => z_let (z_sI m3 5 o0 2 (m3.1 5 o1 2)) fun m5 => z_let (z_uI m5 22 o0 (va_cpy (m5.1 22 o1) (m5.1 22 o0) 0 0 7)) fun m7 => z_let (z_uI m7 23 o0 (va_cpy (m7.1 23 o1) (m7.1 23 o0) 0 0 7)) fun m9 => z_let (z_uI m9 24 o0 (va_cpy (m9.1 24 o1) (m9.1 24 o0) 0 0 7)) fun m11 => z_let (z_uI m11 25 o0 (va_cpy (m11.1 25 o1) (m11.1 25 o0) 0 0 5)) fun m13 => m13
theorem s5_copyFrom {P : zP} {μ : zMem} {o0 : Nat} {o1 : Nat} {μ' : zMem} (h : f5_copyFrom o0 o1 μ = μ') : z_Sp P y_5_copyFrom M_5_copyFrom 1 [zA 5 o0, zA 5 o1] μ none μ' := by
  refine z_Sp.of (plainFor_of_name (by decide)) rfl (l0 := [some (zA 5 o0), some (zA 5 o1)]) rfl (Nat.le_of_ble_eq_true rfl) ?_
  unfold f5_copyFrom at h
  refine zr_aload_n (i := 0) d_5_copyFrom_0 rfl rfl ?_
  refine zr_aload_n (i := 1) d_5_copyFrom_1 rfl rfl ?_
  refine zr_geti d_5_copyFrom_2 fw_5_9 (by decide) ?_
  obtain ⟨m1, hm2, h⟩ := z_lt h
  refine zr_puti d_5_copyFrom_5 fw_5_9 pw_5_0 hm2 ?_
  refine zr_aload_n (i := 0) d_5_copyFrom_8 rfl rfl ?_
  refine zr_aload_n (i := 1) d_5_copyFrom_9 rfl rfl ?_
  refine zr_geti d_5_copyFrom_10 fw_5_15 (by decide) ?_
  obtain ⟨m3, hm4, h⟩ := z_lt h
  refine zr_puti d_5_copyFrom_13 fw_5_15 pw_5_1 hm4 ?_
  refine zr_aload_n (i := 0) d_5_copyFrom_16 rfl rfl ?_
  refine zr_aload_n (i := 1) d_5_copyFrom_17 rfl rfl ?_
  refine zr_geti d_5_copyFrom_18 fw_5_18 (by decide) ?_
  obtain ⟨m5, hm6, h⟩ := z_lt h
  refine zr_puti d_5_copyFrom_21 fw_5_18 pw_5_2 hm6 ?_
  refine zr_aload_n (i := 1) d_5_copyFrom_24 rfl rfl ?_
  refine zr_gets (i' := o1) d_5_copyFrom_25 fw_5_21 rfl ?_
  refine zr_iconst (v := (0 : Int32)) d_5_copyFrom_28 rfl ?_
  refine zr_aload_n (i := 0) d_5_copyFrom_29 rfl rfl ?_
  refine zr_gets (i' := o0) d_5_copyFrom_30 fw_5_21 rfl ?_
  refine zr_iconst (v := (0 : Int32)) d_5_copyFrom_33 rfl ?_
  refine zr_bipush (v := (7 : Int32)) d_5_copyFrom_34 rfl ?_
  obtain ⟨m7, hm8, h⟩ := z_lt h
  refine zr_acopy (N := 7) d_5_copyFrom_36 sa_22 ml_5_52 w_acopy ⟨by decide, rfl⟩ rfl rfl (Nat.le_of_ble_eq_true rfl) (Nat.le_of_ble_eq_true rfl) hm8 ?_
  refine zr_aload_n (i := 1) d_5_copyFrom_39 rfl rfl ?_
  refine zr_gets (i' := o1) d_5_copyFrom_40 fw_5_25 rfl ?_
  refine zr_iconst (v := (0 : Int32)) d_5_copyFrom_43 rfl ?_
  refine zr_aload_n (i := 0) d_5_copyFrom_44 rfl rfl ?_
  refine zr_gets (i' := o0) d_5_copyFrom_45 fw_5_25 rfl ?_
  refine zr_iconst (v := (0 : Int32)) d_5_copyFrom_48 rfl ?_
  refine zr_bipush (v := (7 : Int32)) d_5_copyFrom_49 rfl ?_
  obtain ⟨m9, hm10, h⟩ := z_lt h
  refine zr_acopy (N := 7) d_5_copyFrom_51 sa_23 ml_5_52 w_acopy ⟨by decide, rfl⟩ rfl rfl (Nat.le_of_ble_eq_true rfl) (Nat.le_of_ble_eq_true rfl) hm10 ?_
  refine zr_aload_n (i := 1) d_5_copyFrom_54 rfl rfl ?_
  refine zr_gets (i' := o1) d_5_copyFrom_55 fw_5_28 rfl ?_
  refine zr_iconst (v := (0 : Int32)) d_5_copyFrom_58 rfl ?_
  refine zr_aload_n (i := 0) d_5_copyFrom_59 rfl rfl ?_
  refine zr_gets (i' := o0) d_5_copyFrom_60 fw_5_28 rfl ?_
  refine zr_iconst (v := (0 : Int32)) d_5_copyFrom_63 rfl ?_
  refine zr_bipush (v := (7 : Int32)) d_5_copyFrom_64 rfl ?_
  obtain ⟨m11, hm12, h⟩ := z_lt h
  refine zr_acopy (N := 7) d_5_copyFrom_66 sa_24 ml_5_52 w_acopy ⟨by decide, rfl⟩ rfl rfl (Nat.le_of_ble_eq_true rfl) (Nat.le_of_ble_eq_true rfl) hm12 ?_
  refine zr_aload_n (i := 1) d_5_copyFrom_69 rfl rfl ?_
  refine zr_gets (i' := o1) d_5_copyFrom_70 fw_5_31 rfl ?_
  refine zr_iconst (v := (0 : Int32)) d_5_copyFrom_73 rfl ?_
  refine zr_aload_n (i := 0) d_5_copyFrom_74 rfl rfl ?_
  refine zr_gets (i' := o0) d_5_copyFrom_75 fw_5_31 rfl ?_
  refine zr_iconst (v := (0 : Int32)) d_5_copyFrom_78 rfl ?_
  refine zr_iconst (v := (5 : Int32)) d_5_copyFrom_79 rfl ?_
  obtain ⟨m13, hm14, h⟩ := z_lt h
  refine zr_acopy (N := 5) d_5_copyFrom_80 sa_25 ml_5_52 w_acopy ⟨by decide, rfl⟩ rfl rfl (Nat.le_of_ble_eq_true rfl) (Nat.le_of_ble_eq_true rfl) hm14 ?_
  obtain rfl := h
  exact ze_v d_5_copyFrom_83 rfl
def f3_keep (o1 : Nat) (μ : zMem) : Option (zMem) :=
  if z_in (μ.1 3 0 1) 40 = true then z_let (f5_copyFrom (3 + (μ.1 3 0 1).toNatClampNeg) o1 μ) (fun qm2 => z_let (z_sI qm2 3 0 1 (((qm2.1 3 0 1) + (1 : Int32)) - ((qm2.1 3 0 1) + (1 : Int32)) / (40 : Int32) * (40 : Int32))) fun m4 => z_let (z_sI m4 3 0 2 (fj9_min_7cf53 ((m4.1 3 0 2) + (1 : Int32)) (40 : Int32))) fun m7 => some m7) else none
theorem s3_keep {P : zP} {μ : zMem} {o1 : Nat} {μ' : zMem} (h : f3_keep o1 μ = some μ') : z_Sp P y_3_keep M_3_keep 2 [zA 3 0, zA 5 o1] μ none μ' := by
  refine z_Sp.of (plainFor_of_name (by decide)) rfl (l0 := [some (zA 3 0), some (zA 5 o1)]) rfl (Nat.le_of_ble_eq_true rfl) ?_
  unfold f3_keep at h
  refine zr_aload_n (i := 0) d_3_keep_0 rfl rfl ?_
  refine zr_gets (i' := 0) d_3_keep_1 fw_3_11 rfl ?_
  refine zr_aload_n (i := 0) d_3_keep_4 rfl rfl ?_
  refine zr_geti d_3_keep_5 fw_3_15 (by decide) ?_
  obtain ⟨hb1, h⟩ := z_gd h
  refine zr_aald d_3_keep_8 sa_20 rfl hb1 rfl ?_
  refine zr_aload_n (i := 1) d_3_keep_9 rfl rfl ?_
  obtain ⟨qm2, hq3, h⟩ := z_lt h
  refine zr_callVv (av := [zA 5 o1]) (st := []) d_3_keep_10 mw_5_copyFrom ml_3_23 im_5_copyFrom se_5_copyFrom rfl rfl (Nat.le_of_ble_eq_true rfl) fit_1_2_2 rfl rfl rfl (s5_copyFrom hq3.symm) ?_
  refine zr_aload_n (i := 0) d_3_keep_13 rfl rfl ?_
  refine zr_aload_n (i := 0) d_3_keep_14 rfl rfl ?_
  refine zr_geti d_3_keep_15 fw_3_15 (by decide) ?_
  refine zr_iconst (v := (1 : Int32)) d_3_keep_18 rfl ?_
  refine zr_iadd d_3_keep_19 ?_
  refine zr_bipush (v := (40 : Int32)) d_3_keep_20 rfl ?_
  refine zr_irem d_3_keep_22 (by decide) ?_
  obtain ⟨m4, hm5, h⟩ := z_lt h
  refine zr_puti d_3_keep_23 fw_3_15 pw_3_1 hm5 ?_
  refine zr_aload_n (i := 0) d_3_keep_26 rfl rfl ?_
  refine zr_aload_n (i := 0) d_3_keep_27 rfl rfl ?_
  refine zr_geti d_3_keep_28 fw_3_19 (by decide) ?_
  refine zr_iconst (v := (1 : Int32)) d_3_keep_31 rfl ?_
  refine zr_iadd d_3_keep_32 ?_
  refine zr_bipush (v := (40 : Int32)) d_3_keep_33 rfl ?_
  refine zr_callSi (av := [zI ((m4.1 3 0 2) + (1 : Int32)), zI (40 : Int32)]) (st := [zA 3 0]) d_3_keep_35 mw_j9_min_7cf53 ml_3_27 is_j9_min_7cf53 rfl rfl (Nat.le_of_ble_eq_true rfl) fit_1_2_2 (sj9_min_7cf53 rfl) ?_
  obtain ⟨m7, hm8, h⟩ := z_lt h
  refine zr_puti d_3_keep_38 fw_3_19 pw_3_2 hm8 ?_
  obtain rfl := Option.some.inj h
  exact ze_v d_3_keep_41 rfl
def f3_takeBack (o1 : Nat) (μ : zMem) : Option (Int32 × zMem) :=
  (if (μ.1 3 0 2) = 0 then some ((0 : Int32), μ) else z_let (z_sI μ 3 0 1 ((((μ.1 3 0 1) + (40 : Int32)) - (1 : Int32)) - (((μ.1 3 0 1) + (40 : Int32)) - (1 : Int32)) / (40 : Int32) * (40 : Int32))) fun m2 => z_let (z_sI m2 3 0 2 ((m2.1 3 0 2) - (1 : Int32))) fun m4 => if z_in (m4.1 3 0 1) 40 = true then z_let (f5_copyFrom o1 (3 + (m4.1 3 0 1).toNatClampNeg) m4) (fun qm7 => some ((1 : Int32), qm7)) else none)
theorem s3_takeBack {P : zP} {μ : zMem} {o1 : Nat} {r : Int32} {μ' : zMem} (h : f3_takeBack o1 μ = some (r, μ')) : z_Sp P y_3_takeBack M_3_takeBack 2 [zA 3 0, zA 5 o1] μ (some (zI r)) μ' := by
  refine z_Sp.of (plainFor_of_name (by decide)) rfl (l0 := [some (zA 3 0), some (zA 5 o1)]) rfl (Nat.le_of_ble_eq_true rfl) ?_
  unfold f3_takeBack at h
  refine zr_aload_n (i := 0) d_3_takeBack_0 rfl rfl ?_
  refine zr_geti d_3_takeBack_1 fw_3_19 (by decide) ?_
  refine zr_if_ne (tgt := 9) d_3_takeBack_4 rfl (fun hc1 => ?_) (fun hc1 => ?_)
  · replace h := z_ip h hc1
    refine zr_iconst (v := (0 : Int32)) d_3_takeBack_7 rfl ?_
    obtain ⟨rfl, rfl⟩ := Prod.mk.inj (Option.some.inj h)
    exact ze_z d_3_takeBack_8 rfl rfl
  · replace h := z_im h hc1
    refine zr_aload_n (i := 0) d_3_takeBack_9 rfl rfl ?_
    refine zr_aload_n (i := 0) d_3_takeBack_10 rfl rfl ?_
    refine zr_geti d_3_takeBack_11 fw_3_15 (by decide) ?_
    refine zr_bipush (v := (40 : Int32)) d_3_takeBack_14 rfl ?_
    refine zr_iadd d_3_takeBack_16 ?_
    refine zr_iconst (v := (1 : Int32)) d_3_takeBack_17 rfl ?_
    refine zr_isub d_3_takeBack_18 ?_
    refine zr_bipush (v := (40 : Int32)) d_3_takeBack_19 rfl ?_
    refine zr_irem d_3_takeBack_21 (by decide) ?_
    obtain ⟨m2, hm3, h⟩ := z_lt h
    refine zr_puti d_3_takeBack_22 fw_3_15 pw_3_1 hm3 ?_
    refine zr_aload_n (i := 0) d_3_takeBack_25 rfl rfl ?_
    refine zr_dupa d_3_takeBack_26 ?_
    refine zr_geti d_3_takeBack_27 fw_3_19 (by decide) ?_
    refine zr_iconst (v := (1 : Int32)) d_3_takeBack_30 rfl ?_
    refine zr_isub d_3_takeBack_31 ?_
    obtain ⟨m4, hm5, h⟩ := z_lt h
    refine zr_puti d_3_takeBack_32 fw_3_19 pw_3_2 hm5 ?_
    refine zr_aload_n (i := 1) d_3_takeBack_35 rfl rfl ?_
    refine zr_aload_n (i := 0) d_3_takeBack_36 rfl rfl ?_
    refine zr_gets (i' := 0) d_3_takeBack_37 fw_3_11 rfl ?_
    refine zr_aload_n (i := 0) d_3_takeBack_40 rfl rfl ?_
    refine zr_geti d_3_takeBack_41 fw_3_15 (by decide) ?_
    obtain ⟨hb6, h⟩ := z_gd h
    refine zr_aald d_3_takeBack_44 sa_20 rfl hb6 rfl ?_
    obtain ⟨qm7, hq8, h⟩ := z_lt h
    refine zr_callVv (av := [zA 5 (3 + (m4.1 3 0 1).toNatClampNeg)]) (st := []) d_3_takeBack_45 mw_5_copyFrom ml_3_23 im_5_copyFrom se_5_copyFrom rfl rfl (Nat.le_of_ble_eq_true rfl) fit_1_2_2 rfl rfl rfl (s5_copyFrom hq8.symm) ?_
    refine zr_iconst (v := (1 : Int32)) d_3_takeBack_48 rfl ?_
    obtain ⟨rfl, rfl⟩ := Prod.mk.inj (Option.some.inj h)
    exact ze_z d_3_takeBack_49 rfl rfl
def f6_write (o0 : Nat) (a1 : Int32) (μ : zMem) : Option (zMem) :=
  (if (μ.1 6 o0 9) < (404 : Int32) then if z_in (μ.1 6 o0 9) 404 = true then z_let (z_sI μ 29 o0 (μ.1 6 o0 9).toNatClampNeg a1) fun m2 => z_let (z_sI m2 6 o0 9 ((m2.1 6 o0 9) + (1 : Int32))) fun m5 => some m5 else none else some μ)
theorem s6_write {P : zP} {μ : zMem} {o0 : Nat} {a1 : Int32} {μ' : zMem} (h : f6_write o0 a1 μ = some μ') : z_Sp P y_6_write M_6_write 1 [zA 6 o0, zI a1] μ none μ' := by
  refine z_Sp.of (plainFor_of_name (by decide)) rfl (l0 := [some (zA 6 o0), some (zI a1)]) rfl (Nat.le_of_ble_eq_true rfl) ?_
  unfold f6_write at h
  refine zr_aload_n (i := 0) d_6_write_0 rfl rfl ?_
  refine zr_geti d_6_write_1 fw_6_40 (by decide) ?_
  refine zr_sipush (v := (404 : Int32)) d_6_write_4 rfl ?_
  refine zr_icmp_ge (tgt := 30) d_6_write_7 rfl (fun hc1 => ?_) (fun hc1 => ?_)
  · replace h := z_ip h hc1
    refine zr_aload_n (i := 0) d_6_write_10 rfl rfl ?_
    refine zr_gets (i' := o0) d_6_write_11 fw_6_34 rfl ?_
    refine zr_aload_n (i := 0) d_6_write_14 rfl rfl ?_
    refine zr_geti d_6_write_15 fw_6_40 (by decide) ?_
    refine zr_iload_n (i := 1) d_6_write_18 rfl rfl ?_
    obtain ⟨hb4, h⟩ := z_gd h
    obtain ⟨m2, hm3, h⟩ := z_lt h
    refine zr_iast d_6_write_19 sa_29 rfl hb4 hm3 ?_
    refine zr_aload_n (i := 0) d_6_write_20 rfl rfl ?_
    refine zr_dupa d_6_write_21 ?_
    refine zr_geti d_6_write_22 fw_6_40 (by decide) ?_
    refine zr_iconst (v := (1 : Int32)) d_6_write_25 rfl ?_
    refine zr_iadd d_6_write_26 ?_
    obtain ⟨m5, hm6, h⟩ := z_lt h
    refine zr_puti d_6_write_27 fw_6_40 pw_6_9 hm6 ?_
    obtain rfl := Option.some.inj h
    exact ze_v d_6_write_30 rfl
  · replace h := z_im h hc1
    obtain rfl := Option.some.inj h
    exact ze_v d_6_write_30 rfl
def f6_empty_L7 (o0 : Nat) : (Int32 × zMem) → Option ((Int32 × zMem) ⊕ (zMem)) := (z_u2 fun x8 xm9 => 
  (if x8 < (5 : Int32) then if z_in x8 5 = true then z_let (z_sI xm9 27 o0 x8.toNatClampNeg (0 : Int32)) fun m11 => some (.inl ((x8 + (1 : Int32)), m11)) else none else some (.inr xm9)))
def f6_empty_L16 (o0 : Nat) : (Int32 × zMem) → Option ((Int32 × zMem) ⊕ (zMem)) := (z_u2 fun x17 xm18 => 
  (if x17 < (7 : Int32) then if z_in x17 7 = true then z_let (z_sI xm18 28 o0 x17.toNatClampNeg (-1 : Int32)) fun m20 => some (.inl ((x17 + (1 : Int32)), m20)) else none else some (.inr xm18)))
def f6_empty (o0 : Nat) (μ : zMem) : Option (zMem) :=
  z_let (z_sI μ 6 o0 0 (0 : Int32)) fun m1 => z_let (z_sI m1 6 o0 1 (0 : Int32)) fun m3 => z_let (z_sI m3 6 o0 2 (0 : Int32)) fun m5 => (z_it (f6_empty_L7 o0) z_fu ((0 : Int32), m5)).bind (fun e14 => (z_it (f6_empty_L16 o0) z_fu ((0 : Int32), e14)).bind (fun e23 => z_let (z_sI e23 6 o0 9 (0 : Int32)) fun m25 => z_let (z_sI m25 30 o0 (0 : Int32).toNatClampNeg (m25.1 6 o0 9)) fun m27 => z_let (z_sI m27 30 o0 (1 : Int32).toNatClampNeg (m27.1 6 o0 9)) fun m29 => z_let (z_sI m29 30 o0 (2 : Int32).toNatClampNeg (m29.1 6 o0 9)) fun m31 => (f6_write o0 (0 : Int32) m31).bind (fun qm33 => (f6_write o0 (-15 : Int32) qm33).bind (fun qm35 => z_let (z_sI qm35 30 o0 (3 : Int32).toNatClampNeg (qm35.1 6 o0 9)) fun m37 => (f6_write o0 (-1 : Int32) m37).bind (fun qm39 => (f6_write o0 (-15 : Int32) qm39).bind (fun qm41 => some qm41))))))
theorem s6_empty_L7 {P : zP} {ro : Option zV} {μo : zMem} (o0 : Nat) (x8 : Int32) (xm9 : zMem) (K : (Int32 × zMem) ⊕ (zMem)) (h : f6_empty_L7 o0 (x8, xm9) = some K) (hI : ∀ (y0 : Int32) (y1 : zMem), K = .inl (y0, y1) → z_RQ P M_6_empty (z_rm 2) (z_mq P ro μo) 0 0 17 [some (zA 6 o0), some (zI y0)] [] y1) (hE : ∀ (z0 : zMem), K = .inr z0 → z_RQ P M_6_empty (z_rm 2) (z_mq P ro μo) 0 0 35 [some (zA 6 o0), none] [] z0)  : z_RQ P M_6_empty (z_rm 2) (z_mq P ro μo) 0 0 17 [some (zA 6 o0), some (zI x8)] [] xm9 := by
  unfold f6_empty_L7 at h
  replace h := z_h2 h
  refine zr_iload_n (i := 1) d_6_empty_17 rfl rfl ?_
  refine zr_iconst (v := (5 : Int32)) d_6_empty_18 rfl ?_
  refine zr_icmp_ge (tgt := 35) d_6_empty_19 rfl (fun hc10 => ?_) (fun hc10 => ?_)
  · replace h := z_ip h hc10
    refine zr_aload_n (i := 0) d_6_empty_22 rfl rfl ?_
    refine zr_gets (i' := o0) d_6_empty_23 fw_6_25 rfl ?_
    refine zr_iload_n (i := 1) d_6_empty_26 rfl rfl ?_
    refine zr_iconst (v := (0 : Int32)) d_6_empty_27 rfl ?_
    obtain ⟨hb13, h⟩ := z_gd h
    obtain ⟨m11, hm12, h⟩ := z_lt h
    refine zr_iast d_6_empty_28 sa_27 rfl hb13 hm12 ?_
    refine zr_iinc (v := (x8 + (1 : Int32))) (l' := [some (zA 6 o0), some (zI (x8 + (1 : Int32)))]) d_6_empty_29 (by decide) rfl rfl rfl ?_
    refine zr_goto (tgt := 17) d_6_empty_32 rfl ?_
    obtain rfl := Option.some.inj h
    exact zr_wk2 (hI (x8 + (1 : Int32)) m11 rfl) ⟨rfl, ⟨rfl, trivial⟩⟩
  · replace h := z_im h hc10
    obtain rfl := Option.some.inj h
    exact zr_wk2 (hE xm9 rfl) ⟨rfl, trivial⟩
theorem s6_empty_L16 {P : zP} {ro : Option zV} {μo : zMem} (o0 : Nat) (x17 : Int32) (xm18 : zMem) (K : (Int32 × zMem) ⊕ (zMem)) (h : f6_empty_L16 o0 (x17, xm18) = some K) (hI : ∀ (y0 : Int32) (y1 : zMem), K = .inl (y0, y1) → z_RQ P M_6_empty (z_rm 2) (z_mq P ro μo) 0 0 37 [some (zA 6 o0), some (zI y0)] [] y1) (hE : ∀ (z0 : zMem), K = .inr z0 → z_RQ P M_6_empty (z_rm 2) (z_mq P ro μo) 0 0 56 [some (zA 6 o0), none] [] z0)  : z_RQ P M_6_empty (z_rm 2) (z_mq P ro μo) 0 0 37 [some (zA 6 o0), some (zI x17)] [] xm18 := by
  unfold f6_empty_L16 at h
  replace h := z_h2 h
  refine zr_iload_n (i := 1) d_6_empty_37 rfl rfl ?_
  refine zr_bipush (v := (7 : Int32)) d_6_empty_38 rfl ?_
  refine zr_icmp_ge (tgt := 56) d_6_empty_40 rfl (fun hc19 => ?_) (fun hc19 => ?_)
  · replace h := z_ip h hc19
    refine zr_aload_n (i := 0) d_6_empty_43 rfl rfl ?_
    refine zr_gets (i' := o0) d_6_empty_44 fw_6_31 rfl ?_
    refine zr_iload_n (i := 1) d_6_empty_47 rfl rfl ?_
    refine zr_iconst (v := (-1 : Int32)) d_6_empty_48 rfl ?_
    obtain ⟨hb22, h⟩ := z_gd h
    obtain ⟨m20, hm21, h⟩ := z_lt h
    refine zr_iast d_6_empty_49 sa_28 rfl hb22 hm21 ?_
    refine zr_iinc (v := (x17 + (1 : Int32))) (l' := [some (zA 6 o0), some (zI (x17 + (1 : Int32)))]) d_6_empty_50 (by decide) rfl rfl rfl ?_
    refine zr_goto (tgt := 37) d_6_empty_53 rfl ?_
    obtain rfl := Option.some.inj h
    exact zr_wk2 (hI (x17 + (1 : Int32)) m20 rfl) ⟨rfl, ⟨rfl, trivial⟩⟩
  · replace h := z_im h hc19
    obtain rfl := Option.some.inj h
    exact zr_wk2 (hE xm18 rfl) ⟨rfl, trivial⟩
theorem s6_empty {P : zP} {μ : zMem} {o0 : Nat} {μ' : zMem} (h : f6_empty o0 μ = some μ') : z_Sp P y_6_empty M_6_empty 2 [zA 6 o0] μ none μ' := by
  refine z_Sp.of (plainFor_of_name (by decide)) rfl (l0 := [some (zA 6 o0), none]) rfl (Nat.le_of_ble_eq_true rfl) ?_
  unfold f6_empty at h
  refine zr_aload_n (i := 0) d_6_empty_0 rfl rfl ?_
  refine zr_iconst (v := (0 : Int32)) d_6_empty_1 rfl ?_
  obtain ⟨m1, hm2, h⟩ := z_lt h
  refine zr_puti d_6_empty_2 fw_6_9 pw_6_0 hm2 ?_
  refine zr_aload_n (i := 0) d_6_empty_5 rfl rfl ?_
  refine zr_iconst (v := (0 : Int32)) d_6_empty_6 rfl ?_
  obtain ⟨m3, hm4, h⟩ := z_lt h
  refine zr_puti d_6_empty_7 fw_6_15 pw_6_1 hm4 ?_
  refine zr_aload_n (i := 0) d_6_empty_10 rfl rfl ?_
  refine zr_iconst (v := (0 : Int32)) d_6_empty_11 rfl ?_
  obtain ⟨m5, hm6, h⟩ := z_lt h
  refine zr_puti d_6_empty_12 fw_6_18 pw_6_2 hm6 ?_
  refine zr_iconst (v := (0 : Int32)) d_6_empty_15 rfl ?_
  refine zr_istore_n (i := 1) (l' := [some (zA 6 o0), some (zI (0 : Int32))]) d_6_empty_16 rfl (by decide) rfl ?_
  obtain ⟨e14, hl15, h⟩ := z_bd h
  refine zr_wk (l' := [some (zA 6 o0), some (zI (0 : Int32))]) ⟨rfl, ⟨rfl, trivial⟩⟩ ?_
  refine z_loop (Hd := (z_u2 fun y0 y1 => z_RQ P M_6_empty (z_rm 2) (z_mq P none μ') 0 0 17 [some (zA 6 o0), some (zI y0)] [] y1)) (Ex := (fun z0 => z_RQ P M_6_empty (z_rm 2) (z_mq P none μ') 0 0 35 [some (zA 6 o0), none] [] z0)) (fun ⟨x8, xm9⟩ K h hI hE => s6_empty_L7 o0 x8 xm9 K h (fun y0 y1 e => hI (y0, y1) e) (fun z0 e => hE z0 e) ) _ _ _ hl15 ?_
  refine zr_iconst (v := (0 : Int32)) d_6_empty_35 rfl ?_
  refine zr_istore_n (i := 1) (l' := [some (zA 6 o0), some (zI (0 : Int32))]) d_6_empty_36 rfl (by decide) rfl ?_
  obtain ⟨e23, hl24, h⟩ := z_bd h
  refine zr_wk (l' := [some (zA 6 o0), some (zI (0 : Int32))]) ⟨rfl, ⟨rfl, trivial⟩⟩ ?_
  refine z_loop (Hd := (z_u2 fun y0 y1 => z_RQ P M_6_empty (z_rm 2) (z_mq P none μ') 0 0 37 [some (zA 6 o0), some (zI y0)] [] y1)) (Ex := (fun z0 => z_RQ P M_6_empty (z_rm 2) (z_mq P none μ') 0 0 56 [some (zA 6 o0), none] [] z0)) (fun ⟨x17, xm18⟩ K h hI hE => s6_empty_L16 o0 x17 xm18 K h (fun y0 y1 e => hI (y0, y1) e) (fun z0 e => hE z0 e) ) _ _ _ hl24 ?_
  refine zr_aload_n (i := 0) d_6_empty_56 rfl rfl ?_
  refine zr_iconst (v := (0 : Int32)) d_6_empty_57 rfl ?_
  obtain ⟨m25, hm26, h⟩ := z_lt h
  refine zr_puti d_6_empty_58 fw_6_40 pw_6_9 hm26 ?_
  refine zr_aload_n (i := 0) d_6_empty_61 rfl rfl ?_
  refine zr_gets (i' := o0) d_6_empty_62 fw_6_37 rfl ?_
  refine zr_iconst (v := (0 : Int32)) d_6_empty_65 rfl ?_
  refine zr_aload_n (i := 0) d_6_empty_66 rfl rfl ?_
  refine zr_geti d_6_empty_67 fw_6_40 (by decide) ?_
  obtain ⟨m27, hm28, h⟩ := z_lt h
  refine zr_iast d_6_empty_70 sa_30 rfl rfl hm28 ?_
  refine zr_aload_n (i := 0) d_6_empty_71 rfl rfl ?_
  refine zr_gets (i' := o0) d_6_empty_72 fw_6_37 rfl ?_
  refine zr_iconst (v := (1 : Int32)) d_6_empty_75 rfl ?_
  refine zr_aload_n (i := 0) d_6_empty_76 rfl rfl ?_
  refine zr_geti d_6_empty_77 fw_6_40 (by decide) ?_
  obtain ⟨m29, hm30, h⟩ := z_lt h
  refine zr_iast d_6_empty_80 sa_30 rfl rfl hm30 ?_
  refine zr_aload_n (i := 0) d_6_empty_81 rfl rfl ?_
  refine zr_gets (i' := o0) d_6_empty_82 fw_6_37 rfl ?_
  refine zr_iconst (v := (2 : Int32)) d_6_empty_85 rfl ?_
  refine zr_aload_n (i := 0) d_6_empty_86 rfl rfl ?_
  refine zr_geti d_6_empty_87 fw_6_40 (by decide) ?_
  obtain ⟨m31, hm32, h⟩ := z_lt h
  refine zr_iast d_6_empty_90 sa_30 rfl rfl hm32 ?_
  refine zr_aload_n (i := 0) d_6_empty_91 rfl rfl ?_
  refine zr_iconst (v := (0 : Int32)) d_6_empty_92 rfl ?_
  obtain ⟨qm33, hq34, h⟩ := z_bd h
  refine zr_callVv (av := [zI (0 : Int32)]) (st := []) d_6_empty_93 mw_6_write ml_6_46 im_6_write se_6_write rfl rfl (Nat.le_of_ble_eq_true rfl) fit_1_2_2 rfl rfl rfl (s6_write hq34) ?_
  refine zr_aload_n (i := 0) d_6_empty_96 rfl rfl ?_
  refine zr_bipush (v := (-15 : Int32)) d_6_empty_97 (by decide) ?_
  obtain ⟨qm35, hq36, h⟩ := z_bd h
  refine zr_callVv (av := [zI (-15 : Int32)]) (st := []) d_6_empty_99 mw_6_write ml_6_46 im_6_write se_6_write rfl rfl (Nat.le_of_ble_eq_true rfl) fit_1_2_2 rfl rfl rfl (s6_write hq36) ?_
  refine zr_aload_n (i := 0) d_6_empty_102 rfl rfl ?_
  refine zr_gets (i' := o0) d_6_empty_103 fw_6_37 rfl ?_
  refine zr_iconst (v := (3 : Int32)) d_6_empty_106 rfl ?_
  refine zr_aload_n (i := 0) d_6_empty_107 rfl rfl ?_
  refine zr_geti d_6_empty_108 fw_6_40 (by decide) ?_
  obtain ⟨m37, hm38, h⟩ := z_lt h
  refine zr_iast d_6_empty_111 sa_30 rfl rfl hm38 ?_
  refine zr_aload_n (i := 0) d_6_empty_112 rfl rfl ?_
  refine zr_iconst (v := (-1 : Int32)) d_6_empty_113 rfl ?_
  obtain ⟨qm39, hq40, h⟩ := z_bd h
  refine zr_callVv (av := [zI (-1 : Int32)]) (st := []) d_6_empty_114 mw_6_write ml_6_46 im_6_write se_6_write rfl rfl (Nat.le_of_ble_eq_true rfl) fit_1_2_2 rfl rfl rfl (s6_write hq40) ?_
  refine zr_aload_n (i := 0) d_6_empty_117 rfl rfl ?_
  refine zr_bipush (v := (-15 : Int32)) d_6_empty_118 (by decide) ?_
  obtain ⟨qm41, hq42, h⟩ := z_bd h
  refine zr_callVv (av := [zI (-15 : Int32)]) (st := []) d_6_empty_120 mw_6_write ml_6_46 im_6_write se_6_write rfl rfl (Nat.le_of_ble_eq_true rfl) fit_1_2_2 rfl rfl rfl (s6_write hq42) ?_
  obtain rfl := Option.some.inj h
  exact ze_v d_6_empty_123 rfl
