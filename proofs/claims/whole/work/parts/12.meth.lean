/-! 12.meth.lean.txt -/
def y_5_standingOf : MethodName := ⟨zR5, "standingOf", "(I)I"⟩
abbrev M_5_standingOf : zM := (zR5, prog_7_method_8_code, 2, (Option.some Jvm.ClassFile.FieldType.int))
def y_5_whoStands : MethodName := ⟨zR5, "whoStands", "(LAbsentLords$Text;I)I"⟩
abbrev M_5_whoStands : zM := (zR5, prog_7_method_9_code, 3, (Option.some Jvm.ClassFile.FieldType.int))
def y_5_heirOf : MethodName := ⟨zR5, "heirOf", "(I)I"⟩
abbrev M_5_heirOf : zM := (zR5, prog_7_method_11_code, 3, (Option.some Jvm.ClassFile.FieldType.int))
def y_5_allLandlords : MethodName := ⟨zR5, "allLandlords", "(LAbsentLords$Text;)I"⟩
abbrev M_5_allLandlords : zM := (zR5, prog_7_method_13_code, 5, (Option.some Jvm.ClassFile.FieldType.int))
def y_8_putBytes : MethodName := ⟨zR8, "putBytes", "(I)V"⟩
abbrev M_8_putBytes : zM := (zR8, prog_1_method_3_code, 3, (Option.none : Option Jvm.ClassFile.FieldType))
def y_8_feed : MethodName := ⟨zR8, "feed", "(IIIII)I"⟩
abbrev M_8_feed : zM := (zR8, prog_1_method_2_code, 6, (Option.some Jvm.ClassFile.FieldType.int))
def y_8_back : MethodName := ⟨zR8, "back", "(I)I"⟩
abbrev M_8_back : zM := (zR8, prog_1_method_4_code, 2, (Option.some Jvm.ClassFile.FieldType.int))
def y_8_read : MethodName := ⟨zR8, "read", "()I"⟩
abbrev M_8_read : zM := (zR8, prog_1_method_5_code, 2, (Option.some Jvm.ClassFile.FieldType.int))
def y_8_place : MethodName := ⟨zR8, "place", "()I"⟩
abbrev M_8_place : zM := (zR8, prog_1_method_6_code, 1, (Option.some Jvm.ClassFile.FieldType.int))
def y_8_isHouse : MethodName := ⟨zR8, "isHouse", "(I)Z"⟩
abbrev M_8_isHouse : zM := (zR8, prog_1_method_69_code, 2, (Option.some Jvm.ClassFile.FieldType.boolean))
def y_8_house : MethodName := ⟨zR8, "house", "(II)I"⟩
abbrev M_8_house : zM := (zR8, prog_1_method_7_code, 3, (Option.some Jvm.ClassFile.FieldType.int))
def y_8_isPerson : MethodName := ⟨zR8, "isPerson", "(I)Z"⟩
abbrev M_8_isPerson : zM := (zR8, prog_1_method_70_code, 2, (Option.some Jvm.ClassFile.FieldType.boolean))
def y_8_rightsOf : MethodName := ⟨zR8, "rightsOf", "(I)I"⟩
abbrev M_8_rightsOf : zM := (zR8, prog_1_method_9_code, 4, (Option.some Jvm.ClassFile.FieldType.int))
def y_8_ownHouses : MethodName := ⟨zR8, "ownHouses", "(I)I"⟩
abbrev M_8_ownHouses : zM := (zR8, prog_1_method_10_code, 4, (Option.some Jvm.ClassFile.FieldType.int))
def y_8_chanceNow : MethodName := ⟨zR8, "chanceNow", "(II)I"⟩
abbrev M_8_chanceNow : zM := (zR8, prog_1_method_11_code, 3, (Option.some Jvm.ClassFile.FieldType.int))
def y_8_person : MethodName := ⟨zR8, "person", "(II)I"⟩
abbrev M_8_person : zM := (zR8, prog_1_method_8_code, 3, (Option.some Jvm.ClassFile.FieldType.int))
def y_8_send : MethodName := ⟨zR8, "send", "(I)Z"⟩
abbrev M_8_send : zM := (zR8, prog_1_method_12_code, 2, (Option.some Jvm.ClassFile.FieldType.boolean))
def y_8_call : MethodName := ⟨zR8, "call", "(I)Z"⟩
abbrev M_8_call : zM := (zR8, prog_1_method_13_code, 2, (Option.some Jvm.ClassFile.FieldType.boolean))
def y_8_bury : MethodName := ⟨zR8, "bury", "(I)Z"⟩
abbrev M_8_bury : zM := (zR8, prog_1_method_14_code, 2, (Option.some Jvm.ClassFile.FieldType.boolean))
def y_8_give : MethodName := ⟨zR8, "give", "(IIZ)Z"⟩
abbrev M_8_give : zM := (zR8, prog_1_method_15_code, 4, (Option.some Jvm.ClassFile.FieldType.boolean))
def y_8_areYears : MethodName := ⟨zR8, "areYears", "(II)Z"⟩
abbrev M_8_areYears : zM := (zR8, prog_1_method_72_code, 2, (Option.some Jvm.ClassFile.FieldType.boolean))
def y_8_years : MethodName := ⟨zR8, "years", "(I)I"⟩
abbrev M_8_years : zM := (zR8, prog_1_method_16_code, 2, (Option.some Jvm.ClassFile.FieldType.int))
def y_8_undo : MethodName := ⟨zR8, "undo", "()Z"⟩
abbrev M_8_undo : zM := (zR8, prog_1_method_17_code, 1, (Option.some Jvm.ClassFile.FieldType.boolean))
def y_8_heir : MethodName := ⟨zR8, "heir", "(I)I"⟩
abbrev M_8_heir : zM := (zR8, prog_1_method_18_code, 2, (Option.some Jvm.ClassFile.FieldType.int))
def y_8_race : MethodName := ⟨zR8, "race", "(I)I"⟩
abbrev M_8_race : zM := (zR8, prog_1_method_19_code, 4, (Option.some Jvm.ClassFile.FieldType.int))
def y_8_gainOnTrial : MethodName := ⟨zR8, "gainOnTrial", "(II)I"⟩
abbrev M_8_gainOnTrial : zM := (zR8, prog_1_method_21_code, 3, (Option.some Jvm.ClassFile.FieldType.int))
def y_8_gain : MethodName := ⟨zR8, "gain", "(II)I"⟩
abbrev M_8_gain : zM := (zR8, prog_1_method_20_code, 3, (Option.some Jvm.ClassFile.FieldType.int))
def y_8_best : MethodName := ⟨zR8, "best", "(III)I"⟩
abbrev M_8_best : zM := (zR8, prog_1_method_22_code, 8, (Option.some Jvm.ClassFile.FieldType.int))
def y_8_gainOfOthers : MethodName := ⟨zR8, "gainOfOthers", "(II)I"⟩
abbrev M_8_gainOfOthers : zM := (zR8, prog_1_method_24_code, 5, (Option.some Jvm.ClassFile.FieldType.int))
def y_8_loss : MethodName := ⟨zR8, "loss", "(II)I"⟩
abbrev M_8_loss : zM := (zR8, prog_1_method_23_code, 4, (Option.some Jvm.ClassFile.FieldType.int))
def y_8_canDuel : MethodName := ⟨zR8, "canDuel", "(III)Z"⟩
abbrev M_8_canDuel : zM := (zR8, prog_1_method_27_code, 4, (Option.some Jvm.ClassFile.FieldType.boolean))
def y_8_playDuel : MethodName := ⟨zR8, "playDuel", "(IIII)V"⟩
abbrev M_8_playDuel : zM := (zR8, prog_1_method_28_code, 5, (Option.none : Option Jvm.ClassFile.FieldType))
def y_8_duel : MethodName := ⟨zR8, "duel", "(IIIII)I"⟩
abbrev M_8_duel : zM := (zR8, prog_1_method_25_code, 6, (Option.some Jvm.ClassFile.FieldType.int))
def y_8_rest : MethodName := ⟨zR8, "rest", "(III)I"⟩
abbrev M_8_rest : zM := (zR8, prog_1_method_26_code, 6, (Option.some Jvm.ClassFile.FieldType.int))
def y_8_serveAll : MethodName := ⟨zR8, "serveAll", "(I)Z"⟩
abbrev M_8_serveAll : zM := (zR8, prog_1_method_33_code, 4, (Option.some Jvm.ClassFile.FieldType.boolean))
def y_8_fewestFor : MethodName := ⟨zR8, "fewestFor", "(II)I"⟩
abbrev M_8_fewestFor : zM := (zR8, prog_1_method_32_code, 6, (Option.some Jvm.ClassFile.FieldType.int))
def y_8_manyOrWho : MethodName := ⟨zR8, "manyOrWho", "(II)I"⟩
abbrev M_8_manyOrWho : zM := (zR8, prog_1_method_31_code, 2, (Option.some Jvm.ClassFile.FieldType.int))
def y_8_fill : MethodName := ⟨zR8, "fill", "(I)I"⟩
abbrev M_8_fill : zM := (zR8, prog_1_method_29_code, 2, (Option.some Jvm.ClassFile.FieldType.int))
def y_8_agents : MethodName := ⟨zR8, "agents", "(I)I"⟩
abbrev M_8_agents : zM := (zR8, prog_1_method_30_code, 2, (Option.some Jvm.ClassFile.FieldType.int))
def y_8_richest : MethodName := ⟨zR8, "richest", "(I)I"⟩
abbrev M_8_richest : zM := (zR8, prog_1_method_34_code, 4, (Option.some Jvm.ClassFile.FieldType.int))
def y_8_eldest : MethodName := ⟨zR8, "eldest", "(I)I"⟩
abbrev M_8_eldest : zM := (zR8, prog_1_method_35_code, 6, (Option.some Jvm.ClassFile.FieldType.int))
def y_8_suitedTo : MethodName := ⟨zR8, "suitedTo", "(I)I"⟩
abbrev M_8_suitedTo : zM := (zR8, prog_1_method_39_code, 4, (Option.some Jvm.ClassFile.FieldType.int))
def y_8_mostLords : MethodName := ⟨zR8, "mostLords", "(II)I"⟩
abbrev M_8_mostLords : zM := (zR8, prog_1_method_38_code, 5, (Option.some Jvm.ClassFile.FieldType.int))
def y_8_lordGiven : MethodName := ⟨zR8, "lordGiven", "(II)I"⟩
abbrev M_8_lordGiven : zM := (zR8, prog_1_method_37_code, 6, (Option.some Jvm.ClassFile.FieldType.int))
def y_8_lords : MethodName := ⟨zR8, "lords", "(I)I"⟩
abbrev M_8_lords : zM := (zR8, prog_1_method_36_code, 5, (Option.some Jvm.ClassFile.FieldType.int))
theorem ml_5_62 : Cond.methodLink zR5 62 y_5_alive ∈ lw_gd := z_m4 (List.mem_of_getElem? (i := 223) rfl) rfl
theorem ml_5_69 : Cond.methodLink zR5 69 y_5_landlordOf ∈ lw_gd := z_m4 (List.mem_of_getElem? (i := 99) rfl) rfl
theorem fit_2_5_4 : z_fit (z_rm 4) 0 0 2 5 := ⟨by decide, by decide, by decide, by decide⟩
theorem fw_5_72 : z_FW zR5 72 6 0 (0, 0, fun i => i) := ⟨_, _, rfl, rfl, rfl, by decide, z_m1 (List.mem_of_getElem? (i := 83) rfl) rfl⟩
theorem fw_8_13 : z_FW zR8 13 8 1 (0, 0, fun i => i) := ⟨_, _, rfl, rfl, rfl, by decide, z_m2 (List.mem_of_getElem? (i := 61) rfl) rfl⟩
theorem fw_8_9 : z_FW zR8 9 8 0 (2, 34, fun _ => 0) := ⟨_, _, rfl, rfl, rfl, by decide, z_m2 (List.mem_of_getElem? (i := 60) rfl) rfl⟩
theorem pw_8_1 : z_PW 8 1 (.int) := fun _ _ h1 h2 => by
  cases h1
  cases h2
  exact ⟨rfl, by decide +kernel⟩
theorem mw_8_putBytes : z_MW y_8_putBytes M_8_putBytes 1 := ⟨z_m1 (List.mem_of_getElem? (i := 1) rfl) rfl, z_m2 (List.mem_of_getElem? (i := 113) rfl) rfl, by decide, by decide, by decide +kernel⟩
theorem ml_8_86 : Cond.methodLink zR8 86 y_8_putBytes ∈ lw_gd := z_m2 (List.mem_of_getElem? (i := 110) rfl) rfl
theorem im_8_putBytes : Cond.instanceMethod y_8_putBytes ∈ lw_gd := z_m2 (List.mem_of_getElem? (i := 112) rfl) rfl
theorem se_8_putBytes : Cond.selects y_8_putBytes.cls y_8_putBytes y_8_putBytes ∈ lw_gd := z_s (q := (y_8_putBytes, _)) (List.mem_of_getElem? (i := 0) rfl)
theorem fw_8_20 : z_FW zR8 20 8 2 (2, 4, fun _ => 0) := ⟨_, _, rfl, rfl, rfl, by decide, z_m2 (List.mem_of_getElem? (i := 62) rfl) rfl⟩
theorem mw_4_readTape : z_MW y_4_readTape M_4_readTape 2 := ⟨z_m1 (List.mem_of_getElem? (i := 2) rfl) rfl, z_m2 (List.mem_of_getElem? (i := 125) rfl) rfl, by decide, by decide, by decide +kernel⟩
theorem fit_33_5_34 : z_fit (z_rm 34) 0 0 33 5 := ⟨by decide, by decide, by decide, by decide⟩
theorem ml_8_90 : Cond.methodLink zR8 90 y_4_readTape ∈ lw_gd := z_m2 (List.mem_of_getElem? (i := 122) rfl) rfl
theorem im_4_readTape : Cond.instanceMethod y_4_readTape ∈ lw_gd := z_m2 (List.mem_of_getElem? (i := 123) rfl) rfl
theorem se_4_readTape : Cond.selects y_4_readTape.cls y_4_readTape y_4_readTape ∈ lw_gd := z_m2 (List.mem_of_getElem? (i := 124) rfl) rfl
theorem fw_8_27 : z_FW zR8 27 8 3 (3, 6, fun i => i) := ⟨_, _, rfl, rfl, rfl, by decide, z_m2 (List.mem_of_getElem? (i := 63) rfl) rfl⟩
theorem mw_4_exchange : z_MW y_4_exchange M_4_exchange 1 := ⟨z_m1 (List.mem_of_getElem? (i := 2) rfl) rfl, z_m3 (List.mem_of_getElem? (i := 136) rfl) rfl, by decide, by decide, by decide +kernel⟩
theorem fit_1_3_34 : z_fit (z_rm 34) 0 0 1 3 := ⟨by decide, by decide, by decide, by decide⟩
theorem ml_8_94 : Cond.methodLink zR8 94 y_4_exchange ∈ lw_gd := z_m3 (List.mem_of_getElem? (i := 133) rfl) rfl
theorem im_4_exchange : Cond.instanceMethod y_4_exchange ∈ lw_gd := z_m3 (List.mem_of_getElem? (i := 134) rfl) rfl
theorem se_4_exchange : Cond.selects y_4_exchange.cls y_4_exchange y_4_exchange ∈ lw_gd := z_m3 (List.mem_of_getElem? (i := 135) rfl) rfl
theorem pw_8_3 : z_PW 8 3 (.object "AbsentLords$Text") := fun _ _ h1 h2 => by
  cases h1
  cases h2
  exact ⟨rfl, by decide +kernel⟩
theorem fw_8_34 : z_FW zR8 34 8 4 (2, 5, fun _ => 0) := ⟨_, _, rfl, rfl, rfl, by decide, z_m2 (List.mem_of_getElem? (i := 64) rfl) rfl⟩
theorem mw_5_begin : z_MW y_5_begin M_5_begin 1 := ⟨z_m1 (List.mem_of_getElem? (i := 5) rfl) rfl, z_m3 (List.mem_of_getElem? (i := 140) rfl) rfl, by decide, by decide, by decide +kernel⟩
theorem fit_2_3_34 : z_fit (z_rm 34) 0 0 2 3 := ⟨by decide, by decide, by decide, by decide⟩
theorem ml_8_98 : Cond.methodLink zR8 98 y_5_begin ∈ lw_gd := z_m3 (List.mem_of_getElem? (i := 137) rfl) rfl
theorem im_5_begin : Cond.instanceMethod y_5_begin ∈ lw_gd := z_m3 (List.mem_of_getElem? (i := 138) rfl) rfl
theorem se_5_begin : Cond.selects y_5_begin.cls y_5_begin y_5_begin ∈ lw_gd := z_m3 (List.mem_of_getElem? (i := 139) rfl) rfl
theorem fw_8_54 : z_FW zR8 54 8 9 (2, 3, fun _ => 0) := ⟨_, _, rfl, rfl, rfl, by decide, z_m2 (List.mem_of_getElem? (i := 69) rfl) rfl⟩
theorem mw_3_clear : z_MW y_3_clear M_3_clear 0 := ⟨z_m1 (List.mem_of_getElem? (i := 6) rfl) rfl, z_m3 (List.mem_of_getElem? (i := 151) rfl) rfl, by decide, by decide, by decide +kernel⟩
theorem fit_1_1_34 : z_fit (z_rm 34) 0 0 1 1 := ⟨by decide, by decide, by decide, by decide⟩
theorem ml_8_102 : Cond.methodLink zR8 102 y_3_clear ∈ lw_gd := z_m3 (List.mem_of_getElem? (i := 148) rfl) rfl
theorem im_3_clear : Cond.instanceMethod y_3_clear ∈ lw_gd := z_m3 (List.mem_of_getElem? (i := 149) rfl) rfl
theorem se_3_clear : Cond.selects y_3_clear.cls y_3_clear y_3_clear ∈ lw_gd := z_m3 (List.mem_of_getElem? (i := 150) rfl) rfl
theorem fw_8_82 : z_FW zR8 82 8 14 (2, 2, fun _ => 0) := ⟨_, _, rfl, rfl, rfl, by decide, z_m2 (List.mem_of_getElem? (i := 74) rfl) rfl⟩
theorem mw_2_clear : z_MW y_2_clear M_2_clear 0 := ⟨z_m1 (List.mem_of_getElem? (i := 9) rfl) rfl, z_m3 (List.mem_of_getElem? (i := 155) rfl) rfl, by decide, by decide, by decide +kernel⟩
theorem ml_8_105 : Cond.methodLink zR8 105 y_2_clear ∈ lw_gd := z_m3 (List.mem_of_getElem? (i := 152) rfl) rfl
theorem im_2_clear : Cond.instanceMethod y_2_clear ∈ lw_gd := z_m3 (List.mem_of_getElem? (i := 153) rfl) rfl
theorem se_2_clear : Cond.selects y_2_clear.cls y_2_clear y_2_clear ∈ lw_gd := z_m3 (List.mem_of_getElem? (i := 154) rfl) rfl
theorem fw_8_62 : z_FW zR8 62 8 11 (0, 0, fun i => i) := ⟨_, _, rfl, rfl, rfl, by decide, z_m2 (List.mem_of_getElem? (i := 71) rfl) rfl⟩
theorem pw_8_11 : z_PW 8 11 (.int) := fun _ _ h1 h2 => by
  cases h1
  cases h2
  exact ⟨rfl, by decide +kernel⟩
theorem fw_8_106 : z_FW zR8 106 4 8 (0, 0, fun i => i) := ⟨_, _, rfl, rfl, rfl, by decide, z_m1 (List.mem_of_getElem? (i := 143) rfl) rfl⟩
theorem fw_8_156 : z_FW zR8 156 6 0 (0, 0, fun i => i) := ⟨_, _, rfl, rfl, rfl, by decide, z_m1 (List.mem_of_getElem? (i := 82) rfl) rfl⟩
theorem mw_8_isHouse : z_MW y_8_isHouse M_8_isHouse 1 := ⟨z_m1 (List.mem_of_getElem? (i := 1) rfl) rfl, z_m3 (List.mem_of_getElem? (i := 167) rfl) rfl, by decide, by decide, by decide +kernel⟩
theorem ml_8_109 : Cond.methodLink zR8 109 y_8_isHouse ∈ lw_gd := z_m3 (List.mem_of_getElem? (i := 164) rfl) rfl
theorem im_8_isHouse : Cond.instanceMethod y_8_isHouse ∈ lw_gd := z_m3 (List.mem_of_getElem? (i := 166) rfl) rfl
theorem se_8_isHouse : Cond.selects y_8_isHouse.cls y_8_isHouse y_8_isHouse ∈ lw_gd := z_s (q := (y_8_isHouse, _)) (List.mem_of_getElem? (i := 29) rfl)
theorem fw_8_113 : z_FW zR8 113 6 3 (2, 26, fun i => 2 * i) := ⟨_, _, rfl, rfl, rfl, by decide, z_m1 (List.mem_of_getElem? (i := 95) rfl) rfl⟩
theorem fit_3_2_5 : z_fit (z_rm 5) 0 0 3 2 := ⟨by decide, by decide, by decide, by decide⟩
theorem ml_8_116 : Cond.methodLink zR8 116 y_5_landlordOf ∈ lw_gd := z_m3 (List.mem_of_getElem? (i := 168) rfl) rfl
theorem fw_8_120 : z_FW zR8 120 5 6 (2, 25, fun i => i) := ⟨_, _, rfl, rfl, rfl, by decide, z_m1 (List.mem_of_getElem? (i := 201) rfl) rfl⟩
theorem fw_8_68 : z_FW zR8 68 8 12 (2, 1, fun _ => 0) := ⟨_, _, rfl, rfl, rfl, by decide, z_m2 (List.mem_of_getElem? (i := 72) rfl) rfl⟩
theorem ml_8_123 : Cond.methodLink zR8 123 y_1_look ∈ lw_gd := z_m3 (List.mem_of_getElem? (i := 177) rfl) rfl
theorem ml_8_127 : Cond.methodLink zR8 127 y_1_rentsOf ∈ lw_gd := z_m3 (List.mem_of_getElem? (i := 182) rfl) rfl
theorem fw_8_224 : z_FW zR8 224 6 1 (0, 0, fun i => i) := ⟨_, _, rfl, rfl, rfl, by decide, z_m1 (List.mem_of_getElem? (i := 88) rfl) rfl⟩
theorem ml_8_159 : Cond.methodLink zR8 159 y_8_has ∈ lw_gd := z_m3 (List.mem_of_getElem? (i := 225) rfl) rfl
theorem ml_8_163 : Cond.methodLink zR8 163 y_1_chanceOf ∈ lw_gd := z_m3 (List.mem_of_getElem? (i := 234) rfl) rfl
theorem mw_8_isPerson : z_MW y_8_isPerson M_8_isPerson 1 := ⟨z_m1 (List.mem_of_getElem? (i := 1) rfl) rfl, z_m3 (List.mem_of_getElem? (i := 216) rfl) rfl, by decide, by decide, by decide +kernel⟩
theorem fit_1_2_6 : z_fit (z_rm 6) 0 0 1 2 := ⟨by decide, by decide, by decide, by decide⟩
theorem ml_8_131 : Cond.methodLink zR8 131 y_8_isPerson ∈ lw_gd := z_m3 (List.mem_of_getElem? (i := 213) rfl) rfl
theorem im_8_isPerson : Cond.instanceMethod y_8_isPerson ∈ lw_gd := z_m3 (List.mem_of_getElem? (i := 215) rfl) rfl
theorem se_8_isPerson : Cond.selects y_8_isPerson.cls y_8_isPerson y_8_isPerson ∈ lw_gd := z_s (q := (y_8_isPerson, _)) (List.mem_of_getElem? (i := 33) rfl)
theorem fw_8_134 : z_FW zR8 134 5 5 (2, 24, fun i => i) := ⟨_, _, rfl, rfl, rfl, by decide, z_m1 (List.mem_of_getElem? (i := 197) rfl) rfl⟩
theorem mw_5_standingOf : z_MW y_5_standingOf M_5_standingOf 1 := ⟨z_m1 (List.mem_of_getElem? (i := 5) rfl) rfl, z_m3 (List.mem_of_getElem? (i := 220) rfl) rfl, by decide, by decide, by decide +kernel⟩
theorem fit_2_2_6 : z_fit (z_rm 6) 0 0 2 2 := ⟨by decide, by decide, by decide, by decide⟩
theorem ml_8_137 : Cond.methodLink zR8 137 y_5_standingOf ∈ lw_gd := z_m3 (List.mem_of_getElem? (i := 217) rfl) rfl
theorem im_5_standingOf : Cond.instanceMethod y_5_standingOf ∈ lw_gd := z_m3 (List.mem_of_getElem? (i := 218) rfl) rfl
theorem se_5_standingOf : Cond.selects y_5_standingOf.cls y_5_standingOf y_5_standingOf ∈ lw_gd := z_m3 (List.mem_of_getElem? (i := 219) rfl) rfl
theorem fw_8_140 : z_FW zR8 140 5 3 (2, 22, fun i => i) := ⟨_, _, rfl, rfl, rfl, by decide, z_m1 (List.mem_of_getElem? (i := 190) rfl) rfl⟩
theorem fw_8_143 : z_FW zR8 143 5 4 (2, 23, fun i => i) := ⟨_, _, rfl, rfl, rfl, by decide, z_m1 (List.mem_of_getElem? (i := 195) rfl) rfl⟩
theorem mw_8_rightsOf : z_MW y_8_rightsOf M_8_rightsOf 1 := ⟨z_m1 (List.mem_of_getElem? (i := 1) rfl) rfl, z_m3 (List.mem_of_getElem? (i := 224) rfl) rfl, by decide, by decide, by decide +kernel⟩
theorem fit_2_4_6 : z_fit (z_rm 6) 0 0 2 4 := ⟨by decide, by decide, by decide, by decide⟩
theorem ml_8_146 : Cond.methodLink zR8 146 y_8_rightsOf ∈ lw_gd := z_m3 (List.mem_of_getElem? (i := 221) rfl) rfl
theorem im_8_rightsOf : Cond.instanceMethod y_8_rightsOf ∈ lw_gd := z_m3 (List.mem_of_getElem? (i := 223) rfl) rfl
theorem se_8_rightsOf : Cond.selects y_8_rightsOf.cls y_8_rightsOf y_8_rightsOf ∈ lw_gd := z_s (q := (y_8_rightsOf, _)) (List.mem_of_getElem? (i := 34) rfl)
theorem mw_8_ownHouses : z_MW y_8_ownHouses M_8_ownHouses 1 := ⟨z_m1 (List.mem_of_getElem? (i := 1) rfl) rfl, z_m3 (List.mem_of_getElem? (i := 229) rfl) rfl, by decide, by decide, by decide +kernel⟩
theorem fit_4_4_6 : z_fit (z_rm 6) 0 0 4 4 := ⟨by decide, by decide, by decide, by decide⟩
theorem ml_8_149 : Cond.methodLink zR8 149 y_8_ownHouses ∈ lw_gd := z_m3 (List.mem_of_getElem? (i := 226) rfl) rfl
theorem im_8_ownHouses : Cond.instanceMethod y_8_ownHouses ∈ lw_gd := z_m3 (List.mem_of_getElem? (i := 228) rfl) rfl
theorem se_8_ownHouses : Cond.selects y_8_ownHouses.cls y_8_ownHouses y_8_ownHouses ∈ lw_gd := z_s (q := (y_8_ownHouses, _)) (List.mem_of_getElem? (i := 35) rfl)
theorem mw_8_chanceNow : z_MW y_8_chanceNow M_8_chanceNow 2 := ⟨z_m1 (List.mem_of_getElem? (i := 1) rfl) rfl, z_m3 (List.mem_of_getElem? (i := 233) rfl) rfl, by decide, by decide, by decide +kernel⟩
theorem fit_5_3_6 : z_fit (z_rm 6) 0 0 5 3 := ⟨by decide, by decide, by decide, by decide⟩
theorem ml_8_152 : Cond.methodLink zR8 152 y_8_chanceNow ∈ lw_gd := z_m3 (List.mem_of_getElem? (i := 230) rfl) rfl
theorem im_8_chanceNow : Cond.instanceMethod y_8_chanceNow ∈ lw_gd := z_m3 (List.mem_of_getElem? (i := 232) rfl) rfl
theorem se_8_chanceNow : Cond.selects y_8_chanceNow.cls y_8_chanceNow y_8_chanceNow ∈ lw_gd := z_s (q := (y_8_chanceNow, _)) (List.mem_of_getElem? (i := 36) rfl)
theorem fw_8_167 : z_FW zR8 167 5 1 (0, 0, fun i => i) := ⟨_, _, rfl, rfl, rfl, by decide, z_m1 (List.mem_of_getElem? (i := 184) rfl) rfl⟩
theorem mw_3_keep : z_MW y_3_keep M_3_keep 1 := ⟨z_m1 (List.mem_of_getElem? (i := 6) rfl) rfl, z_m4 (List.mem_of_getElem? (i := 5) rfl) rfl, by decide, by decide, by decide +kernel⟩
theorem ml_8_170 : Cond.methodLink zR8 170 y_3_keep ∈ lw_gd := z_m4 (List.mem_of_getElem? (i := 2) rfl) rfl
theorem im_3_keep : Cond.instanceMethod y_3_keep ∈ lw_gd := z_m4 (List.mem_of_getElem? (i := 3) rfl) rfl
theorem se_3_keep : Cond.selects y_3_keep.cls y_3_keep y_3_keep ∈ lw_gd := z_m4 (List.mem_of_getElem? (i := 4) rfl) rfl
theorem ml_8_174 : Cond.methodLink zR8 174 y_5_goAway ∈ lw_gd := z_m4 (List.mem_of_getElem? (i := 14) rfl) rfl
theorem fw_8_177 : z_FW zR8 177 5 2 (0, 0, fun i => i) := ⟨_, _, rfl, rfl, rfl, by decide, z_m1 (List.mem_of_getElem? (i := 187) rfl) rfl⟩
theorem ml_8_180 : Cond.methodLink zR8 180 y_5_comeHome ∈ lw_gd := z_m4 (List.mem_of_getElem? (i := 19) rfl) rfl
theorem ml_8_183 : Cond.methodLink zR8 183 y_5_alive ∈ lw_gd := z_m4 (List.mem_of_getElem? (i := 27) rfl) rfl
theorem ml_8_187 : Cond.methodLink zR8 187 y_5_die ∈ lw_gd := z_m4 (List.mem_of_getElem? (i := 31) rfl) rfl
theorem mw_8_areYears : z_MW y_8_areYears M_8_areYears 2 := ⟨z_m1 (List.mem_of_getElem? (i := 1) rfl) rfl, z_m4 (List.mem_of_getElem? (i := 45) rfl) rfl, by decide, by decide, by decide +kernel⟩
theorem fit_1_2_7 : z_fit (z_rm 7) 0 0 1 2 := ⟨by decide, by decide, by decide, by decide⟩
theorem ml_8_190 : Cond.methodLink zR8 190 y_8_areYears ∈ lw_gd := z_m4 (List.mem_of_getElem? (i := 43) rfl) rfl
theorem is_8_areYears : Cond.static y_8_areYears ∈ lw_gd := z_m4 (List.mem_of_getElem? (i := 44) rfl) rfl
theorem fit_2_2_7 : z_fit (z_rm 7) 0 0 2 2 := ⟨by decide, by decide, by decide, by decide⟩
theorem fw_8_75 : z_FW zR8 75 8 13 (2, 0, fun _ => 0) := ⟨_, _, rfl, rfl, rfl, by decide, z_m2 (List.mem_of_getElem? (i := 73) rfl) rfl⟩
theorem fw_8_193 : z_FW zR8 193 6 2 (0, 0, fun i => i) := ⟨_, _, rfl, rfl, rfl, by decide, z_m1 (List.mem_of_getElem? (i := 91) rfl) rfl⟩
theorem mw_0_goOn : z_MW y_0_goOn M_0_goOn 4 := ⟨z_m1 (List.mem_of_getElem? (i := 8) rfl) rfl, z_m4 (List.mem_of_getElem? (i := 49) rfl) rfl, by decide, by decide, by decide +kernel⟩
theorem fit_6_9_7 : z_fit (z_rm 7) 0 0 6 9 := ⟨by decide, by decide, by decide, by decide⟩
theorem ml_8_196 : Cond.methodLink zR8 196 y_0_goOn ∈ lw_gd := z_m4 (List.mem_of_getElem? (i := 46) rfl) rfl
theorem im_0_goOn : Cond.instanceMethod y_0_goOn ∈ lw_gd := z_m4 (List.mem_of_getElem? (i := 47) rfl) rfl
theorem se_0_goOn : Cond.selects y_0_goOn.cls y_0_goOn y_0_goOn ∈ lw_gd := z_m4 (List.mem_of_getElem? (i := 48) rfl) rfl
theorem fw_8_200 : z_FW zR8 200 5 0 (0, 0, fun i => i) := ⟨_, _, rfl, rfl, rfl, by decide, z_m1 (List.mem_of_getElem? (i := 180) rfl) rfl⟩
theorem mw_3_takeBack : z_MW y_3_takeBack M_3_takeBack 1 := ⟨z_m1 (List.mem_of_getElem? (i := 6) rfl) rfl, z_m4 (List.mem_of_getElem? (i := 90) rfl) rfl, by decide, by decide, by decide +kernel⟩
theorem ml_8_203 : Cond.methodLink zR8 203 y_3_takeBack ∈ lw_gd := z_m4 (List.mem_of_getElem? (i := 87) rfl) rfl
theorem im_3_takeBack : Cond.instanceMethod y_3_takeBack ∈ lw_gd := z_m4 (List.mem_of_getElem? (i := 88) rfl) rfl
theorem se_3_takeBack : Cond.selects y_3_takeBack.cls y_3_takeBack y_3_takeBack ∈ lw_gd := z_m4 (List.mem_of_getElem? (i := 89) rfl) rfl
theorem mw_5_heirOf : z_MW y_5_heirOf M_5_heirOf 1 := ⟨z_m1 (List.mem_of_getElem? (i := 5) rfl) rfl, z_m4 (List.mem_of_getElem? (i := 98) rfl) rfl, by decide, by decide, by decide +kernel⟩
theorem fit_4_3_5 : z_fit (z_rm 5) 0 0 4 3 := ⟨by decide, by decide, by decide, by decide⟩
theorem ml_8_207 : Cond.methodLink zR8 207 y_5_heirOf ∈ lw_gd := z_m4 (List.mem_of_getElem? (i := 95) rfl) rfl
theorem im_5_heirOf : Cond.instanceMethod y_5_heirOf ∈ lw_gd := z_m4 (List.mem_of_getElem? (i := 96) rfl) rfl
theorem se_5_heirOf : Cond.selects y_5_heirOf.cls y_5_heirOf y_5_heirOf ∈ lw_gd := z_m4 (List.mem_of_getElem? (i := 97) rfl) rfl
theorem fw_8_38 : z_FW zR8 38 8 5 (2, 5, fun _ => 1) := ⟨_, _, rfl, rfl, rfl, by decide, z_m2 (List.mem_of_getElem? (i := 65) rfl) rfl⟩
theorem mw_0_standStill : z_MW y_0_standStill M_0_standStill 3 := ⟨z_m1 (List.mem_of_getElem? (i := 8) rfl) rfl, z_m4 (List.mem_of_getElem? (i := 116) rfl) rfl, by decide, by decide, by decide +kernel⟩
theorem fit_6_5_7 : z_fit (z_rm 7) 0 0 6 5 := ⟨by decide, by decide, by decide, by decide⟩
theorem ml_8_216 : Cond.methodLink zR8 216 y_0_standStill ∈ lw_gd := z_m4 (List.mem_of_getElem? (i := 113) rfl) rfl
theorem im_0_standStill : Cond.instanceMethod y_0_standStill ∈ lw_gd := z_m4 (List.mem_of_getElem? (i := 114) rfl) rfl
theorem se_0_standStill : Cond.selects y_0_standStill.cls y_0_standStill y_0_standStill ∈ lw_gd := z_m4 (List.mem_of_getElem? (i := 115) rfl) rfl
theorem fit_1_2_8 : z_fit (z_rm 8) 0 0 1 2 := ⟨by decide, by decide, by decide, by decide⟩
theorem ml_8_210 : Cond.methodLink zR8 210 y_5_copyFrom ∈ lw_gd := z_m4 (List.mem_of_getElem? (i := 108) rfl) rfl
theorem mw_8_gainOnTrial : z_MW y_8_gainOnTrial M_8_gainOnTrial 2 := ⟨z_m1 (List.mem_of_getElem? (i := 1) rfl) rfl, z_m4 (List.mem_of_getElem? (i := 112) rfl) rfl, by decide, by decide, by decide +kernel⟩
theorem fit_7_3_8 : z_fit (z_rm 8) 0 0 7 3 := ⟨by decide, by decide, by decide, by decide⟩
theorem ml_8_213 : Cond.methodLink zR8 213 y_8_gainOnTrial ∈ lw_gd := z_m4 (List.mem_of_getElem? (i := 109) rfl) rfl
theorem im_8_gainOnTrial : Cond.instanceMethod y_8_gainOnTrial ∈ lw_gd := z_m4 (List.mem_of_getElem? (i := 111) rfl) rfl
theorem se_8_gainOnTrial : Cond.selects y_8_gainOnTrial.cls y_8_gainOnTrial y_8_gainOnTrial ∈ lw_gd := z_s (q := (y_8_gainOnTrial, _)) (List.mem_of_getElem? (i := 40) rfl)
theorem fw_8_41 : z_FW zR8 41 8 6 (2, 5, fun _ => 2) := ⟨_, _, rfl, rfl, rfl, by decide, z_m2 (List.mem_of_getElem? (i := 66) rfl) rfl⟩
theorem fit_6_5_8 : z_fit (z_rm 8) 0 0 6 5 := ⟨by decide, by decide, by decide, by decide⟩
theorem kc_8_220 : Cond.constant zR8 220 (-100000 : Int32) ∈ lw_gd := z_m4 (List.mem_of_getElem? (i := 125) rfl) rfl
theorem mw_8_gainOfOthers : z_MW y_8_gainOfOthers M_8_gainOfOthers 2 := ⟨z_m1 (List.mem_of_getElem? (i := 1) rfl) rfl, z_m4 (List.mem_of_getElem? (i := 129) rfl) rfl, by decide, by decide, by decide +kernel⟩
theorem ml_8_221 : Cond.methodLink zR8 221 y_8_gainOfOthers ∈ lw_gd := z_m4 (List.mem_of_getElem? (i := 126) rfl) rfl
theorem im_8_gainOfOthers : Cond.instanceMethod y_8_gainOfOthers ∈ lw_gd := z_m4 (List.mem_of_getElem? (i := 128) rfl) rfl
theorem se_8_gainOfOthers : Cond.selects y_8_gainOfOthers.cls y_8_gainOfOthers y_8_gainOfOthers ∈ lw_gd := z_s (q := (y_8_gainOfOthers, _)) (List.mem_of_getElem? (i := 41) rfl)
theorem fw_8_44 : z_FW zR8 44 8 7 (2, 35, fun i => i) := ⟨_, _, rfl, rfl, rfl, by decide, z_m2 (List.mem_of_getElem? (i := 67) rfl) rfl⟩
theorem sa_35 : z_SA 35 0 := ⟨rfl, rfl, by decide⟩
theorem fw_8_48 : z_FW zR8 48 8 8 (2, 36, fun i => i) := ⟨_, _, rfl, rfl, rfl, by decide, z_m2 (List.mem_of_getElem? (i := 68) rfl) rfl⟩
theorem sa_36 : z_SA 36 0 := ⟨rfl, rfl, by decide⟩
theorem mw_8_canDuel : z_MW y_8_canDuel M_8_canDuel 3 := ⟨z_m1 (List.mem_of_getElem? (i := 1) rfl) rfl, z_m4 (List.mem_of_getElem? (i := 137) rfl) rfl, by decide, by decide, by decide +kernel⟩
theorem fit_2_4_8 : z_fit (z_rm 8) 0 0 2 4 := ⟨by decide, by decide, by decide, by decide⟩
theorem ml_8_227 : Cond.methodLink zR8 227 y_8_canDuel ∈ lw_gd := z_m4 (List.mem_of_getElem? (i := 134) rfl) rfl
theorem im_8_canDuel : Cond.instanceMethod y_8_canDuel ∈ lw_gd := z_m4 (List.mem_of_getElem? (i := 136) rfl) rfl
theorem se_8_canDuel : Cond.selects y_8_canDuel.cls y_8_canDuel y_8_canDuel ∈ lw_gd := z_s (q := (y_8_canDuel, _)) (List.mem_of_getElem? (i := 42) rfl)
theorem mw_8_playDuel : z_MW y_8_playDuel M_8_playDuel 4 := ⟨z_m1 (List.mem_of_getElem? (i := 1) rfl) rfl, z_m4 (List.mem_of_getElem? (i := 141) rfl) rfl, by decide, by decide, by decide +kernel⟩
theorem ml_8_231 : Cond.methodLink zR8 231 y_8_playDuel ∈ lw_gd := z_m4 (List.mem_of_getElem? (i := 138) rfl) rfl
theorem im_8_playDuel : Cond.instanceMethod y_8_playDuel ∈ lw_gd := z_m4 (List.mem_of_getElem? (i := 140) rfl) rfl
theorem se_8_playDuel : Cond.selects y_8_playDuel.cls y_8_playDuel y_8_playDuel ∈ lw_gd := z_s (q := (y_8_playDuel, _)) (List.mem_of_getElem? (i := 43) rfl)
theorem ml_8_241 : Cond.methodLink zR8 241 y_j6_bitCount_0f7a4 ∈ lw_gd := z_m4 (List.mem_of_getElem? (i := 154) rfl) rfl
theorem mw_8_serveAll : z_MW y_8_serveAll M_8_serveAll 1 := ⟨z_m1 (List.mem_of_getElem? (i := 1) rfl) rfl, z_m4 (List.mem_of_getElem? (i := 158) rfl) rfl, by decide, by decide, by decide +kernel⟩
theorem ml_8_246 : Cond.methodLink zR8 246 y_8_serveAll ∈ lw_gd := z_m4 (List.mem_of_getElem? (i := 155) rfl) rfl
theorem im_8_serveAll : Cond.instanceMethod y_8_serveAll ∈ lw_gd := z_m4 (List.mem_of_getElem? (i := 157) rfl) rfl
theorem se_8_serveAll : Cond.selects y_8_serveAll.cls y_8_serveAll y_8_serveAll ∈ lw_gd := z_s (q := (y_8_serveAll, _)) (List.mem_of_getElem? (i := 45) rfl)
theorem mw_8_fewestFor : z_MW y_8_fewestFor M_8_fewestFor 2 := ⟨z_m1 (List.mem_of_getElem? (i := 1) rfl) rfl, z_m4 (List.mem_of_getElem? (i := 153) rfl) rfl, by decide, by decide, by decide +kernel⟩
theorem fit_3_6_4 : z_fit (z_rm 4) 0 0 3 6 := ⟨by decide, by decide, by decide, by decide⟩
theorem ml_8_235 : Cond.methodLink zR8 235 y_8_fewestFor ∈ lw_gd := z_m4 (List.mem_of_getElem? (i := 150) rfl) rfl
theorem im_8_fewestFor : Cond.instanceMethod y_8_fewestFor ∈ lw_gd := z_m4 (List.mem_of_getElem? (i := 152) rfl) rfl
theorem se_8_fewestFor : Cond.selects y_8_fewestFor.cls y_8_fewestFor y_8_fewestFor ∈ lw_gd := z_s (q := (y_8_fewestFor, _)) (List.mem_of_getElem? (i := 44) rfl)
theorem mw_8_manyOrWho : z_MW y_8_manyOrWho M_8_manyOrWho 2 := ⟨z_m1 (List.mem_of_getElem? (i := 1) rfl) rfl, z_m4 (List.mem_of_getElem? (i := 161) rfl) rfl, by decide, by decide, by decide +kernel⟩
theorem fit_2_2_4 : z_fit (z_rm 4) 0 0 2 2 := ⟨by decide, by decide, by decide, by decide⟩
theorem ml_8_238 : Cond.methodLink zR8 238 y_8_manyOrWho ∈ lw_gd := z_m4 (List.mem_of_getElem? (i := 159) rfl) rfl
theorem is_8_manyOrWho : Cond.static y_8_manyOrWho ∈ lw_gd := z_m4 (List.mem_of_getElem? (i := 160) rfl) rfl
theorem mw_8_suitedTo : z_MW y_8_suitedTo M_8_suitedTo 1 := ⟨z_m1 (List.mem_of_getElem? (i := 1) rfl) rfl, z_m4 (List.mem_of_getElem? (i := 185) rfl) rfl, by decide, by decide, by decide +kernel⟩
theorem ml_8_255 : Cond.methodLink zR8 255 y_8_suitedTo ∈ lw_gd := z_m4 (List.mem_of_getElem? (i := 182) rfl) rfl
theorem im_8_suitedTo : Cond.instanceMethod y_8_suitedTo ∈ lw_gd := z_m4 (List.mem_of_getElem? (i := 184) rfl) rfl
theorem se_8_suitedTo : Cond.selects y_8_suitedTo.cls y_8_suitedTo y_8_suitedTo ∈ lw_gd := z_s (q := (y_8_suitedTo, _)) (List.mem_of_getElem? (i := 47) rfl)
theorem ml_8_258 : Cond.methodLink zR8 258 y_j9_max_7cf53 ∈ lw_gd := z_m4 (List.mem_of_getElem? (i := 186) rfl) rfl
theorem mw_8_mostLords : z_MW y_8_mostLords M_8_mostLords 2 := ⟨z_m1 (List.mem_of_getElem? (i := 1) rfl) rfl, z_m4 (List.mem_of_getElem? (i := 181) rfl) rfl, by decide, by decide, by decide +kernel⟩
theorem ml_8_249 : Cond.methodLink zR8 249 y_8_mostLords ∈ lw_gd := z_m4 (List.mem_of_getElem? (i := 178) rfl) rfl
theorem im_8_mostLords : Cond.instanceMethod y_8_mostLords ∈ lw_gd := z_m4 (List.mem_of_getElem? (i := 180) rfl) rfl
theorem se_8_mostLords : Cond.selects y_8_mostLords.cls y_8_mostLords y_8_mostLords ∈ lw_gd := z_s (q := (y_8_mostLords, _)) (List.mem_of_getElem? (i := 46) rfl)
theorem fit_3_5_5 : z_fit (z_rm 5) 0 0 3 5 := ⟨by decide, by decide, by decide, by decide⟩
theorem mw_8_lordGiven : z_MW y_8_lordGiven M_8_lordGiven 2 := ⟨z_m1 (List.mem_of_getElem? (i := 1) rfl) rfl, z_m4 (List.mem_of_getElem? (i := 190) rfl) rfl, by decide, by decide, by decide +kernel⟩
theorem fit_4_6_5 : z_fit (z_rm 5) 0 0 4 6 := ⟨by decide, by decide, by decide, by decide⟩
theorem ml_8_252 : Cond.methodLink zR8 252 y_8_lordGiven ∈ lw_gd := z_m4 (List.mem_of_getElem? (i := 187) rfl) rfl
theorem im_8_lordGiven : Cond.instanceMethod y_8_lordGiven ∈ lw_gd := z_m4 (List.mem_of_getElem? (i := 189) rfl) rfl
theorem se_8_lordGiven : Cond.selects y_8_lordGiven.cls y_8_lordGiven y_8_lordGiven ∈ lw_gd := z_s (q := (y_8_lordGiven, _)) (List.mem_of_getElem? (i := 48) rfl)
theorem d_5_standingOf_0 : zD prog_7_method_8_code 0 (.aload_n 0) 1 1 := ⟨by decide +kernel, rfl⟩
theorem d_5_standingOf_1 : zD prog_7_method_8_code 1 (.getfield 15) 3 4 := ⟨by decide +kernel, rfl⟩
theorem d_5_standingOf_4 : zD prog_7_method_8_code 4 (.iload_n 1) 1 5 := ⟨by decide +kernel, rfl⟩
theorem d_5_standingOf_5 : zD prog_7_method_8_code 5 (.invokestatic 58) 3 8 := ⟨by decide +kernel, rfl⟩
theorem d_5_standingOf_8 : zD prog_7_method_8_code 8 (.ifCond .eq 5) 3 11 := ⟨by decide +kernel, rfl⟩
theorem d_5_standingOf_11 : zD prog_7_method_8_code 11 (.iconst 0) 1 12 := ⟨by decide +kernel, rfl⟩
theorem d_5_standingOf_12 : zD prog_7_method_8_code 12 (.ireturn) 1 13 := ⟨by decide +kernel, rfl⟩
theorem d_5_standingOf_13 : zD prog_7_method_8_code 13 (.aload_n 0) 1 14 := ⟨by decide +kernel, rfl⟩
theorem d_5_standingOf_14 : zD prog_7_method_8_code 14 (.getfield 18) 3 17 := ⟨by decide +kernel, rfl⟩
theorem d_5_standingOf_17 : zD prog_7_method_8_code 17 (.iload_n 1) 1 18 := ⟨by decide +kernel, rfl⟩
theorem d_5_standingOf_18 : zD prog_7_method_8_code 18 (.invokestatic 58) 3 21 := ⟨by decide +kernel, rfl⟩
theorem d_5_standingOf_21 : zD prog_7_method_8_code 21 (.ifCond .eq 7) 3 24 := ⟨by decide +kernel, rfl⟩
theorem d_5_standingOf_24 : zD prog_7_method_8_code 24 (.iconst 1) 1 25 := ⟨by decide +kernel, rfl⟩
theorem d_5_standingOf_25 : zD prog_7_method_8_code 25 (.goto 4) 3 28 := ⟨by decide +kernel, rfl⟩
theorem d_5_standingOf_28 : zD prog_7_method_8_code 28 (.iconst 2) 1 29 := ⟨by decide +kernel, rfl⟩
theorem d_5_standingOf_29 : zD prog_7_method_8_code 29 (.ireturn) 1 30 := ⟨by decide +kernel, rfl⟩
theorem d_5_whoStands_0 : zD prog_7_method_9_code 0 (.iload_n 2) 1 1 := ⟨by decide +kernel, rfl⟩
theorem d_5_whoStands_1 : zD prog_7_method_9_code 1 (.tableswitch 52 0 2 #[27, 32, 37]) 27 28 := ⟨by decide +kernel, rfl⟩
theorem d_5_whoStands_28 : zD prog_7_method_9_code 28 (.aload_n 0) 1 29 := ⟨by decide +kernel, rfl⟩
theorem d_5_whoStands_29 : zD prog_7_method_9_code 29 (.getfield 15) 3 32 := ⟨by decide +kernel, rfl⟩
theorem d_5_whoStands_32 : zD prog_7_method_9_code 32 (.ireturn) 1 33 := ⟨by decide +kernel, rfl⟩
theorem d_5_whoStands_33 : zD prog_7_method_9_code 33 (.aload_n 0) 1 34 := ⟨by decide +kernel, rfl⟩
theorem d_5_whoStands_34 : zD prog_7_method_9_code 34 (.getfield 18) 3 37 := ⟨by decide +kernel, rfl⟩
theorem d_5_whoStands_37 : zD prog_7_method_9_code 37 (.ireturn) 1 38 := ⟨by decide +kernel, rfl⟩
theorem d_5_whoStands_38 : zD prog_7_method_9_code 38 (.aload_n 1) 1 39 := ⟨by decide +kernel, rfl⟩
theorem d_5_whoStands_39 : zD prog_7_method_9_code 39 (.getfield 34) 3 42 := ⟨by decide +kernel, rfl⟩
theorem d_5_whoStands_42 : zD prog_7_method_9_code 42 (.invokestatic 39) 3 45 := ⟨by decide +kernel, rfl⟩
theorem d_5_whoStands_45 : zD prog_7_method_9_code 45 (.aload_n 0) 1 46 := ⟨by decide +kernel, rfl⟩
theorem d_5_whoStands_46 : zD prog_7_method_9_code 46 (.invokevirtual 62) 3 49 := ⟨by decide +kernel, rfl⟩
theorem d_5_whoStands_49 : zD prog_7_method_9_code 49 (.iconst (-1)) 1 50 := ⟨by decide +kernel, rfl⟩
theorem d_5_whoStands_50 : zD prog_7_method_9_code 50 (.ixor) 1 51 := ⟨by decide +kernel, rfl⟩
theorem d_5_whoStands_51 : zD prog_7_method_9_code 51 (.iand) 1 52 := ⟨by decide +kernel, rfl⟩
theorem d_5_whoStands_52 : zD prog_7_method_9_code 52 (.ireturn) 1 53 := ⟨by decide +kernel, rfl⟩
theorem d_5_whoStands_53 : zD prog_7_method_9_code 53 (.iconst (-1)) 1 54 := ⟨by decide +kernel, rfl⟩
theorem d_5_whoStands_54 : zD prog_7_method_9_code 54 (.ireturn) 1 55 := ⟨by decide +kernel, rfl⟩
theorem d_5_heirOf_0 : zD prog_7_method_11_code 0 (.aload_n 0) 1 1 := ⟨by decide +kernel, rfl⟩
theorem d_5_heirOf_1 : zD prog_7_method_11_code 1 (.iload_n 1) 1 2 := ⟨by decide +kernel, rfl⟩
theorem d_5_heirOf_2 : zD prog_7_method_11_code 2 (.invokevirtual 69) 3 5 := ⟨by decide +kernel, rfl⟩
theorem d_5_heirOf_5 : zD prog_7_method_11_code 5 (.istore_n 2) 1 6 := ⟨by decide +kernel, rfl⟩
theorem d_5_heirOf_6 : zD prog_7_method_11_code 6 (.iload_n 2) 1 7 := ⟨by decide +kernel, rfl⟩
theorem d_5_heirOf_7 : zD prog_7_method_11_code 7 (.ifCond .ge 8) 3 10 := ⟨by decide +kernel, rfl⟩
theorem d_5_heirOf_10 : zD prog_7_method_11_code 10 (.bipush (-2)) 2 12 := ⟨by decide +kernel, rfl⟩
theorem d_5_heirOf_12 : zD prog_7_method_11_code 12 (.goto 24) 3 15 := ⟨by decide +kernel, rfl⟩
theorem d_5_heirOf_15 : zD prog_7_method_11_code 15 (.aload_n 0) 1 16 := ⟨by decide +kernel, rfl⟩
theorem d_5_heirOf_16 : zD prog_7_method_11_code 16 (.aload_n 0) 1 17 := ⟨by decide +kernel, rfl⟩
theorem d_5_heirOf_17 : zD prog_7_method_11_code 17 (.getfield 31) 3 20 := ⟨by decide +kernel, rfl⟩
theorem d_5_heirOf_20 : zD prog_7_method_11_code 20 (.iload_n 1) 1 21 := ⟨by decide +kernel, rfl⟩
theorem d_5_heirOf_21 : zD prog_7_method_11_code 21 (.iaload) 1 22 := ⟨by decide +kernel, rfl⟩
theorem d_5_heirOf_22 : zD prog_7_method_11_code 22 (.aload_n 0) 1 23 := ⟨by decide +kernel, rfl⟩
theorem d_5_heirOf_23 : zD prog_7_method_11_code 23 (.getfield 18) 3 26 := ⟨by decide +kernel, rfl⟩
theorem d_5_heirOf_26 : zD prog_7_method_11_code 26 (.iand) 1 27 := ⟨by decide +kernel, rfl⟩
theorem d_5_heirOf_27 : zD prog_7_method_11_code 27 (.iconst 1) 1 28 := ⟨by decide +kernel, rfl⟩
theorem d_5_heirOf_28 : zD prog_7_method_11_code 28 (.iload_n 2) 1 29 := ⟨by decide +kernel, rfl⟩
theorem d_5_heirOf_29 : zD prog_7_method_11_code 29 (.ishl) 1 30 := ⟨by decide +kernel, rfl⟩
theorem d_5_heirOf_30 : zD prog_7_method_11_code 30 (.iconst (-1)) 1 31 := ⟨by decide +kernel, rfl⟩
theorem d_5_heirOf_31 : zD prog_7_method_11_code 31 (.ixor) 1 32 := ⟨by decide +kernel, rfl⟩
theorem d_5_heirOf_32 : zD prog_7_method_11_code 32 (.iand) 1 33 := ⟨by decide +kernel, rfl⟩
theorem d_5_heirOf_33 : zD prog_7_method_11_code 33 (.invokevirtual 66) 3 36 := ⟨by decide +kernel, rfl⟩
theorem d_5_heirOf_36 : zD prog_7_method_11_code 36 (.ireturn) 1 37 := ⟨by decide +kernel, rfl⟩
theorem d_5_allLandlords_0 : zD prog_7_method_13_code 0 (.iconst 0) 1 1 := ⟨by decide +kernel, rfl⟩
theorem d_5_allLandlords_1 : zD prog_7_method_13_code 1 (.istore_n 2) 1 2 := ⟨by decide +kernel, rfl⟩
theorem d_5_allLandlords_2 : zD prog_7_method_13_code 2 (.iconst 0) 1 3 := ⟨by decide +kernel, rfl⟩
theorem d_5_allLandlords_3 : zD prog_7_method_13_code 3 (.istore_n 3) 1 4 := ⟨by decide +kernel, rfl⟩
theorem d_5_allLandlords_4 : zD prog_7_method_13_code 4 (.iload_n 3) 1 5 := ⟨by decide +kernel, rfl⟩
theorem d_5_allLandlords_5 : zD prog_7_method_13_code 5 (.aload_n 1) 1 6 := ⟨by decide +kernel, rfl⟩
theorem d_5_allLandlords_6 : zD prog_7_method_13_code 6 (.getfield 72) 3 9 := ⟨by decide +kernel, rfl⟩
theorem d_5_allLandlords_9 : zD prog_7_method_13_code 9 (.if_icmp .ge 28) 3 12 := ⟨by decide +kernel, rfl⟩
theorem d_5_allLandlords_12 : zD prog_7_method_13_code 12 (.aload_n 0) 1 13 := ⟨by decide +kernel, rfl⟩
theorem d_5_allLandlords_13 : zD prog_7_method_13_code 13 (.iload_n 3) 1 14 := ⟨by decide +kernel, rfl⟩
theorem d_5_allLandlords_14 : zD prog_7_method_13_code 14 (.invokevirtual 69) 3 17 := ⟨by decide +kernel, rfl⟩
theorem d_5_allLandlords_17 : zD prog_7_method_13_code 17 (.istore 4) 2 19 := ⟨by decide +kernel, rfl⟩
theorem d_5_allLandlords_19 : zD prog_7_method_13_code 19 (.iload 4) 2 21 := ⟨by decide +kernel, rfl⟩
theorem d_5_allLandlords_21 : zD prog_7_method_13_code 21 (.ifCond .lt 10) 3 24 := ⟨by decide +kernel, rfl⟩
theorem d_5_allLandlords_24 : zD prog_7_method_13_code 24 (.iload_n 2) 1 25 := ⟨by decide +kernel, rfl⟩
theorem d_5_allLandlords_25 : zD prog_7_method_13_code 25 (.iconst 1) 1 26 := ⟨by decide +kernel, rfl⟩
theorem d_5_allLandlords_26 : zD prog_7_method_13_code 26 (.iload 4) 2 28 := ⟨by decide +kernel, rfl⟩
theorem d_5_allLandlords_28 : zD prog_7_method_13_code 28 (.ishl) 1 29 := ⟨by decide +kernel, rfl⟩
theorem d_5_allLandlords_29 : zD prog_7_method_13_code 29 (.ior) 1 30 := ⟨by decide +kernel, rfl⟩
theorem d_5_allLandlords_30 : zD prog_7_method_13_code 30 (.istore_n 2) 1 31 := ⟨by decide +kernel, rfl⟩
theorem d_5_allLandlords_31 : zD prog_7_method_13_code 31 (.iinc 3 1) 3 34 := ⟨by decide +kernel, rfl⟩
theorem d_5_allLandlords_34 : zD prog_7_method_13_code 34 (.goto (-30)) 3 37 := ⟨by decide +kernel, rfl⟩
theorem d_5_allLandlords_37 : zD prog_7_method_13_code 37 (.iload_n 2) 1 38 := ⟨by decide +kernel, rfl⟩
theorem d_5_allLandlords_38 : zD prog_7_method_13_code 38 (.ireturn) 1 39 := ⟨by decide +kernel, rfl⟩
theorem d_8_putBytes_0 : zD prog_1_method_3_code 0 (.bipush 24) 2 2 := ⟨by decide +kernel, rfl⟩
theorem d_8_putBytes_2 : zD prog_1_method_3_code 2 (.istore_n 2) 1 3 := ⟨by decide +kernel, rfl⟩
theorem d_8_putBytes_3 : zD prog_1_method_3_code 3 (.iload_n 2) 1 4 := ⟨by decide +kernel, rfl⟩
theorem d_8_putBytes_4 : zD prog_1_method_3_code 4 (.ifCond .lt 42) 3 7 := ⟨by decide +kernel, rfl⟩
theorem d_8_putBytes_7 : zD prog_1_method_3_code 7 (.aload_n 0) 1 8 := ⟨by decide +kernel, rfl⟩
theorem d_8_putBytes_8 : zD prog_1_method_3_code 8 (.getfield 13) 3 11 := ⟨by decide +kernel, rfl⟩
theorem d_8_putBytes_11 : zD prog_1_method_3_code 11 (.sipush 2000) 3 14 := ⟨by decide +kernel, rfl⟩
theorem d_8_putBytes_14 : zD prog_1_method_3_code 14 (.if_icmp .ge 32) 3 17 := ⟨by decide +kernel, rfl⟩
theorem d_8_putBytes_17 : zD prog_1_method_3_code 17 (.aload_n 0) 1 18 := ⟨by decide +kernel, rfl⟩
theorem d_8_putBytes_18 : zD prog_1_method_3_code 18 (.getfield 9) 3 21 := ⟨by decide +kernel, rfl⟩
theorem d_8_putBytes_21 : zD prog_1_method_3_code 21 (.aload_n 0) 1 22 := ⟨by decide +kernel, rfl⟩
theorem d_8_putBytes_22 : zD prog_1_method_3_code 22 (.getfield 13) 3 25 := ⟨by decide +kernel, rfl⟩
theorem d_8_putBytes_25 : zD prog_1_method_3_code 25 (.iload_n 1) 1 26 := ⟨by decide +kernel, rfl⟩
theorem d_8_putBytes_26 : zD prog_1_method_3_code 26 (.iload_n 2) 1 27 := ⟨by decide +kernel, rfl⟩
theorem d_8_putBytes_27 : zD prog_1_method_3_code 27 (.iushr) 1 28 := ⟨by decide +kernel, rfl⟩
theorem d_8_putBytes_28 : zD prog_1_method_3_code 28 (.i2b) 1 29 := ⟨by decide +kernel, rfl⟩
theorem d_8_putBytes_29 : zD prog_1_method_3_code 29 (.bastore) 1 30 := ⟨by decide +kernel, rfl⟩
theorem d_8_putBytes_30 : zD prog_1_method_3_code 30 (.aload_n 0) 1 31 := ⟨by decide +kernel, rfl⟩
theorem d_8_putBytes_31 : zD prog_1_method_3_code 31 (.dup) 1 32 := ⟨by decide +kernel, rfl⟩
theorem d_8_putBytes_32 : zD prog_1_method_3_code 32 (.getfield 13) 3 35 := ⟨by decide +kernel, rfl⟩
theorem d_8_putBytes_35 : zD prog_1_method_3_code 35 (.iconst 1) 1 36 := ⟨by decide +kernel, rfl⟩
theorem d_8_putBytes_36 : zD prog_1_method_3_code 36 (.iadd) 1 37 := ⟨by decide +kernel, rfl⟩
theorem d_8_putBytes_37 : zD prog_1_method_3_code 37 (.putfield 13) 3 40 := ⟨by decide +kernel, rfl⟩
theorem d_8_putBytes_40 : zD prog_1_method_3_code 40 (.iinc 2 (-8)) 3 43 := ⟨by decide +kernel, rfl⟩
theorem d_8_putBytes_43 : zD prog_1_method_3_code 43 (.goto (-40)) 3 46 := ⟨by decide +kernel, rfl⟩
theorem d_8_putBytes_46 : zD prog_1_method_3_code 46 (.return_) 1 47 := ⟨by decide +kernel, rfl⟩
theorem d_8_feed_0 : zD prog_1_method_2_code 0 (.aload_n 0) 1 1 := ⟨by decide +kernel, rfl⟩
theorem d_8_feed_1 : zD prog_1_method_2_code 1 (.getfield 13) 3 4 := ⟨by decide +kernel, rfl⟩
theorem d_8_feed_4 : zD prog_1_method_2_code 4 (.bipush 20) 2 6 := ⟨by decide +kernel, rfl⟩
theorem d_8_feed_6 : zD prog_1_method_2_code 6 (.iadd) 1 7 := ⟨by decide +kernel, rfl⟩
theorem d_8_feed_7 : zD prog_1_method_2_code 7 (.sipush 2000) 3 10 := ⟨by decide +kernel, rfl⟩
theorem d_8_feed_10 : zD prog_1_method_2_code 10 (.if_icmp .le 5) 3 13 := ⟨by decide +kernel, rfl⟩
theorem d_8_feed_13 : zD prog_1_method_2_code 13 (.iconst (-1)) 1 14 := ⟨by decide +kernel, rfl⟩
theorem d_8_feed_14 : zD prog_1_method_2_code 14 (.ireturn) 1 15 := ⟨by decide +kernel, rfl⟩
theorem d_8_feed_15 : zD prog_1_method_2_code 15 (.aload_n 0) 1 16 := ⟨by decide +kernel, rfl⟩
theorem d_8_feed_16 : zD prog_1_method_2_code 16 (.iload_n 1) 1 17 := ⟨by decide +kernel, rfl⟩
theorem d_8_feed_17 : zD prog_1_method_2_code 17 (.invokevirtual 86) 3 20 := ⟨by decide +kernel, rfl⟩
theorem d_8_feed_20 : zD prog_1_method_2_code 20 (.aload_n 0) 1 21 := ⟨by decide +kernel, rfl⟩
theorem d_8_feed_21 : zD prog_1_method_2_code 21 (.iload_n 2) 1 22 := ⟨by decide +kernel, rfl⟩
theorem d_8_feed_22 : zD prog_1_method_2_code 22 (.invokevirtual 86) 3 25 := ⟨by decide +kernel, rfl⟩
theorem d_8_feed_25 : zD prog_1_method_2_code 25 (.aload_n 0) 1 26 := ⟨by decide +kernel, rfl⟩
theorem d_8_feed_26 : zD prog_1_method_2_code 26 (.iload_n 3) 1 27 := ⟨by decide +kernel, rfl⟩
theorem d_8_feed_27 : zD prog_1_method_2_code 27 (.invokevirtual 86) 3 30 := ⟨by decide +kernel, rfl⟩
theorem d_8_feed_30 : zD prog_1_method_2_code 30 (.aload_n 0) 1 31 := ⟨by decide +kernel, rfl⟩
theorem d_8_feed_31 : zD prog_1_method_2_code 31 (.iload 4) 2 33 := ⟨by decide +kernel, rfl⟩
theorem d_8_feed_33 : zD prog_1_method_2_code 33 (.invokevirtual 86) 3 36 := ⟨by decide +kernel, rfl⟩
theorem d_8_feed_36 : zD prog_1_method_2_code 36 (.aload_n 0) 1 37 := ⟨by decide +kernel, rfl⟩
theorem d_8_feed_37 : zD prog_1_method_2_code 37 (.iload 5) 2 39 := ⟨by decide +kernel, rfl⟩
theorem d_8_feed_39 : zD prog_1_method_2_code 39 (.invokevirtual 86) 3 42 := ⟨by decide +kernel, rfl⟩
theorem d_8_feed_42 : zD prog_1_method_2_code 42 (.aload_n 0) 1 43 := ⟨by decide +kernel, rfl⟩
theorem d_8_feed_43 : zD prog_1_method_2_code 43 (.getfield 13) 3 46 := ⟨by decide +kernel, rfl⟩
theorem d_8_feed_46 : zD prog_1_method_2_code 46 (.ireturn) 1 47 := ⟨by decide +kernel, rfl⟩
theorem d_8_back_0 : zD prog_1_method_4_code 0 (.iload_n 1) 1 1 := ⟨by decide +kernel, rfl⟩
theorem d_8_back_1 : zD prog_1_method_4_code 1 (.ifCond .lt 11) 3 4 := ⟨by decide +kernel, rfl⟩
theorem d_8_back_4 : zD prog_1_method_4_code 4 (.iload_n 1) 1 5 := ⟨by decide +kernel, rfl⟩
theorem d_8_back_5 : zD prog_1_method_4_code 5 (.aload_n 0) 1 6 := ⟨by decide +kernel, rfl⟩
theorem d_8_back_6 : zD prog_1_method_4_code 6 (.getfield 13) 3 9 := ⟨by decide +kernel, rfl⟩
theorem d_8_back_9 : zD prog_1_method_4_code 9 (.if_icmp .le 5) 3 12 := ⟨by decide +kernel, rfl⟩
theorem d_8_back_12 : zD prog_1_method_4_code 12 (.iconst (-1)) 1 13 := ⟨by decide +kernel, rfl⟩
theorem d_8_back_13 : zD prog_1_method_4_code 13 (.ireturn) 1 14 := ⟨by decide +kernel, rfl⟩
theorem d_8_back_14 : zD prog_1_method_4_code 14 (.aload_n 0) 1 15 := ⟨by decide +kernel, rfl⟩
theorem d_8_back_15 : zD prog_1_method_4_code 15 (.dup) 1 16 := ⟨by decide +kernel, rfl⟩
theorem d_8_back_16 : zD prog_1_method_4_code 16 (.getfield 13) 3 19 := ⟨by decide +kernel, rfl⟩
theorem d_8_back_19 : zD prog_1_method_4_code 19 (.iload_n 1) 1 20 := ⟨by decide +kernel, rfl⟩
theorem d_8_back_20 : zD prog_1_method_4_code 20 (.isub) 1 21 := ⟨by decide +kernel, rfl⟩
theorem d_8_back_21 : zD prog_1_method_4_code 21 (.putfield 13) 3 24 := ⟨by decide +kernel, rfl⟩
theorem d_8_back_24 : zD prog_1_method_4_code 24 (.aload_n 0) 1 25 := ⟨by decide +kernel, rfl⟩
theorem d_8_back_25 : zD prog_1_method_4_code 25 (.getfield 13) 3 28 := ⟨by decide +kernel, rfl⟩
theorem d_8_back_28 : zD prog_1_method_4_code 28 (.ireturn) 1 29 := ⟨by decide +kernel, rfl⟩
theorem d_8_read_0 : zD prog_1_method_5_code 0 (.aload_n 0) 1 1 := ⟨by decide +kernel, rfl⟩
theorem d_8_read_1 : zD prog_1_method_5_code 1 (.getfield 20) 3 4 := ⟨by decide +kernel, rfl⟩
theorem d_8_read_4 : zD prog_1_method_5_code 4 (.aload_n 0) 1 5 := ⟨by decide +kernel, rfl⟩
theorem d_8_read_5 : zD prog_1_method_5_code 5 (.getfield 9) 3 8 := ⟨by decide +kernel, rfl⟩
theorem d_8_read_8 : zD prog_1_method_5_code 8 (.aload_n 0) 1 9 := ⟨by decide +kernel, rfl⟩
theorem d_8_read_9 : zD prog_1_method_5_code 9 (.getfield 13) 3 12 := ⟨by decide +kernel, rfl⟩
theorem d_8_read_12 : zD prog_1_method_5_code 12 (.invokevirtual 90) 3 15 := ⟨by decide +kernel, rfl⟩
theorem d_8_read_15 : zD prog_1_method_5_code 15 (.istore_n 1) 1 16 := ⟨by decide +kernel, rfl⟩
theorem d_8_read_16 : zD prog_1_method_5_code 16 (.aload_n 0) 1 17 := ⟨by decide +kernel, rfl⟩
theorem d_8_read_17 : zD prog_1_method_5_code 17 (.iconst 0) 1 18 := ⟨by decide +kernel, rfl⟩
theorem d_8_read_18 : zD prog_1_method_5_code 18 (.putfield 13) 3 21 := ⟨by decide +kernel, rfl⟩
theorem d_8_read_21 : zD prog_1_method_5_code 21 (.iload_n 1) 1 22 := ⟨by decide +kernel, rfl⟩
theorem d_8_read_22 : zD prog_1_method_5_code 22 (.ifCond .ne 48) 3 25 := ⟨by decide +kernel, rfl⟩
theorem d_8_read_25 : zD prog_1_method_5_code 25 (.aload_n 0) 1 26 := ⟨by decide +kernel, rfl⟩
theorem d_8_read_26 : zD prog_1_method_5_code 26 (.aload_n 0) 1 27 := ⟨by decide +kernel, rfl⟩
theorem d_8_read_27 : zD prog_1_method_5_code 27 (.getfield 20) 3 30 := ⟨by decide +kernel, rfl⟩
theorem d_8_read_30 : zD prog_1_method_5_code 30 (.aload_n 0) 1 31 := ⟨by decide +kernel, rfl⟩
theorem d_8_read_31 : zD prog_1_method_5_code 31 (.getfield 27) 3 34 := ⟨by decide +kernel, rfl⟩
theorem d_8_read_34 : zD prog_1_method_5_code 34 (.invokevirtual 94) 3 37 := ⟨by decide +kernel, rfl⟩
theorem d_8_read_37 : zD prog_1_method_5_code 37 (.putfield 27) 3 40 := ⟨by decide +kernel, rfl⟩
theorem d_8_read_40 : zD prog_1_method_5_code 40 (.aload_n 0) 1 41 := ⟨by decide +kernel, rfl⟩
theorem d_8_read_41 : zD prog_1_method_5_code 41 (.getfield 34) 3 44 := ⟨by decide +kernel, rfl⟩
theorem d_8_read_44 : zD prog_1_method_5_code 44 (.aload_n 0) 1 45 := ⟨by decide +kernel, rfl⟩
theorem d_8_read_45 : zD prog_1_method_5_code 45 (.getfield 27) 3 48 := ⟨by decide +kernel, rfl⟩
theorem d_8_read_48 : zD prog_1_method_5_code 48 (.invokevirtual 98) 3 51 := ⟨by decide +kernel, rfl⟩
theorem d_8_read_51 : zD prog_1_method_5_code 51 (.aload_n 0) 1 52 := ⟨by decide +kernel, rfl⟩
theorem d_8_read_52 : zD prog_1_method_5_code 52 (.getfield 54) 3 55 := ⟨by decide +kernel, rfl⟩
theorem d_8_read_55 : zD prog_1_method_5_code 55 (.invokevirtual 102) 3 58 := ⟨by decide +kernel, rfl⟩
theorem d_8_read_58 : zD prog_1_method_5_code 58 (.aload_n 0) 1 59 := ⟨by decide +kernel, rfl⟩
theorem d_8_read_59 : zD prog_1_method_5_code 59 (.getfield 82) 3 62 := ⟨by decide +kernel, rfl⟩
theorem d_8_read_62 : zD prog_1_method_5_code 62 (.invokevirtual 105) 3 65 := ⟨by decide +kernel, rfl⟩
theorem d_8_read_65 : zD prog_1_method_5_code 65 (.aload_n 0) 1 66 := ⟨by decide +kernel, rfl⟩
theorem d_8_read_66 : zD prog_1_method_5_code 66 (.iconst 0) 1 67 := ⟨by decide +kernel, rfl⟩
theorem d_8_read_67 : zD prog_1_method_5_code 67 (.putfield 62) 3 70 := ⟨by decide +kernel, rfl⟩
theorem d_8_read_70 : zD prog_1_method_5_code 70 (.iload_n 1) 1 71 := ⟨by decide +kernel, rfl⟩
theorem d_8_read_71 : zD prog_1_method_5_code 71 (.ireturn) 1 72 := ⟨by decide +kernel, rfl⟩
theorem d_8_place_0 : zD prog_1_method_6_code 0 (.aload_n 0) 1 1 := ⟨by decide +kernel, rfl⟩
theorem d_8_place_1 : zD prog_1_method_6_code 1 (.getfield 20) 3 4 := ⟨by decide +kernel, rfl⟩
theorem d_8_place_4 : zD prog_1_method_6_code 4 (.getfield 106) 3 7 := ⟨by decide +kernel, rfl⟩
theorem d_8_place_7 : zD prog_1_method_6_code 7 (.ireturn) 1 8 := ⟨by decide +kernel, rfl⟩
theorem d_8_isHouse_0 : zD prog_1_method_69_code 0 (.iload_n 1) 1 1 := ⟨by decide +kernel, rfl⟩
theorem d_8_isHouse_1 : zD prog_1_method_69_code 1 (.ifCond .lt 18) 3 4 := ⟨by decide +kernel, rfl⟩
theorem d_8_isHouse_4 : zD prog_1_method_69_code 4 (.iload_n 1) 1 5 := ⟨by decide +kernel, rfl⟩
theorem d_8_isHouse_5 : zD prog_1_method_69_code 5 (.aload_n 0) 1 6 := ⟨by decide +kernel, rfl⟩
theorem d_8_isHouse_6 : zD prog_1_method_69_code 6 (.getfield 27) 3 9 := ⟨by decide +kernel, rfl⟩
theorem d_8_isHouse_9 : zD prog_1_method_69_code 9 (.getfield 156) 3 12 := ⟨by decide +kernel, rfl⟩
theorem d_8_isHouse_12 : zD prog_1_method_69_code 12 (.if_icmp .ge 7) 3 15 := ⟨by decide +kernel, rfl⟩
theorem d_8_isHouse_15 : zD prog_1_method_69_code 15 (.iconst 1) 1 16 := ⟨by decide +kernel, rfl⟩
theorem d_8_isHouse_16 : zD prog_1_method_69_code 16 (.goto 4) 3 19 := ⟨by decide +kernel, rfl⟩
theorem d_8_isHouse_19 : zD prog_1_method_69_code 19 (.iconst 0) 1 20 := ⟨by decide +kernel, rfl⟩
theorem d_8_isHouse_20 : zD prog_1_method_69_code 20 (.ireturn) 1 21 := ⟨by decide +kernel, rfl⟩
theorem d_8_house_0 : zD prog_1_method_7_code 0 (.aload_n 0) 1 1 := ⟨by decide +kernel, rfl⟩
theorem d_8_house_1 : zD prog_1_method_7_code 1 (.iload_n 1) 1 2 := ⟨by decide +kernel, rfl⟩
theorem d_8_house_2 : zD prog_1_method_7_code 2 (.invokevirtual 109) 3 5 := ⟨by decide +kernel, rfl⟩
theorem d_8_house_5 : zD prog_1_method_7_code 5 (.ifCond .ne 5) 3 8 := ⟨by decide +kernel, rfl⟩
theorem d_8_house_8 : zD prog_1_method_7_code 8 (.iconst (-1)) 1 9 := ⟨by decide +kernel, rfl⟩
theorem d_8_house_9 : zD prog_1_method_7_code 9 (.ireturn) 1 10 := ⟨by decide +kernel, rfl⟩
theorem d_8_house_10 : zD prog_1_method_7_code 10 (.iload_n 2) 1 11 := ⟨by decide +kernel, rfl⟩
theorem d_8_house_11 : zD prog_1_method_7_code 11 (.tableswitch 90 0 3 #[29, 39, 48, 58]) 29 40 := ⟨by decide +kernel, rfl⟩
theorem d_8_house_40 : zD prog_1_method_7_code 40 (.aload_n 0) 1 41 := ⟨by decide +kernel, rfl⟩
theorem d_8_house_41 : zD prog_1_method_7_code 41 (.getfield 27) 3 44 := ⟨by decide +kernel, rfl⟩
theorem d_8_house_44 : zD prog_1_method_7_code 44 (.getfield 113) 3 47 := ⟨by decide +kernel, rfl⟩
theorem d_8_house_47 : zD prog_1_method_7_code 47 (.iload_n 1) 1 48 := ⟨by decide +kernel, rfl⟩
theorem d_8_house_48 : zD prog_1_method_7_code 48 (.iaload) 1 49 := ⟨by decide +kernel, rfl⟩
theorem d_8_house_49 : zD prog_1_method_7_code 49 (.ireturn) 1 50 := ⟨by decide +kernel, rfl⟩
theorem d_8_house_50 : zD prog_1_method_7_code 50 (.aload_n 0) 1 51 := ⟨by decide +kernel, rfl⟩
theorem d_8_house_51 : zD prog_1_method_7_code 51 (.getfield 34) 3 54 := ⟨by decide +kernel, rfl⟩
theorem d_8_house_54 : zD prog_1_method_7_code 54 (.iload_n 1) 1 55 := ⟨by decide +kernel, rfl⟩
theorem d_8_house_55 : zD prog_1_method_7_code 55 (.invokevirtual 116) 3 58 := ⟨by decide +kernel, rfl⟩
theorem d_8_house_58 : zD prog_1_method_7_code 58 (.ireturn) 1 59 := ⟨by decide +kernel, rfl⟩
theorem d_8_house_59 : zD prog_1_method_7_code 59 (.aload_n 0) 1 60 := ⟨by decide +kernel, rfl⟩
theorem d_8_house_60 : zD prog_1_method_7_code 60 (.getfield 34) 3 63 := ⟨by decide +kernel, rfl⟩
theorem d_8_house_63 : zD prog_1_method_7_code 63 (.getfield 120) 3 66 := ⟨by decide +kernel, rfl⟩
theorem d_8_house_66 : zD prog_1_method_7_code 66 (.iload_n 1) 1 67 := ⟨by decide +kernel, rfl⟩
theorem d_8_house_67 : zD prog_1_method_7_code 67 (.iaload) 1 68 := ⟨by decide +kernel, rfl⟩
theorem d_8_house_68 : zD prog_1_method_7_code 68 (.ireturn) 1 69 := ⟨by decide +kernel, rfl⟩
theorem d_8_house_69 : zD prog_1_method_7_code 69 (.aload_n 0) 1 70 := ⟨by decide +kernel, rfl⟩
theorem d_8_house_70 : zD prog_1_method_7_code 70 (.getfield 68) 3 73 := ⟨by decide +kernel, rfl⟩
theorem d_8_house_73 : zD prog_1_method_7_code 73 (.aload_n 0) 1 74 := ⟨by decide +kernel, rfl⟩
theorem d_8_house_74 : zD prog_1_method_7_code 74 (.getfield 27) 3 77 := ⟨by decide +kernel, rfl⟩
theorem d_8_house_77 : zD prog_1_method_7_code 77 (.aload_n 0) 1 78 := ⟨by decide +kernel, rfl⟩
theorem d_8_house_78 : zD prog_1_method_7_code 78 (.getfield 34) 3 81 := ⟨by decide +kernel, rfl⟩
theorem d_8_house_81 : zD prog_1_method_7_code 81 (.invokevirtual 123) 3 84 := ⟨by decide +kernel, rfl⟩
theorem d_8_house_84 : zD prog_1_method_7_code 84 (.aload_n 0) 1 85 := ⟨by decide +kernel, rfl⟩
theorem d_8_house_85 : zD prog_1_method_7_code 85 (.getfield 68) 3 88 := ⟨by decide +kernel, rfl⟩
theorem d_8_house_88 : zD prog_1_method_7_code 88 (.aload_n 0) 1 89 := ⟨by decide +kernel, rfl⟩
theorem d_8_house_89 : zD prog_1_method_7_code 89 (.getfield 27) 3 92 := ⟨by decide +kernel, rfl⟩
theorem d_8_house_92 : zD prog_1_method_7_code 92 (.aload_n 0) 1 93 := ⟨by decide +kernel, rfl⟩
theorem d_8_house_93 : zD prog_1_method_7_code 93 (.getfield 34) 3 96 := ⟨by decide +kernel, rfl⟩
theorem d_8_house_96 : zD prog_1_method_7_code 96 (.iload_n 1) 1 97 := ⟨by decide +kernel, rfl⟩
theorem d_8_house_97 : zD prog_1_method_7_code 97 (.invokevirtual 127) 3 100 := ⟨by decide +kernel, rfl⟩
theorem d_8_house_100 : zD prog_1_method_7_code 100 (.ireturn) 1 101 := ⟨by decide +kernel, rfl⟩
theorem d_8_house_101 : zD prog_1_method_7_code 101 (.iconst (-1)) 1 102 := ⟨by decide +kernel, rfl⟩
theorem d_8_house_102 : zD prog_1_method_7_code 102 (.ireturn) 1 103 := ⟨by decide +kernel, rfl⟩
theorem d_8_isPerson_0 : zD prog_1_method_70_code 0 (.iload_n 1) 1 1 := ⟨by decide +kernel, rfl⟩
theorem d_8_isPerson_1 : zD prog_1_method_70_code 1 (.ifCond .lt 18) 3 4 := ⟨by decide +kernel, rfl⟩
theorem d_8_isPerson_4 : zD prog_1_method_70_code 4 (.iload_n 1) 1 5 := ⟨by decide +kernel, rfl⟩
theorem d_8_isPerson_5 : zD prog_1_method_70_code 5 (.aload_n 0) 1 6 := ⟨by decide +kernel, rfl⟩
theorem d_8_isPerson_6 : zD prog_1_method_70_code 6 (.getfield 27) 3 9 := ⟨by decide +kernel, rfl⟩
theorem d_8_isPerson_9 : zD prog_1_method_70_code 9 (.getfield 224) 3 12 := ⟨by decide +kernel, rfl⟩
theorem d_8_isPerson_12 : zD prog_1_method_70_code 12 (.if_icmp .ge 7) 3 15 := ⟨by decide +kernel, rfl⟩
theorem d_8_isPerson_15 : zD prog_1_method_70_code 15 (.iconst 1) 1 16 := ⟨by decide +kernel, rfl⟩
theorem d_8_isPerson_16 : zD prog_1_method_70_code 16 (.goto 4) 3 19 := ⟨by decide +kernel, rfl⟩
theorem d_8_isPerson_19 : zD prog_1_method_70_code 19 (.iconst 0) 1 20 := ⟨by decide +kernel, rfl⟩
theorem d_8_isPerson_20 : zD prog_1_method_70_code 20 (.ireturn) 1 21 := ⟨by decide +kernel, rfl⟩
theorem d_8_rightsOf_0 : zD prog_1_method_9_code 0 (.iconst 0) 1 1 := ⟨by decide +kernel, rfl⟩
theorem d_8_rightsOf_1 : zD prog_1_method_9_code 1 (.istore_n 2) 1 2 := ⟨by decide +kernel, rfl⟩
theorem d_8_rightsOf_2 : zD prog_1_method_9_code 2 (.iconst 0) 1 3 := ⟨by decide +kernel, rfl⟩
theorem d_8_rightsOf_3 : zD prog_1_method_9_code 3 (.istore_n 3) 1 4 := ⟨by decide +kernel, rfl⟩
theorem d_8_rightsOf_4 : zD prog_1_method_9_code 4 (.iload_n 3) 1 5 := ⟨by decide +kernel, rfl⟩
theorem d_8_rightsOf_5 : zD prog_1_method_9_code 5 (.aload_n 0) 1 6 := ⟨by decide +kernel, rfl⟩
theorem d_8_rightsOf_6 : zD prog_1_method_9_code 6 (.getfield 27) 3 9 := ⟨by decide +kernel, rfl⟩
theorem d_8_rightsOf_9 : zD prog_1_method_9_code 9 (.getfield 156) 3 12 := ⟨by decide +kernel, rfl⟩
theorem d_8_rightsOf_12 : zD prog_1_method_9_code 12 (.if_icmp .ge 31) 3 15 := ⟨by decide +kernel, rfl⟩
theorem d_8_rightsOf_15 : zD prog_1_method_9_code 15 (.aload_n 0) 1 16 := ⟨by decide +kernel, rfl⟩
theorem d_8_rightsOf_16 : zD prog_1_method_9_code 16 (.getfield 34) 3 19 := ⟨by decide +kernel, rfl⟩
theorem d_8_rightsOf_19 : zD prog_1_method_9_code 19 (.getfield 120) 3 22 := ⟨by decide +kernel, rfl⟩
theorem d_8_rightsOf_22 : zD prog_1_method_9_code 22 (.iload_n 3) 1 23 := ⟨by decide +kernel, rfl⟩
theorem d_8_rightsOf_23 : zD prog_1_method_9_code 23 (.iaload) 1 24 := ⟨by decide +kernel, rfl⟩
theorem d_8_rightsOf_24 : zD prog_1_method_9_code 24 (.iload_n 1) 1 25 := ⟨by decide +kernel, rfl⟩
theorem d_8_rightsOf_25 : zD prog_1_method_9_code 25 (.invokestatic 159) 3 28 := ⟨by decide +kernel, rfl⟩
theorem d_8_rightsOf_28 : zD prog_1_method_9_code 28 (.ifCond .eq 9) 3 31 := ⟨by decide +kernel, rfl⟩
theorem d_8_rightsOf_31 : zD prog_1_method_9_code 31 (.iload_n 2) 1 32 := ⟨by decide +kernel, rfl⟩
theorem d_8_rightsOf_32 : zD prog_1_method_9_code 32 (.iconst 1) 1 33 := ⟨by decide +kernel, rfl⟩
theorem d_8_rightsOf_33 : zD prog_1_method_9_code 33 (.iload_n 3) 1 34 := ⟨by decide +kernel, rfl⟩
theorem d_8_rightsOf_34 : zD prog_1_method_9_code 34 (.ishl) 1 35 := ⟨by decide +kernel, rfl⟩
theorem d_8_rightsOf_35 : zD prog_1_method_9_code 35 (.ior) 1 36 := ⟨by decide +kernel, rfl⟩
theorem d_8_rightsOf_36 : zD prog_1_method_9_code 36 (.istore_n 2) 1 37 := ⟨by decide +kernel, rfl⟩
theorem d_8_rightsOf_37 : zD prog_1_method_9_code 37 (.iinc 3 1) 3 40 := ⟨by decide +kernel, rfl⟩
theorem d_8_rightsOf_40 : zD prog_1_method_9_code 40 (.goto (-36)) 3 43 := ⟨by decide +kernel, rfl⟩
theorem d_8_rightsOf_43 : zD prog_1_method_9_code 43 (.iload_n 2) 1 44 := ⟨by decide +kernel, rfl⟩
theorem d_8_rightsOf_44 : zD prog_1_method_9_code 44 (.ireturn) 1 45 := ⟨by decide +kernel, rfl⟩
theorem d_8_ownHouses_0 : zD prog_1_method_10_code 0 (.iconst 0) 1 1 := ⟨by decide +kernel, rfl⟩
theorem d_8_ownHouses_1 : zD prog_1_method_10_code 1 (.istore_n 2) 1 2 := ⟨by decide +kernel, rfl⟩
theorem d_8_ownHouses_2 : zD prog_1_method_10_code 2 (.iconst 0) 1 3 := ⟨by decide +kernel, rfl⟩
theorem d_8_ownHouses_3 : zD prog_1_method_10_code 3 (.istore_n 3) 1 4 := ⟨by decide +kernel, rfl⟩
theorem d_8_ownHouses_4 : zD prog_1_method_10_code 4 (.iload_n 3) 1 5 := ⟨by decide +kernel, rfl⟩
theorem d_8_ownHouses_5 : zD prog_1_method_10_code 5 (.aload_n 0) 1 6 := ⟨by decide +kernel, rfl⟩
theorem d_8_ownHouses_6 : zD prog_1_method_10_code 6 (.getfield 27) 3 9 := ⟨by decide +kernel, rfl⟩
theorem d_8_ownHouses_9 : zD prog_1_method_10_code 9 (.getfield 156) 3 12 := ⟨by decide +kernel, rfl⟩
theorem d_8_ownHouses_12 : zD prog_1_method_10_code 12 (.if_icmp .ge 27) 3 15 := ⟨by decide +kernel, rfl⟩
theorem d_8_ownHouses_15 : zD prog_1_method_10_code 15 (.aload_n 0) 1 16 := ⟨by decide +kernel, rfl⟩
theorem d_8_ownHouses_16 : zD prog_1_method_10_code 16 (.getfield 34) 3 19 := ⟨by decide +kernel, rfl⟩
theorem d_8_ownHouses_19 : zD prog_1_method_10_code 19 (.iload_n 3) 1 20 := ⟨by decide +kernel, rfl⟩
theorem d_8_ownHouses_20 : zD prog_1_method_10_code 20 (.invokevirtual 116) 3 23 := ⟨by decide +kernel, rfl⟩
theorem d_8_ownHouses_23 : zD prog_1_method_10_code 23 (.iload_n 1) 1 24 := ⟨by decide +kernel, rfl⟩
theorem d_8_ownHouses_24 : zD prog_1_method_10_code 24 (.if_icmp .ne 9) 3 27 := ⟨by decide +kernel, rfl⟩
theorem d_8_ownHouses_27 : zD prog_1_method_10_code 27 (.iload_n 2) 1 28 := ⟨by decide +kernel, rfl⟩
theorem d_8_ownHouses_28 : zD prog_1_method_10_code 28 (.iconst 1) 1 29 := ⟨by decide +kernel, rfl⟩
theorem d_8_ownHouses_29 : zD prog_1_method_10_code 29 (.iload_n 3) 1 30 := ⟨by decide +kernel, rfl⟩
theorem d_8_ownHouses_30 : zD prog_1_method_10_code 30 (.ishl) 1 31 := ⟨by decide +kernel, rfl⟩
theorem d_8_ownHouses_31 : zD prog_1_method_10_code 31 (.ior) 1 32 := ⟨by decide +kernel, rfl⟩
theorem d_8_ownHouses_32 : zD prog_1_method_10_code 32 (.istore_n 2) 1 33 := ⟨by decide +kernel, rfl⟩
theorem d_8_ownHouses_33 : zD prog_1_method_10_code 33 (.iinc 3 1) 3 36 := ⟨by decide +kernel, rfl⟩
theorem d_8_ownHouses_36 : zD prog_1_method_10_code 36 (.goto (-32)) 3 39 := ⟨by decide +kernel, rfl⟩
theorem d_8_ownHouses_39 : zD prog_1_method_10_code 39 (.iload_n 2) 1 40 := ⟨by decide +kernel, rfl⟩
theorem d_8_ownHouses_40 : zD prog_1_method_10_code 40 (.ireturn) 1 41 := ⟨by decide +kernel, rfl⟩
theorem d_8_chanceNow_0 : zD prog_1_method_11_code 0 (.aload_n 0) 1 1 := ⟨by decide +kernel, rfl⟩
theorem d_8_chanceNow_1 : zD prog_1_method_11_code 1 (.getfield 68) 3 4 := ⟨by decide +kernel, rfl⟩
theorem d_8_chanceNow_4 : zD prog_1_method_11_code 4 (.aload_n 0) 1 5 := ⟨by decide +kernel, rfl⟩
theorem d_8_chanceNow_5 : zD prog_1_method_11_code 5 (.getfield 27) 3 8 := ⟨by decide +kernel, rfl⟩
theorem d_8_chanceNow_8 : zD prog_1_method_11_code 8 (.aload_n 0) 1 9 := ⟨by decide +kernel, rfl⟩
theorem d_8_chanceNow_9 : zD prog_1_method_11_code 9 (.getfield 34) 3 12 := ⟨by decide +kernel, rfl⟩
theorem d_8_chanceNow_12 : zD prog_1_method_11_code 12 (.invokevirtual 123) 3 15 := ⟨by decide +kernel, rfl⟩
theorem d_8_chanceNow_15 : zD prog_1_method_11_code 15 (.aload_n 0) 1 16 := ⟨by decide +kernel, rfl⟩
theorem d_8_chanceNow_16 : zD prog_1_method_11_code 16 (.getfield 68) 3 19 := ⟨by decide +kernel, rfl⟩
theorem d_8_chanceNow_19 : zD prog_1_method_11_code 19 (.aload_n 0) 1 20 := ⟨by decide +kernel, rfl⟩
theorem d_8_chanceNow_20 : zD prog_1_method_11_code 20 (.getfield 27) 3 23 := ⟨by decide +kernel, rfl⟩
theorem d_8_chanceNow_23 : zD prog_1_method_11_code 23 (.aload_n 0) 1 24 := ⟨by decide +kernel, rfl⟩
theorem d_8_chanceNow_24 : zD prog_1_method_11_code 24 (.getfield 34) 3 27 := ⟨by decide +kernel, rfl⟩
theorem d_8_chanceNow_27 : zD prog_1_method_11_code 27 (.iload_n 1) 1 28 := ⟨by decide +kernel, rfl⟩
theorem d_8_chanceNow_28 : zD prog_1_method_11_code 28 (.iload_n 2) 1 29 := ⟨by decide +kernel, rfl⟩
theorem d_8_chanceNow_29 : zD prog_1_method_11_code 29 (.invokevirtual 163) 3 32 := ⟨by decide +kernel, rfl⟩
theorem d_8_chanceNow_32 : zD prog_1_method_11_code 32 (.ireturn) 1 33 := ⟨by decide +kernel, rfl⟩
theorem d_8_person_0 : zD prog_1_method_8_code 0 (.aload_n 0) 1 1 := ⟨by decide +kernel, rfl⟩
theorem d_8_person_1 : zD prog_1_method_8_code 1 (.iload_n 1) 1 2 := ⟨by decide +kernel, rfl⟩
theorem d_8_person_2 : zD prog_1_method_8_code 2 (.invokevirtual 131) 3 5 := ⟨by decide +kernel, rfl⟩
theorem d_8_person_5 : zD prog_1_method_8_code 5 (.ifCond .ne 5) 3 8 := ⟨by decide +kernel, rfl⟩
theorem d_8_person_8 : zD prog_1_method_8_code 8 (.iconst (-1)) 1 9 := ⟨by decide +kernel, rfl⟩
theorem d_8_person_9 : zD prog_1_method_8_code 9 (.ireturn) 1 10 := ⟨by decide +kernel, rfl⟩
theorem d_8_person_10 : zD prog_1_method_8_code 10 (.iload_n 2) 1 11 := ⟨by decide +kernel, rfl⟩
theorem d_8_person_11 : zD prog_1_method_8_code 11 (.tableswitch 121 0 8 #[49, 59, 68, 78, 88, 94, 100, 107, 114]) 49 60 := ⟨by decide +kernel, rfl⟩
theorem d_8_person_60 : zD prog_1_method_8_code 60 (.aload_n 0) 1 61 := ⟨by decide +kernel, rfl⟩
theorem d_8_person_61 : zD prog_1_method_8_code 61 (.getfield 34) 3 64 := ⟨by decide +kernel, rfl⟩
theorem d_8_person_64 : zD prog_1_method_8_code 64 (.getfield 134) 3 67 := ⟨by decide +kernel, rfl⟩
theorem d_8_person_67 : zD prog_1_method_8_code 67 (.iload_n 1) 1 68 := ⟨by decide +kernel, rfl⟩
theorem d_8_person_68 : zD prog_1_method_8_code 68 (.iaload) 1 69 := ⟨by decide +kernel, rfl⟩
theorem d_8_person_69 : zD prog_1_method_8_code 69 (.ireturn) 1 70 := ⟨by decide +kernel, rfl⟩
theorem d_8_person_70 : zD prog_1_method_8_code 70 (.aload_n 0) 1 71 := ⟨by decide +kernel, rfl⟩
theorem d_8_person_71 : zD prog_1_method_8_code 71 (.getfield 34) 3 74 := ⟨by decide +kernel, rfl⟩
theorem d_8_person_74 : zD prog_1_method_8_code 74 (.iload_n 1) 1 75 := ⟨by decide +kernel, rfl⟩
theorem d_8_person_75 : zD prog_1_method_8_code 75 (.invokevirtual 137) 3 78 := ⟨by decide +kernel, rfl⟩
theorem d_8_person_78 : zD prog_1_method_8_code 78 (.ireturn) 1 79 := ⟨by decide +kernel, rfl⟩
theorem d_8_person_79 : zD prog_1_method_8_code 79 (.aload_n 0) 1 80 := ⟨by decide +kernel, rfl⟩
theorem d_8_person_80 : zD prog_1_method_8_code 80 (.getfield 34) 3 83 := ⟨by decide +kernel, rfl⟩
theorem d_8_person_83 : zD prog_1_method_8_code 83 (.getfield 140) 3 86 := ⟨by decide +kernel, rfl⟩
theorem d_8_person_86 : zD prog_1_method_8_code 86 (.iload_n 1) 1 87 := ⟨by decide +kernel, rfl⟩
theorem d_8_person_87 : zD prog_1_method_8_code 87 (.iaload) 1 88 := ⟨by decide +kernel, rfl⟩
theorem d_8_person_88 : zD prog_1_method_8_code 88 (.ireturn) 1 89 := ⟨by decide +kernel, rfl⟩
theorem d_8_person_89 : zD prog_1_method_8_code 89 (.aload_n 0) 1 90 := ⟨by decide +kernel, rfl⟩
theorem d_8_person_90 : zD prog_1_method_8_code 90 (.getfield 34) 3 93 := ⟨by decide +kernel, rfl⟩
theorem d_8_person_93 : zD prog_1_method_8_code 93 (.getfield 143) 3 96 := ⟨by decide +kernel, rfl⟩
theorem d_8_person_96 : zD prog_1_method_8_code 96 (.iload_n 1) 1 97 := ⟨by decide +kernel, rfl⟩
theorem d_8_person_97 : zD prog_1_method_8_code 97 (.iaload) 1 98 := ⟨by decide +kernel, rfl⟩
theorem d_8_person_98 : zD prog_1_method_8_code 98 (.ireturn) 1 99 := ⟨by decide +kernel, rfl⟩
theorem d_8_person_99 : zD prog_1_method_8_code 99 (.aload_n 0) 1 100 := ⟨by decide +kernel, rfl⟩
theorem d_8_person_100 : zD prog_1_method_8_code 100 (.iload_n 1) 1 101 := ⟨by decide +kernel, rfl⟩
theorem d_8_person_101 : zD prog_1_method_8_code 101 (.invokevirtual 146) 3 104 := ⟨by decide +kernel, rfl⟩
theorem d_8_person_104 : zD prog_1_method_8_code 104 (.ireturn) 1 105 := ⟨by decide +kernel, rfl⟩
theorem d_8_person_105 : zD prog_1_method_8_code 105 (.aload_n 0) 1 106 := ⟨by decide +kernel, rfl⟩
theorem d_8_person_106 : zD prog_1_method_8_code 106 (.iload_n 1) 1 107 := ⟨by decide +kernel, rfl⟩
theorem d_8_person_107 : zD prog_1_method_8_code 107 (.invokevirtual 149) 3 110 := ⟨by decide +kernel, rfl⟩
theorem d_8_person_110 : zD prog_1_method_8_code 110 (.ireturn) 1 111 := ⟨by decide +kernel, rfl⟩
theorem d_8_person_111 : zD prog_1_method_8_code 111 (.aload_n 0) 1 112 := ⟨by decide +kernel, rfl⟩
theorem d_8_person_112 : zD prog_1_method_8_code 112 (.iconst 0) 1 113 := ⟨by decide +kernel, rfl⟩
theorem d_8_person_113 : zD prog_1_method_8_code 113 (.iload_n 1) 1 114 := ⟨by decide +kernel, rfl⟩
theorem d_8_person_114 : zD prog_1_method_8_code 114 (.invokevirtual 152) 3 117 := ⟨by decide +kernel, rfl⟩
theorem d_8_person_117 : zD prog_1_method_8_code 117 (.ireturn) 1 118 := ⟨by decide +kernel, rfl⟩
theorem d_8_person_118 : zD prog_1_method_8_code 118 (.aload_n 0) 1 119 := ⟨by decide +kernel, rfl⟩
theorem d_8_person_119 : zD prog_1_method_8_code 119 (.iconst 1) 1 120 := ⟨by decide +kernel, rfl⟩
theorem d_8_person_120 : zD prog_1_method_8_code 120 (.iload_n 1) 1 121 := ⟨by decide +kernel, rfl⟩
theorem d_8_person_121 : zD prog_1_method_8_code 121 (.invokevirtual 152) 3 124 := ⟨by decide +kernel, rfl⟩
theorem d_8_person_124 : zD prog_1_method_8_code 124 (.ireturn) 1 125 := ⟨by decide +kernel, rfl⟩
theorem d_8_person_125 : zD prog_1_method_8_code 125 (.aload_n 0) 1 126 := ⟨by decide +kernel, rfl⟩
theorem d_8_person_126 : zD prog_1_method_8_code 126 (.iconst 2) 1 127 := ⟨by decide +kernel, rfl⟩
theorem d_8_person_127 : zD prog_1_method_8_code 127 (.iload_n 1) 1 128 := ⟨by decide +kernel, rfl⟩
theorem d_8_person_128 : zD prog_1_method_8_code 128 (.invokevirtual 152) 3 131 := ⟨by decide +kernel, rfl⟩
theorem d_8_person_131 : zD prog_1_method_8_code 131 (.ireturn) 1 132 := ⟨by decide +kernel, rfl⟩
theorem d_8_person_132 : zD prog_1_method_8_code 132 (.iconst (-1)) 1 133 := ⟨by decide +kernel, rfl⟩
theorem d_8_person_133 : zD prog_1_method_8_code 133 (.ireturn) 1 134 := ⟨by decide +kernel, rfl⟩
theorem d_8_send_0 : zD prog_1_method_12_code 0 (.aload_n 0) 1 1 := ⟨by decide +kernel, rfl⟩
theorem d_8_send_1 : zD prog_1_method_12_code 1 (.iload_n 1) 1 2 := ⟨by decide +kernel, rfl⟩
theorem d_8_send_2 : zD prog_1_method_12_code 2 (.invokevirtual 131) 3 5 := ⟨by decide +kernel, rfl⟩
theorem d_8_send_5 : zD prog_1_method_12_code 5 (.ifCond .eq 17) 3 8 := ⟨by decide +kernel, rfl⟩
theorem d_8_send_8 : zD prog_1_method_12_code 8 (.aload_n 0) 1 9 := ⟨by decide +kernel, rfl⟩
theorem d_8_send_9 : zD prog_1_method_12_code 9 (.getfield 34) 3 12 := ⟨by decide +kernel, rfl⟩
theorem d_8_send_12 : zD prog_1_method_12_code 12 (.getfield 167) 3 15 := ⟨by decide +kernel, rfl⟩
theorem d_8_send_15 : zD prog_1_method_12_code 15 (.iload_n 1) 1 16 := ⟨by decide +kernel, rfl⟩
theorem d_8_send_16 : zD prog_1_method_12_code 16 (.invokestatic 159) 3 19 := ⟨by decide +kernel, rfl⟩
theorem d_8_send_19 : zD prog_1_method_12_code 19 (.ifCond .ne 5) 3 22 := ⟨by decide +kernel, rfl⟩
theorem d_8_send_22 : zD prog_1_method_12_code 22 (.iconst 0) 1 23 := ⟨by decide +kernel, rfl⟩
theorem d_8_send_23 : zD prog_1_method_12_code 23 (.ireturn) 1 24 := ⟨by decide +kernel, rfl⟩
theorem d_8_send_24 : zD prog_1_method_12_code 24 (.aload_n 0) 1 25 := ⟨by decide +kernel, rfl⟩
theorem d_8_send_25 : zD prog_1_method_12_code 25 (.getfield 54) 3 28 := ⟨by decide +kernel, rfl⟩
theorem d_8_send_28 : zD prog_1_method_12_code 28 (.aload_n 0) 1 29 := ⟨by decide +kernel, rfl⟩
theorem d_8_send_29 : zD prog_1_method_12_code 29 (.getfield 34) 3 32 := ⟨by decide +kernel, rfl⟩
theorem d_8_send_32 : zD prog_1_method_12_code 32 (.invokevirtual 170) 3 35 := ⟨by decide +kernel, rfl⟩
theorem d_8_send_35 : zD prog_1_method_12_code 35 (.aload_n 0) 1 36 := ⟨by decide +kernel, rfl⟩
theorem d_8_send_36 : zD prog_1_method_12_code 36 (.getfield 34) 3 39 := ⟨by decide +kernel, rfl⟩
theorem d_8_send_39 : zD prog_1_method_12_code 39 (.iload_n 1) 1 40 := ⟨by decide +kernel, rfl⟩
theorem d_8_send_40 : zD prog_1_method_12_code 40 (.invokevirtual 174) 3 43 := ⟨by decide +kernel, rfl⟩
theorem d_8_send_43 : zD prog_1_method_12_code 43 (.iconst 1) 1 44 := ⟨by decide +kernel, rfl⟩
theorem d_8_send_44 : zD prog_1_method_12_code 44 (.ireturn) 1 45 := ⟨by decide +kernel, rfl⟩
theorem d_8_call_0 : zD prog_1_method_13_code 0 (.aload_n 0) 1 1 := ⟨by decide +kernel, rfl⟩
theorem d_8_call_1 : zD prog_1_method_13_code 1 (.iload_n 1) 1 2 := ⟨by decide +kernel, rfl⟩
theorem d_8_call_2 : zD prog_1_method_13_code 2 (.invokevirtual 131) 3 5 := ⟨by decide +kernel, rfl⟩
theorem d_8_call_5 : zD prog_1_method_13_code 5 (.ifCond .eq 17) 3 8 := ⟨by decide +kernel, rfl⟩
theorem d_8_call_8 : zD prog_1_method_13_code 8 (.aload_n 0) 1 9 := ⟨by decide +kernel, rfl⟩
theorem d_8_call_9 : zD prog_1_method_13_code 9 (.getfield 34) 3 12 := ⟨by decide +kernel, rfl⟩
theorem d_8_call_12 : zD prog_1_method_13_code 12 (.getfield 177) 3 15 := ⟨by decide +kernel, rfl⟩
theorem d_8_call_15 : zD prog_1_method_13_code 15 (.iload_n 1) 1 16 := ⟨by decide +kernel, rfl⟩
theorem d_8_call_16 : zD prog_1_method_13_code 16 (.invokestatic 159) 3 19 := ⟨by decide +kernel, rfl⟩
theorem d_8_call_19 : zD prog_1_method_13_code 19 (.ifCond .ne 5) 3 22 := ⟨by decide +kernel, rfl⟩
theorem d_8_call_22 : zD prog_1_method_13_code 22 (.iconst 0) 1 23 := ⟨by decide +kernel, rfl⟩
theorem d_8_call_23 : zD prog_1_method_13_code 23 (.ireturn) 1 24 := ⟨by decide +kernel, rfl⟩
theorem d_8_call_24 : zD prog_1_method_13_code 24 (.aload_n 0) 1 25 := ⟨by decide +kernel, rfl⟩
theorem d_8_call_25 : zD prog_1_method_13_code 25 (.getfield 54) 3 28 := ⟨by decide +kernel, rfl⟩
theorem d_8_call_28 : zD prog_1_method_13_code 28 (.aload_n 0) 1 29 := ⟨by decide +kernel, rfl⟩
theorem d_8_call_29 : zD prog_1_method_13_code 29 (.getfield 34) 3 32 := ⟨by decide +kernel, rfl⟩
theorem d_8_call_32 : zD prog_1_method_13_code 32 (.invokevirtual 170) 3 35 := ⟨by decide +kernel, rfl⟩
theorem d_8_call_35 : zD prog_1_method_13_code 35 (.aload_n 0) 1 36 := ⟨by decide +kernel, rfl⟩
theorem d_8_call_36 : zD prog_1_method_13_code 36 (.getfield 34) 3 39 := ⟨by decide +kernel, rfl⟩
theorem d_8_call_39 : zD prog_1_method_13_code 39 (.iload_n 1) 1 40 := ⟨by decide +kernel, rfl⟩
theorem d_8_call_40 : zD prog_1_method_13_code 40 (.invokevirtual 180) 3 43 := ⟨by decide +kernel, rfl⟩
theorem d_8_call_43 : zD prog_1_method_13_code 43 (.iconst 1) 1 44 := ⟨by decide +kernel, rfl⟩
theorem d_8_call_44 : zD prog_1_method_13_code 44 (.ireturn) 1 45 := ⟨by decide +kernel, rfl⟩
theorem d_8_bury_0 : zD prog_1_method_14_code 0 (.aload_n 0) 1 1 := ⟨by decide +kernel, rfl⟩
theorem d_8_bury_1 : zD prog_1_method_14_code 1 (.iload_n 1) 1 2 := ⟨by decide +kernel, rfl⟩
theorem d_8_bury_2 : zD prog_1_method_14_code 2 (.invokevirtual 131) 3 5 := ⟨by decide +kernel, rfl⟩
theorem d_8_bury_5 : zD prog_1_method_14_code 5 (.ifCond .eq 17) 3 8 := ⟨by decide +kernel, rfl⟩
theorem d_8_bury_8 : zD prog_1_method_14_code 8 (.aload_n 0) 1 9 := ⟨by decide +kernel, rfl⟩
theorem d_8_bury_9 : zD prog_1_method_14_code 9 (.getfield 34) 3 12 := ⟨by decide +kernel, rfl⟩
theorem d_8_bury_12 : zD prog_1_method_14_code 12 (.invokevirtual 183) 3 15 := ⟨by decide +kernel, rfl⟩
theorem d_8_bury_15 : zD prog_1_method_14_code 15 (.iload_n 1) 1 16 := ⟨by decide +kernel, rfl⟩
theorem d_8_bury_16 : zD prog_1_method_14_code 16 (.invokestatic 159) 3 19 := ⟨by decide +kernel, rfl⟩
theorem d_8_bury_19 : zD prog_1_method_14_code 19 (.ifCond .ne 5) 3 22 := ⟨by decide +kernel, rfl⟩
theorem d_8_bury_22 : zD prog_1_method_14_code 22 (.iconst 0) 1 23 := ⟨by decide +kernel, rfl⟩
theorem d_8_bury_23 : zD prog_1_method_14_code 23 (.ireturn) 1 24 := ⟨by decide +kernel, rfl⟩
theorem d_8_bury_24 : zD prog_1_method_14_code 24 (.aload_n 0) 1 25 := ⟨by decide +kernel, rfl⟩
theorem d_8_bury_25 : zD prog_1_method_14_code 25 (.getfield 54) 3 28 := ⟨by decide +kernel, rfl⟩
theorem d_8_bury_28 : zD prog_1_method_14_code 28 (.aload_n 0) 1 29 := ⟨by decide +kernel, rfl⟩
theorem d_8_bury_29 : zD prog_1_method_14_code 29 (.getfield 34) 3 32 := ⟨by decide +kernel, rfl⟩
theorem d_8_bury_32 : zD prog_1_method_14_code 32 (.invokevirtual 170) 3 35 := ⟨by decide +kernel, rfl⟩
theorem d_8_bury_35 : zD prog_1_method_14_code 35 (.aload_n 0) 1 36 := ⟨by decide +kernel, rfl⟩
theorem d_8_bury_36 : zD prog_1_method_14_code 36 (.getfield 34) 3 39 := ⟨by decide +kernel, rfl⟩
theorem d_8_bury_39 : zD prog_1_method_14_code 39 (.iload_n 1) 1 40 := ⟨by decide +kernel, rfl⟩
theorem d_8_bury_40 : zD prog_1_method_14_code 40 (.invokevirtual 187) 3 43 := ⟨by decide +kernel, rfl⟩
theorem d_8_bury_43 : zD prog_1_method_14_code 43 (.iconst 1) 1 44 := ⟨by decide +kernel, rfl⟩
theorem d_8_bury_44 : zD prog_1_method_14_code 44 (.ireturn) 1 45 := ⟨by decide +kernel, rfl⟩
theorem d_8_give_0 : zD prog_1_method_15_code 0 (.aload_n 0) 1 1 := ⟨by decide +kernel, rfl⟩
theorem d_8_give_1 : zD prog_1_method_15_code 1 (.iload_n 1) 1 2 := ⟨by decide +kernel, rfl⟩
theorem d_8_give_2 : zD prog_1_method_15_code 2 (.invokevirtual 131) 3 5 := ⟨by decide +kernel, rfl⟩
theorem d_8_give_5 : zD prog_1_method_15_code 5 (.ifCond .eq 28) 3 8 := ⟨by decide +kernel, rfl⟩
theorem d_8_give_8 : zD prog_1_method_15_code 8 (.aload_n 0) 1 9 := ⟨by decide +kernel, rfl⟩
theorem d_8_give_9 : zD prog_1_method_15_code 9 (.iload_n 2) 1 10 := ⟨by decide +kernel, rfl⟩
theorem d_8_give_10 : zD prog_1_method_15_code 10 (.invokevirtual 109) 3 13 := ⟨by decide +kernel, rfl⟩
theorem d_8_give_13 : zD prog_1_method_15_code 13 (.ifCond .eq 20) 3 16 := ⟨by decide +kernel, rfl⟩
theorem d_8_give_16 : zD prog_1_method_15_code 16 (.aload_n 0) 1 17 := ⟨by decide +kernel, rfl⟩
theorem d_8_give_17 : zD prog_1_method_15_code 17 (.getfield 34) 3 20 := ⟨by decide +kernel, rfl⟩
theorem d_8_give_20 : zD prog_1_method_15_code 20 (.getfield 120) 3 23 := ⟨by decide +kernel, rfl⟩
theorem d_8_give_23 : zD prog_1_method_15_code 23 (.iload_n 2) 1 24 := ⟨by decide +kernel, rfl⟩
theorem d_8_give_24 : zD prog_1_method_15_code 24 (.iaload) 1 25 := ⟨by decide +kernel, rfl⟩
theorem d_8_give_25 : zD prog_1_method_15_code 25 (.iload_n 1) 1 26 := ⟨by decide +kernel, rfl⟩
theorem d_8_give_26 : zD prog_1_method_15_code 26 (.invokestatic 159) 3 29 := ⟨by decide +kernel, rfl⟩
theorem d_8_give_29 : zD prog_1_method_15_code 29 (.iload_n 3) 1 30 := ⟨by decide +kernel, rfl⟩
theorem d_8_give_30 : zD prog_1_method_15_code 30 (.if_icmp .ne 5) 3 33 := ⟨by decide +kernel, rfl⟩
theorem d_8_give_33 : zD prog_1_method_15_code 33 (.iconst 0) 1 34 := ⟨by decide +kernel, rfl⟩
theorem d_8_give_34 : zD prog_1_method_15_code 34 (.ireturn) 1 35 := ⟨by decide +kernel, rfl⟩
theorem d_8_give_35 : zD prog_1_method_15_code 35 (.aload_n 0) 1 36 := ⟨by decide +kernel, rfl⟩
theorem d_8_give_36 : zD prog_1_method_15_code 36 (.getfield 54) 3 39 := ⟨by decide +kernel, rfl⟩
theorem d_8_give_39 : zD prog_1_method_15_code 39 (.aload_n 0) 1 40 := ⟨by decide +kernel, rfl⟩
theorem d_8_give_40 : zD prog_1_method_15_code 40 (.getfield 34) 3 43 := ⟨by decide +kernel, rfl⟩
theorem d_8_give_43 : zD prog_1_method_15_code 43 (.invokevirtual 170) 3 46 := ⟨by decide +kernel, rfl⟩
theorem d_8_give_46 : zD prog_1_method_15_code 46 (.aload_n 0) 1 47 := ⟨by decide +kernel, rfl⟩
theorem d_8_give_47 : zD prog_1_method_15_code 47 (.getfield 34) 3 50 := ⟨by decide +kernel, rfl⟩
theorem d_8_give_50 : zD prog_1_method_15_code 50 (.getfield 120) 3 53 := ⟨by decide +kernel, rfl⟩
theorem d_8_give_53 : zD prog_1_method_15_code 53 (.iload_n 2) 1 54 := ⟨by decide +kernel, rfl⟩
theorem d_8_give_54 : zD prog_1_method_15_code 54 (.dup2) 1 55 := ⟨by decide +kernel, rfl⟩
theorem d_8_give_55 : zD prog_1_method_15_code 55 (.iaload) 1 56 := ⟨by decide +kernel, rfl⟩
theorem d_8_give_56 : zD prog_1_method_15_code 56 (.iconst 1) 1 57 := ⟨by decide +kernel, rfl⟩
theorem d_8_give_57 : zD prog_1_method_15_code 57 (.iload_n 1) 1 58 := ⟨by decide +kernel, rfl⟩
theorem d_8_give_58 : zD prog_1_method_15_code 58 (.ishl) 1 59 := ⟨by decide +kernel, rfl⟩
theorem d_8_give_59 : zD prog_1_method_15_code 59 (.ixor) 1 60 := ⟨by decide +kernel, rfl⟩
theorem d_8_give_60 : zD prog_1_method_15_code 60 (.iastore) 1 61 := ⟨by decide +kernel, rfl⟩
theorem d_8_give_61 : zD prog_1_method_15_code 61 (.iconst 1) 1 62 := ⟨by decide +kernel, rfl⟩
theorem d_8_give_62 : zD prog_1_method_15_code 62 (.ireturn) 1 63 := ⟨by decide +kernel, rfl⟩
theorem d_8_areYears_0 : zD prog_1_method_72_code 0 (.iload_n 0) 1 1 := ⟨by decide +kernel, rfl⟩
theorem d_8_areYears_1 : zD prog_1_method_72_code 1 (.iload_n 1) 1 2 := ⟨by decide +kernel, rfl⟩
theorem d_8_areYears_2 : zD prog_1_method_72_code 2 (.if_icmp .lt 13) 3 5 := ⟨by decide +kernel, rfl⟩
theorem d_8_areYears_5 : zD prog_1_method_72_code 5 (.iload_n 0) 1 6 := ⟨by decide +kernel, rfl⟩
theorem d_8_areYears_6 : zD prog_1_method_72_code 6 (.bipush 40) 2 8 := ⟨by decide +kernel, rfl⟩
theorem d_8_areYears_8 : zD prog_1_method_72_code 8 (.if_icmp .gt 7) 3 11 := ⟨by decide +kernel, rfl⟩
theorem d_8_areYears_11 : zD prog_1_method_72_code 11 (.iconst 1) 1 12 := ⟨by decide +kernel, rfl⟩
theorem d_8_areYears_12 : zD prog_1_method_72_code 12 (.goto 4) 3 15 := ⟨by decide +kernel, rfl⟩
theorem d_8_areYears_15 : zD prog_1_method_72_code 15 (.iconst 0) 1 16 := ⟨by decide +kernel, rfl⟩
theorem d_8_areYears_16 : zD prog_1_method_72_code 16 (.ireturn) 1 17 := ⟨by decide +kernel, rfl⟩
theorem d_8_years_0 : zD prog_1_method_16_code 0 (.iload_n 1) 1 1 := ⟨by decide +kernel, rfl⟩
theorem d_8_years_1 : zD prog_1_method_16_code 1 (.iconst 0) 1 2 := ⟨by decide +kernel, rfl⟩
theorem d_8_years_2 : zD prog_1_method_16_code 2 (.invokestatic 190) 3 5 := ⟨by decide +kernel, rfl⟩
theorem d_8_years_5 : zD prog_1_method_16_code 5 (.ifCond .ne 5) 3 8 := ⟨by decide +kernel, rfl⟩
theorem d_8_years_8 : zD prog_1_method_16_code 8 (.iconst (-1)) 1 9 := ⟨by decide +kernel, rfl⟩
theorem d_8_years_9 : zD prog_1_method_16_code 9 (.ireturn) 1 10 := ⟨by decide +kernel, rfl⟩
theorem d_8_years_10 : zD prog_1_method_16_code 10 (.iload_n 1) 1 11 := ⟨by decide +kernel, rfl⟩
theorem d_8_years_11 : zD prog_1_method_16_code 11 (.ifCond .le 37) 3 14 := ⟨by decide +kernel, rfl⟩
theorem d_8_years_14 : zD prog_1_method_16_code 14 (.aload_n 0) 1 15 := ⟨by decide +kernel, rfl⟩
theorem d_8_years_15 : zD prog_1_method_16_code 15 (.getfield 54) 3 18 := ⟨by decide +kernel, rfl⟩
theorem d_8_years_18 : zD prog_1_method_16_code 18 (.aload_n 0) 1 19 := ⟨by decide +kernel, rfl⟩
theorem d_8_years_19 : zD prog_1_method_16_code 19 (.getfield 34) 3 22 := ⟨by decide +kernel, rfl⟩
theorem d_8_years_22 : zD prog_1_method_16_code 22 (.invokevirtual 170) 3 25 := ⟨by decide +kernel, rfl⟩
theorem d_8_years_25 : zD prog_1_method_16_code 25 (.aload_n 0) 1 26 := ⟨by decide +kernel, rfl⟩
theorem d_8_years_26 : zD prog_1_method_16_code 26 (.getfield 75) 3 29 := ⟨by decide +kernel, rfl⟩
theorem d_8_years_29 : zD prog_1_method_16_code 29 (.aload_n 0) 1 30 := ⟨by decide +kernel, rfl⟩
theorem d_8_years_30 : zD prog_1_method_16_code 30 (.getfield 27) 3 33 := ⟨by decide +kernel, rfl⟩
theorem d_8_years_33 : zD prog_1_method_16_code 33 (.aload_n 0) 1 34 := ⟨by decide +kernel, rfl⟩
theorem d_8_years_34 : zD prog_1_method_16_code 34 (.getfield 34) 3 37 := ⟨by decide +kernel, rfl⟩
theorem d_8_years_37 : zD prog_1_method_16_code 37 (.iload_n 1) 1 38 := ⟨by decide +kernel, rfl⟩
theorem d_8_years_38 : zD prog_1_method_16_code 38 (.aload_n 0) 1 39 := ⟨by decide +kernel, rfl⟩
theorem d_8_years_39 : zD prog_1_method_16_code 39 (.getfield 27) 3 42 := ⟨by decide +kernel, rfl⟩
theorem d_8_years_42 : zD prog_1_method_16_code 42 (.getfield 193) 3 45 := ⟨by decide +kernel, rfl⟩
theorem d_8_years_45 : zD prog_1_method_16_code 45 (.invokevirtual 196) 3 48 := ⟨by decide +kernel, rfl⟩
theorem d_8_years_48 : zD prog_1_method_16_code 48 (.aload_n 0) 1 49 := ⟨by decide +kernel, rfl⟩
theorem d_8_years_49 : zD prog_1_method_16_code 49 (.getfield 34) 3 52 := ⟨by decide +kernel, rfl⟩
theorem d_8_years_52 : zD prog_1_method_16_code 52 (.getfield 200) 3 55 := ⟨by decide +kernel, rfl⟩
theorem d_8_years_55 : zD prog_1_method_16_code 55 (.ireturn) 1 56 := ⟨by decide +kernel, rfl⟩
theorem d_8_undo_0 : zD prog_1_method_17_code 0 (.aload_n 0) 1 1 := ⟨by decide +kernel, rfl⟩
theorem d_8_undo_1 : zD prog_1_method_17_code 1 (.getfield 54) 3 4 := ⟨by decide +kernel, rfl⟩
theorem d_8_undo_4 : zD prog_1_method_17_code 4 (.aload_n 0) 1 5 := ⟨by decide +kernel, rfl⟩
theorem d_8_undo_5 : zD prog_1_method_17_code 5 (.getfield 34) 3 8 := ⟨by decide +kernel, rfl⟩
theorem d_8_undo_8 : zD prog_1_method_17_code 8 (.invokevirtual 203) 3 11 := ⟨by decide +kernel, rfl⟩
theorem d_8_undo_11 : zD prog_1_method_17_code 11 (.ireturn) 1 12 := ⟨by decide +kernel, rfl⟩
theorem d_8_heir_0 : zD prog_1_method_18_code 0 (.aload_n 0) 1 1 := ⟨by decide +kernel, rfl⟩
theorem d_8_heir_1 : zD prog_1_method_18_code 1 (.iload_n 1) 1 2 := ⟨by decide +kernel, rfl⟩
theorem d_8_heir_2 : zD prog_1_method_18_code 2 (.invokevirtual 109) 3 5 := ⟨by decide +kernel, rfl⟩
theorem d_8_heir_5 : zD prog_1_method_18_code 5 (.ifCond .ne 5) 3 8 := ⟨by decide +kernel, rfl⟩
theorem d_8_heir_8 : zD prog_1_method_18_code 8 (.iconst (-1)) 1 9 := ⟨by decide +kernel, rfl⟩
theorem d_8_heir_9 : zD prog_1_method_18_code 9 (.ireturn) 1 10 := ⟨by decide +kernel, rfl⟩
theorem d_8_heir_10 : zD prog_1_method_18_code 10 (.aload_n 0) 1 11 := ⟨by decide +kernel, rfl⟩
theorem d_8_heir_11 : zD prog_1_method_18_code 11 (.getfield 34) 3 14 := ⟨by decide +kernel, rfl⟩
theorem d_8_heir_14 : zD prog_1_method_18_code 14 (.iload_n 1) 1 15 := ⟨by decide +kernel, rfl⟩
theorem d_8_heir_15 : zD prog_1_method_18_code 15 (.invokevirtual 207) 3 18 := ⟨by decide +kernel, rfl⟩
theorem d_8_heir_18 : zD prog_1_method_18_code 18 (.ireturn) 1 19 := ⟨by decide +kernel, rfl⟩
theorem d_8_race_0 : zD prog_1_method_19_code 0 (.aload_n 0) 1 1 := ⟨by decide +kernel, rfl⟩
theorem d_8_race_1 : zD prog_1_method_19_code 1 (.iload_n 1) 1 2 := ⟨by decide +kernel, rfl⟩
theorem d_8_race_2 : zD prog_1_method_19_code 2 (.invokevirtual 109) 3 5 := ⟨by decide +kernel, rfl⟩
theorem d_8_race_5 : zD prog_1_method_19_code 5 (.ifCond .ne 5) 3 8 := ⟨by decide +kernel, rfl⟩
theorem d_8_race_8 : zD prog_1_method_19_code 8 (.iconst (-1)) 1 9 := ⟨by decide +kernel, rfl⟩
theorem d_8_race_9 : zD prog_1_method_19_code 9 (.ireturn) 1 10 := ⟨by decide +kernel, rfl⟩
theorem d_8_race_10 : zD prog_1_method_19_code 10 (.aload_n 0) 1 11 := ⟨by decide +kernel, rfl⟩
theorem d_8_race_11 : zD prog_1_method_19_code 11 (.getfield 34) 3 14 := ⟨by decide +kernel, rfl⟩
theorem d_8_race_14 : zD prog_1_method_19_code 14 (.iload_n 1) 1 15 := ⟨by decide +kernel, rfl⟩
theorem d_8_race_15 : zD prog_1_method_19_code 15 (.invokevirtual 116) 3 18 := ⟨by decide +kernel, rfl⟩
theorem d_8_race_18 : zD prog_1_method_19_code 18 (.istore_n 2) 1 19 := ⟨by decide +kernel, rfl⟩
theorem d_8_race_19 : zD prog_1_method_19_code 19 (.aload_n 0) 1 20 := ⟨by decide +kernel, rfl⟩
theorem d_8_race_20 : zD prog_1_method_19_code 20 (.getfield 34) 3 23 := ⟨by decide +kernel, rfl⟩
theorem d_8_race_23 : zD prog_1_method_19_code 23 (.iload_n 1) 1 24 := ⟨by decide +kernel, rfl⟩
theorem d_8_race_24 : zD prog_1_method_19_code 24 (.invokevirtual 207) 3 27 := ⟨by decide +kernel, rfl⟩
theorem d_8_race_27 : zD prog_1_method_19_code 27 (.istore_n 3) 1 28 := ⟨by decide +kernel, rfl⟩
theorem d_8_race_28 : zD prog_1_method_19_code 28 (.iload_n 2) 1 29 := ⟨by decide +kernel, rfl⟩
theorem d_8_race_29 : zD prog_1_method_19_code 29 (.ifCond .lt 7) 3 32 := ⟨by decide +kernel, rfl⟩
theorem d_8_race_32 : zD prog_1_method_19_code 32 (.iload_n 3) 1 33 := ⟨by decide +kernel, rfl⟩
theorem d_8_race_33 : zD prog_1_method_19_code 33 (.ifCond .ge 6) 3 36 := ⟨by decide +kernel, rfl⟩
theorem d_8_race_36 : zD prog_1_method_19_code 36 (.bipush (-2)) 2 38 := ⟨by decide +kernel, rfl⟩
theorem d_8_race_38 : zD prog_1_method_19_code 38 (.ireturn) 1 39 := ⟨by decide +kernel, rfl⟩
theorem d_8_race_39 : zD prog_1_method_19_code 39 (.aload_n 0) 1 40 := ⟨by decide +kernel, rfl⟩
theorem d_8_race_40 : zD prog_1_method_19_code 40 (.getfield 34) 3 43 := ⟨by decide +kernel, rfl⟩
theorem d_8_race_43 : zD prog_1_method_19_code 43 (.getfield 140) 3 46 := ⟨by decide +kernel, rfl⟩
theorem d_8_race_46 : zD prog_1_method_19_code 46 (.iload_n 2) 1 47 := ⟨by decide +kernel, rfl⟩
theorem d_8_race_47 : zD prog_1_method_19_code 47 (.iaload) 1 48 := ⟨by decide +kernel, rfl⟩
theorem d_8_race_48 : zD prog_1_method_19_code 48 (.aload_n 0) 1 49 := ⟨by decide +kernel, rfl⟩
theorem d_8_race_49 : zD prog_1_method_19_code 49 (.getfield 34) 3 52 := ⟨by decide +kernel, rfl⟩
theorem d_8_race_52 : zD prog_1_method_19_code 52 (.getfield 140) 3 55 := ⟨by decide +kernel, rfl⟩
theorem d_8_race_55 : zD prog_1_method_19_code 55 (.iload_n 3) 1 56 := ⟨by decide +kernel, rfl⟩
theorem d_8_race_56 : zD prog_1_method_19_code 56 (.iaload) 1 57 := ⟨by decide +kernel, rfl⟩
theorem d_8_race_57 : zD prog_1_method_19_code 57 (.isub) 1 58 := ⟨by decide +kernel, rfl⟩
theorem d_8_race_58 : zD prog_1_method_19_code 58 (.ireturn) 1 59 := ⟨by decide +kernel, rfl⟩
theorem d_8_gainOnTrial_0 : zD prog_1_method_21_code 0 (.aload_n 0) 1 1 := ⟨by decide +kernel, rfl⟩
theorem d_8_gainOnTrial_1 : zD prog_1_method_21_code 1 (.getfield 75) 3 4 := ⟨by decide +kernel, rfl⟩
theorem d_8_gainOnTrial_4 : zD prog_1_method_21_code 4 (.aload_n 0) 1 5 := ⟨by decide +kernel, rfl⟩
theorem d_8_gainOnTrial_5 : zD prog_1_method_21_code 5 (.getfield 27) 3 8 := ⟨by decide +kernel, rfl⟩
theorem d_8_gainOnTrial_8 : zD prog_1_method_21_code 8 (.aload_n 0) 1 9 := ⟨by decide +kernel, rfl⟩
theorem d_8_gainOnTrial_9 : zD prog_1_method_21_code 9 (.getfield 38) 3 12 := ⟨by decide +kernel, rfl⟩
theorem d_8_gainOnTrial_12 : zD prog_1_method_21_code 12 (.iload_n 2) 1 13 := ⟨by decide +kernel, rfl⟩
theorem d_8_gainOnTrial_13 : zD prog_1_method_21_code 13 (.invokevirtual 216) 3 16 := ⟨by decide +kernel, rfl⟩
theorem d_8_gainOnTrial_16 : zD prog_1_method_21_code 16 (.aload_n 0) 1 17 := ⟨by decide +kernel, rfl⟩
theorem d_8_gainOnTrial_17 : zD prog_1_method_21_code 17 (.getfield 38) 3 20 := ⟨by decide +kernel, rfl⟩
theorem d_8_gainOnTrial_20 : zD prog_1_method_21_code 20 (.getfield 143) 3 23 := ⟨by decide +kernel, rfl⟩
theorem d_8_gainOnTrial_23 : zD prog_1_method_21_code 23 (.iload_n 1) 1 24 := ⟨by decide +kernel, rfl⟩
theorem d_8_gainOnTrial_24 : zD prog_1_method_21_code 24 (.iaload) 1 25 := ⟨by decide +kernel, rfl⟩
theorem d_8_gainOnTrial_25 : zD prog_1_method_21_code 25 (.aload_n 0) 1 26 := ⟨by decide +kernel, rfl⟩
theorem d_8_gainOnTrial_26 : zD prog_1_method_21_code 26 (.getfield 34) 3 29 := ⟨by decide +kernel, rfl⟩
theorem d_8_gainOnTrial_29 : zD prog_1_method_21_code 29 (.getfield 143) 3 32 := ⟨by decide +kernel, rfl⟩
theorem d_8_gainOnTrial_32 : zD prog_1_method_21_code 32 (.iload_n 1) 1 33 := ⟨by decide +kernel, rfl⟩
theorem d_8_gainOnTrial_33 : zD prog_1_method_21_code 33 (.iaload) 1 34 := ⟨by decide +kernel, rfl⟩
theorem d_8_gainOnTrial_34 : zD prog_1_method_21_code 34 (.isub) 1 35 := ⟨by decide +kernel, rfl⟩
theorem d_8_gainOnTrial_35 : zD prog_1_method_21_code 35 (.ireturn) 1 36 := ⟨by decide +kernel, rfl⟩
theorem d_8_gain_0 : zD prog_1_method_20_code 0 (.aload_n 0) 1 1 := ⟨by decide +kernel, rfl⟩
theorem d_8_gain_1 : zD prog_1_method_20_code 1 (.iload_n 1) 1 2 := ⟨by decide +kernel, rfl⟩
theorem d_8_gain_2 : zD prog_1_method_20_code 2 (.invokevirtual 131) 3 5 := ⟨by decide +kernel, rfl⟩
theorem d_8_gain_5 : zD prog_1_method_20_code 5 (.ifCond .eq 11) 3 8 := ⟨by decide +kernel, rfl⟩
theorem d_8_gain_8 : zD prog_1_method_20_code 8 (.iload_n 2) 1 9 := ⟨by decide +kernel, rfl⟩
theorem d_8_gain_9 : zD prog_1_method_20_code 9 (.iconst 0) 1 10 := ⟨by decide +kernel, rfl⟩
theorem d_8_gain_10 : zD prog_1_method_20_code 10 (.invokestatic 190) 3 13 := ⟨by decide +kernel, rfl⟩
theorem d_8_gain_13 : zD prog_1_method_20_code 13 (.ifCond .ne 5) 3 16 := ⟨by decide +kernel, rfl⟩
theorem d_8_gain_16 : zD prog_1_method_20_code 16 (.iconst (-1)) 1 17 := ⟨by decide +kernel, rfl⟩
theorem d_8_gain_17 : zD prog_1_method_20_code 17 (.ireturn) 1 18 := ⟨by decide +kernel, rfl⟩
theorem d_8_gain_18 : zD prog_1_method_20_code 18 (.aload_n 0) 1 19 := ⟨by decide +kernel, rfl⟩
theorem d_8_gain_19 : zD prog_1_method_20_code 19 (.getfield 38) 3 22 := ⟨by decide +kernel, rfl⟩
theorem d_8_gain_22 : zD prog_1_method_20_code 22 (.aload_n 0) 1 23 := ⟨by decide +kernel, rfl⟩
theorem d_8_gain_23 : zD prog_1_method_20_code 23 (.getfield 34) 3 26 := ⟨by decide +kernel, rfl⟩
theorem d_8_gain_26 : zD prog_1_method_20_code 26 (.invokevirtual 210) 3 29 := ⟨by decide +kernel, rfl⟩
theorem d_8_gain_29 : zD prog_1_method_20_code 29 (.aload_n 0) 1 30 := ⟨by decide +kernel, rfl⟩
theorem d_8_gain_30 : zD prog_1_method_20_code 30 (.iload_n 1) 1 31 := ⟨by decide +kernel, rfl⟩
theorem d_8_gain_31 : zD prog_1_method_20_code 31 (.iload_n 2) 1 32 := ⟨by decide +kernel, rfl⟩
theorem d_8_gain_32 : zD prog_1_method_20_code 32 (.invokevirtual 213) 3 35 := ⟨by decide +kernel, rfl⟩
theorem d_8_gain_35 : zD prog_1_method_20_code 35 (.ireturn) 1 36 := ⟨by decide +kernel, rfl⟩
theorem d_8_best_0 : zD prog_1_method_22_code 0 (.aload_n 0) 1 1 := ⟨by decide +kernel, rfl⟩
theorem d_8_best_1 : zD prog_1_method_22_code 1 (.iload_n 1) 1 2 := ⟨by decide +kernel, rfl⟩
theorem d_8_best_2 : zD prog_1_method_22_code 2 (.invokevirtual 131) 3 5 := ⟨by decide +kernel, rfl⟩
theorem d_8_best_5 : zD prog_1_method_22_code 5 (.ifCond .eq 34) 3 8 := ⟨by decide +kernel, rfl⟩
theorem d_8_best_8 : zD prog_1_method_22_code 8 (.aload_n 0) 1 9 := ⟨by decide +kernel, rfl⟩
theorem d_8_best_9 : zD prog_1_method_22_code 9 (.getfield 34) 3 12 := ⟨by decide +kernel, rfl⟩
theorem d_8_best_12 : zD prog_1_method_22_code 12 (.getfield 167) 3 15 := ⟨by decide +kernel, rfl⟩
theorem d_8_best_15 : zD prog_1_method_22_code 15 (.iload_n 1) 1 16 := ⟨by decide +kernel, rfl⟩
theorem d_8_best_16 : zD prog_1_method_22_code 16 (.invokestatic 159) 3 19 := ⟨by decide +kernel, rfl⟩
theorem d_8_best_19 : zD prog_1_method_22_code 19 (.ifCond .eq 20) 3 22 := ⟨by decide +kernel, rfl⟩
theorem d_8_best_22 : zD prog_1_method_22_code 22 (.iload_n 2) 1 23 := ⟨by decide +kernel, rfl⟩
theorem d_8_best_23 : zD prog_1_method_22_code 23 (.iconst 1) 1 24 := ⟨by decide +kernel, rfl⟩
theorem d_8_best_24 : zD prog_1_method_22_code 24 (.invokestatic 190) 3 27 := ⟨by decide +kernel, rfl⟩
theorem d_8_best_27 : zD prog_1_method_22_code 27 (.ifCond .eq 12) 3 30 := ⟨by decide +kernel, rfl⟩
theorem d_8_best_30 : zD prog_1_method_22_code 30 (.iload_n 3) 1 31 := ⟨by decide +kernel, rfl⟩
theorem d_8_best_31 : zD prog_1_method_22_code 31 (.ifCond .lt 8) 3 34 := ⟨by decide +kernel, rfl⟩
theorem d_8_best_34 : zD prog_1_method_22_code 34 (.iload_n 3) 1 35 := ⟨by decide +kernel, rfl⟩
theorem d_8_best_35 : zD prog_1_method_22_code 35 (.iconst 1) 1 36 := ⟨by decide +kernel, rfl⟩
theorem d_8_best_36 : zD prog_1_method_22_code 36 (.if_icmp .le 5) 3 39 := ⟨by decide +kernel, rfl⟩
theorem d_8_best_39 : zD prog_1_method_22_code 39 (.iconst (-1)) 1 40 := ⟨by decide +kernel, rfl⟩
theorem d_8_best_40 : zD prog_1_method_22_code 40 (.ireturn) 1 41 := ⟨by decide +kernel, rfl⟩
theorem d_8_best_41 : zD prog_1_method_22_code 41 (.iconst 0) 1 42 := ⟨by decide +kernel, rfl⟩
theorem d_8_best_42 : zD prog_1_method_22_code 42 (.istore 4) 2 44 := ⟨by decide +kernel, rfl⟩
theorem d_8_best_44 : zD prog_1_method_22_code 44 (.iconst (-1)) 1 45 := ⟨by decide +kernel, rfl⟩
theorem d_8_best_45 : zD prog_1_method_22_code 45 (.istore 5) 2 47 := ⟨by decide +kernel, rfl⟩
theorem d_8_best_47 : zD prog_1_method_22_code 47 (.aload_n 0) 1 48 := ⟨by decide +kernel, rfl⟩
theorem d_8_best_48 : zD prog_1_method_22_code 48 (.getfield 41) 3 51 := ⟨by decide +kernel, rfl⟩
theorem d_8_best_51 : zD prog_1_method_22_code 51 (.aload_n 0) 1 52 := ⟨by decide +kernel, rfl⟩
theorem d_8_best_52 : zD prog_1_method_22_code 52 (.getfield 34) 3 55 := ⟨by decide +kernel, rfl⟩
theorem d_8_best_55 : zD prog_1_method_22_code 55 (.invokevirtual 210) 3 58 := ⟨by decide +kernel, rfl⟩
theorem d_8_best_58 : zD prog_1_method_22_code 58 (.iconst 0) 1 59 := ⟨by decide +kernel, rfl⟩
theorem d_8_best_59 : zD prog_1_method_22_code 59 (.istore 6) 2 61 := ⟨by decide +kernel, rfl⟩
theorem d_8_best_61 : zD prog_1_method_22_code 61 (.iload 6) 2 63 := ⟨by decide +kernel, rfl⟩
theorem d_8_best_63 : zD prog_1_method_22_code 63 (.iload_n 2) 1 64 := ⟨by decide +kernel, rfl⟩
theorem d_8_best_64 : zD prog_1_method_22_code 64 (.if_icmp .ge 75) 3 67 := ⟨by decide +kernel, rfl⟩
theorem d_8_best_67 : zD prog_1_method_22_code 67 (.aload_n 0) 1 68 := ⟨by decide +kernel, rfl⟩
theorem d_8_best_68 : zD prog_1_method_22_code 68 (.getfield 38) 3 71 := ⟨by decide +kernel, rfl⟩
theorem d_8_best_71 : zD prog_1_method_22_code 71 (.aload_n 0) 1 72 := ⟨by decide +kernel, rfl⟩
theorem d_8_best_72 : zD prog_1_method_22_code 72 (.getfield 41) 3 75 := ⟨by decide +kernel, rfl⟩
theorem d_8_best_75 : zD prog_1_method_22_code 75 (.invokevirtual 210) 3 78 := ⟨by decide +kernel, rfl⟩
theorem d_8_best_78 : zD prog_1_method_22_code 78 (.aload_n 0) 1 79 := ⟨by decide +kernel, rfl⟩
theorem d_8_best_79 : zD prog_1_method_22_code 79 (.getfield 38) 3 82 := ⟨by decide +kernel, rfl⟩
theorem d_8_best_82 : zD prog_1_method_22_code 82 (.iload_n 1) 1 83 := ⟨by decide +kernel, rfl⟩
theorem d_8_best_83 : zD prog_1_method_22_code 83 (.invokevirtual 174) 3 86 := ⟨by decide +kernel, rfl⟩
theorem d_8_best_86 : zD prog_1_method_22_code 86 (.aload_n 0) 1 87 := ⟨by decide +kernel, rfl⟩
theorem d_8_best_87 : zD prog_1_method_22_code 87 (.iload_n 1) 1 88 := ⟨by decide +kernel, rfl⟩
theorem d_8_best_88 : zD prog_1_method_22_code 88 (.iload_n 2) 1 89 := ⟨by decide +kernel, rfl⟩
theorem d_8_best_89 : zD prog_1_method_22_code 89 (.iload 6) 2 91 := ⟨by decide +kernel, rfl⟩
theorem d_8_best_91 : zD prog_1_method_22_code 91 (.isub) 1 92 := ⟨by decide +kernel, rfl⟩
theorem d_8_best_92 : zD prog_1_method_22_code 92 (.invokevirtual 213) 3 95 := ⟨by decide +kernel, rfl⟩
theorem d_8_best_95 : zD prog_1_method_22_code 95 (.istore 7) 2 97 := ⟨by decide +kernel, rfl⟩
theorem d_8_best_97 : zD prog_1_method_22_code 97 (.iload 6) 2 99 := ⟨by decide +kernel, rfl⟩
theorem d_8_best_99 : zD prog_1_method_22_code 99 (.ifCond .eq 10) 3 102 := ⟨by decide +kernel, rfl⟩
theorem d_8_best_102 : zD prog_1_method_22_code 102 (.iload 7) 2 104 := ⟨by decide +kernel, rfl⟩
theorem d_8_best_104 : zD prog_1_method_22_code 104 (.iload 5) 2 106 := ⟨by decide +kernel, rfl⟩
theorem d_8_best_106 : zD prog_1_method_22_code 106 (.if_icmp .le 11) 3 109 := ⟨by decide +kernel, rfl⟩
theorem d_8_best_109 : zD prog_1_method_22_code 109 (.iload 6) 2 111 := ⟨by decide +kernel, rfl⟩
theorem d_8_best_111 : zD prog_1_method_22_code 111 (.istore 4) 2 113 := ⟨by decide +kernel, rfl⟩
theorem d_8_best_113 : zD prog_1_method_22_code 113 (.iload 7) 2 115 := ⟨by decide +kernel, rfl⟩
theorem d_8_best_115 : zD prog_1_method_22_code 115 (.istore 5) 2 117 := ⟨by decide +kernel, rfl⟩
theorem d_8_best_117 : zD prog_1_method_22_code 117 (.aload_n 0) 1 118 := ⟨by decide +kernel, rfl⟩
theorem d_8_best_118 : zD prog_1_method_22_code 118 (.getfield 75) 3 121 := ⟨by decide +kernel, rfl⟩
theorem d_8_best_121 : zD prog_1_method_22_code 121 (.aload_n 0) 1 122 := ⟨by decide +kernel, rfl⟩
theorem d_8_best_122 : zD prog_1_method_22_code 122 (.getfield 27) 3 125 := ⟨by decide +kernel, rfl⟩
theorem d_8_best_125 : zD prog_1_method_22_code 125 (.aload_n 0) 1 126 := ⟨by decide +kernel, rfl⟩
theorem d_8_best_126 : zD prog_1_method_22_code 126 (.getfield 41) 3 129 := ⟨by decide +kernel, rfl⟩
theorem d_8_best_129 : zD prog_1_method_22_code 129 (.iconst 1) 1 130 := ⟨by decide +kernel, rfl⟩
theorem d_8_best_130 : zD prog_1_method_22_code 130 (.invokevirtual 216) 3 133 := ⟨by decide +kernel, rfl⟩
theorem d_8_best_133 : zD prog_1_method_22_code 133 (.iinc 6 1) 3 136 := ⟨by decide +kernel, rfl⟩
theorem d_8_best_136 : zD prog_1_method_22_code 136 (.goto (-75)) 3 139 := ⟨by decide +kernel, rfl⟩
theorem d_8_best_139 : zD prog_1_method_22_code 139 (.iload_n 3) 1 140 := ⟨by decide +kernel, rfl⟩
theorem d_8_best_140 : zD prog_1_method_22_code 140 (.ifCond .ne 8) 3 143 := ⟨by decide +kernel, rfl⟩
theorem d_8_best_143 : zD prog_1_method_22_code 143 (.iload 4) 2 145 := ⟨by decide +kernel, rfl⟩
theorem d_8_best_145 : zD prog_1_method_22_code 145 (.goto 5) 3 148 := ⟨by decide +kernel, rfl⟩
theorem d_8_best_148 : zD prog_1_method_22_code 148 (.iload 5) 2 150 := ⟨by decide +kernel, rfl⟩
theorem d_8_best_150 : zD prog_1_method_22_code 150 (.ireturn) 1 151 := ⟨by decide +kernel, rfl⟩
theorem d_8_gainOfOthers_0 : zD prog_1_method_24_code 0 (.aload_n 0) 1 1 := ⟨by decide +kernel, rfl⟩
theorem d_8_gainOfOthers_1 : zD prog_1_method_24_code 1 (.getfield 75) 3 4 := ⟨by decide +kernel, rfl⟩
theorem d_8_gainOfOthers_4 : zD prog_1_method_24_code 4 (.aload_n 0) 1 5 := ⟨by decide +kernel, rfl⟩
theorem d_8_gainOfOthers_5 : zD prog_1_method_24_code 5 (.getfield 27) 3 8 := ⟨by decide +kernel, rfl⟩
theorem d_8_gainOfOthers_8 : zD prog_1_method_24_code 8 (.aload_n 0) 1 9 := ⟨by decide +kernel, rfl⟩
theorem d_8_gainOfOthers_9 : zD prog_1_method_24_code 9 (.getfield 38) 3 12 := ⟨by decide +kernel, rfl⟩
theorem d_8_gainOfOthers_12 : zD prog_1_method_24_code 12 (.iload_n 2) 1 13 := ⟨by decide +kernel, rfl⟩
theorem d_8_gainOfOthers_13 : zD prog_1_method_24_code 13 (.invokevirtual 216) 3 16 := ⟨by decide +kernel, rfl⟩
theorem d_8_gainOfOthers_16 : zD prog_1_method_24_code 16 (.iconst 0) 1 17 := ⟨by decide +kernel, rfl⟩
theorem d_8_gainOfOthers_17 : zD prog_1_method_24_code 17 (.istore_n 3) 1 18 := ⟨by decide +kernel, rfl⟩
theorem d_8_gainOfOthers_18 : zD prog_1_method_24_code 18 (.iconst 0) 1 19 := ⟨by decide +kernel, rfl⟩
theorem d_8_gainOfOthers_19 : zD prog_1_method_24_code 19 (.istore 4) 2 21 := ⟨by decide +kernel, rfl⟩
theorem d_8_gainOfOthers_21 : zD prog_1_method_24_code 21 (.iload 4) 2 23 := ⟨by decide +kernel, rfl⟩
theorem d_8_gainOfOthers_23 : zD prog_1_method_24_code 23 (.aload_n 0) 1 24 := ⟨by decide +kernel, rfl⟩
theorem d_8_gainOfOthers_24 : zD prog_1_method_24_code 24 (.getfield 27) 3 27 := ⟨by decide +kernel, rfl⟩
theorem d_8_gainOfOthers_27 : zD prog_1_method_24_code 27 (.getfield 224) 3 30 := ⟨by decide +kernel, rfl⟩
theorem d_8_gainOfOthers_30 : zD prog_1_method_24_code 30 (.if_icmp .ge 39) 3 33 := ⟨by decide +kernel, rfl⟩
theorem d_8_gainOfOthers_33 : zD prog_1_method_24_code 33 (.iload 4) 2 35 := ⟨by decide +kernel, rfl⟩
theorem d_8_gainOfOthers_35 : zD prog_1_method_24_code 35 (.iload_n 1) 1 36 := ⟨by decide +kernel, rfl⟩
theorem d_8_gainOfOthers_36 : zD prog_1_method_24_code 36 (.if_icmp .eq 27) 3 39 := ⟨by decide +kernel, rfl⟩
theorem d_8_gainOfOthers_39 : zD prog_1_method_24_code 39 (.iload_n 3) 1 40 := ⟨by decide +kernel, rfl⟩
theorem d_8_gainOfOthers_40 : zD prog_1_method_24_code 40 (.aload_n 0) 1 41 := ⟨by decide +kernel, rfl⟩
theorem d_8_gainOfOthers_41 : zD prog_1_method_24_code 41 (.getfield 38) 3 44 := ⟨by decide +kernel, rfl⟩
theorem d_8_gainOfOthers_44 : zD prog_1_method_24_code 44 (.getfield 143) 3 47 := ⟨by decide +kernel, rfl⟩
theorem d_8_gainOfOthers_47 : zD prog_1_method_24_code 47 (.iload 4) 2 49 := ⟨by decide +kernel, rfl⟩
theorem d_8_gainOfOthers_49 : zD prog_1_method_24_code 49 (.iaload) 1 50 := ⟨by decide +kernel, rfl⟩
theorem d_8_gainOfOthers_50 : zD prog_1_method_24_code 50 (.aload_n 0) 1 51 := ⟨by decide +kernel, rfl⟩
theorem d_8_gainOfOthers_51 : zD prog_1_method_24_code 51 (.getfield 34) 3 54 := ⟨by decide +kernel, rfl⟩
theorem d_8_gainOfOthers_54 : zD prog_1_method_24_code 54 (.getfield 143) 3 57 := ⟨by decide +kernel, rfl⟩
theorem d_8_gainOfOthers_57 : zD prog_1_method_24_code 57 (.iload 4) 2 59 := ⟨by decide +kernel, rfl⟩
theorem d_8_gainOfOthers_59 : zD prog_1_method_24_code 59 (.iaload) 1 60 := ⟨by decide +kernel, rfl⟩
theorem d_8_gainOfOthers_60 : zD prog_1_method_24_code 60 (.isub) 1 61 := ⟨by decide +kernel, rfl⟩
theorem d_8_gainOfOthers_61 : zD prog_1_method_24_code 61 (.iadd) 1 62 := ⟨by decide +kernel, rfl⟩
theorem d_8_gainOfOthers_62 : zD prog_1_method_24_code 62 (.istore_n 3) 1 63 := ⟨by decide +kernel, rfl⟩
theorem d_8_gainOfOthers_63 : zD prog_1_method_24_code 63 (.iinc 4 1) 3 66 := ⟨by decide +kernel, rfl⟩
theorem d_8_gainOfOthers_66 : zD prog_1_method_24_code 66 (.goto (-45)) 3 69 := ⟨by decide +kernel, rfl⟩
theorem d_8_gainOfOthers_69 : zD prog_1_method_24_code 69 (.iload_n 3) 1 70 := ⟨by decide +kernel, rfl⟩
theorem d_8_gainOfOthers_70 : zD prog_1_method_24_code 70 (.ireturn) 1 71 := ⟨by decide +kernel, rfl⟩
theorem d_8_loss_0 : zD prog_1_method_23_code 0 (.aload_n 0) 1 1 := ⟨by decide +kernel, rfl⟩
theorem d_8_loss_1 : zD prog_1_method_23_code 1 (.iload_n 1) 1 2 := ⟨by decide +kernel, rfl⟩
theorem d_8_loss_2 : zD prog_1_method_23_code 2 (.invokevirtual 131) 3 5 := ⟨by decide +kernel, rfl⟩
theorem d_8_loss_5 : zD prog_1_method_23_code 5 (.ifCond .eq 25) 3 8 := ⟨by decide +kernel, rfl⟩
theorem d_8_loss_8 : zD prog_1_method_23_code 8 (.aload_n 0) 1 9 := ⟨by decide +kernel, rfl⟩
theorem d_8_loss_9 : zD prog_1_method_23_code 9 (.getfield 34) 3 12 := ⟨by decide +kernel, rfl⟩
theorem d_8_loss_12 : zD prog_1_method_23_code 12 (.getfield 177) 3 15 := ⟨by decide +kernel, rfl⟩
theorem d_8_loss_15 : zD prog_1_method_23_code 15 (.iload_n 1) 1 16 := ⟨by decide +kernel, rfl⟩
theorem d_8_loss_16 : zD prog_1_method_23_code 16 (.invokestatic 159) 3 19 := ⟨by decide +kernel, rfl⟩
theorem d_8_loss_19 : zD prog_1_method_23_code 19 (.ifCond .eq 11) 3 22 := ⟨by decide +kernel, rfl⟩
theorem d_8_loss_22 : zD prog_1_method_23_code 22 (.iload_n 2) 1 23 := ⟨by decide +kernel, rfl⟩
theorem d_8_loss_23 : zD prog_1_method_23_code 23 (.iconst 0) 1 24 := ⟨by decide +kernel, rfl⟩
theorem d_8_loss_24 : zD prog_1_method_23_code 24 (.invokestatic 190) 3 27 := ⟨by decide +kernel, rfl⟩
theorem d_8_loss_27 : zD prog_1_method_23_code 27 (.ifCond .ne 6) 3 30 := ⟨by decide +kernel, rfl⟩
theorem d_8_loss_30 : zD prog_1_method_23_code 30 (.ldc 220) 2 32 := ⟨by decide +kernel, rfl⟩
theorem d_8_loss_32 : zD prog_1_method_23_code 32 (.ireturn) 1 33 := ⟨by decide +kernel, rfl⟩
theorem d_8_loss_33 : zD prog_1_method_23_code 33 (.aload_n 0) 1 34 := ⟨by decide +kernel, rfl⟩
theorem d_8_loss_34 : zD prog_1_method_23_code 34 (.getfield 38) 3 37 := ⟨by decide +kernel, rfl⟩
theorem d_8_loss_37 : zD prog_1_method_23_code 37 (.aload_n 0) 1 38 := ⟨by decide +kernel, rfl⟩
theorem d_8_loss_38 : zD prog_1_method_23_code 38 (.getfield 34) 3 41 := ⟨by decide +kernel, rfl⟩
theorem d_8_loss_41 : zD prog_1_method_23_code 41 (.invokevirtual 210) 3 44 := ⟨by decide +kernel, rfl⟩
theorem d_8_loss_44 : zD prog_1_method_23_code 44 (.aload_n 0) 1 45 := ⟨by decide +kernel, rfl⟩
theorem d_8_loss_45 : zD prog_1_method_23_code 45 (.iload_n 1) 1 46 := ⟨by decide +kernel, rfl⟩
theorem d_8_loss_46 : zD prog_1_method_23_code 46 (.iload_n 2) 1 47 := ⟨by decide +kernel, rfl⟩
theorem d_8_loss_47 : zD prog_1_method_23_code 47 (.invokevirtual 221) 3 50 := ⟨by decide +kernel, rfl⟩
theorem d_8_loss_50 : zD prog_1_method_23_code 50 (.istore_n 3) 1 51 := ⟨by decide +kernel, rfl⟩
theorem d_8_loss_51 : zD prog_1_method_23_code 51 (.aload_n 0) 1 52 := ⟨by decide +kernel, rfl⟩
theorem d_8_loss_52 : zD prog_1_method_23_code 52 (.getfield 38) 3 55 := ⟨by decide +kernel, rfl⟩
theorem d_8_loss_55 : zD prog_1_method_23_code 55 (.aload_n 0) 1 56 := ⟨by decide +kernel, rfl⟩
theorem d_8_loss_56 : zD prog_1_method_23_code 56 (.getfield 34) 3 59 := ⟨by decide +kernel, rfl⟩
theorem d_8_loss_59 : zD prog_1_method_23_code 59 (.invokevirtual 210) 3 62 := ⟨by decide +kernel, rfl⟩
theorem d_8_loss_62 : zD prog_1_method_23_code 62 (.aload_n 0) 1 63 := ⟨by decide +kernel, rfl⟩
theorem d_8_loss_63 : zD prog_1_method_23_code 63 (.getfield 38) 3 66 := ⟨by decide +kernel, rfl⟩
theorem d_8_loss_66 : zD prog_1_method_23_code 66 (.iload_n 1) 1 67 := ⟨by decide +kernel, rfl⟩
theorem d_8_loss_67 : zD prog_1_method_23_code 67 (.invokevirtual 180) 3 70 := ⟨by decide +kernel, rfl⟩
theorem d_8_loss_70 : zD prog_1_method_23_code 70 (.aload_n 0) 1 71 := ⟨by decide +kernel, rfl⟩
theorem d_8_loss_71 : zD prog_1_method_23_code 71 (.iload_n 1) 1 72 := ⟨by decide +kernel, rfl⟩
theorem d_8_loss_72 : zD prog_1_method_23_code 72 (.iload_n 2) 1 73 := ⟨by decide +kernel, rfl⟩
theorem d_8_loss_73 : zD prog_1_method_23_code 73 (.invokevirtual 221) 3 76 := ⟨by decide +kernel, rfl⟩
theorem d_8_loss_76 : zD prog_1_method_23_code 76 (.iload_n 3) 1 77 := ⟨by decide +kernel, rfl⟩
theorem d_8_loss_77 : zD prog_1_method_23_code 77 (.isub) 1 78 := ⟨by decide +kernel, rfl⟩
theorem d_8_loss_78 : zD prog_1_method_23_code 78 (.ireturn) 1 79 := ⟨by decide +kernel, rfl⟩
theorem d_8_canDuel_0 : zD prog_1_method_27_code 0 (.aload_n 0) 1 1 := ⟨by decide +kernel, rfl⟩
theorem d_8_canDuel_1 : zD prog_1_method_27_code 1 (.iload_n 1) 1 2 := ⟨by decide +kernel, rfl⟩
theorem d_8_canDuel_2 : zD prog_1_method_27_code 2 (.invokevirtual 131) 3 5 := ⟨by decide +kernel, rfl⟩
theorem d_8_canDuel_5 : zD prog_1_method_27_code 5 (.ifCond .eq 56) 3 8 := ⟨by decide +kernel, rfl⟩
theorem d_8_canDuel_8 : zD prog_1_method_27_code 8 (.aload_n 0) 1 9 := ⟨by decide +kernel, rfl⟩
theorem d_8_canDuel_9 : zD prog_1_method_27_code 9 (.iload_n 2) 1 10 := ⟨by decide +kernel, rfl⟩
theorem d_8_canDuel_10 : zD prog_1_method_27_code 10 (.invokevirtual 131) 3 13 := ⟨by decide +kernel, rfl⟩
theorem d_8_canDuel_13 : zD prog_1_method_27_code 13 (.ifCond .eq 48) 3 16 := ⟨by decide +kernel, rfl⟩
theorem d_8_canDuel_16 : zD prog_1_method_27_code 16 (.iload_n 1) 1 17 := ⟨by decide +kernel, rfl⟩
theorem d_8_canDuel_17 : zD prog_1_method_27_code 17 (.iload_n 2) 1 18 := ⟨by decide +kernel, rfl⟩
theorem d_8_canDuel_18 : zD prog_1_method_27_code 18 (.if_icmp .eq 43) 3 21 := ⟨by decide +kernel, rfl⟩
theorem d_8_canDuel_21 : zD prog_1_method_27_code 21 (.aload_n 0) 1 22 := ⟨by decide +kernel, rfl⟩
theorem d_8_canDuel_22 : zD prog_1_method_27_code 22 (.getfield 34) 3 25 := ⟨by decide +kernel, rfl⟩
theorem d_8_canDuel_25 : zD prog_1_method_27_code 25 (.getfield 167) 3 28 := ⟨by decide +kernel, rfl⟩
theorem d_8_canDuel_28 : zD prog_1_method_27_code 28 (.iload_n 1) 1 29 := ⟨by decide +kernel, rfl⟩
theorem d_8_canDuel_29 : zD prog_1_method_27_code 29 (.invokestatic 159) 3 32 := ⟨by decide +kernel, rfl⟩
theorem d_8_canDuel_32 : zD prog_1_method_27_code 32 (.ifCond .eq 29) 3 35 := ⟨by decide +kernel, rfl⟩
theorem d_8_canDuel_35 : zD prog_1_method_27_code 35 (.aload_n 0) 1 36 := ⟨by decide +kernel, rfl⟩
theorem d_8_canDuel_36 : zD prog_1_method_27_code 36 (.getfield 34) 3 39 := ⟨by decide +kernel, rfl⟩
theorem d_8_canDuel_39 : zD prog_1_method_27_code 39 (.getfield 167) 3 42 := ⟨by decide +kernel, rfl⟩
theorem d_8_canDuel_42 : zD prog_1_method_27_code 42 (.iload_n 2) 1 43 := ⟨by decide +kernel, rfl⟩
theorem d_8_canDuel_43 : zD prog_1_method_27_code 43 (.invokestatic 159) 3 46 := ⟨by decide +kernel, rfl⟩
theorem d_8_canDuel_46 : zD prog_1_method_27_code 46 (.ifCond .eq 15) 3 49 := ⟨by decide +kernel, rfl⟩
theorem d_8_canDuel_49 : zD prog_1_method_27_code 49 (.iload_n 3) 1 50 := ⟨by decide +kernel, rfl⟩
theorem d_8_canDuel_50 : zD prog_1_method_27_code 50 (.iconst 1) 1 51 := ⟨by decide +kernel, rfl⟩
theorem d_8_canDuel_51 : zD prog_1_method_27_code 51 (.invokestatic 190) 3 54 := ⟨by decide +kernel, rfl⟩
theorem d_8_canDuel_54 : zD prog_1_method_27_code 54 (.ifCond .eq 7) 3 57 := ⟨by decide +kernel, rfl⟩
theorem d_8_canDuel_57 : zD prog_1_method_27_code 57 (.iconst 1) 1 58 := ⟨by decide +kernel, rfl⟩
theorem d_8_canDuel_58 : zD prog_1_method_27_code 58 (.goto 4) 3 61 := ⟨by decide +kernel, rfl⟩
theorem d_8_canDuel_61 : zD prog_1_method_27_code 61 (.iconst 0) 1 62 := ⟨by decide +kernel, rfl⟩
theorem d_8_canDuel_62 : zD prog_1_method_27_code 62 (.ireturn) 1 63 := ⟨by decide +kernel, rfl⟩
theorem d_8_playDuel_0 : zD prog_1_method_28_code 0 (.aload_n 0) 1 1 := ⟨by decide +kernel, rfl⟩
theorem d_8_playDuel_1 : zD prog_1_method_28_code 1 (.getfield 38) 3 4 := ⟨by decide +kernel, rfl⟩
theorem d_8_playDuel_4 : zD prog_1_method_28_code 4 (.aload_n 0) 1 5 := ⟨by decide +kernel, rfl⟩
theorem d_8_playDuel_5 : zD prog_1_method_28_code 5 (.getfield 34) 3 8 := ⟨by decide +kernel, rfl⟩
theorem d_8_playDuel_8 : zD prog_1_method_28_code 8 (.invokevirtual 210) 3 11 := ⟨by decide +kernel, rfl⟩
theorem d_8_playDuel_11 : zD prog_1_method_28_code 11 (.iload 4) 2 13 := ⟨by decide +kernel, rfl⟩
theorem d_8_playDuel_13 : zD prog_1_method_28_code 13 (.iconst 1) 1 14 := ⟨by decide +kernel, rfl⟩
theorem d_8_playDuel_14 : zD prog_1_method_28_code 14 (.iand) 1 15 := ⟨by decide +kernel, rfl⟩
theorem d_8_playDuel_15 : zD prog_1_method_28_code 15 (.ifCond .eq 11) 3 18 := ⟨by decide +kernel, rfl⟩
theorem d_8_playDuel_18 : zD prog_1_method_28_code 18 (.aload_n 0) 1 19 := ⟨by decide +kernel, rfl⟩
theorem d_8_playDuel_19 : zD prog_1_method_28_code 19 (.getfield 38) 3 22 := ⟨by decide +kernel, rfl⟩
theorem d_8_playDuel_22 : zD prog_1_method_28_code 22 (.iload_n 1) 1 23 := ⟨by decide +kernel, rfl⟩
theorem d_8_playDuel_23 : zD prog_1_method_28_code 23 (.invokevirtual 174) 3 26 := ⟨by decide +kernel, rfl⟩
theorem d_8_playDuel_26 : zD prog_1_method_28_code 26 (.iload 4) 2 28 := ⟨by decide +kernel, rfl⟩
theorem d_8_playDuel_28 : zD prog_1_method_28_code 28 (.iconst 2) 1 29 := ⟨by decide +kernel, rfl⟩
theorem d_8_playDuel_29 : zD prog_1_method_28_code 29 (.iand) 1 30 := ⟨by decide +kernel, rfl⟩
theorem d_8_playDuel_30 : zD prog_1_method_28_code 30 (.ifCond .eq 11) 3 33 := ⟨by decide +kernel, rfl⟩
theorem d_8_playDuel_33 : zD prog_1_method_28_code 33 (.aload_n 0) 1 34 := ⟨by decide +kernel, rfl⟩
theorem d_8_playDuel_34 : zD prog_1_method_28_code 34 (.getfield 38) 3 37 := ⟨by decide +kernel, rfl⟩
theorem d_8_playDuel_37 : zD prog_1_method_28_code 37 (.iload_n 2) 1 38 := ⟨by decide +kernel, rfl⟩
theorem d_8_playDuel_38 : zD prog_1_method_28_code 38 (.invokevirtual 174) 3 41 := ⟨by decide +kernel, rfl⟩
theorem d_8_playDuel_41 : zD prog_1_method_28_code 41 (.aload_n 0) 1 42 := ⟨by decide +kernel, rfl⟩
theorem d_8_playDuel_42 : zD prog_1_method_28_code 42 (.getfield 75) 3 45 := ⟨by decide +kernel, rfl⟩
theorem d_8_playDuel_45 : zD prog_1_method_28_code 45 (.aload_n 0) 1 46 := ⟨by decide +kernel, rfl⟩
theorem d_8_playDuel_46 : zD prog_1_method_28_code 46 (.getfield 27) 3 49 := ⟨by decide +kernel, rfl⟩
theorem d_8_playDuel_49 : zD prog_1_method_28_code 49 (.aload_n 0) 1 50 := ⟨by decide +kernel, rfl⟩
theorem d_8_playDuel_50 : zD prog_1_method_28_code 50 (.getfield 38) 3 53 := ⟨by decide +kernel, rfl⟩
theorem d_8_playDuel_53 : zD prog_1_method_28_code 53 (.iload_n 3) 1 54 := ⟨by decide +kernel, rfl⟩
theorem d_8_playDuel_54 : zD prog_1_method_28_code 54 (.invokevirtual 216) 3 57 := ⟨by decide +kernel, rfl⟩
theorem d_8_playDuel_57 : zD prog_1_method_28_code 57 (.aload_n 0) 1 58 := ⟨by decide +kernel, rfl⟩
theorem d_8_playDuel_58 : zD prog_1_method_28_code 58 (.getfield 44) 3 61 := ⟨by decide +kernel, rfl⟩
theorem d_8_playDuel_61 : zD prog_1_method_28_code 61 (.iload 4) 2 63 := ⟨by decide +kernel, rfl⟩
theorem d_8_playDuel_63 : zD prog_1_method_28_code 63 (.aload_n 0) 1 64 := ⟨by decide +kernel, rfl⟩
theorem d_8_playDuel_64 : zD prog_1_method_28_code 64 (.getfield 38) 3 67 := ⟨by decide +kernel, rfl⟩
theorem d_8_playDuel_67 : zD prog_1_method_28_code 67 (.getfield 143) 3 70 := ⟨by decide +kernel, rfl⟩
theorem d_8_playDuel_70 : zD prog_1_method_28_code 70 (.iload_n 1) 1 71 := ⟨by decide +kernel, rfl⟩
theorem d_8_playDuel_71 : zD prog_1_method_28_code 71 (.iaload) 1 72 := ⟨by decide +kernel, rfl⟩
theorem d_8_playDuel_72 : zD prog_1_method_28_code 72 (.aload_n 0) 1 73 := ⟨by decide +kernel, rfl⟩
theorem d_8_playDuel_73 : zD prog_1_method_28_code 73 (.getfield 34) 3 76 := ⟨by decide +kernel, rfl⟩
theorem d_8_playDuel_76 : zD prog_1_method_28_code 76 (.getfield 143) 3 79 := ⟨by decide +kernel, rfl⟩
theorem d_8_playDuel_79 : zD prog_1_method_28_code 79 (.iload_n 1) 1 80 := ⟨by decide +kernel, rfl⟩
theorem d_8_playDuel_80 : zD prog_1_method_28_code 80 (.iaload) 1 81 := ⟨by decide +kernel, rfl⟩
theorem d_8_playDuel_81 : zD prog_1_method_28_code 81 (.isub) 1 82 := ⟨by decide +kernel, rfl⟩
theorem d_8_playDuel_82 : zD prog_1_method_28_code 82 (.iastore) 1 83 := ⟨by decide +kernel, rfl⟩
theorem d_8_playDuel_83 : zD prog_1_method_28_code 83 (.aload_n 0) 1 84 := ⟨by decide +kernel, rfl⟩
theorem d_8_playDuel_84 : zD prog_1_method_28_code 84 (.getfield 48) 3 87 := ⟨by decide +kernel, rfl⟩
theorem d_8_playDuel_87 : zD prog_1_method_28_code 87 (.iload 4) 2 89 := ⟨by decide +kernel, rfl⟩
theorem d_8_playDuel_89 : zD prog_1_method_28_code 89 (.aload_n 0) 1 90 := ⟨by decide +kernel, rfl⟩
theorem d_8_playDuel_90 : zD prog_1_method_28_code 90 (.getfield 38) 3 93 := ⟨by decide +kernel, rfl⟩
theorem d_8_playDuel_93 : zD prog_1_method_28_code 93 (.getfield 143) 3 96 := ⟨by decide +kernel, rfl⟩
theorem d_8_playDuel_96 : zD prog_1_method_28_code 96 (.iload_n 2) 1 97 := ⟨by decide +kernel, rfl⟩
theorem d_8_playDuel_97 : zD prog_1_method_28_code 97 (.iaload) 1 98 := ⟨by decide +kernel, rfl⟩
theorem d_8_playDuel_98 : zD prog_1_method_28_code 98 (.aload_n 0) 1 99 := ⟨by decide +kernel, rfl⟩
theorem d_8_playDuel_99 : zD prog_1_method_28_code 99 (.getfield 34) 3 102 := ⟨by decide +kernel, rfl⟩
theorem d_8_playDuel_102 : zD prog_1_method_28_code 102 (.getfield 143) 3 105 := ⟨by decide +kernel, rfl⟩
theorem d_8_playDuel_105 : zD prog_1_method_28_code 105 (.iload_n 2) 1 106 := ⟨by decide +kernel, rfl⟩
theorem d_8_playDuel_106 : zD prog_1_method_28_code 106 (.iaload) 1 107 := ⟨by decide +kernel, rfl⟩
theorem d_8_playDuel_107 : zD prog_1_method_28_code 107 (.isub) 1 108 := ⟨by decide +kernel, rfl⟩
theorem d_8_playDuel_108 : zD prog_1_method_28_code 108 (.iastore) 1 109 := ⟨by decide +kernel, rfl⟩
theorem d_8_playDuel_109 : zD prog_1_method_28_code 109 (.return_) 1 110 := ⟨by decide +kernel, rfl⟩
theorem d_8_duel_0 : zD prog_1_method_25_code 0 (.aload_n 0) 1 1 := ⟨by decide +kernel, rfl⟩
theorem d_8_duel_1 : zD prog_1_method_25_code 1 (.iload_n 1) 1 2 := ⟨by decide +kernel, rfl⟩
theorem d_8_duel_2 : zD prog_1_method_25_code 2 (.iload_n 2) 1 3 := ⟨by decide +kernel, rfl⟩
theorem d_8_duel_3 : zD prog_1_method_25_code 3 (.iload_n 3) 1 4 := ⟨by decide +kernel, rfl⟩
theorem d_8_duel_4 : zD prog_1_method_25_code 4 (.invokevirtual 227) 3 7 := ⟨by decide +kernel, rfl⟩
theorem d_8_duel_7 : zD prog_1_method_25_code 7 (.ifCond .eq 25) 3 10 := ⟨by decide +kernel, rfl⟩
theorem d_8_duel_10 : zD prog_1_method_25_code 10 (.iload 4) 2 12 := ⟨by decide +kernel, rfl⟩
theorem d_8_duel_12 : zD prog_1_method_25_code 12 (.ifCond .lt 20) 3 15 := ⟨by decide +kernel, rfl⟩
theorem d_8_duel_15 : zD prog_1_method_25_code 15 (.iload 4) 2 17 := ⟨by decide +kernel, rfl⟩
theorem d_8_duel_17 : zD prog_1_method_25_code 17 (.iconst 4) 1 18 := ⟨by decide +kernel, rfl⟩
theorem d_8_duel_18 : zD prog_1_method_25_code 18 (.if_icmp .ge 14) 3 21 := ⟨by decide +kernel, rfl⟩
theorem d_8_duel_21 : zD prog_1_method_25_code 21 (.iload 5) 2 23 := ⟨by decide +kernel, rfl⟩
theorem d_8_duel_23 : zD prog_1_method_25_code 23 (.ifCond .lt 9) 3 26 := ⟨by decide +kernel, rfl⟩
theorem d_8_duel_26 : zD prog_1_method_25_code 26 (.iload 5) 2 28 := ⟨by decide +kernel, rfl⟩
theorem d_8_duel_28 : zD prog_1_method_25_code 28 (.iconst 1) 1 29 := ⟨by decide +kernel, rfl⟩
theorem d_8_duel_29 : zD prog_1_method_25_code 29 (.if_icmp .le 5) 3 32 := ⟨by decide +kernel, rfl⟩
theorem d_8_duel_32 : zD prog_1_method_25_code 32 (.iconst (-1)) 1 33 := ⟨by decide +kernel, rfl⟩
theorem d_8_duel_33 : zD prog_1_method_25_code 33 (.ireturn) 1 34 := ⟨by decide +kernel, rfl⟩
theorem d_8_duel_34 : zD prog_1_method_25_code 34 (.aload_n 0) 1 35 := ⟨by decide +kernel, rfl⟩
theorem d_8_duel_35 : zD prog_1_method_25_code 35 (.iload_n 1) 1 36 := ⟨by decide +kernel, rfl⟩
theorem d_8_duel_36 : zD prog_1_method_25_code 36 (.iload_n 2) 1 37 := ⟨by decide +kernel, rfl⟩
theorem d_8_duel_37 : zD prog_1_method_25_code 37 (.iload_n 3) 1 38 := ⟨by decide +kernel, rfl⟩
theorem d_8_duel_38 : zD prog_1_method_25_code 38 (.iload 4) 2 40 := ⟨by decide +kernel, rfl⟩
theorem d_8_duel_40 : zD prog_1_method_25_code 40 (.invokevirtual 231) 3 43 := ⟨by decide +kernel, rfl⟩
theorem d_8_duel_43 : zD prog_1_method_25_code 43 (.iload 5) 2 45 := ⟨by decide +kernel, rfl⟩
theorem d_8_duel_45 : zD prog_1_method_25_code 45 (.ifCond .ne 13) 3 48 := ⟨by decide +kernel, rfl⟩
theorem d_8_duel_48 : zD prog_1_method_25_code 48 (.aload_n 0) 1 49 := ⟨by decide +kernel, rfl⟩
theorem d_8_duel_49 : zD prog_1_method_25_code 49 (.getfield 44) 3 52 := ⟨by decide +kernel, rfl⟩
theorem d_8_duel_52 : zD prog_1_method_25_code 52 (.iload 4) 2 54 := ⟨by decide +kernel, rfl⟩
theorem d_8_duel_54 : zD prog_1_method_25_code 54 (.iaload) 1 55 := ⟨by decide +kernel, rfl⟩
theorem d_8_duel_55 : zD prog_1_method_25_code 55 (.goto 10) 3 58 := ⟨by decide +kernel, rfl⟩
theorem d_8_duel_58 : zD prog_1_method_25_code 58 (.aload_n 0) 1 59 := ⟨by decide +kernel, rfl⟩
theorem d_8_duel_59 : zD prog_1_method_25_code 59 (.getfield 48) 3 62 := ⟨by decide +kernel, rfl⟩
theorem d_8_duel_62 : zD prog_1_method_25_code 62 (.iload 4) 2 64 := ⟨by decide +kernel, rfl⟩
theorem d_8_duel_64 : zD prog_1_method_25_code 64 (.iaload) 1 65 := ⟨by decide +kernel, rfl⟩
theorem d_8_duel_65 : zD prog_1_method_25_code 65 (.ireturn) 1 66 := ⟨by decide +kernel, rfl⟩
theorem d_8_rest_0 : zD prog_1_method_26_code 0 (.aload_n 0) 1 1 := ⟨by decide +kernel, rfl⟩
theorem d_8_rest_1 : zD prog_1_method_26_code 1 (.iload_n 1) 1 2 := ⟨by decide +kernel, rfl⟩
theorem d_8_rest_2 : zD prog_1_method_26_code 2 (.iload_n 2) 1 3 := ⟨by decide +kernel, rfl⟩
theorem d_8_rest_3 : zD prog_1_method_26_code 3 (.iload_n 3) 1 4 := ⟨by decide +kernel, rfl⟩
theorem d_8_rest_4 : zD prog_1_method_26_code 4 (.invokevirtual 227) 3 7 := ⟨by decide +kernel, rfl⟩
theorem d_8_rest_7 : zD prog_1_method_26_code 7 (.ifCond .ne 5) 3 10 := ⟨by decide +kernel, rfl⟩
theorem d_8_rest_10 : zD prog_1_method_26_code 10 (.iconst (-1)) 1 11 := ⟨by decide +kernel, rfl⟩
theorem d_8_rest_11 : zD prog_1_method_26_code 11 (.ireturn) 1 12 := ⟨by decide +kernel, rfl⟩
theorem d_8_rest_12 : zD prog_1_method_26_code 12 (.iconst 0) 1 13 := ⟨by decide +kernel, rfl⟩
theorem d_8_rest_13 : zD prog_1_method_26_code 13 (.istore 4) 2 15 := ⟨by decide +kernel, rfl⟩
theorem d_8_rest_15 : zD prog_1_method_26_code 15 (.iload 4) 2 17 := ⟨by decide +kernel, rfl⟩
theorem d_8_rest_17 : zD prog_1_method_26_code 17 (.iconst 4) 1 18 := ⟨by decide +kernel, rfl⟩
theorem d_8_rest_18 : zD prog_1_method_26_code 18 (.if_icmp .ge 18) 3 21 := ⟨by decide +kernel, rfl⟩
theorem d_8_rest_21 : zD prog_1_method_26_code 21 (.aload_n 0) 1 22 := ⟨by decide +kernel, rfl⟩
theorem d_8_rest_22 : zD prog_1_method_26_code 22 (.iload_n 1) 1 23 := ⟨by decide +kernel, rfl⟩
theorem d_8_rest_23 : zD prog_1_method_26_code 23 (.iload_n 2) 1 24 := ⟨by decide +kernel, rfl⟩
theorem d_8_rest_24 : zD prog_1_method_26_code 24 (.iload_n 3) 1 25 := ⟨by decide +kernel, rfl⟩
theorem d_8_rest_25 : zD prog_1_method_26_code 25 (.iload 4) 2 27 := ⟨by decide +kernel, rfl⟩
theorem d_8_rest_27 : zD prog_1_method_26_code 27 (.invokevirtual 231) 3 30 := ⟨by decide +kernel, rfl⟩
theorem d_8_rest_30 : zD prog_1_method_26_code 30 (.iinc 4 1) 3 33 := ⟨by decide +kernel, rfl⟩
theorem d_8_rest_33 : zD prog_1_method_26_code 33 (.goto (-18)) 3 36 := ⟨by decide +kernel, rfl⟩
theorem d_8_rest_36 : zD prog_1_method_26_code 36 (.iconst 0) 1 37 := ⟨by decide +kernel, rfl⟩
theorem d_8_rest_37 : zD prog_1_method_26_code 37 (.istore 4) 2 39 := ⟨by decide +kernel, rfl⟩
theorem d_8_rest_39 : zD prog_1_method_26_code 39 (.iconst 0) 1 40 := ⟨by decide +kernel, rfl⟩
theorem d_8_rest_40 : zD prog_1_method_26_code 40 (.istore 5) 2 42 := ⟨by decide +kernel, rfl⟩
theorem d_8_rest_42 : zD prog_1_method_26_code 42 (.iload 5) 2 44 := ⟨by decide +kernel, rfl⟩
theorem d_8_rest_44 : zD prog_1_method_26_code 44 (.iconst 4) 1 45 := ⟨by decide +kernel, rfl⟩
theorem d_8_rest_45 : zD prog_1_method_26_code 45 (.if_icmp .ge 56) 3 48 := ⟨by decide +kernel, rfl⟩
theorem d_8_rest_48 : zD prog_1_method_26_code 48 (.aload_n 0) 1 49 := ⟨by decide +kernel, rfl⟩
theorem d_8_rest_49 : zD prog_1_method_26_code 49 (.getfield 44) 3 52 := ⟨by decide +kernel, rfl⟩
theorem d_8_rest_52 : zD prog_1_method_26_code 52 (.iload 5) 2 54 := ⟨by decide +kernel, rfl⟩
theorem d_8_rest_54 : zD prog_1_method_26_code 54 (.iconst 1) 1 55 := ⟨by decide +kernel, rfl⟩
theorem d_8_rest_55 : zD prog_1_method_26_code 55 (.ixor) 1 56 := ⟨by decide +kernel, rfl⟩
theorem d_8_rest_56 : zD prog_1_method_26_code 56 (.iaload) 1 57 := ⟨by decide +kernel, rfl⟩
theorem d_8_rest_57 : zD prog_1_method_26_code 57 (.aload_n 0) 1 58 := ⟨by decide +kernel, rfl⟩
theorem d_8_rest_58 : zD prog_1_method_26_code 58 (.getfield 44) 3 61 := ⟨by decide +kernel, rfl⟩
theorem d_8_rest_61 : zD prog_1_method_26_code 61 (.iload 5) 2 63 := ⟨by decide +kernel, rfl⟩
theorem d_8_rest_63 : zD prog_1_method_26_code 63 (.iaload) 1 64 := ⟨by decide +kernel, rfl⟩
theorem d_8_rest_64 : zD prog_1_method_26_code 64 (.if_icmp .gt 31) 3 67 := ⟨by decide +kernel, rfl⟩
theorem d_8_rest_67 : zD prog_1_method_26_code 67 (.aload_n 0) 1 68 := ⟨by decide +kernel, rfl⟩
theorem d_8_rest_68 : zD prog_1_method_26_code 68 (.getfield 48) 3 71 := ⟨by decide +kernel, rfl⟩
theorem d_8_rest_71 : zD prog_1_method_26_code 71 (.iload 5) 2 73 := ⟨by decide +kernel, rfl⟩
theorem d_8_rest_73 : zD prog_1_method_26_code 73 (.iconst 2) 1 74 := ⟨by decide +kernel, rfl⟩
theorem d_8_rest_74 : zD prog_1_method_26_code 74 (.ixor) 1 75 := ⟨by decide +kernel, rfl⟩
theorem d_8_rest_75 : zD prog_1_method_26_code 75 (.iaload) 1 76 := ⟨by decide +kernel, rfl⟩
theorem d_8_rest_76 : zD prog_1_method_26_code 76 (.aload_n 0) 1 77 := ⟨by decide +kernel, rfl⟩
theorem d_8_rest_77 : zD prog_1_method_26_code 77 (.getfield 48) 3 80 := ⟨by decide +kernel, rfl⟩
theorem d_8_rest_80 : zD prog_1_method_26_code 80 (.iload 5) 2 82 := ⟨by decide +kernel, rfl⟩
theorem d_8_rest_82 : zD prog_1_method_26_code 82 (.iaload) 1 83 := ⟨by decide +kernel, rfl⟩
theorem d_8_rest_83 : zD prog_1_method_26_code 83 (.if_icmp .gt 12) 3 86 := ⟨by decide +kernel, rfl⟩
theorem d_8_rest_86 : zD prog_1_method_26_code 86 (.iload 4) 2 88 := ⟨by decide +kernel, rfl⟩
theorem d_8_rest_88 : zD prog_1_method_26_code 88 (.iconst 1) 1 89 := ⟨by decide +kernel, rfl⟩
theorem d_8_rest_89 : zD prog_1_method_26_code 89 (.iload 5) 2 91 := ⟨by decide +kernel, rfl⟩
theorem d_8_rest_91 : zD prog_1_method_26_code 91 (.ishl) 1 92 := ⟨by decide +kernel, rfl⟩
theorem d_8_rest_92 : zD prog_1_method_26_code 92 (.ior) 1 93 := ⟨by decide +kernel, rfl⟩
theorem d_8_rest_93 : zD prog_1_method_26_code 93 (.istore 4) 2 95 := ⟨by decide +kernel, rfl⟩
theorem d_8_rest_95 : zD prog_1_method_26_code 95 (.iinc 5 1) 3 98 := ⟨by decide +kernel, rfl⟩
theorem d_8_rest_98 : zD prog_1_method_26_code 98 (.goto (-56)) 3 101 := ⟨by decide +kernel, rfl⟩
theorem d_8_rest_101 : zD prog_1_method_26_code 101 (.iload 4) 2 103 := ⟨by decide +kernel, rfl⟩
theorem d_8_rest_103 : zD prog_1_method_26_code 103 (.ireturn) 1 104 := ⟨by decide +kernel, rfl⟩
theorem d_8_serveAll_0 : zD prog_1_method_33_code 0 (.iconst 0) 1 1 := ⟨by decide +kernel, rfl⟩
theorem d_8_serveAll_1 : zD prog_1_method_33_code 1 (.istore_n 2) 1 2 := ⟨by decide +kernel, rfl⟩
theorem d_8_serveAll_2 : zD prog_1_method_33_code 2 (.iload_n 2) 1 3 := ⟨by decide +kernel, rfl⟩
theorem d_8_serveAll_3 : zD prog_1_method_33_code 3 (.aload_n 0) 1 4 := ⟨by decide +kernel, rfl⟩
theorem d_8_serveAll_4 : zD prog_1_method_33_code 4 (.getfield 27) 3 7 := ⟨by decide +kernel, rfl⟩
theorem d_8_serveAll_7 : zD prog_1_method_33_code 7 (.getfield 156) 3 10 := ⟨by decide +kernel, rfl⟩
theorem d_8_serveAll_10 : zD prog_1_method_33_code 10 (.if_icmp .ge 39) 3 13 := ⟨by decide +kernel, rfl⟩
theorem d_8_serveAll_13 : zD prog_1_method_33_code 13 (.aload_n 0) 1 14 := ⟨by decide +kernel, rfl⟩
theorem d_8_serveAll_14 : zD prog_1_method_33_code 14 (.getfield 34) 3 17 := ⟨by decide +kernel, rfl⟩
theorem d_8_serveAll_17 : zD prog_1_method_33_code 17 (.getfield 120) 3 20 := ⟨by decide +kernel, rfl⟩
theorem d_8_serveAll_20 : zD prog_1_method_33_code 20 (.iload_n 2) 1 21 := ⟨by decide +kernel, rfl⟩
theorem d_8_serveAll_21 : zD prog_1_method_33_code 21 (.iaload) 1 22 := ⟨by decide +kernel, rfl⟩
theorem d_8_serveAll_22 : zD prog_1_method_33_code 22 (.istore_n 3) 1 23 := ⟨by decide +kernel, rfl⟩
theorem d_8_serveAll_23 : zD prog_1_method_33_code 23 (.iload_n 3) 1 24 := ⟨by decide +kernel, rfl⟩
theorem d_8_serveAll_24 : zD prog_1_method_33_code 24 (.aload_n 0) 1 25 := ⟨by decide +kernel, rfl⟩
theorem d_8_serveAll_25 : zD prog_1_method_33_code 25 (.getfield 34) 3 28 := ⟨by decide +kernel, rfl⟩
theorem d_8_serveAll_28 : zD prog_1_method_33_code 28 (.invokevirtual 183) 3 31 := ⟨by decide +kernel, rfl⟩
theorem d_8_serveAll_31 : zD prog_1_method_33_code 31 (.iand) 1 32 := ⟨by decide +kernel, rfl⟩
theorem d_8_serveAll_32 : zD prog_1_method_33_code 32 (.ifCond .eq 11) 3 35 := ⟨by decide +kernel, rfl⟩
theorem d_8_serveAll_35 : zD prog_1_method_33_code 35 (.iload_n 3) 1 36 := ⟨by decide +kernel, rfl⟩
theorem d_8_serveAll_36 : zD prog_1_method_33_code 36 (.iload_n 1) 1 37 := ⟨by decide +kernel, rfl⟩
theorem d_8_serveAll_37 : zD prog_1_method_33_code 37 (.iand) 1 38 := ⟨by decide +kernel, rfl⟩
theorem d_8_serveAll_38 : zD prog_1_method_33_code 38 (.ifCond .ne 5) 3 41 := ⟨by decide +kernel, rfl⟩
theorem d_8_serveAll_41 : zD prog_1_method_33_code 41 (.iconst 0) 1 42 := ⟨by decide +kernel, rfl⟩
theorem d_8_serveAll_42 : zD prog_1_method_33_code 42 (.ireturn) 1 43 := ⟨by decide +kernel, rfl⟩
theorem d_8_serveAll_43 : zD prog_1_method_33_code 43 (.iinc 2 1) 3 46 := ⟨by decide +kernel, rfl⟩
theorem d_8_serveAll_46 : zD prog_1_method_33_code 46 (.goto (-44)) 3 49 := ⟨by decide +kernel, rfl⟩
theorem d_8_serveAll_49 : zD prog_1_method_33_code 49 (.iconst 1) 1 50 := ⟨by decide +kernel, rfl⟩
theorem d_8_serveAll_50 : zD prog_1_method_33_code 50 (.ireturn) 1 51 := ⟨by decide +kernel, rfl⟩
theorem d_8_fewestFor_0 : zD prog_1_method_32_code 0 (.iload_n 1) 1 1 := ⟨by decide +kernel, rfl⟩
theorem d_8_fewestFor_1 : zD prog_1_method_32_code 1 (.istore_n 3) 1 2 := ⟨by decide +kernel, rfl⟩
theorem d_8_fewestFor_2 : zD prog_1_method_32_code 2 (.iconst 0) 1 3 := ⟨by decide +kernel, rfl⟩
theorem d_8_fewestFor_3 : zD prog_1_method_32_code 3 (.istore 4) 2 5 := ⟨by decide +kernel, rfl⟩
theorem d_8_fewestFor_5 : zD prog_1_method_32_code 5 (.iload 4) 2 7 := ⟨by decide +kernel, rfl⟩
theorem d_8_fewestFor_7 : zD prog_1_method_32_code 7 (.iconst 1) 1 8 := ⟨by decide +kernel, rfl⟩
theorem d_8_fewestFor_8 : zD prog_1_method_32_code 8 (.aload_n 0) 1 9 := ⟨by decide +kernel, rfl⟩
theorem d_8_fewestFor_9 : zD prog_1_method_32_code 9 (.getfield 27) 3 12 := ⟨by decide +kernel, rfl⟩
theorem d_8_fewestFor_12 : zD prog_1_method_32_code 12 (.getfield 224) 3 15 := ⟨by decide +kernel, rfl⟩
theorem d_8_fewestFor_15 : zD prog_1_method_32_code 15 (.ishl) 1 16 := ⟨by decide +kernel, rfl⟩
theorem d_8_fewestFor_16 : zD prog_1_method_32_code 16 (.if_icmp .ge 56) 3 19 := ⟨by decide +kernel, rfl⟩
theorem d_8_fewestFor_19 : zD prog_1_method_32_code 19 (.iload 4) 2 21 := ⟨by decide +kernel, rfl⟩
theorem d_8_fewestFor_21 : zD prog_1_method_32_code 21 (.invokestatic 241) 3 24 := ⟨by decide +kernel, rfl⟩
theorem d_8_fewestFor_24 : zD prog_1_method_32_code 24 (.iload_n 3) 1 25 := ⟨by decide +kernel, rfl⟩
theorem d_8_fewestFor_25 : zD prog_1_method_32_code 25 (.invokestatic 241) 3 28 := ⟨by decide +kernel, rfl⟩
theorem d_8_fewestFor_28 : zD prog_1_method_32_code 28 (.if_icmp .ge 7) 3 31 := ⟨by decide +kernel, rfl⟩
theorem d_8_fewestFor_31 : zD prog_1_method_32_code 31 (.iconst 1) 1 32 := ⟨by decide +kernel, rfl⟩
theorem d_8_fewestFor_32 : zD prog_1_method_32_code 32 (.goto 4) 3 35 := ⟨by decide +kernel, rfl⟩
theorem d_8_fewestFor_35 : zD prog_1_method_32_code 35 (.iconst 0) 1 36 := ⟨by decide +kernel, rfl⟩
theorem d_8_fewestFor_36 : zD prog_1_method_32_code 36 (.istore 5) 2 38 := ⟨by decide +kernel, rfl⟩
theorem d_8_fewestFor_38 : zD prog_1_method_32_code 38 (.iload 4) 2 40 := ⟨by decide +kernel, rfl⟩
theorem d_8_fewestFor_40 : zD prog_1_method_32_code 40 (.iload_n 1) 1 41 := ⟨by decide +kernel, rfl⟩
theorem d_8_fewestFor_41 : zD prog_1_method_32_code 41 (.iconst (-1)) 1 42 := ⟨by decide +kernel, rfl⟩
theorem d_8_fewestFor_42 : zD prog_1_method_32_code 42 (.ixor) 1 43 := ⟨by decide +kernel, rfl⟩
theorem d_8_fewestFor_43 : zD prog_1_method_32_code 43 (.iand) 1 44 := ⟨by decide +kernel, rfl⟩
theorem d_8_fewestFor_44 : zD prog_1_method_32_code 44 (.ifCond .ne 22) 3 47 := ⟨by decide +kernel, rfl⟩
theorem d_8_fewestFor_47 : zD prog_1_method_32_code 47 (.iload 5) 2 49 := ⟨by decide +kernel, rfl⟩
theorem d_8_fewestFor_49 : zD prog_1_method_32_code 49 (.ifCond .eq 17) 3 52 := ⟨by decide +kernel, rfl⟩
theorem d_8_fewestFor_52 : zD prog_1_method_32_code 52 (.aload_n 0) 1 53 := ⟨by decide +kernel, rfl⟩
theorem d_8_fewestFor_53 : zD prog_1_method_32_code 53 (.iload 4) 2 55 := ⟨by decide +kernel, rfl⟩
theorem d_8_fewestFor_55 : zD prog_1_method_32_code 55 (.iload_n 2) 1 56 := ⟨by decide +kernel, rfl⟩
theorem d_8_fewestFor_56 : zD prog_1_method_32_code 56 (.ior) 1 57 := ⟨by decide +kernel, rfl⟩
theorem d_8_fewestFor_57 : zD prog_1_method_32_code 57 (.invokevirtual 246) 3 60 := ⟨by decide +kernel, rfl⟩
theorem d_8_fewestFor_60 : zD prog_1_method_32_code 60 (.ifCond .eq 6) 3 63 := ⟨by decide +kernel, rfl⟩
theorem d_8_fewestFor_63 : zD prog_1_method_32_code 63 (.iload 4) 2 65 := ⟨by decide +kernel, rfl⟩
theorem d_8_fewestFor_65 : zD prog_1_method_32_code 65 (.istore_n 3) 1 66 := ⟨by decide +kernel, rfl⟩
theorem d_8_fewestFor_66 : zD prog_1_method_32_code 66 (.iinc 4 1) 3 69 := ⟨by decide +kernel, rfl⟩
theorem d_8_fewestFor_69 : zD prog_1_method_32_code 69 (.goto (-64)) 3 72 := ⟨by decide +kernel, rfl⟩
theorem d_8_fewestFor_72 : zD prog_1_method_32_code 72 (.iload_n 3) 1 73 := ⟨by decide +kernel, rfl⟩
theorem d_8_fewestFor_73 : zD prog_1_method_32_code 73 (.ireturn) 1 74 := ⟨by decide +kernel, rfl⟩
theorem d_8_manyOrWho_0 : zD prog_1_method_31_code 0 (.iload_n 1) 1 1 := ⟨by decide +kernel, rfl⟩
theorem d_8_manyOrWho_1 : zD prog_1_method_31_code 1 (.lookupswitch 34 #[(0, 27), (1, 32)]) 27 28 := ⟨by decide +kernel, rfl⟩
theorem d_8_manyOrWho_28 : zD prog_1_method_31_code 28 (.iload_n 0) 1 29 := ⟨by decide +kernel, rfl⟩
theorem d_8_manyOrWho_29 : zD prog_1_method_31_code 29 (.invokestatic 241) 3 32 := ⟨by decide +kernel, rfl⟩
theorem d_8_manyOrWho_32 : zD prog_1_method_31_code 32 (.ireturn) 1 33 := ⟨by decide +kernel, rfl⟩
theorem d_8_manyOrWho_33 : zD prog_1_method_31_code 33 (.iload_n 0) 1 34 := ⟨by decide +kernel, rfl⟩
theorem d_8_manyOrWho_34 : zD prog_1_method_31_code 34 (.ireturn) 1 35 := ⟨by decide +kernel, rfl⟩
theorem d_8_manyOrWho_35 : zD prog_1_method_31_code 35 (.iconst (-1)) 1 36 := ⟨by decide +kernel, rfl⟩
theorem d_8_manyOrWho_36 : zD prog_1_method_31_code 36 (.ireturn) 1 37 := ⟨by decide +kernel, rfl⟩
theorem d_8_fill_0 : zD prog_1_method_29_code 0 (.aload_n 0) 1 1 := ⟨by decide +kernel, rfl⟩
theorem d_8_fill_1 : zD prog_1_method_29_code 1 (.aload_n 0) 1 2 := ⟨by decide +kernel, rfl⟩
theorem d_8_fill_2 : zD prog_1_method_29_code 2 (.getfield 34) 3 5 := ⟨by decide +kernel, rfl⟩
theorem d_8_fill_5 : zD prog_1_method_29_code 5 (.getfield 167) 3 8 := ⟨by decide +kernel, rfl⟩
theorem d_8_fill_8 : zD prog_1_method_29_code 8 (.aload_n 0) 1 9 := ⟨by decide +kernel, rfl⟩
theorem d_8_fill_9 : zD prog_1_method_29_code 9 (.getfield 34) 3 12 := ⟨by decide +kernel, rfl⟩
theorem d_8_fill_12 : zD prog_1_method_29_code 12 (.getfield 177) 3 15 := ⟨by decide +kernel, rfl⟩
theorem d_8_fill_15 : zD prog_1_method_29_code 15 (.invokevirtual 235) 3 18 := ⟨by decide +kernel, rfl⟩
theorem d_8_fill_18 : zD prog_1_method_29_code 18 (.iload_n 1) 1 19 := ⟨by decide +kernel, rfl⟩
theorem d_8_fill_19 : zD prog_1_method_29_code 19 (.invokestatic 238) 3 22 := ⟨by decide +kernel, rfl⟩
theorem d_8_fill_22 : zD prog_1_method_29_code 22 (.ireturn) 1 23 := ⟨by decide +kernel, rfl⟩
theorem d_8_agents_0 : zD prog_1_method_30_code 0 (.aload_n 0) 1 1 := ⟨by decide +kernel, rfl⟩
theorem d_8_agents_1 : zD prog_1_method_30_code 1 (.aload_n 0) 1 2 := ⟨by decide +kernel, rfl⟩
theorem d_8_agents_2 : zD prog_1_method_30_code 2 (.getfield 34) 3 5 := ⟨by decide +kernel, rfl⟩
theorem d_8_agents_5 : zD prog_1_method_30_code 5 (.invokevirtual 183) 3 8 := ⟨by decide +kernel, rfl⟩
theorem d_8_agents_8 : zD prog_1_method_30_code 8 (.iconst 0) 1 9 := ⟨by decide +kernel, rfl⟩
theorem d_8_agents_9 : zD prog_1_method_30_code 9 (.invokevirtual 235) 3 12 := ⟨by decide +kernel, rfl⟩
theorem d_8_agents_12 : zD prog_1_method_30_code 12 (.iload_n 1) 1 13 := ⟨by decide +kernel, rfl⟩
theorem d_8_agents_13 : zD prog_1_method_30_code 13 (.invokestatic 238) 3 16 := ⟨by decide +kernel, rfl⟩
theorem d_8_agents_16 : zD prog_1_method_30_code 16 (.ireturn) 1 17 := ⟨by decide +kernel, rfl⟩
theorem d_8_richest_0 : zD prog_1_method_34_code 0 (.iload_n 1) 1 1 := ⟨by decide +kernel, rfl⟩
theorem d_8_richest_1 : zD prog_1_method_34_code 1 (.ifCond .lt 8) 3 4 := ⟨by decide +kernel, rfl⟩
theorem d_8_richest_4 : zD prog_1_method_34_code 4 (.iload_n 1) 1 5 := ⟨by decide +kernel, rfl⟩
theorem d_8_richest_5 : zD prog_1_method_34_code 5 (.iconst 1) 1 6 := ⟨by decide +kernel, rfl⟩
theorem d_8_richest_6 : zD prog_1_method_34_code 6 (.if_icmp .le 5) 3 9 := ⟨by decide +kernel, rfl⟩
theorem d_8_richest_9 : zD prog_1_method_34_code 9 (.iconst (-1)) 1 10 := ⟨by decide +kernel, rfl⟩
theorem d_8_richest_10 : zD prog_1_method_34_code 10 (.ireturn) 1 11 := ⟨by decide +kernel, rfl⟩
theorem d_8_richest_11 : zD prog_1_method_34_code 11 (.aload_n 0) 1 12 := ⟨by decide +kernel, rfl⟩
theorem d_8_richest_12 : zD prog_1_method_34_code 12 (.getfield 27) 3 15 := ⟨by decide +kernel, rfl⟩
theorem d_8_richest_15 : zD prog_1_method_34_code 15 (.getfield 224) 3 18 := ⟨by decide +kernel, rfl⟩
theorem d_8_richest_18 : zD prog_1_method_34_code 18 (.ifCond .ne 6) 3 21 := ⟨by decide +kernel, rfl⟩
theorem d_8_richest_21 : zD prog_1_method_34_code 21 (.bipush (-2)) 2 23 := ⟨by decide +kernel, rfl⟩
theorem d_8_richest_23 : zD prog_1_method_34_code 23 (.ireturn) 1 24 := ⟨by decide +kernel, rfl⟩
theorem d_8_richest_24 : zD prog_1_method_34_code 24 (.iconst 0) 1 25 := ⟨by decide +kernel, rfl⟩
theorem d_8_richest_25 : zD prog_1_method_34_code 25 (.istore_n 2) 1 26 := ⟨by decide +kernel, rfl⟩
theorem d_8_richest_26 : zD prog_1_method_34_code 26 (.iconst 1) 1 27 := ⟨by decide +kernel, rfl⟩
theorem d_8_richest_27 : zD prog_1_method_34_code 27 (.istore_n 3) 1 28 := ⟨by decide +kernel, rfl⟩
theorem d_8_richest_28 : zD prog_1_method_34_code 28 (.iload_n 3) 1 29 := ⟨by decide +kernel, rfl⟩
theorem d_8_richest_29 : zD prog_1_method_34_code 29 (.aload_n 0) 1 30 := ⟨by decide +kernel, rfl⟩
theorem d_8_richest_30 : zD prog_1_method_34_code 30 (.getfield 27) 3 33 := ⟨by decide +kernel, rfl⟩
theorem d_8_richest_33 : zD prog_1_method_34_code 33 (.getfield 224) 3 36 := ⟨by decide +kernel, rfl⟩
theorem d_8_richest_36 : zD prog_1_method_34_code 36 (.if_icmp .ge 32) 3 39 := ⟨by decide +kernel, rfl⟩
theorem d_8_richest_39 : zD prog_1_method_34_code 39 (.aload_n 0) 1 40 := ⟨by decide +kernel, rfl⟩
theorem d_8_richest_40 : zD prog_1_method_34_code 40 (.getfield 34) 3 43 := ⟨by decide +kernel, rfl⟩
theorem d_8_richest_43 : zD prog_1_method_34_code 43 (.getfield 143) 3 46 := ⟨by decide +kernel, rfl⟩
theorem d_8_richest_46 : zD prog_1_method_34_code 46 (.iload_n 3) 1 47 := ⟨by decide +kernel, rfl⟩
theorem d_8_richest_47 : zD prog_1_method_34_code 47 (.iaload) 1 48 := ⟨by decide +kernel, rfl⟩
theorem d_8_richest_48 : zD prog_1_method_34_code 48 (.aload_n 0) 1 49 := ⟨by decide +kernel, rfl⟩
theorem d_8_richest_49 : zD prog_1_method_34_code 49 (.getfield 34) 3 52 := ⟨by decide +kernel, rfl⟩
theorem d_8_richest_52 : zD prog_1_method_34_code 52 (.getfield 143) 3 55 := ⟨by decide +kernel, rfl⟩
theorem d_8_richest_55 : zD prog_1_method_34_code 55 (.iload_n 2) 1 56 := ⟨by decide +kernel, rfl⟩
theorem d_8_richest_56 : zD prog_1_method_34_code 56 (.iaload) 1 57 := ⟨by decide +kernel, rfl⟩
theorem d_8_richest_57 : zD prog_1_method_34_code 57 (.if_icmp .le 5) 3 60 := ⟨by decide +kernel, rfl⟩
theorem d_8_richest_60 : zD prog_1_method_34_code 60 (.iload_n 3) 1 61 := ⟨by decide +kernel, rfl⟩
theorem d_8_richest_61 : zD prog_1_method_34_code 61 (.istore_n 2) 1 62 := ⟨by decide +kernel, rfl⟩
theorem d_8_richest_62 : zD prog_1_method_34_code 62 (.iinc 3 1) 3 65 := ⟨by decide +kernel, rfl⟩
theorem d_8_richest_65 : zD prog_1_method_34_code 65 (.goto (-37)) 3 68 := ⟨by decide +kernel, rfl⟩
theorem d_8_richest_68 : zD prog_1_method_34_code 68 (.iload_n 1) 1 69 := ⟨by decide +kernel, rfl⟩
theorem d_8_richest_69 : zD prog_1_method_34_code 69 (.ifCond .ne 7) 3 72 := ⟨by decide +kernel, rfl⟩
theorem d_8_richest_72 : zD prog_1_method_34_code 72 (.iload_n 2) 1 73 := ⟨by decide +kernel, rfl⟩
theorem d_8_richest_73 : zD prog_1_method_34_code 73 (.goto 12) 3 76 := ⟨by decide +kernel, rfl⟩
theorem d_8_richest_76 : zD prog_1_method_34_code 76 (.aload_n 0) 1 77 := ⟨by decide +kernel, rfl⟩
theorem d_8_richest_77 : zD prog_1_method_34_code 77 (.getfield 34) 3 80 := ⟨by decide +kernel, rfl⟩
theorem d_8_richest_80 : zD prog_1_method_34_code 80 (.getfield 143) 3 83 := ⟨by decide +kernel, rfl⟩
theorem d_8_richest_83 : zD prog_1_method_34_code 83 (.iload_n 2) 1 84 := ⟨by decide +kernel, rfl⟩
theorem d_8_richest_84 : zD prog_1_method_34_code 84 (.iaload) 1 85 := ⟨by decide +kernel, rfl⟩
theorem d_8_richest_85 : zD prog_1_method_34_code 85 (.ireturn) 1 86 := ⟨by decide +kernel, rfl⟩
theorem d_8_eldest_0 : zD prog_1_method_35_code 0 (.iload_n 1) 1 1 := ⟨by decide +kernel, rfl⟩
theorem d_8_eldest_1 : zD prog_1_method_35_code 1 (.ifCond .lt 8) 3 4 := ⟨by decide +kernel, rfl⟩
theorem d_8_eldest_4 : zD prog_1_method_35_code 4 (.iload_n 1) 1 5 := ⟨by decide +kernel, rfl⟩
theorem d_8_eldest_5 : zD prog_1_method_35_code 5 (.iconst 1) 1 6 := ⟨by decide +kernel, rfl⟩
theorem d_8_eldest_6 : zD prog_1_method_35_code 6 (.if_icmp .le 5) 3 9 := ⟨by decide +kernel, rfl⟩
theorem d_8_eldest_9 : zD prog_1_method_35_code 9 (.iconst (-1)) 1 10 := ⟨by decide +kernel, rfl⟩
theorem d_8_eldest_10 : zD prog_1_method_35_code 10 (.ireturn) 1 11 := ⟨by decide +kernel, rfl⟩
theorem d_8_eldest_11 : zD prog_1_method_35_code 11 (.bipush (-2)) 2 13 := ⟨by decide +kernel, rfl⟩
theorem d_8_eldest_13 : zD prog_1_method_35_code 13 (.istore_n 2) 1 14 := ⟨by decide +kernel, rfl⟩
theorem d_8_eldest_14 : zD prog_1_method_35_code 14 (.bipush (-2)) 2 16 := ⟨by decide +kernel, rfl⟩
theorem d_8_eldest_16 : zD prog_1_method_35_code 16 (.istore_n 3) 1 17 := ⟨by decide +kernel, rfl⟩
theorem d_8_eldest_17 : zD prog_1_method_35_code 17 (.iconst 0) 1 18 := ⟨by decide +kernel, rfl⟩
theorem d_8_eldest_18 : zD prog_1_method_35_code 18 (.istore 4) 2 20 := ⟨by decide +kernel, rfl⟩
theorem d_8_eldest_20 : zD prog_1_method_35_code 20 (.iload 4) 2 22 := ⟨by decide +kernel, rfl⟩
theorem d_8_eldest_22 : zD prog_1_method_35_code 22 (.aload_n 0) 1 23 := ⟨by decide +kernel, rfl⟩
theorem d_8_eldest_23 : zD prog_1_method_35_code 23 (.getfield 27) 3 26 := ⟨by decide +kernel, rfl⟩
theorem d_8_eldest_26 : zD prog_1_method_35_code 26 (.getfield 224) 3 29 := ⟨by decide +kernel, rfl⟩
theorem d_8_eldest_29 : zD prog_1_method_35_code 29 (.if_icmp .ge 54) 3 32 := ⟨by decide +kernel, rfl⟩
theorem d_8_eldest_32 : zD prog_1_method_35_code 32 (.aload_n 0) 1 33 := ⟨by decide +kernel, rfl⟩
theorem d_8_eldest_33 : zD prog_1_method_35_code 33 (.getfield 34) 3 36 := ⟨by decide +kernel, rfl⟩
theorem d_8_eldest_36 : zD prog_1_method_35_code 36 (.getfield 134) 3 39 := ⟨by decide +kernel, rfl⟩
theorem d_8_eldest_39 : zD prog_1_method_35_code 39 (.iload 4) 2 41 := ⟨by decide +kernel, rfl⟩
theorem d_8_eldest_41 : zD prog_1_method_35_code 41 (.iaload) 1 42 := ⟨by decide +kernel, rfl⟩
theorem d_8_eldest_42 : zD prog_1_method_35_code 42 (.istore 5) 2 44 := ⟨by decide +kernel, rfl⟩
theorem d_8_eldest_44 : zD prog_1_method_35_code 44 (.aload_n 0) 1 45 := ⟨by decide +kernel, rfl⟩
theorem d_8_eldest_45 : zD prog_1_method_35_code 45 (.getfield 34) 3 48 := ⟨by decide +kernel, rfl⟩
theorem d_8_eldest_48 : zD prog_1_method_35_code 48 (.invokevirtual 183) 3 51 := ⟨by decide +kernel, rfl⟩
theorem d_8_eldest_51 : zD prog_1_method_35_code 51 (.iload 4) 2 53 := ⟨by decide +kernel, rfl⟩
theorem d_8_eldest_53 : zD prog_1_method_35_code 53 (.invokestatic 159) 3 56 := ⟨by decide +kernel, rfl⟩
theorem d_8_eldest_56 : zD prog_1_method_35_code 56 (.ifCond .eq 21) 3 59 := ⟨by decide +kernel, rfl⟩
theorem d_8_eldest_59 : zD prog_1_method_35_code 59 (.iload_n 2) 1 60 := ⟨by decide +kernel, rfl⟩
theorem d_8_eldest_60 : zD prog_1_method_35_code 60 (.bipush (-2)) 2 62 := ⟨by decide +kernel, rfl⟩
theorem d_8_eldest_62 : zD prog_1_method_35_code 62 (.if_icmp .eq 9) 3 65 := ⟨by decide +kernel, rfl⟩
theorem d_8_eldest_65 : zD prog_1_method_35_code 65 (.iload 5) 2 67 := ⟨by decide +kernel, rfl⟩
theorem d_8_eldest_67 : zD prog_1_method_35_code 67 (.iload_n 3) 1 68 := ⟨by decide +kernel, rfl⟩
theorem d_8_eldest_68 : zD prog_1_method_35_code 68 (.if_icmp .le 9) 3 71 := ⟨by decide +kernel, rfl⟩
theorem d_8_eldest_71 : zD prog_1_method_35_code 71 (.iload 4) 2 73 := ⟨by decide +kernel, rfl⟩
theorem d_8_eldest_73 : zD prog_1_method_35_code 73 (.istore_n 2) 1 74 := ⟨by decide +kernel, rfl⟩
theorem d_8_eldest_74 : zD prog_1_method_35_code 74 (.iload 5) 2 76 := ⟨by decide +kernel, rfl⟩
theorem d_8_eldest_76 : zD prog_1_method_35_code 76 (.istore_n 3) 1 77 := ⟨by decide +kernel, rfl⟩
theorem d_8_eldest_77 : zD prog_1_method_35_code 77 (.iinc 4 1) 3 80 := ⟨by decide +kernel, rfl⟩
theorem d_8_eldest_80 : zD prog_1_method_35_code 80 (.goto (-60)) 3 83 := ⟨by decide +kernel, rfl⟩
theorem d_8_eldest_83 : zD prog_1_method_35_code 83 (.iload_n 1) 1 84 := ⟨by decide +kernel, rfl⟩
theorem d_8_eldest_84 : zD prog_1_method_35_code 84 (.ifCond .ne 7) 3 87 := ⟨by decide +kernel, rfl⟩
theorem d_8_eldest_87 : zD prog_1_method_35_code 87 (.iload_n 2) 1 88 := ⟨by decide +kernel, rfl⟩
theorem d_8_eldest_88 : zD prog_1_method_35_code 88 (.goto 4) 3 91 := ⟨by decide +kernel, rfl⟩
theorem d_8_eldest_91 : zD prog_1_method_35_code 91 (.iload_n 3) 1 92 := ⟨by decide +kernel, rfl⟩
theorem d_8_eldest_92 : zD prog_1_method_35_code 92 (.ireturn) 1 93 := ⟨by decide +kernel, rfl⟩
theorem d_8_suitedTo_0 : zD prog_1_method_39_code 0 (.iconst 0) 1 1 := ⟨by decide +kernel, rfl⟩
theorem d_8_suitedTo_1 : zD prog_1_method_39_code 1 (.istore_n 2) 1 2 := ⟨by decide +kernel, rfl⟩
theorem d_8_suitedTo_2 : zD prog_1_method_39_code 2 (.iconst 0) 1 3 := ⟨by decide +kernel, rfl⟩
theorem d_8_suitedTo_3 : zD prog_1_method_39_code 3 (.istore_n 3) 1 4 := ⟨by decide +kernel, rfl⟩
theorem d_8_suitedTo_4 : zD prog_1_method_39_code 4 (.iload_n 3) 1 5 := ⟨by decide +kernel, rfl⟩
theorem d_8_suitedTo_5 : zD prog_1_method_39_code 5 (.aload_n 0) 1 6 := ⟨by decide +kernel, rfl⟩
theorem d_8_suitedTo_6 : zD prog_1_method_39_code 6 (.getfield 27) 3 9 := ⟨by decide +kernel, rfl⟩
theorem d_8_suitedTo_9 : zD prog_1_method_39_code 9 (.getfield 156) 3 12 := ⟨by decide +kernel, rfl⟩
theorem d_8_suitedTo_12 : zD prog_1_method_39_code 12 (.if_icmp .ge 37) 3 15 := ⟨by decide +kernel, rfl⟩
theorem d_8_suitedTo_15 : zD prog_1_method_39_code 15 (.iload_n 1) 1 16 := ⟨by decide +kernel, rfl⟩
theorem d_8_suitedTo_16 : zD prog_1_method_39_code 16 (.iload_n 3) 1 17 := ⟨by decide +kernel, rfl⟩
theorem d_8_suitedTo_17 : zD prog_1_method_39_code 17 (.invokestatic 159) 3 20 := ⟨by decide +kernel, rfl⟩
theorem d_8_suitedTo_20 : zD prog_1_method_39_code 20 (.ifCond .eq 23) 3 23 := ⟨by decide +kernel, rfl⟩
theorem d_8_suitedTo_23 : zD prog_1_method_39_code 23 (.iload_n 2) 1 24 := ⟨by decide +kernel, rfl⟩
theorem d_8_suitedTo_24 : zD prog_1_method_39_code 24 (.aload_n 0) 1 25 := ⟨by decide +kernel, rfl⟩
theorem d_8_suitedTo_25 : zD prog_1_method_39_code 25 (.getfield 34) 3 28 := ⟨by decide +kernel, rfl⟩
theorem d_8_suitedTo_28 : zD prog_1_method_39_code 28 (.getfield 120) 3 31 := ⟨by decide +kernel, rfl⟩
theorem d_8_suitedTo_31 : zD prog_1_method_39_code 31 (.iload_n 3) 1 32 := ⟨by decide +kernel, rfl⟩
theorem d_8_suitedTo_32 : zD prog_1_method_39_code 32 (.iaload) 1 33 := ⟨by decide +kernel, rfl⟩
theorem d_8_suitedTo_33 : zD prog_1_method_39_code 33 (.aload_n 0) 1 34 := ⟨by decide +kernel, rfl⟩
theorem d_8_suitedTo_34 : zD prog_1_method_39_code 34 (.getfield 34) 3 37 := ⟨by decide +kernel, rfl⟩
theorem d_8_suitedTo_37 : zD prog_1_method_39_code 37 (.getfield 177) 3 40 := ⟨by decide +kernel, rfl⟩
theorem d_8_suitedTo_40 : zD prog_1_method_39_code 40 (.iand) 1 41 := ⟨by decide +kernel, rfl⟩
theorem d_8_suitedTo_41 : zD prog_1_method_39_code 41 (.ior) 1 42 := ⟨by decide +kernel, rfl⟩
theorem d_8_suitedTo_42 : zD prog_1_method_39_code 42 (.istore_n 2) 1 43 := ⟨by decide +kernel, rfl⟩
theorem d_8_suitedTo_43 : zD prog_1_method_39_code 43 (.iinc 3 1) 3 46 := ⟨by decide +kernel, rfl⟩
theorem d_8_suitedTo_46 : zD prog_1_method_39_code 46 (.goto (-42)) 3 49 := ⟨by decide +kernel, rfl⟩
theorem d_8_suitedTo_49 : zD prog_1_method_39_code 49 (.iload_n 2) 1 50 := ⟨by decide +kernel, rfl⟩
theorem d_8_suitedTo_50 : zD prog_1_method_39_code 50 (.ireturn) 1 51 := ⟨by decide +kernel, rfl⟩
theorem d_8_mostLords_0 : zD prog_1_method_38_code 0 (.iconst 0) 1 1 := ⟨by decide +kernel, rfl⟩
theorem d_8_mostLords_1 : zD prog_1_method_38_code 1 (.istore_n 3) 1 2 := ⟨by decide +kernel, rfl⟩
theorem d_8_mostLords_2 : zD prog_1_method_38_code 2 (.iconst 0) 1 3 := ⟨by decide +kernel, rfl⟩
theorem d_8_mostLords_3 : zD prog_1_method_38_code 3 (.istore 4) 2 5 := ⟨by decide +kernel, rfl⟩
theorem d_8_mostLords_5 : zD prog_1_method_38_code 5 (.iload 4) 2 7 := ⟨by decide +kernel, rfl⟩
theorem d_8_mostLords_7 : zD prog_1_method_38_code 7 (.iconst 1) 1 8 := ⟨by decide +kernel, rfl⟩
theorem d_8_mostLords_8 : zD prog_1_method_38_code 8 (.aload_n 0) 1 9 := ⟨by decide +kernel, rfl⟩
theorem d_8_mostLords_9 : zD prog_1_method_38_code 9 (.getfield 27) 3 12 := ⟨by decide +kernel, rfl⟩
theorem d_8_mostLords_12 : zD prog_1_method_38_code 12 (.getfield 156) 3 15 := ⟨by decide +kernel, rfl⟩
theorem d_8_mostLords_15 : zD prog_1_method_38_code 15 (.ishl) 1 16 := ⟨by decide +kernel, rfl⟩
theorem d_8_mostLords_16 : zD prog_1_method_38_code 16 (.if_icmp .ge 44) 3 19 := ⟨by decide +kernel, rfl⟩
theorem d_8_mostLords_19 : zD prog_1_method_38_code 19 (.iload 4) 2 21 := ⟨by decide +kernel, rfl⟩
theorem d_8_mostLords_21 : zD prog_1_method_38_code 21 (.iconst 1) 1 22 := ⟨by decide +kernel, rfl⟩
theorem d_8_mostLords_22 : zD prog_1_method_38_code 22 (.iload_n 1) 1 23 := ⟨by decide +kernel, rfl⟩
theorem d_8_mostLords_23 : zD prog_1_method_38_code 23 (.ishl) 1 24 := ⟨by decide +kernel, rfl⟩
theorem d_8_mostLords_24 : zD prog_1_method_38_code 24 (.iconst 1) 1 25 := ⟨by decide +kernel, rfl⟩
theorem d_8_mostLords_25 : zD prog_1_method_38_code 25 (.isub) 1 26 := ⟨by decide +kernel, rfl⟩
theorem d_8_mostLords_26 : zD prog_1_method_38_code 26 (.iand) 1 27 := ⟨by decide +kernel, rfl⟩
theorem d_8_mostLords_27 : zD prog_1_method_38_code 27 (.ifCond .ne 27) 3 30 := ⟨by decide +kernel, rfl⟩
theorem d_8_mostLords_30 : zD prog_1_method_38_code 30 (.iload_n 3) 1 31 := ⟨by decide +kernel, rfl⟩
theorem d_8_mostLords_31 : zD prog_1_method_38_code 31 (.iload 4) 2 33 := ⟨by decide +kernel, rfl⟩
theorem d_8_mostLords_33 : zD prog_1_method_38_code 33 (.invokestatic 241) 3 36 := ⟨by decide +kernel, rfl⟩
theorem d_8_mostLords_36 : zD prog_1_method_38_code 36 (.aload_n 0) 1 37 := ⟨by decide +kernel, rfl⟩
theorem d_8_mostLords_37 : zD prog_1_method_38_code 37 (.iload 4) 2 39 := ⟨by decide +kernel, rfl⟩
theorem d_8_mostLords_39 : zD prog_1_method_38_code 39 (.invokevirtual 255) 3 42 := ⟨by decide +kernel, rfl⟩
theorem d_8_mostLords_42 : zD prog_1_method_38_code 42 (.iload_n 2) 1 43 := ⟨by decide +kernel, rfl⟩
theorem d_8_mostLords_43 : zD prog_1_method_38_code 43 (.iconst (-1)) 1 44 := ⟨by decide +kernel, rfl⟩
theorem d_8_mostLords_44 : zD prog_1_method_38_code 44 (.ixor) 1 45 := ⟨by decide +kernel, rfl⟩
theorem d_8_mostLords_45 : zD prog_1_method_38_code 45 (.iand) 1 46 := ⟨by decide +kernel, rfl⟩
theorem d_8_mostLords_46 : zD prog_1_method_38_code 46 (.invokestatic 241) 3 49 := ⟨by decide +kernel, rfl⟩
theorem d_8_mostLords_49 : zD prog_1_method_38_code 49 (.isub) 1 50 := ⟨by decide +kernel, rfl⟩
theorem d_8_mostLords_50 : zD prog_1_method_38_code 50 (.invokestatic 258) 3 53 := ⟨by decide +kernel, rfl⟩
theorem d_8_mostLords_53 : zD prog_1_method_38_code 53 (.istore_n 3) 1 54 := ⟨by decide +kernel, rfl⟩
theorem d_8_mostLords_54 : zD prog_1_method_38_code 54 (.iinc 4 1) 3 57 := ⟨by decide +kernel, rfl⟩
theorem d_8_mostLords_57 : zD prog_1_method_38_code 57 (.goto (-52)) 3 60 := ⟨by decide +kernel, rfl⟩
theorem d_8_mostLords_60 : zD prog_1_method_38_code 60 (.aload_n 0) 1 61 := ⟨by decide +kernel, rfl⟩
theorem d_8_mostLords_61 : zD prog_1_method_38_code 61 (.getfield 27) 3 64 := ⟨by decide +kernel, rfl⟩
theorem d_8_mostLords_64 : zD prog_1_method_38_code 64 (.getfield 156) 3 67 := ⟨by decide +kernel, rfl⟩
theorem d_8_mostLords_67 : zD prog_1_method_38_code 67 (.iload_n 1) 1 68 := ⟨by decide +kernel, rfl⟩
theorem d_8_mostLords_68 : zD prog_1_method_38_code 68 (.isub) 1 69 := ⟨by decide +kernel, rfl⟩
theorem d_8_mostLords_69 : zD prog_1_method_38_code 69 (.iload_n 3) 1 70 := ⟨by decide +kernel, rfl⟩
theorem d_8_mostLords_70 : zD prog_1_method_38_code 70 (.isub) 1 71 := ⟨by decide +kernel, rfl⟩
theorem d_8_mostLords_71 : zD prog_1_method_38_code 71 (.ireturn) 1 72 := ⟨by decide +kernel, rfl⟩
theorem d_8_lordGiven_0 : zD prog_1_method_37_code 0 (.aload_n 0) 1 1 := ⟨by decide +kernel, rfl⟩
theorem d_8_lordGiven_1 : zD prog_1_method_37_code 1 (.iload_n 1) 1 2 := ⟨by decide +kernel, rfl⟩
theorem d_8_lordGiven_2 : zD prog_1_method_37_code 2 (.iload_n 2) 1 3 := ⟨by decide +kernel, rfl⟩
theorem d_8_lordGiven_3 : zD prog_1_method_37_code 3 (.invokevirtual 249) 3 6 := ⟨by decide +kernel, rfl⟩
theorem d_8_lordGiven_6 : zD prog_1_method_37_code 6 (.istore_n 3) 1 7 := ⟨by decide +kernel, rfl⟩
theorem d_8_lordGiven_7 : zD prog_1_method_37_code 7 (.aload_n 0) 1 8 := ⟨by decide +kernel, rfl⟩
theorem d_8_lordGiven_8 : zD prog_1_method_37_code 8 (.getfield 34) 3 11 := ⟨by decide +kernel, rfl⟩
theorem d_8_lordGiven_11 : zD prog_1_method_37_code 11 (.getfield 120) 3 14 := ⟨by decide +kernel, rfl⟩
theorem d_8_lordGiven_14 : zD prog_1_method_37_code 14 (.iload_n 1) 1 15 := ⟨by decide +kernel, rfl⟩
theorem d_8_lordGiven_15 : zD prog_1_method_37_code 15 (.iaload) 1 16 := ⟨by decide +kernel, rfl⟩
theorem d_8_lordGiven_16 : zD prog_1_method_37_code 16 (.aload_n 0) 1 17 := ⟨by decide +kernel, rfl⟩
theorem d_8_lordGiven_17 : zD prog_1_method_37_code 17 (.getfield 34) 3 20 := ⟨by decide +kernel, rfl⟩
theorem d_8_lordGiven_20 : zD prog_1_method_37_code 20 (.getfield 177) 3 23 := ⟨by decide +kernel, rfl⟩
theorem d_8_lordGiven_23 : zD prog_1_method_37_code 23 (.iand) 1 24 := ⟨by decide +kernel, rfl⟩
theorem d_8_lordGiven_24 : zD prog_1_method_37_code 24 (.iload_n 2) 1 25 := ⟨by decide +kernel, rfl⟩
theorem d_8_lordGiven_25 : zD prog_1_method_37_code 25 (.iconst (-1)) 1 26 := ⟨by decide +kernel, rfl⟩
theorem d_8_lordGiven_26 : zD prog_1_method_37_code 26 (.ixor) 1 27 := ⟨by decide +kernel, rfl⟩
theorem d_8_lordGiven_27 : zD prog_1_method_37_code 27 (.iand) 1 28 := ⟨by decide +kernel, rfl⟩
theorem d_8_lordGiven_28 : zD prog_1_method_37_code 28 (.istore 4) 2 30 := ⟨by decide +kernel, rfl⟩
theorem d_8_lordGiven_30 : zD prog_1_method_37_code 30 (.iconst 0) 1 31 := ⟨by decide +kernel, rfl⟩
theorem d_8_lordGiven_31 : zD prog_1_method_37_code 31 (.istore 5) 2 33 := ⟨by decide +kernel, rfl⟩
theorem d_8_lordGiven_33 : zD prog_1_method_37_code 33 (.iload 5) 2 35 := ⟨by decide +kernel, rfl⟩
theorem d_8_lordGiven_35 : zD prog_1_method_37_code 35 (.aload_n 0) 1 36 := ⟨by decide +kernel, rfl⟩
theorem d_8_lordGiven_36 : zD prog_1_method_37_code 36 (.getfield 27) 3 39 := ⟨by decide +kernel, rfl⟩
theorem d_8_lordGiven_39 : zD prog_1_method_37_code 39 (.getfield 224) 3 42 := ⟨by decide +kernel, rfl⟩
theorem d_8_lordGiven_42 : zD prog_1_method_37_code 42 (.if_icmp .ge 41) 3 45 := ⟨by decide +kernel, rfl⟩
theorem d_8_lordGiven_45 : zD prog_1_method_37_code 45 (.iload 4) 2 47 := ⟨by decide +kernel, rfl⟩
theorem d_8_lordGiven_47 : zD prog_1_method_37_code 47 (.iload 5) 2 49 := ⟨by decide +kernel, rfl⟩
theorem d_8_lordGiven_49 : zD prog_1_method_37_code 49 (.invokestatic 159) 3 52 := ⟨by decide +kernel, rfl⟩
theorem d_8_lordGiven_52 : zD prog_1_method_37_code 52 (.ifCond .eq 25) 3 55 := ⟨by decide +kernel, rfl⟩
theorem d_8_lordGiven_55 : zD prog_1_method_37_code 55 (.iconst 1) 1 56 := ⟨by decide +kernel, rfl⟩
theorem d_8_lordGiven_56 : zD prog_1_method_37_code 56 (.aload_n 0) 1 57 := ⟨by decide +kernel, rfl⟩
theorem d_8_lordGiven_57 : zD prog_1_method_37_code 57 (.iload_n 1) 1 58 := ⟨by decide +kernel, rfl⟩
theorem d_8_lordGiven_58 : zD prog_1_method_37_code 58 (.iconst 1) 1 59 := ⟨by decide +kernel, rfl⟩
theorem d_8_lordGiven_59 : zD prog_1_method_37_code 59 (.iadd) 1 60 := ⟨by decide +kernel, rfl⟩
theorem d_8_lordGiven_60 : zD prog_1_method_37_code 60 (.iload_n 2) 1 61 := ⟨by decide +kernel, rfl⟩
theorem d_8_lordGiven_61 : zD prog_1_method_37_code 61 (.iconst 1) 1 62 := ⟨by decide +kernel, rfl⟩
theorem d_8_lordGiven_62 : zD prog_1_method_37_code 62 (.iload 5) 2 64 := ⟨by decide +kernel, rfl⟩
theorem d_8_lordGiven_64 : zD prog_1_method_37_code 64 (.ishl) 1 65 := ⟨by decide +kernel, rfl⟩
theorem d_8_lordGiven_65 : zD prog_1_method_37_code 65 (.ior) 1 66 := ⟨by decide +kernel, rfl⟩
theorem d_8_lordGiven_66 : zD prog_1_method_37_code 66 (.invokevirtual 249) 3 69 := ⟨by decide +kernel, rfl⟩
theorem d_8_lordGiven_69 : zD prog_1_method_37_code 69 (.iadd) 1 70 := ⟨by decide +kernel, rfl⟩
theorem d_8_lordGiven_70 : zD prog_1_method_37_code 70 (.iload_n 3) 1 71 := ⟨by decide +kernel, rfl⟩
theorem d_8_lordGiven_71 : zD prog_1_method_37_code 71 (.if_icmp .ne 6) 3 74 := ⟨by decide +kernel, rfl⟩
theorem d_8_lordGiven_74 : zD prog_1_method_37_code 74 (.iload 5) 2 76 := ⟨by decide +kernel, rfl⟩
theorem d_8_lordGiven_76 : zD prog_1_method_37_code 76 (.ireturn) 1 77 := ⟨by decide +kernel, rfl⟩
theorem d_8_lordGiven_77 : zD prog_1_method_37_code 77 (.iinc 5 1) 3 80 := ⟨by decide +kernel, rfl⟩
theorem d_8_lordGiven_80 : zD prog_1_method_37_code 80 (.goto (-47)) 3 83 := ⟨by decide +kernel, rfl⟩
theorem d_8_lordGiven_83 : zD prog_1_method_37_code 83 (.bipush (-2)) 2 85 := ⟨by decide +kernel, rfl⟩
theorem d_8_lordGiven_85 : zD prog_1_method_37_code 85 (.ireturn) 1 86 := ⟨by decide +kernel, rfl⟩
theorem d_8_lords_0 : zD prog_1_method_36_code 0 (.iload_n 1) 1 1 := ⟨by decide +kernel, rfl⟩
theorem d_8_lords_1 : zD prog_1_method_36_code 1 (.iconst (-1)) 1 2 := ⟨by decide +kernel, rfl⟩
theorem d_8_lords_2 : zD prog_1_method_36_code 2 (.if_icmp .ne 10) 3 5 := ⟨by decide +kernel, rfl⟩
theorem d_8_lords_5 : zD prog_1_method_36_code 5 (.aload_n 0) 1 6 := ⟨by decide +kernel, rfl⟩
theorem d_8_lords_6 : zD prog_1_method_36_code 6 (.iconst 0) 1 7 := ⟨by decide +kernel, rfl⟩
theorem d_8_lords_7 : zD prog_1_method_36_code 7 (.iconst 0) 1 8 := ⟨by decide +kernel, rfl⟩
theorem d_8_lords_8 : zD prog_1_method_36_code 8 (.invokevirtual 249) 3 11 := ⟨by decide +kernel, rfl⟩
theorem d_8_lords_11 : zD prog_1_method_36_code 11 (.ireturn) 1 12 := ⟨by decide +kernel, rfl⟩
theorem d_8_lords_12 : zD prog_1_method_36_code 12 (.aload_n 0) 1 13 := ⟨by decide +kernel, rfl⟩
theorem d_8_lords_13 : zD prog_1_method_36_code 13 (.iload_n 1) 1 14 := ⟨by decide +kernel, rfl⟩
theorem d_8_lords_14 : zD prog_1_method_36_code 14 (.invokevirtual 109) 3 17 := ⟨by decide +kernel, rfl⟩
theorem d_8_lords_17 : zD prog_1_method_36_code 17 (.ifCond .ne 5) 3 20 := ⟨by decide +kernel, rfl⟩
theorem d_8_lords_20 : zD prog_1_method_36_code 20 (.iconst (-1)) 1 21 := ⟨by decide +kernel, rfl⟩
theorem d_8_lords_21 : zD prog_1_method_36_code 21 (.ireturn) 1 22 := ⟨by decide +kernel, rfl⟩
theorem d_8_lords_22 : zD prog_1_method_36_code 22 (.iconst 0) 1 23 := ⟨by decide +kernel, rfl⟩
theorem d_8_lords_23 : zD prog_1_method_36_code 23 (.istore_n 2) 1 24 := ⟨by decide +kernel, rfl⟩
theorem d_8_lords_24 : zD prog_1_method_36_code 24 (.bipush (-2)) 2 26 := ⟨by decide +kernel, rfl⟩
theorem d_8_lords_26 : zD prog_1_method_36_code 26 (.istore_n 3) 1 27 := ⟨by decide +kernel, rfl⟩
theorem d_8_lords_27 : zD prog_1_method_36_code 27 (.iconst 0) 1 28 := ⟨by decide +kernel, rfl⟩
theorem d_8_lords_28 : zD prog_1_method_36_code 28 (.istore 4) 2 30 := ⟨by decide +kernel, rfl⟩
theorem d_8_lords_30 : zD prog_1_method_36_code 30 (.iload 4) 2 32 := ⟨by decide +kernel, rfl⟩
theorem d_8_lords_32 : zD prog_1_method_36_code 32 (.iload_n 1) 1 33 := ⟨by decide +kernel, rfl⟩
theorem d_8_lords_33 : zD prog_1_method_36_code 33 (.if_icmp .gt 27) 3 36 := ⟨by decide +kernel, rfl⟩
theorem d_8_lords_36 : zD prog_1_method_36_code 36 (.aload_n 0) 1 37 := ⟨by decide +kernel, rfl⟩
theorem d_8_lords_37 : zD prog_1_method_36_code 37 (.iload 4) 2 39 := ⟨by decide +kernel, rfl⟩
theorem d_8_lords_39 : zD prog_1_method_36_code 39 (.iload_n 2) 1 40 := ⟨by decide +kernel, rfl⟩
theorem d_8_lords_40 : zD prog_1_method_36_code 40 (.invokevirtual 252) 3 43 := ⟨by decide +kernel, rfl⟩
theorem d_8_lords_43 : zD prog_1_method_36_code 43 (.istore_n 3) 1 44 := ⟨by decide +kernel, rfl⟩
theorem d_8_lords_44 : zD prog_1_method_36_code 44 (.iload_n 3) 1 45 := ⟨by decide +kernel, rfl⟩
theorem d_8_lords_45 : zD prog_1_method_36_code 45 (.ifCond .lt 9) 3 48 := ⟨by decide +kernel, rfl⟩
theorem d_8_lords_48 : zD prog_1_method_36_code 48 (.iload_n 2) 1 49 := ⟨by decide +kernel, rfl⟩
theorem d_8_lords_49 : zD prog_1_method_36_code 49 (.iconst 1) 1 50 := ⟨by decide +kernel, rfl⟩
theorem d_8_lords_50 : zD prog_1_method_36_code 50 (.iload_n 3) 1 51 := ⟨by decide +kernel, rfl⟩
theorem d_8_lords_51 : zD prog_1_method_36_code 51 (.ishl) 1 52 := ⟨by decide +kernel, rfl⟩
theorem d_8_lords_52 : zD prog_1_method_36_code 52 (.ior) 1 53 := ⟨by decide +kernel, rfl⟩
theorem d_8_lords_53 : zD prog_1_method_36_code 53 (.istore_n 2) 1 54 := ⟨by decide +kernel, rfl⟩
theorem d_8_lords_54 : zD prog_1_method_36_code 54 (.iinc 4 1) 3 57 := ⟨by decide +kernel, rfl⟩
theorem d_8_lords_57 : zD prog_1_method_36_code 57 (.goto (-27)) 3 60 := ⟨by decide +kernel, rfl⟩
theorem d_8_lords_60 : zD prog_1_method_36_code 60 (.iload_n 3) 1 61 := ⟨by decide +kernel, rfl⟩
theorem d_8_lords_61 : zD prog_1_method_36_code 61 (.ireturn) 1 62 := ⟨by decide +kernel, rfl⟩
def f5_standingOf (o0 : Nat) (a1 : Int32) (μ : zMem) : Int32 :=
  (if (f8_has (μ.1 5 o0 1) a1) = 0 then (if (f8_has (μ.1 5 o0 2) a1) = 0 then (2 : Int32) else (1 : Int32)) else (0 : Int32))
theorem s5_standingOf {P : zP} {μ : zMem} {o0 : Nat} {a1 : Int32} {r : Int32} (h : f5_standingOf o0 a1 μ = r) : z_Sp P y_5_standingOf M_5_standingOf 2 [zA 5 o0, zI a1] μ (some (zI r)) μ := by
  refine z_Sp.of (plainFor_of_name (by decide)) rfl (l0 := [some (zA 5 o0), some (zI a1)]) rfl (Nat.le_of_ble_eq_true rfl) ?_
  unfold f5_standingOf at h
  refine zr_aload_n (i := 0) d_5_standingOf_0 rfl rfl ?_
  refine zr_geti d_5_standingOf_1 fw_5_15 (by decide) ?_
  refine zr_iload_n (i := 1) d_5_standingOf_4 rfl rfl ?_
  refine zr_callSNi (av := [zI (μ.1 5 o0 1), zI a1]) (st := []) d_5_standingOf_5 mw_8_has nl_5_58 is_8_has rfl rfl (Nat.le_of_ble_eq_true rfl) fit_1_2_2 (s8_has rfl) ?_
  refine zr_if_eq (tgt := 13) d_5_standingOf_8 rfl (fun hc2 => ?_) (fun hc2 => ?_)
  · replace h := z_ip h hc2
    refine zr_aload_n (i := 0) d_5_standingOf_13 rfl rfl ?_
    refine zr_geti d_5_standingOf_14 fw_5_18 (by decide) ?_
    refine zr_iload_n (i := 1) d_5_standingOf_17 rfl rfl ?_
    refine zr_callSNi (av := [zI (μ.1 5 o0 2), zI a1]) (st := []) d_5_standingOf_18 mw_8_has nl_5_58 is_8_has rfl rfl (Nat.le_of_ble_eq_true rfl) fit_1_2_2 (s8_has rfl) ?_
    refine zr_if_eq (tgt := 28) d_5_standingOf_21 rfl (fun hc4 => ?_) (fun hc4 => ?_)
    · replace h := z_ip h hc4
      refine zr_iconst (v := (2 : Int32)) d_5_standingOf_28 rfl ?_
      obtain rfl := h
      exact ze_i d_5_standingOf_29 rfl
    · replace h := z_im h hc4
      refine zr_iconst (v := (1 : Int32)) d_5_standingOf_24 rfl ?_
      refine zr_goto (tgt := 29) d_5_standingOf_25 rfl ?_
      obtain rfl := h
      exact ze_i d_5_standingOf_29 rfl
  · replace h := z_im h hc2
    refine zr_iconst (v := (0 : Int32)) d_5_standingOf_11 rfl ?_
    obtain rfl := h
    exact ze_i d_5_standingOf_12 rfl
def f5_whoStands (o0 : Nat) (o1 : Nat) (a2 : Int32) (μ : zMem) : Int32 :=
  (if a2 = (0 : Int32) then (μ.1 5 o0 1) else (if a2 = (1 : Int32) then (μ.1 5 o0 2) else (if a2 = (2 : Int32) then ((f8_everybody (μ.1 6 o1 1)) &&& ((f5_alive o0 μ) ^^^ (-1 : Int32))) else (-1 : Int32))))
theorem s5_whoStands {P : zP} {μ : zMem} {o0 : Nat} {o1 : Nat} {a2 : Int32} {r : Int32} (h : f5_whoStands o0 o1 a2 μ = r) : z_Sp P y_5_whoStands M_5_whoStands 2 [zA 5 o0, zA 6 o1, zI a2] μ (some (zI r)) μ := by
  refine z_Sp.of (plainFor_of_name (by decide)) rfl (l0 := [some (zA 5 o0), some (zA 6 o1), some (zI a2)]) rfl (Nat.le_of_ble_eq_true rfl) ?_
  unfold f5_whoStands at h
  refine zr_iload_n (i := 2) d_5_whoStands_0 rfl rfl ?_
  by_cases hs1 : a2 = (0 : Int32)
  · replace h := z_ip h hs1
    refine zr_tbl (off := 27) (tgt := 28) hs1 d_5_whoStands_1 (by decide) (by decide) rfl rfl ?_
    refine zr_aload_n (i := 0) d_5_whoStands_28 rfl rfl ?_
    refine zr_geti d_5_whoStands_29 fw_5_15 (by decide) ?_
    obtain rfl := h
    exact ze_i d_5_whoStands_32 rfl
  · replace h := z_im h hs1
    by_cases hs2 : a2 = (1 : Int32)
    · replace h := z_ip h hs2
      refine zr_tbl (off := 32) (tgt := 33) hs2 d_5_whoStands_1 (by decide) (by decide) rfl rfl ?_
      refine zr_aload_n (i := 0) d_5_whoStands_33 rfl rfl ?_
      refine zr_geti d_5_whoStands_34 fw_5_18 (by decide) ?_
      obtain rfl := h
      exact ze_i d_5_whoStands_37 rfl
    · replace h := z_im h hs2
      by_cases hs3 : a2 = (2 : Int32)
      · replace h := z_ip h hs3
        refine zr_tbl (off := 37) (tgt := 38) hs3 d_5_whoStands_1 (by decide) (by decide) rfl rfl ?_
        refine zr_aload_n (i := 1) d_5_whoStands_38 rfl rfl ?_
        refine zr_geti d_5_whoStands_39 fw_5_34 (by decide) ?_
        refine zr_callSNi (av := [zI (μ.1 6 o1 1)]) (st := []) d_5_whoStands_42 mw_8_everybody nl_5_39 is_8_everybody rfl rfl (Nat.le_of_ble_eq_true rfl) fit_1_1_2 (s8_everybody rfl) ?_
        refine zr_aload_n (i := 0) d_5_whoStands_45 rfl rfl ?_
        refine zr_callVi (av := []) (st := [zI (f8_everybody (μ.1 6 o1 1))]) d_5_whoStands_46 mw_5_alive ml_5_62 im_5_alive se_5_alive rfl rfl (Nat.le_of_ble_eq_true rfl) fit_1_1_2 rfl rfl rfl (s5_alive rfl) ?_
        refine zr_iconst (v := (-1 : Int32)) d_5_whoStands_49 rfl ?_
        refine zr_ixor d_5_whoStands_50 ?_
        refine zr_iand d_5_whoStands_51 ?_
        obtain rfl := h
        exact ze_i d_5_whoStands_52 rfl
      · replace h := z_im h hs3
        have hs1t := z_ti hs1
        have hs2t := z_ti hs2
        have hs3t := z_ti hs3
        simp only [show ((0 : Int32)).toInt = 0 from rfl, show ((1 : Int32)).toInt = 1 from rfl, show ((2 : Int32)).toInt = 2 from rfl] at hs1t hs2t hs3t
        refine zr_tableOut (tgt := 53) d_5_whoStands_1 (by omega) rfl ?_
        refine zr_iconst (v := (-1 : Int32)) d_5_whoStands_53 rfl ?_
        obtain rfl := h
        exact ze_i d_5_whoStands_54 rfl
def f5_heirOf (o0 : Nat) (a1 : Int32) (μ : zMem) : Option (Int32) :=
  (f5_landlordOf o0 a1 μ).bind (fun q1 => (if q1 < 0 then some (-2 : Int32) else if z_in a1 5 = true then (f5_longestGone o0 (((μ.1 25 o0 a1.toNatClampNeg) &&& (μ.1 5 o0 2)) &&& (((1 : Int32) <<< (q1 &&& 31)) ^^^ (-1 : Int32))) μ).bind (fun q5 => some q5) else none))
theorem s5_heirOf {P : zP} {μ : zMem} {o0 : Nat} {a1 : Int32} {r : Int32} (h : f5_heirOf o0 a1 μ = some r) : z_Sp P y_5_heirOf M_5_heirOf 4 [zA 5 o0, zI a1] μ (some (zI r)) μ := by
  refine z_Sp.of (plainFor_of_name (by decide)) rfl (l0 := [some (zA 5 o0), some (zI a1), none]) rfl (Nat.le_of_ble_eq_true rfl) ?_
  unfold f5_heirOf at h
  refine zr_aload_n (i := 0) d_5_heirOf_0 rfl rfl ?_
  refine zr_iload_n (i := 1) d_5_heirOf_1 rfl rfl ?_
  obtain ⟨q1, hq2, h⟩ := z_bd h
  refine zr_callVi (av := [zI a1]) (st := []) d_5_heirOf_2 mw_5_landlordOf ml_5_69 im_5_landlordOf se_5_landlordOf rfl rfl (Nat.le_of_ble_eq_true rfl) fit_3_2_4 rfl rfl rfl (s5_landlordOf hq2) ?_
  refine zr_istore_n (i := 2) (l' := [some (zA 5 o0), some (zI a1), some (zI q1)]) d_5_heirOf_5 rfl (by decide) rfl ?_
  refine zr_iload_n (i := 2) d_5_heirOf_6 rfl rfl ?_
  refine zr_if_ge (tgt := 15) d_5_heirOf_7 rfl (fun hc3 => ?_) (fun hc3 => ?_)
  · replace h := z_ip h hc3
    refine zr_bipush (v := (-2 : Int32)) d_5_heirOf_10 (by decide) ?_
    refine zr_goto (tgt := 36) d_5_heirOf_12 rfl ?_
    obtain rfl := Option.some.inj h
    exact ze_i d_5_heirOf_36 rfl
  · replace h := z_im h hc3
    refine zr_aload_n (i := 0) d_5_heirOf_15 rfl rfl ?_
    refine zr_aload_n (i := 0) d_5_heirOf_16 rfl rfl ?_
    refine zr_gets (i' := o0) d_5_heirOf_17 fw_5_31 rfl ?_
    refine zr_iload_n (i := 1) d_5_heirOf_20 rfl rfl ?_
    obtain ⟨hb4, h⟩ := z_gd h
    refine zr_iald d_5_heirOf_21 sa_25 rfl hb4 ?_
    refine zr_aload_n (i := 0) d_5_heirOf_22 rfl rfl ?_
    refine zr_geti d_5_heirOf_23 fw_5_18 (by decide) ?_
    refine zr_iand d_5_heirOf_26 ?_
    refine zr_iconst (v := (1 : Int32)) d_5_heirOf_27 rfl ?_
    refine zr_iload_n (i := 2) d_5_heirOf_28 rfl rfl ?_
    refine zr_ishl d_5_heirOf_29 ?_
    refine zr_iconst (v := (-1 : Int32)) d_5_heirOf_30 rfl ?_
    refine zr_ixor d_5_heirOf_31 ?_
    refine zr_iand d_5_heirOf_32 ?_
    obtain ⟨q5, hq6, h⟩ := z_bd h
    refine zr_callVi (av := [zI (((μ.1 25 o0 a1.toNatClampNeg) &&& (μ.1 5 o0 2)) &&& (((1 : Int32) <<< (q1 &&& 31)) ^^^ (-1 : Int32)))]) (st := []) d_5_heirOf_33 mw_5_longestGone ml_5_66 im_5_longestGone se_5_longestGone rfl rfl (Nat.le_of_ble_eq_true rfl) fit_2_5_4 rfl rfl rfl (s5_longestGone hq6) ?_
    obtain rfl := Option.some.inj h
    exact ze_i d_5_heirOf_36 rfl
def f5_allLandlords_L1 (o0 : Nat) (o1 : Nat) (μ : zMem) : (Int32 × Int32) → Option ((Int32 × Int32) ⊕ (Int32)) := (z_u2 fun x2 x3 => 
  (if x3 < (μ.1 6 o1 0) then (f5_landlordOf o0 x3 μ).bind (fun q5 => ((if q5 < 0 then some x2 else z_let (x2 ||| ((1 : Int32) <<< (q5 &&& 31))) fun v10 => some v10) : Option (Int32)).bind (fun j12 => some (.inl (j12, (x3 + (1 : Int32)))))) else some (.inr x2)))
def f5_allLandlords (o0 : Nat) (o1 : Nat) (μ : zMem) : Option (Int32) :=
  (z_it (f5_allLandlords_L1 o0 o1 μ) z_fu ((0 : Int32), (0 : Int32))).bind (fun e13 => some e13)
theorem s5_allLandlords_L1 {P : zP} {ro : Option zV} {μo : zMem} (o0 : Nat) (o1 : Nat) (μ : zMem) (x2 : Int32) (x3 : Int32) (K : (Int32 × Int32) ⊕ (Int32)) (h : f5_allLandlords_L1 o0 o1 μ (x2, x3) = some K) (hI : ∀ (y0 : Int32) (y1 : Int32), K = .inl (y0, y1) → z_RQ P M_5_allLandlords (z_rm 4) (z_mq P ro μo) 0 0 4 [some (zA 5 o0), some (zA 6 o1), some (zI y0), some (zI y1), none] [] μ) (hE : ∀ (z0 : Int32), K = .inr z0 → z_RQ P M_5_allLandlords (z_rm 4) (z_mq P ro μo) 0 0 37 [none, none, some (zI z0), none, none] [] μ)  : z_RQ P M_5_allLandlords (z_rm 4) (z_mq P ro μo) 0 0 4 [some (zA 5 o0), some (zA 6 o1), some (zI x2), some (zI x3), none] [] μ := by
  unfold f5_allLandlords_L1 at h
  replace h := z_h2 h
  refine zr_iload_n (i := 3) d_5_allLandlords_4 rfl rfl ?_
  refine zr_aload_n (i := 1) d_5_allLandlords_5 rfl rfl ?_
  refine zr_geti d_5_allLandlords_6 fw_5_72 (by decide) ?_
  refine zr_icmp_ge (tgt := 37) d_5_allLandlords_9 rfl (fun hc4 => ?_) (fun hc4 => ?_)
  · replace h := z_ip h hc4
    refine zr_aload_n (i := 0) d_5_allLandlords_12 rfl rfl ?_
    refine zr_iload_n (i := 3) d_5_allLandlords_13 rfl rfl ?_
    obtain ⟨q5, hq6, h⟩ := z_bd h
    refine zr_callVi (av := [zI x3]) (st := []) d_5_allLandlords_14 mw_5_landlordOf ml_5_69 im_5_landlordOf se_5_landlordOf rfl rfl (Nat.le_of_ble_eq_true rfl) fit_3_2_4 rfl rfl rfl (s5_landlordOf hq6) ?_
    refine zr_istore (i := 4) (l' := [some (zA 5 o0), some (zA 6 o1), some (zI x2), some (zI x3), some (zI q5)]) d_5_allLandlords_17 (by decide) rfl ?_
    refine zr_iload d_5_allLandlords_19 rfl ?_
    obtain ⟨j12, hT7, h⟩ := z_bd h
    have hJ8 : z_RQ P M_5_allLandlords (z_rm 4) (z_mq P ro μo) 0 0 31 [some (zA 5 o0), some (zA 6 o1), some (zI j12), some (zI x3), none] [] μ := by
      refine zr_iinc (v := (x3 + (1 : Int32))) (l' := [some (zA 5 o0), some (zA 6 o1), some (zI j12), some (zI (x3 + (1 : Int32))), none]) d_5_allLandlords_31 (by decide) rfl rfl rfl ?_
      refine zr_goto (tgt := 4) d_5_allLandlords_34 rfl ?_
      obtain rfl := Option.some.inj h
      exact zr_wk2 (hI j12 (x3 + (1 : Int32)) rfl) ⟨rfl, ⟨rfl, ⟨rfl, ⟨rfl, trivial⟩⟩⟩⟩
    refine zr_if_lt (tgt := 31) d_5_allLandlords_21 rfl (fun hc9 => ?_) (fun hc9 => ?_)
    · replace hT7 := z_ip hT7 hc9
      obtain rfl := Option.some.inj hT7
      exact zr_wk2 hJ8 ⟨rfl, ⟨rfl, ⟨rfl, ⟨rfl, trivial⟩⟩⟩⟩
    · replace hT7 := z_im hT7 hc9
      refine zr_iload_n (i := 2) d_5_allLandlords_24 rfl rfl ?_
      refine zr_iconst (v := (1 : Int32)) d_5_allLandlords_25 rfl ?_
      refine zr_iload d_5_allLandlords_26 rfl ?_
      refine zr_ishl d_5_allLandlords_28 ?_
      refine zr_ior d_5_allLandlords_29 ?_
      obtain ⟨v10, hv11, hT7⟩ := z_lt hT7
      refine zr_nm hv11 ?_
      refine zr_istore_n (i := 2) (l' := [some (zA 5 o0), some (zA 6 o1), some (zI v10), some (zI x3), some (zI q5)]) d_5_allLandlords_30 rfl (by decide) rfl ?_
      obtain rfl := Option.some.inj hT7
      exact zr_wk2 hJ8 ⟨rfl, ⟨rfl, ⟨rfl, ⟨rfl, trivial⟩⟩⟩⟩
  · replace h := z_im h hc4
    obtain rfl := Option.some.inj h
    exact zr_wk2 (hE x2 rfl) ⟨rfl, trivial⟩
theorem s5_allLandlords {P : zP} {μ : zMem} {o0 : Nat} {o1 : Nat} {r : Int32} (h : f5_allLandlords o0 o1 μ = some r) : z_Sp P y_5_allLandlords M_5_allLandlords 4 [zA 5 o0, zA 6 o1] μ (some (zI r)) μ := by
  refine z_Sp.of (plainFor_of_name (by decide)) rfl (l0 := [some (zA 5 o0), some (zA 6 o1), none, none, none]) rfl (Nat.le_of_ble_eq_true rfl) ?_
  unfold f5_allLandlords at h
  refine zr_iconst (v := (0 : Int32)) d_5_allLandlords_0 rfl ?_
  refine zr_istore_n (i := 2) (l' := [some (zA 5 o0), some (zA 6 o1), some (zI (0 : Int32)), none, none]) d_5_allLandlords_1 rfl (by decide) rfl ?_
  refine zr_iconst (v := (0 : Int32)) d_5_allLandlords_2 rfl ?_
  refine zr_istore_n (i := 3) (l' := [some (zA 5 o0), some (zA 6 o1), some (zI (0 : Int32)), some (zI (0 : Int32)), none]) d_5_allLandlords_3 rfl (by decide) rfl ?_
  obtain ⟨e13, hl14, h⟩ := z_bd h
  refine zr_wk (l' := [some (zA 5 o0), some (zA 6 o1), some (zI (0 : Int32)), some (zI (0 : Int32)), none]) ⟨rfl, ⟨rfl, ⟨rfl, ⟨rfl, trivial⟩⟩⟩⟩ ?_
  refine z_loop (Hd := (z_u2 fun y0 y1 => z_RQ P M_5_allLandlords (z_rm 4) (z_mq P (some (zI r)) μ) 0 0 4 [some (zA 5 o0), some (zA 6 o1), some (zI y0), some (zI y1), none] [] μ)) (Ex := (fun z0 => z_RQ P M_5_allLandlords (z_rm 4) (z_mq P (some (zI r)) μ) 0 0 37 [none, none, some (zI z0), none, none] [] μ)) (fun ⟨x2, x3⟩ K h hI hE => s5_allLandlords_L1 o0 o1 μ x2 x3 K h (fun y0 y1 e => hI (y0, y1) e) (fun z0 e => hE z0 e) ) _ _ _ hl14 ?_
  refine zr_iload_n (i := 2) d_5_allLandlords_37 rfl rfl ?_
  obtain rfl := Option.some.inj h
  exact ze_i d_5_allLandlords_38 rfl
def f8_putBytes_L1 (a1 : Int32) : (Int32 × zMem) → Option ((Int32 × zMem) ⊕ (zMem)) := (z_u2 fun x2 xm3 => 
  (if x2 < 0 then some (.inr xm3) else (if (xm3.1 8 0 1) < (2000 : Int32) then if z_in (xm3.1 8 0 1) 2000 = true then z_let (z_sI xm3 34 0 (xm3.1 8 0 1).toNatClampNeg (a1.toUInt32 >>> (x2.toUInt32 &&& Int32.toUInt32 31)).toInt32.toInt8.toInt32.toInt8.toInt32) fun m6 => z_let (z_sI m6 8 0 1 ((m6.1 8 0 1) + (1 : Int32))) fun m9 => some (.inl ((x2 + (-8 : Int32)), m9)) else none else some (.inr xm3))))
def f8_putBytes (a1 : Int32) (μ : zMem) : Option (zMem) :=
  (z_it (f8_putBytes_L1 a1) z_fu ((24 : Int32), μ)).bind (fun e11 => some e11)
theorem s8_putBytes_L1 {P : zP} {ro : Option zV} {μo : zMem} (a1 : Int32) (x2 : Int32) (xm3 : zMem) (K : (Int32 × zMem) ⊕ (zMem)) (h : f8_putBytes_L1 a1 (x2, xm3) = some K) (hI : ∀ (y0 : Int32) (y1 : zMem), K = .inl (y0, y1) → z_RQ P M_8_putBytes (z_rm 1) (z_mq P ro μo) 0 0 3 [some (zA 8 0), some (zI a1), some (zI y0)] [] y1) (hE : ∀ (z0 : zMem), K = .inr z0 → z_RQ P M_8_putBytes (z_rm 1) (z_mq P ro μo) 0 0 46 [none, none, none] [] z0)  : z_RQ P M_8_putBytes (z_rm 1) (z_mq P ro μo) 0 0 3 [some (zA 8 0), some (zI a1), some (zI x2)] [] xm3 := by
  unfold f8_putBytes_L1 at h
  replace h := z_h2 h
  refine zr_iload_n (i := 2) d_8_putBytes_3 rfl rfl ?_
  refine zr_if_lt (tgt := 46) d_8_putBytes_4 rfl (fun hc4 => ?_) (fun hc4 => ?_)
  · replace h := z_ip h hc4
    obtain rfl := Option.some.inj h
    exact zr_wk2 (hE xm3 rfl) trivial
  · replace h := z_im h hc4
    refine zr_aload_n (i := 0) d_8_putBytes_7 rfl rfl ?_
    refine zr_geti d_8_putBytes_8 fw_8_13 (by decide) ?_
    refine zr_sipush (v := (2000 : Int32)) d_8_putBytes_11 rfl ?_
    refine zr_icmp_ge (tgt := 46) d_8_putBytes_14 rfl (fun hc5 => ?_) (fun hc5 => ?_)
    · replace h := z_ip h hc5
      refine zr_aload_n (i := 0) d_8_putBytes_17 rfl rfl ?_
      refine zr_gets (i' := 0) d_8_putBytes_18 fw_8_9 rfl ?_
      refine zr_aload_n (i := 0) d_8_putBytes_21 rfl rfl ?_
      refine zr_geti d_8_putBytes_22 fw_8_13 (by decide) ?_
      refine zr_iload_n (i := 1) d_8_putBytes_25 rfl rfl ?_
      refine zr_iload_n (i := 2) d_8_putBytes_26 rfl rfl ?_
      refine zr_iushr d_8_putBytes_27 ?_
      refine zr_i2b d_8_putBytes_28 ?_
      obtain ⟨hb8, h⟩ := z_gd h
      obtain ⟨m6, hm7, h⟩ := z_lt h
      refine zr_bast d_8_putBytes_29 sa_34 rfl hb8 hm7 ?_
      refine zr_aload_n (i := 0) d_8_putBytes_30 rfl rfl ?_
      refine zr_dupa d_8_putBytes_31 ?_
      refine zr_geti d_8_putBytes_32 fw_8_13 (by decide) ?_
      refine zr_iconst (v := (1 : Int32)) d_8_putBytes_35 rfl ?_
      refine zr_iadd d_8_putBytes_36 ?_
      obtain ⟨m9, hm10, h⟩ := z_lt h
      refine zr_puti d_8_putBytes_37 fw_8_13 pw_8_1 hm10 ?_
      refine zr_iinc (v := (x2 + (-8 : Int32))) (l' := [some (zA 8 0), some (zI a1), some (zI (x2 + (-8 : Int32)))]) d_8_putBytes_40 (by decide) rfl (z_neg_8 _) rfl ?_
      refine zr_goto (tgt := 3) d_8_putBytes_43 rfl ?_
      obtain rfl := Option.some.inj h
      exact zr_wk2 (hI (x2 + (-8 : Int32)) m9 rfl) ⟨rfl, ⟨rfl, ⟨rfl, trivial⟩⟩⟩
    · replace h := z_im h hc5
      obtain rfl := Option.some.inj h
      exact zr_wk2 (hE xm3 rfl) trivial
theorem s8_putBytes {P : zP} {μ : zMem} {a1 : Int32} {μ' : zMem} (h : f8_putBytes a1 μ = some μ') : z_Sp P y_8_putBytes M_8_putBytes 1 [zA 8 0, zI a1] μ none μ' := by
  refine z_Sp.of (plainFor_of_name (by decide)) rfl (l0 := [some (zA 8 0), some (zI a1), none]) rfl (Nat.le_of_ble_eq_true rfl) ?_
  unfold f8_putBytes at h
  refine zr_bipush (v := (24 : Int32)) d_8_putBytes_0 rfl ?_
  refine zr_istore_n (i := 2) (l' := [some (zA 8 0), some (zI a1), some (zI (24 : Int32))]) d_8_putBytes_2 rfl (by decide) rfl ?_
  obtain ⟨e11, hl12, h⟩ := z_bd h
  refine zr_wk (l' := [some (zA 8 0), some (zI a1), some (zI (24 : Int32))]) ⟨rfl, ⟨rfl, ⟨rfl, trivial⟩⟩⟩ ?_
  refine z_loop (Hd := (z_u2 fun y0 y1 => z_RQ P M_8_putBytes (z_rm 1) (z_mq P none μ') 0 0 3 [some (zA 8 0), some (zI a1), some (zI y0)] [] y1)) (Ex := (fun z0 => z_RQ P M_8_putBytes (z_rm 1) (z_mq P none μ') 0 0 46 [none, none, none] [] z0)) (fun ⟨x2, xm3⟩ K h hI hE => s8_putBytes_L1 a1 x2 xm3 K h (fun y0 y1 e => hI (y0, y1) e) (fun z0 e => hE z0 e) ) _ _ _ hl12 ?_
  obtain rfl := Option.some.inj h
  exact ze_v d_8_putBytes_46 rfl
def f8_feed (a1 : Int32) (a2 : Int32) (a3 : Int32) (a4 : Int32) (a5 : Int32) (μ : zMem) : Option (Int32 × zMem) :=
  (if (2000 : Int32) < ((μ.1 8 0 1) + (20 : Int32)) then some ((-1 : Int32), μ) else (f8_putBytes a1 μ).bind (fun qm2 => (f8_putBytes a2 qm2).bind (fun qm4 => (f8_putBytes a3 qm4).bind (fun qm6 => (f8_putBytes a4 qm6).bind (fun qm8 => (f8_putBytes a5 qm8).bind (fun qm10 => some ((qm10.1 8 0 1), qm10)))))))
theorem s8_feed {P : zP} {μ : zMem} {a1 : Int32} {a2 : Int32} {a3 : Int32} {a4 : Int32} {a5 : Int32} {r : Int32} {μ' : zMem} (h : f8_feed a1 a2 a3 a4 a5 μ = some (r, μ')) : z_Sp P y_8_feed M_8_feed 2 [zA 8 0, zI a1, zI a2, zI a3, zI a4, zI a5] μ (some (zI r)) μ' := by
  refine z_Sp.of (plainFor_of_name (by decide)) rfl (l0 := [some (zA 8 0), some (zI a1), some (zI a2), some (zI a3), some (zI a4), some (zI a5)]) rfl (Nat.le_of_ble_eq_true rfl) ?_
  unfold f8_feed at h
  refine zr_aload_n (i := 0) d_8_feed_0 rfl rfl ?_
  refine zr_geti d_8_feed_1 fw_8_13 (by decide) ?_
  refine zr_bipush (v := (20 : Int32)) d_8_feed_4 rfl ?_
  refine zr_iadd d_8_feed_6 ?_
  refine zr_sipush (v := (2000 : Int32)) d_8_feed_7 rfl ?_
  refine zr_icmp_le (tgt := 15) d_8_feed_10 rfl (fun hc1 => ?_) (fun hc1 => ?_)
  · replace h := z_ip h hc1
    refine zr_iconst (v := (-1 : Int32)) d_8_feed_13 rfl ?_
    obtain ⟨rfl, rfl⟩ := Prod.mk.inj (Option.some.inj h)
    exact ze_i d_8_feed_14 rfl
  · replace h := z_im h hc1
    refine zr_aload_n (i := 0) d_8_feed_15 rfl rfl ?_
    refine zr_iload_n (i := 1) d_8_feed_16 rfl rfl ?_
    obtain ⟨qm2, hq3, h⟩ := z_bd h
    refine zr_callVv (av := [zI a1]) (st := []) d_8_feed_17 mw_8_putBytes ml_8_86 im_8_putBytes se_8_putBytes rfl rfl (Nat.le_of_ble_eq_true rfl) fit_1_3_2 rfl rfl rfl (s8_putBytes hq3) ?_
    refine zr_aload_n (i := 0) d_8_feed_20 rfl rfl ?_
    refine zr_iload_n (i := 2) d_8_feed_21 rfl rfl ?_
    obtain ⟨qm4, hq5, h⟩ := z_bd h
    refine zr_callVv (av := [zI a2]) (st := []) d_8_feed_22 mw_8_putBytes ml_8_86 im_8_putBytes se_8_putBytes rfl rfl (Nat.le_of_ble_eq_true rfl) fit_1_3_2 rfl rfl rfl (s8_putBytes hq5) ?_
    refine zr_aload_n (i := 0) d_8_feed_25 rfl rfl ?_
    refine zr_iload_n (i := 3) d_8_feed_26 rfl rfl ?_
    obtain ⟨qm6, hq7, h⟩ := z_bd h
    refine zr_callVv (av := [zI a3]) (st := []) d_8_feed_27 mw_8_putBytes ml_8_86 im_8_putBytes se_8_putBytes rfl rfl (Nat.le_of_ble_eq_true rfl) fit_1_3_2 rfl rfl rfl (s8_putBytes hq7) ?_
    refine zr_aload_n (i := 0) d_8_feed_30 rfl rfl ?_
    refine zr_iload d_8_feed_31 rfl ?_
    obtain ⟨qm8, hq9, h⟩ := z_bd h
    refine zr_callVv (av := [zI a4]) (st := []) d_8_feed_33 mw_8_putBytes ml_8_86 im_8_putBytes se_8_putBytes rfl rfl (Nat.le_of_ble_eq_true rfl) fit_1_3_2 rfl rfl rfl (s8_putBytes hq9) ?_
    refine zr_aload_n (i := 0) d_8_feed_36 rfl rfl ?_
    refine zr_iload d_8_feed_37 rfl ?_
    obtain ⟨qm10, hq11, h⟩ := z_bd h
    refine zr_callVv (av := [zI a5]) (st := []) d_8_feed_39 mw_8_putBytes ml_8_86 im_8_putBytes se_8_putBytes rfl rfl (Nat.le_of_ble_eq_true rfl) fit_1_3_2 rfl rfl rfl (s8_putBytes hq11) ?_
    refine zr_aload_n (i := 0) d_8_feed_42 rfl rfl ?_
    refine zr_geti d_8_feed_43 fw_8_13 (by decide) ?_
    obtain ⟨rfl, rfl⟩ := Prod.mk.inj (Option.some.inj h)
    exact ze_i d_8_feed_46 rfl
def f8_back (a1 : Int32) (μ : zMem) : Int32 × zMem :=
  (if a1 < 0 then ((-1 : Int32), μ) else (if (μ.1 8 0 1) < a1 then ((-1 : Int32), μ) else z_let (z_sI μ 8 0 1 ((μ.1 8 0 1) - a1)) fun m3 => ((m3.1 8 0 1), m3)))
theorem s8_back {P : zP} {μ : zMem} {a1 : Int32} {r : Int32} {μ' : zMem} (h : f8_back a1 μ = (r, μ')) : z_Sp P y_8_back M_8_back 1 [zA 8 0, zI a1] μ (some (zI r)) μ' := by
  refine z_Sp.of (plainFor_of_name (by decide)) rfl (l0 := [some (zA 8 0), some (zI a1)]) rfl (Nat.le_of_ble_eq_true rfl) ?_
  unfold f8_back at h
  refine zr_iload_n (i := 1) d_8_back_0 rfl rfl ?_
  refine zr_if_lt (tgt := 12) d_8_back_1 rfl (fun hc1 => ?_) (fun hc1 => ?_)
  · replace h := z_ip h hc1
    refine zr_iconst (v := (-1 : Int32)) d_8_back_12 rfl ?_
    obtain ⟨rfl, rfl⟩ := Prod.mk.inj h
    exact ze_i d_8_back_13 rfl
  · replace h := z_im h hc1
    refine zr_iload_n (i := 1) d_8_back_4 rfl rfl ?_
    refine zr_aload_n (i := 0) d_8_back_5 rfl rfl ?_
    refine zr_geti d_8_back_6 fw_8_13 (by decide) ?_
    refine zr_icmp_le (tgt := 14) d_8_back_9 rfl (fun hc2 => ?_) (fun hc2 => ?_)
    · replace h := z_ip h hc2
      refine zr_iconst (v := (-1 : Int32)) d_8_back_12 rfl ?_
      obtain ⟨rfl, rfl⟩ := Prod.mk.inj h
      exact ze_i d_8_back_13 rfl
    · replace h := z_im h hc2
      refine zr_aload_n (i := 0) d_8_back_14 rfl rfl ?_
      refine zr_dupa d_8_back_15 ?_
      refine zr_geti d_8_back_16 fw_8_13 (by decide) ?_
      refine zr_iload_n (i := 1) d_8_back_19 rfl rfl ?_
      refine zr_isub d_8_back_20 ?_
      obtain ⟨m3, hm4, h⟩ := z_lt h
      refine zr_puti d_8_back_21 fw_8_13 pw_8_1 hm4 ?_
      refine zr_aload_n (i := 0) d_8_back_24 rfl rfl ?_
      refine zr_geti d_8_back_25 fw_8_13 (by decide) ?_
      obtain ⟨rfl, rfl⟩ := Prod.mk.inj h
      exact ze_i d_8_back_28 rfl
def f8_read  (μ : zMem) : Option (Int32 × zMem) :=
  (f4_readTape 0 (μ.1 8 0 1) μ).bind (z_u2 fun q1 qm2 => z_let (z_sI qm2 8 0 1 (0 : Int32)) fun m4 => (if q1 = 0 then z_let (f4_exchange (m4.2.2 8 0 3) m4) (z_u2 fun q7 qm8 => z_let (z_sR qm8 8 0 3 q7) fun m10 => (f5_begin 0 (m10.2.2 8 0 3) m10).bind (fun qm12 => z_let (f3_clear qm12) (fun qm14 => z_let (f2_clear qm14) (fun qm16 => z_let (z_sI qm16 8 0 11 (0 : Int32)) fun m18 => some (q1, m18))))) else some (q1, m4)))
theorem s8_read {P : zP} {μ : zMem} {r : Int32} {μ' : zMem} (h : f8_read μ = some (r, μ')) : z_Sp P y_8_read M_8_read 34 [zA 8 0] μ (some (zI r)) μ' := by
  refine z_Sp.of (plainFor_of_name (by decide)) rfl (l0 := [some (zA 8 0), none]) rfl (Nat.le_of_ble_eq_true rfl) ?_
  unfold f8_read at h
  refine zr_aload_n (i := 0) d_8_read_0 rfl rfl ?_
  refine zr_gets (i' := 0) d_8_read_1 fw_8_20 rfl ?_
  refine zr_aload_n (i := 0) d_8_read_4 rfl rfl ?_
  refine zr_gets (i' := 0) d_8_read_5 fw_8_9 rfl ?_
  refine zr_aload_n (i := 0) d_8_read_8 rfl rfl ?_
  refine zr_geti d_8_read_9 fw_8_13 (by decide) ?_
  obtain ⟨⟨q1, qm2⟩, hq3, h⟩ := z_bd h
  replace h := z_h2 h
  refine zr_callVi (av := [zA 34 0, zI (μ.1 8 0 1)]) (st := []) d_8_read_12 mw_4_readTape ml_8_90 im_4_readTape se_4_readTape rfl rfl (Nat.le_of_ble_eq_true rfl) fit_33_5_34 rfl rfl rfl (s4_readTape hq3) ?_
  refine zr_istore_n (i := 1) (l' := [some (zA 8 0), some (zI q1)]) d_8_read_15 rfl (by decide) rfl ?_
  refine zr_aload_n (i := 0) d_8_read_16 rfl rfl ?_
  refine zr_iconst (v := (0 : Int32)) d_8_read_17 rfl ?_
  obtain ⟨m4, hm5, h⟩ := z_lt h
  refine zr_puti d_8_read_18 fw_8_13 pw_8_1 hm5 ?_
  refine zr_iload_n (i := 1) d_8_read_21 rfl rfl ?_
  refine zr_if_ne (tgt := 70) d_8_read_22 rfl (fun hc6 => ?_) (fun hc6 => ?_)
  · replace h := z_ip h hc6
    refine zr_aload_n (i := 0) d_8_read_25 rfl rfl ?_
    refine zr_aload_n (i := 0) d_8_read_26 rfl rfl ?_
    refine zr_gets (i' := 0) d_8_read_27 fw_8_20 rfl ?_
    refine zr_aload_n (i := 0) d_8_read_30 rfl rfl ?_
    refine zr_getd d_8_read_31 fw_8_27 ?_
    obtain ⟨⟨q7, qm8⟩, hq9, h⟩ := z_lt h
    replace h := z_h2 h
    refine zr_callVa (av := [zA 6 (m4.2.2 8 0 3)]) (st := [zA 8 0]) d_8_read_34 mw_4_exchange ml_8_94 im_4_exchange se_4_exchange rfl rfl (Nat.le_of_ble_eq_true rfl) fit_1_3_34 rfl rfl rfl (s4_exchange hq9.symm) ?_
    obtain ⟨m10, hm11, h⟩ := z_lt h
    refine zr_putd d_8_read_37 fw_8_27 pw_8_3 (fun _ => ⟨rfl, rfl⟩) (by decide) hm11 ?_
    refine zr_aload_n (i := 0) d_8_read_40 rfl rfl ?_
    refine zr_gets (i' := 0) d_8_read_41 fw_8_34 rfl ?_
    refine zr_aload_n (i := 0) d_8_read_44 rfl rfl ?_
    refine zr_getd d_8_read_45 fw_8_27 ?_
    obtain ⟨qm12, hq13, h⟩ := z_bd h
    refine zr_callVv (av := [zA 6 (m10.2.2 8 0 3)]) (st := []) d_8_read_48 mw_5_begin ml_8_98 im_5_begin se_5_begin rfl rfl (Nat.le_of_ble_eq_true rfl) fit_2_3_34 rfl rfl rfl (s5_begin hq13) ?_
    refine zr_aload_n (i := 0) d_8_read_51 rfl rfl ?_
    refine zr_gets (i' := 0) d_8_read_52 fw_8_54 rfl ?_
    obtain ⟨qm14, hq15, h⟩ := z_lt h
    refine zr_callVv (av := []) (st := []) d_8_read_55 mw_3_clear ml_8_102 im_3_clear se_3_clear rfl rfl (Nat.le_of_ble_eq_true rfl) fit_1_1_34 rfl rfl rfl (s3_clear hq15.symm) ?_
    refine zr_aload_n (i := 0) d_8_read_58 rfl rfl ?_
    refine zr_gets (i' := 0) d_8_read_59 fw_8_82 rfl ?_
    obtain ⟨qm16, hq17, h⟩ := z_lt h
    refine zr_callVv (av := []) (st := []) d_8_read_62 mw_2_clear ml_8_105 im_2_clear se_2_clear rfl rfl (Nat.le_of_ble_eq_true rfl) fit_1_1_34 rfl rfl rfl (s2_clear hq17.symm) ?_
    refine zr_aload_n (i := 0) d_8_read_65 rfl rfl ?_
    refine zr_iconst (v := (0 : Int32)) d_8_read_66 rfl ?_
    obtain ⟨m18, hm19, h⟩ := z_lt h
    refine zr_puti d_8_read_67 fw_8_62 pw_8_11 hm19 ?_
    refine zr_iload_n (i := 1) d_8_read_70 rfl rfl ?_
    obtain ⟨rfl, rfl⟩ := Prod.mk.inj (Option.some.inj h)
    exact ze_i d_8_read_71 rfl
  · replace h := z_im h hc6
    refine zr_iload_n (i := 1) d_8_read_70 rfl rfl ?_
    obtain ⟨rfl, rfl⟩ := Prod.mk.inj (Option.some.inj h)
    exact ze_i d_8_read_71 rfl
def f8_place  (μ : zMem) : Int32 :=
  (μ.1 4 0 8)
theorem s8_place {P : zP} {μ : zMem} {r : Int32} (h : f8_place μ = r) : z_Sp P y_8_place M_8_place 1 [zA 8 0] μ (some (zI r)) μ := by
  refine z_Sp.of (plainFor_of_name (by decide)) rfl (l0 := [some (zA 8 0)]) rfl (Nat.le_of_ble_eq_true rfl) ?_
  unfold f8_place at h
  refine zr_aload_n (i := 0) d_8_place_0 rfl rfl ?_
  refine zr_gets (i' := 0) d_8_place_1 fw_8_20 rfl ?_
  refine zr_geti d_8_place_4 fw_8_106 (by decide) ?_
  obtain rfl := h
  exact ze_i d_8_place_7 rfl
def f8_isHouse (a1 : Int32) (μ : zMem) : Int32 :=
  (if a1 < 0 then (0 : Int32) else (if a1 < (μ.1 6 (μ.2.2 8 0 3) 0) then (1 : Int32) else (0 : Int32)))
theorem s8_isHouse {P : zP} {μ : zMem} {a1 : Int32} {r : Int32} (h : f8_isHouse a1 μ = r) : z_Sp P y_8_isHouse M_8_isHouse 1 [zA 8 0, zI a1] μ (some (zI r)) μ := by
  refine z_Sp.of (plainFor_of_name (by decide)) rfl (l0 := [some (zA 8 0), some (zI a1)]) rfl (Nat.le_of_ble_eq_true rfl) ?_
  unfold f8_isHouse at h
  refine zr_iload_n (i := 1) d_8_isHouse_0 rfl rfl ?_
  refine zr_if_lt (tgt := 19) d_8_isHouse_1 rfl (fun hc1 => ?_) (fun hc1 => ?_)
  · replace h := z_ip h hc1
    refine zr_iconst (v := (0 : Int32)) d_8_isHouse_19 rfl ?_
    obtain rfl := h
    exact ze_z d_8_isHouse_20 rfl rfl
  · replace h := z_im h hc1
    refine zr_iload_n (i := 1) d_8_isHouse_4 rfl rfl ?_
    refine zr_aload_n (i := 0) d_8_isHouse_5 rfl rfl ?_
    refine zr_getd d_8_isHouse_6 fw_8_27 ?_
    refine zr_geti d_8_isHouse_9 fw_8_156 (by decide) ?_
    refine zr_icmp_ge (tgt := 19) d_8_isHouse_12 rfl (fun hc2 => ?_) (fun hc2 => ?_)
    · replace h := z_ip h hc2
      refine zr_iconst (v := (1 : Int32)) d_8_isHouse_15 rfl ?_
      refine zr_goto (tgt := 20) d_8_isHouse_16 rfl ?_
      obtain rfl := h
      exact ze_z d_8_isHouse_20 rfl rfl
    · replace h := z_im h hc2
      refine zr_iconst (v := (0 : Int32)) d_8_isHouse_19 rfl ?_
      obtain rfl := h
      exact ze_z d_8_isHouse_20 rfl rfl
def f8_house (a1 : Int32) (a2 : Int32) (μ : zMem) : Option (Int32 × zMem) :=
  (if (f8_isHouse a1 μ) = 0 then some ((-1 : Int32), μ) else (if a2 = (0 : Int32) then if z_in a1 (z_len 26 (2 * (μ.2.2 8 0 3))) = true then some ((μ.1 26 (2 * (μ.2.2 8 0 3)) a1.toNatClampNeg), μ) else none else (if a2 = (1 : Int32) then (f5_landlordOf 0 a1 μ).bind (fun q6 => some (q6, μ)) else (if a2 = (2 : Int32) then if z_in a1 5 = true then some ((μ.1 25 0 a1.toNatClampNeg), μ) else none else (if a2 = (3 : Int32) then (f1_look 0 (μ.2.2 8 0 3) 0 μ).bind (fun qm11 => (f1_rentsOf 0 (qm11.2.2 8 0 3) 0 a1 qm11).bind (z_u2 fun q13 qm14 => some (q13, qm14))) else some ((-1 : Int32), μ))))))
theorem s8_house {P : zP} {μ : zMem} {a1 : Int32} {a2 : Int32} {r : Int32} {μ' : zMem} (h : f8_house a1 a2 μ = some (r, μ')) : z_Sp P y_8_house M_8_house 5 [zA 8 0, zI a1, zI a2] μ (some (zI r)) μ' := by
  refine z_Sp.of (plainFor_of_name (by decide)) rfl (l0 := [some (zA 8 0), some (zI a1), some (zI a2)]) rfl (Nat.le_of_ble_eq_true rfl) ?_
  unfold f8_house at h
  refine zr_aload_n (i := 0) d_8_house_0 rfl rfl ?_
  refine zr_iload_n (i := 1) d_8_house_1 rfl rfl ?_
  refine zr_callVi (av := [zI a1]) (st := []) d_8_house_2 mw_8_isHouse ml_8_109 im_8_isHouse se_8_isHouse rfl rfl (Nat.le_of_ble_eq_true rfl) fit_1_2_5 rfl rfl rfl (s8_isHouse rfl) ?_
  refine zr_if_ne (tgt := 10) d_8_house_5 rfl (fun hc2 => ?_) (fun hc2 => ?_)
  · replace h := z_ip h hc2
    refine zr_iconst (v := (-1 : Int32)) d_8_house_8 rfl ?_
    obtain ⟨rfl, rfl⟩ := Prod.mk.inj (Option.some.inj h)
    exact ze_i d_8_house_9 rfl
  · replace h := z_im h hc2
    refine zr_iload_n (i := 2) d_8_house_10 rfl rfl ?_
    by_cases hs3 : a2 = (0 : Int32)
    · replace h := z_ip h hs3
      refine zr_tbl (off := 29) (tgt := 40) hs3 d_8_house_11 (by decide) (by decide) rfl rfl ?_
      refine zr_aload_n (i := 0) d_8_house_40 rfl rfl ?_
      refine zr_getd d_8_house_41 fw_8_27 ?_
      refine zr_gets (i' := (2 * (μ.2.2 8 0 3))) d_8_house_44 fw_8_113 rfl ?_
      refine zr_iload_n (i := 1) d_8_house_47 rfl rfl ?_
      obtain ⟨hb4, h⟩ := z_gd h
      refine zr_iald d_8_house_48 sa_26 rfl hb4 ?_
      obtain ⟨rfl, rfl⟩ := Prod.mk.inj (Option.some.inj h)
      exact ze_i d_8_house_49 rfl
    · replace h := z_im h hs3
      by_cases hs5 : a2 = (1 : Int32)
      · replace h := z_ip h hs5
        refine zr_tbl (off := 39) (tgt := 50) hs5 d_8_house_11 (by decide) (by decide) rfl rfl ?_
        refine zr_aload_n (i := 0) d_8_house_50 rfl rfl ?_
        refine zr_gets (i' := 0) d_8_house_51 fw_8_34 rfl ?_
        refine zr_iload_n (i := 1) d_8_house_54 rfl rfl ?_
        obtain ⟨q6, hq7, h⟩ := z_bd h
        refine zr_callVi (av := [zI a1]) (st := []) d_8_house_55 mw_5_landlordOf ml_8_116 im_5_landlordOf se_5_landlordOf rfl rfl (Nat.le_of_ble_eq_true rfl) fit_3_2_5 rfl rfl rfl (s5_landlordOf hq7) ?_
        obtain ⟨rfl, rfl⟩ := Prod.mk.inj (Option.some.inj h)
        exact ze_i d_8_house_58 rfl
      · replace h := z_im h hs5
        by_cases hs8 : a2 = (2 : Int32)
        · replace h := z_ip h hs8
          refine zr_tbl (off := 48) (tgt := 59) hs8 d_8_house_11 (by decide) (by decide) rfl rfl ?_
          refine zr_aload_n (i := 0) d_8_house_59 rfl rfl ?_
          refine zr_gets (i' := 0) d_8_house_60 fw_8_34 rfl ?_
          refine zr_gets (i' := 0) d_8_house_63 fw_8_120 rfl ?_
          refine zr_iload_n (i := 1) d_8_house_66 rfl rfl ?_
          obtain ⟨hb9, h⟩ := z_gd h
          refine zr_iald d_8_house_67 sa_25 rfl hb9 ?_
          obtain ⟨rfl, rfl⟩ := Prod.mk.inj (Option.some.inj h)
          exact ze_i d_8_house_68 rfl
        · replace h := z_im h hs8
          by_cases hs10 : a2 = (3 : Int32)
          · replace h := z_ip h hs10
            refine zr_tbl (off := 58) (tgt := 69) hs10 d_8_house_11 (by decide) (by decide) rfl rfl ?_
            refine zr_aload_n (i := 0) d_8_house_69 rfl rfl ?_
            refine zr_gets (i' := 0) d_8_house_70 fw_8_68 rfl ?_
            refine zr_aload_n (i := 0) d_8_house_73 rfl rfl ?_
            refine zr_getd d_8_house_74 fw_8_27 ?_
            refine zr_aload_n (i := 0) d_8_house_77 rfl rfl ?_
            refine zr_gets (i' := 0) d_8_house_78 fw_8_34 rfl ?_
            obtain ⟨qm11, hq12, h⟩ := z_bd h
            refine zr_callVv (av := [zA 6 (μ.2.2 8 0 3), zA 5 0]) (st := []) d_8_house_81 mw_1_look ml_8_123 im_1_look se_1_look rfl rfl (Nat.le_of_ble_eq_true rfl) fit_4_5_5 rfl rfl rfl (s1_look hq12) ?_
            refine zr_aload_n (i := 0) d_8_house_84 rfl rfl ?_
            refine zr_gets (i' := 0) d_8_house_85 fw_8_68 rfl ?_
            refine zr_aload_n (i := 0) d_8_house_88 rfl rfl ?_
            refine zr_getd d_8_house_89 fw_8_27 ?_
            refine zr_aload_n (i := 0) d_8_house_92 rfl rfl ?_
            refine zr_gets (i' := 0) d_8_house_93 fw_8_34 rfl ?_
            refine zr_iload_n (i := 1) d_8_house_96 rfl rfl ?_
            obtain ⟨⟨q13, qm14⟩, hq15, h⟩ := z_bd h
            replace h := z_h2 h
            refine zr_callVi (av := [zA 6 (qm11.2.2 8 0 3), zA 5 0, zI a1]) (st := []) d_8_house_97 mw_1_rentsOf ml_8_127 im_1_rentsOf se_1_rentsOf rfl rfl (Nat.le_of_ble_eq_true rfl) fit_4_5_5 rfl rfl rfl (s1_rentsOf hq15) ?_
            obtain ⟨rfl, rfl⟩ := Prod.mk.inj (Option.some.inj h)
            exact ze_i d_8_house_100 rfl
          · replace h := z_im h hs10
            have hs3t := z_ti hs3
            have hs5t := z_ti hs5
            have hs8t := z_ti hs8
            have hs10t := z_ti hs10
            simp only [show ((0 : Int32)).toInt = 0 from rfl, show ((1 : Int32)).toInt = 1 from rfl, show ((2 : Int32)).toInt = 2 from rfl, show ((3 : Int32)).toInt = 3 from rfl] at hs3t hs5t hs8t hs10t
            refine zr_tableOut (tgt := 101) d_8_house_11 (by omega) rfl ?_
            refine zr_iconst (v := (-1 : Int32)) d_8_house_101 rfl ?_
            obtain ⟨rfl, rfl⟩ := Prod.mk.inj (Option.some.inj h)
            exact ze_i d_8_house_102 rfl
def f8_isPerson (a1 : Int32) (μ : zMem) : Int32 :=
  (if a1 < 0 then (0 : Int32) else (if a1 < (μ.1 6 (μ.2.2 8 0 3) 1) then (1 : Int32) else (0 : Int32)))
theorem s8_isPerson {P : zP} {μ : zMem} {a1 : Int32} {r : Int32} (h : f8_isPerson a1 μ = r) : z_Sp P y_8_isPerson M_8_isPerson 1 [zA 8 0, zI a1] μ (some (zI r)) μ := by
  refine z_Sp.of (plainFor_of_name (by decide)) rfl (l0 := [some (zA 8 0), some (zI a1)]) rfl (Nat.le_of_ble_eq_true rfl) ?_
  unfold f8_isPerson at h
  refine zr_iload_n (i := 1) d_8_isPerson_0 rfl rfl ?_
  refine zr_if_lt (tgt := 19) d_8_isPerson_1 rfl (fun hc1 => ?_) (fun hc1 => ?_)
  · replace h := z_ip h hc1
    refine zr_iconst (v := (0 : Int32)) d_8_isPerson_19 rfl ?_
    obtain rfl := h
    exact ze_z d_8_isPerson_20 rfl rfl
  · replace h := z_im h hc1
    refine zr_iload_n (i := 1) d_8_isPerson_4 rfl rfl ?_
    refine zr_aload_n (i := 0) d_8_isPerson_5 rfl rfl ?_
    refine zr_getd d_8_isPerson_6 fw_8_27 ?_
    refine zr_geti d_8_isPerson_9 fw_8_224 (by decide) ?_
    refine zr_icmp_ge (tgt := 19) d_8_isPerson_12 rfl (fun hc2 => ?_) (fun hc2 => ?_)
    · replace h := z_ip h hc2
      refine zr_iconst (v := (1 : Int32)) d_8_isPerson_15 rfl ?_
      refine zr_goto (tgt := 20) d_8_isPerson_16 rfl ?_
      obtain rfl := h
      exact ze_z d_8_isPerson_20 rfl rfl
    · replace h := z_im h hc2
      refine zr_iconst (v := (0 : Int32)) d_8_isPerson_19 rfl ?_
      obtain rfl := h
      exact ze_z d_8_isPerson_20 rfl rfl
def f8_rightsOf_L1 (a1 : Int32) (μ : zMem) : (Int32 × Int32) → Option ((Int32 × Int32) ⊕ (Int32)) := (z_u2 fun x2 x3 => 
  (if x3 < (μ.1 6 (μ.2.2 8 0 3) 0) then if z_in x3 5 = true then ((if (f8_has (μ.1 25 0 x3.toNatClampNeg) a1) = 0 then some x2 else z_let (x2 ||| ((1 : Int32) <<< (x3 &&& 31))) fun v10 => some v10) : Option (Int32)).bind (fun j12 => some (.inl (j12, (x3 + (1 : Int32))))) else none else some (.inr x2)))
def f8_rightsOf (a1 : Int32) (μ : zMem) : Option (Int32) :=
  (z_it (f8_rightsOf_L1 a1 μ) z_fu ((0 : Int32), (0 : Int32))).bind (fun e13 => some e13)
theorem s8_rightsOf_L1 {P : zP} {ro : Option zV} {μo : zMem} (a1 : Int32) (μ : zMem) (x2 : Int32) (x3 : Int32) (K : (Int32 × Int32) ⊕ (Int32)) (h : f8_rightsOf_L1 a1 μ (x2, x3) = some K) (hI : ∀ (y0 : Int32) (y1 : Int32), K = .inl (y0, y1) → z_RQ P M_8_rightsOf (z_rm 2) (z_mq P ro μo) 0 0 4 [some (zA 8 0), some (zI a1), some (zI y0), some (zI y1)] [] μ) (hE : ∀ (z0 : Int32), K = .inr z0 → z_RQ P M_8_rightsOf (z_rm 2) (z_mq P ro μo) 0 0 43 [none, none, some (zI z0), none] [] μ)  : z_RQ P M_8_rightsOf (z_rm 2) (z_mq P ro μo) 0 0 4 [some (zA 8 0), some (zI a1), some (zI x2), some (zI x3)] [] μ := by
  unfold f8_rightsOf_L1 at h
  replace h := z_h2 h
  refine zr_iload_n (i := 3) d_8_rightsOf_4 rfl rfl ?_
  refine zr_aload_n (i := 0) d_8_rightsOf_5 rfl rfl ?_
  refine zr_getd d_8_rightsOf_6 fw_8_27 ?_
  refine zr_geti d_8_rightsOf_9 fw_8_156 (by decide) ?_
  refine zr_icmp_ge (tgt := 43) d_8_rightsOf_12 rfl (fun hc4 => ?_) (fun hc4 => ?_)
  · replace h := z_ip h hc4
    refine zr_aload_n (i := 0) d_8_rightsOf_15 rfl rfl ?_
    refine zr_gets (i' := 0) d_8_rightsOf_16 fw_8_34 rfl ?_
    refine zr_gets (i' := 0) d_8_rightsOf_19 fw_8_120 rfl ?_
    refine zr_iload_n (i := 3) d_8_rightsOf_22 rfl rfl ?_
    obtain ⟨hb5, h⟩ := z_gd h
    refine zr_iald d_8_rightsOf_23 sa_25 rfl hb5 ?_
    refine zr_iload_n (i := 1) d_8_rightsOf_24 rfl rfl ?_
    refine zr_callSi (av := [zI (μ.1 25 0 x3.toNatClampNeg), zI a1]) (st := []) d_8_rightsOf_25 mw_8_has ml_8_159 is_8_has rfl rfl (Nat.le_of_ble_eq_true rfl) fit_1_2_2 (s8_has rfl) ?_
    obtain ⟨j12, hT7, h⟩ := z_bd h
    have hJ8 : z_RQ P M_8_rightsOf (z_rm 2) (z_mq P ro μo) 0 0 37 [some (zA 8 0), some (zI a1), some (zI j12), some (zI x3)] [] μ := by
      refine zr_iinc (v := (x3 + (1 : Int32))) (l' := [some (zA 8 0), some (zI a1), some (zI j12), some (zI (x3 + (1 : Int32)))]) d_8_rightsOf_37 (by decide) rfl rfl rfl ?_
      refine zr_goto (tgt := 4) d_8_rightsOf_40 rfl ?_
      obtain rfl := Option.some.inj h
      exact zr_wk2 (hI j12 (x3 + (1 : Int32)) rfl) ⟨rfl, ⟨rfl, ⟨rfl, ⟨rfl, trivial⟩⟩⟩⟩
    refine zr_if_eq (tgt := 37) d_8_rightsOf_28 rfl (fun hc9 => ?_) (fun hc9 => ?_)
    · replace hT7 := z_ip hT7 hc9
      obtain rfl := Option.some.inj hT7
      exact zr_wk2 hJ8 ⟨rfl, ⟨rfl, ⟨rfl, ⟨rfl, trivial⟩⟩⟩⟩
    · replace hT7 := z_im hT7 hc9
      refine zr_iload_n (i := 2) d_8_rightsOf_31 rfl rfl ?_
      refine zr_iconst (v := (1 : Int32)) d_8_rightsOf_32 rfl ?_
      refine zr_iload_n (i := 3) d_8_rightsOf_33 rfl rfl ?_
      refine zr_ishl d_8_rightsOf_34 ?_
      refine zr_ior d_8_rightsOf_35 ?_
      obtain ⟨v10, hv11, hT7⟩ := z_lt hT7
      refine zr_nm hv11 ?_
      refine zr_istore_n (i := 2) (l' := [some (zA 8 0), some (zI a1), some (zI v10), some (zI x3)]) d_8_rightsOf_36 rfl (by decide) rfl ?_
      obtain rfl := Option.some.inj hT7
      exact zr_wk2 hJ8 ⟨rfl, ⟨rfl, ⟨rfl, ⟨rfl, trivial⟩⟩⟩⟩
  · replace h := z_im h hc4
    obtain rfl := Option.some.inj h
    exact zr_wk2 (hE x2 rfl) ⟨rfl, trivial⟩
theorem s8_rightsOf {P : zP} {μ : zMem} {a1 : Int32} {r : Int32} (h : f8_rightsOf a1 μ = some r) : z_Sp P y_8_rightsOf M_8_rightsOf 2 [zA 8 0, zI a1] μ (some (zI r)) μ := by
  refine z_Sp.of (plainFor_of_name (by decide)) rfl (l0 := [some (zA 8 0), some (zI a1), none, none]) rfl (Nat.le_of_ble_eq_true rfl) ?_
  unfold f8_rightsOf at h
  refine zr_iconst (v := (0 : Int32)) d_8_rightsOf_0 rfl ?_
  refine zr_istore_n (i := 2) (l' := [some (zA 8 0), some (zI a1), some (zI (0 : Int32)), none]) d_8_rightsOf_1 rfl (by decide) rfl ?_
  refine zr_iconst (v := (0 : Int32)) d_8_rightsOf_2 rfl ?_
  refine zr_istore_n (i := 3) (l' := [some (zA 8 0), some (zI a1), some (zI (0 : Int32)), some (zI (0 : Int32))]) d_8_rightsOf_3 rfl (by decide) rfl ?_
  obtain ⟨e13, hl14, h⟩ := z_bd h
  refine zr_wk (l' := [some (zA 8 0), some (zI a1), some (zI (0 : Int32)), some (zI (0 : Int32))]) ⟨rfl, ⟨rfl, ⟨rfl, ⟨rfl, trivial⟩⟩⟩⟩ ?_
  refine z_loop (Hd := (z_u2 fun y0 y1 => z_RQ P M_8_rightsOf (z_rm 2) (z_mq P (some (zI r)) μ) 0 0 4 [some (zA 8 0), some (zI a1), some (zI y0), some (zI y1)] [] μ)) (Ex := (fun z0 => z_RQ P M_8_rightsOf (z_rm 2) (z_mq P (some (zI r)) μ) 0 0 43 [none, none, some (zI z0), none] [] μ)) (fun ⟨x2, x3⟩ K h hI hE => s8_rightsOf_L1 a1 μ x2 x3 K h (fun y0 y1 e => hI (y0, y1) e) (fun z0 e => hE z0 e) ) _ _ _ hl14 ?_
  refine zr_iload_n (i := 2) d_8_rightsOf_43 rfl rfl ?_
  obtain rfl := Option.some.inj h
  exact ze_i d_8_rightsOf_44 rfl
def f8_ownHouses_L1 (a1 : Int32) (μ : zMem) : (Int32 × Int32) → Option ((Int32 × Int32) ⊕ (Int32)) := (z_u2 fun x2 x3 => 
  (if x3 < (μ.1 6 (μ.2.2 8 0 3) 0) then (f5_landlordOf 0 x3 μ).bind (fun q5 => ((if q5 = a1 then z_let (x2 ||| ((1 : Int32) <<< (x3 &&& 31))) fun v10 => some v10 else some x2) : Option (Int32)).bind (fun j12 => some (.inl (j12, (x3 + (1 : Int32)))))) else some (.inr x2)))
def f8_ownHouses (a1 : Int32) (μ : zMem) : Option (Int32) :=
  (z_it (f8_ownHouses_L1 a1 μ) z_fu ((0 : Int32), (0 : Int32))).bind (fun e13 => some e13)
theorem s8_ownHouses_L1 {P : zP} {ro : Option zV} {μo : zMem} (a1 : Int32) (μ : zMem) (x2 : Int32) (x3 : Int32) (K : (Int32 × Int32) ⊕ (Int32)) (h : f8_ownHouses_L1 a1 μ (x2, x3) = some K) (hI : ∀ (y0 : Int32) (y1 : Int32), K = .inl (y0, y1) → z_RQ P M_8_ownHouses (z_rm 4) (z_mq P ro μo) 0 0 4 [some (zA 8 0), some (zI a1), some (zI y0), some (zI y1)] [] μ) (hE : ∀ (z0 : Int32), K = .inr z0 → z_RQ P M_8_ownHouses (z_rm 4) (z_mq P ro μo) 0 0 39 [none, none, some (zI z0), none] [] μ)  : z_RQ P M_8_ownHouses (z_rm 4) (z_mq P ro μo) 0 0 4 [some (zA 8 0), some (zI a1), some (zI x2), some (zI x3)] [] μ := by
  unfold f8_ownHouses_L1 at h
  replace h := z_h2 h
  refine zr_iload_n (i := 3) d_8_ownHouses_4 rfl rfl ?_
  refine zr_aload_n (i := 0) d_8_ownHouses_5 rfl rfl ?_
  refine zr_getd d_8_ownHouses_6 fw_8_27 ?_
  refine zr_geti d_8_ownHouses_9 fw_8_156 (by decide) ?_
  refine zr_icmp_ge (tgt := 39) d_8_ownHouses_12 rfl (fun hc4 => ?_) (fun hc4 => ?_)
  · replace h := z_ip h hc4
    refine zr_aload_n (i := 0) d_8_ownHouses_15 rfl rfl ?_
    refine zr_gets (i' := 0) d_8_ownHouses_16 fw_8_34 rfl ?_
    refine zr_iload_n (i := 3) d_8_ownHouses_19 rfl rfl ?_
    obtain ⟨q5, hq6, h⟩ := z_bd h
    refine zr_callVi (av := [zI x3]) (st := []) d_8_ownHouses_20 mw_5_landlordOf ml_8_116 im_5_landlordOf se_5_landlordOf rfl rfl (Nat.le_of_ble_eq_true rfl) fit_3_2_4 rfl rfl rfl (s5_landlordOf hq6) ?_
    refine zr_iload_n (i := 1) d_8_ownHouses_23 rfl rfl ?_
    obtain ⟨j12, hT7, h⟩ := z_bd h
    have hJ8 : z_RQ P M_8_ownHouses (z_rm 4) (z_mq P ro μo) 0 0 33 [some (zA 8 0), some (zI a1), some (zI j12), some (zI x3)] [] μ := by
      refine zr_iinc (v := (x3 + (1 : Int32))) (l' := [some (zA 8 0), some (zI a1), some (zI j12), some (zI (x3 + (1 : Int32)))]) d_8_ownHouses_33 (by decide) rfl rfl rfl ?_
      refine zr_goto (tgt := 4) d_8_ownHouses_36 rfl ?_
      obtain rfl := Option.some.inj h
      exact zr_wk2 (hI j12 (x3 + (1 : Int32)) rfl) ⟨rfl, ⟨rfl, ⟨rfl, ⟨rfl, trivial⟩⟩⟩⟩
    refine zr_icmp_ne (tgt := 33) d_8_ownHouses_24 rfl (fun hc9 => ?_) (fun hc9 => ?_)
    · replace hT7 := z_ip hT7 hc9
      refine zr_iload_n (i := 2) d_8_ownHouses_27 rfl rfl ?_
      refine zr_iconst (v := (1 : Int32)) d_8_ownHouses_28 rfl ?_
      refine zr_iload_n (i := 3) d_8_ownHouses_29 rfl rfl ?_
      refine zr_ishl d_8_ownHouses_30 ?_
      refine zr_ior d_8_ownHouses_31 ?_
      obtain ⟨v10, hv11, hT7⟩ := z_lt hT7
      refine zr_nm hv11 ?_
      refine zr_istore_n (i := 2) (l' := [some (zA 8 0), some (zI a1), some (zI v10), some (zI x3)]) d_8_ownHouses_32 rfl (by decide) rfl ?_
      obtain rfl := Option.some.inj hT7
      exact zr_wk2 hJ8 ⟨rfl, ⟨rfl, ⟨rfl, ⟨rfl, trivial⟩⟩⟩⟩
    · replace hT7 := z_im hT7 hc9
      obtain rfl := Option.some.inj hT7
      exact zr_wk2 hJ8 ⟨rfl, ⟨rfl, ⟨rfl, ⟨rfl, trivial⟩⟩⟩⟩
  · replace h := z_im h hc4
    obtain rfl := Option.some.inj h
    exact zr_wk2 (hE x2 rfl) ⟨rfl, trivial⟩
theorem s8_ownHouses {P : zP} {μ : zMem} {a1 : Int32} {r : Int32} (h : f8_ownHouses a1 μ = some r) : z_Sp P y_8_ownHouses M_8_ownHouses 4 [zA 8 0, zI a1] μ (some (zI r)) μ := by
  refine z_Sp.of (plainFor_of_name (by decide)) rfl (l0 := [some (zA 8 0), some (zI a1), none, none]) rfl (Nat.le_of_ble_eq_true rfl) ?_
  unfold f8_ownHouses at h
  refine zr_iconst (v := (0 : Int32)) d_8_ownHouses_0 rfl ?_
  refine zr_istore_n (i := 2) (l' := [some (zA 8 0), some (zI a1), some (zI (0 : Int32)), none]) d_8_ownHouses_1 rfl (by decide) rfl ?_
  refine zr_iconst (v := (0 : Int32)) d_8_ownHouses_2 rfl ?_
  refine zr_istore_n (i := 3) (l' := [some (zA 8 0), some (zI a1), some (zI (0 : Int32)), some (zI (0 : Int32))]) d_8_ownHouses_3 rfl (by decide) rfl ?_
  obtain ⟨e13, hl14, h⟩ := z_bd h
  refine zr_wk (l' := [some (zA 8 0), some (zI a1), some (zI (0 : Int32)), some (zI (0 : Int32))]) ⟨rfl, ⟨rfl, ⟨rfl, ⟨rfl, trivial⟩⟩⟩⟩ ?_
  refine z_loop (Hd := (z_u2 fun y0 y1 => z_RQ P M_8_ownHouses (z_rm 4) (z_mq P (some (zI r)) μ) 0 0 4 [some (zA 8 0), some (zI a1), some (zI y0), some (zI y1)] [] μ)) (Ex := (fun z0 => z_RQ P M_8_ownHouses (z_rm 4) (z_mq P (some (zI r)) μ) 0 0 39 [none, none, some (zI z0), none] [] μ)) (fun ⟨x2, x3⟩ K h hI hE => s8_ownHouses_L1 a1 μ x2 x3 K h (fun y0 y1 e => hI (y0, y1) e) (fun z0 e => hE z0 e) ) _ _ _ hl14 ?_
  refine zr_iload_n (i := 2) d_8_ownHouses_39 rfl rfl ?_
  obtain rfl := Option.some.inj h
  exact ze_i d_8_ownHouses_40 rfl
def f8_chanceNow (a1 : Int32) (a2 : Int32) (μ : zMem) : Option (Int32 × zMem) :=
  (f1_look 0 (μ.2.2 8 0 3) 0 μ).bind (fun qm1 => (f1_chanceOf 0 (qm1.2.2 8 0 3) 0 a1 a2 qm1).bind (z_u2 fun q3 qm4 => some (q3, qm4)))
theorem s8_chanceNow {P : zP} {μ : zMem} {a1 : Int32} {a2 : Int32} {r : Int32} {μ' : zMem} (h : f8_chanceNow a1 a2 μ = some (r, μ')) : z_Sp P y_8_chanceNow M_8_chanceNow 5 [zA 8 0, zI a1, zI a2] μ (some (zI r)) μ' := by
  refine z_Sp.of (plainFor_of_name (by decide)) rfl (l0 := [some (zA 8 0), some (zI a1), some (zI a2)]) rfl (Nat.le_of_ble_eq_true rfl) ?_
  unfold f8_chanceNow at h
  refine zr_aload_n (i := 0) d_8_chanceNow_0 rfl rfl ?_
  refine zr_gets (i' := 0) d_8_chanceNow_1 fw_8_68 rfl ?_
  refine zr_aload_n (i := 0) d_8_chanceNow_4 rfl rfl ?_
  refine zr_getd d_8_chanceNow_5 fw_8_27 ?_
  refine zr_aload_n (i := 0) d_8_chanceNow_8 rfl rfl ?_
  refine zr_gets (i' := 0) d_8_chanceNow_9 fw_8_34 rfl ?_
  obtain ⟨qm1, hq2, h⟩ := z_bd h
  refine zr_callVv (av := [zA 6 (μ.2.2 8 0 3), zA 5 0]) (st := []) d_8_chanceNow_12 mw_1_look ml_8_123 im_1_look se_1_look rfl rfl (Nat.le_of_ble_eq_true rfl) fit_4_5_5 rfl rfl rfl (s1_look hq2) ?_
  refine zr_aload_n (i := 0) d_8_chanceNow_15 rfl rfl ?_
  refine zr_gets (i' := 0) d_8_chanceNow_16 fw_8_68 rfl ?_
  refine zr_aload_n (i := 0) d_8_chanceNow_19 rfl rfl ?_
  refine zr_getd d_8_chanceNow_20 fw_8_27 ?_
  refine zr_aload_n (i := 0) d_8_chanceNow_23 rfl rfl ?_
  refine zr_gets (i' := 0) d_8_chanceNow_24 fw_8_34 rfl ?_
  refine zr_iload_n (i := 1) d_8_chanceNow_27 rfl rfl ?_
  refine zr_iload_n (i := 2) d_8_chanceNow_28 rfl rfl ?_
  obtain ⟨⟨q3, qm4⟩, hq5, h⟩ := z_bd h
  replace h := z_h2 h
  refine zr_callVi (av := [zA 6 (qm1.2.2 8 0 3), zA 5 0, zI a1, zI a2]) (st := []) d_8_chanceNow_29 mw_1_chanceOf ml_8_163 im_1_chanceOf se_1_chanceOf rfl rfl (Nat.le_of_ble_eq_true rfl) fit_4_5_5 rfl rfl rfl (s1_chanceOf hq5) ?_
  obtain ⟨rfl, rfl⟩ := Prod.mk.inj (Option.some.inj h)
  exact ze_i d_8_chanceNow_32 rfl
def f8_person (a1 : Int32) (a2 : Int32) (μ : zMem) : Option (Int32 × zMem) :=
  (if (f8_isPerson a1 μ) = 0 then some ((-1 : Int32), μ) else (if a2 = (0 : Int32) then if z_in a1 7 = true then some ((μ.1 24 0 a1.toNatClampNeg), μ) else none else (if a2 = (1 : Int32) then some ((f5_standingOf 0 a1 μ), μ) else (if a2 = (2 : Int32) then if z_in a1 7 = true then some ((μ.1 22 0 a1.toNatClampNeg), μ) else none else (if a2 = (3 : Int32) then if z_in a1 7 = true then some ((μ.1 23 0 a1.toNatClampNeg), μ) else none else (if a2 = (4 : Int32) then (f8_rightsOf a1 μ).bind (fun q12 => some (q12, μ)) else (if a2 = (5 : Int32) then (f8_ownHouses a1 μ).bind (fun q15 => some (q15, μ)) else (if a2 = (6 : Int32) then (f8_chanceNow (0 : Int32) a1 μ).bind (z_u2 fun q18 qm19 => some (q18, qm19)) else (if a2 = (7 : Int32) then (f8_chanceNow (1 : Int32) a1 μ).bind (z_u2 fun q22 qm23 => some (q22, qm23)) else (if a2 = (8 : Int32) then (f8_chanceNow (2 : Int32) a1 μ).bind (z_u2 fun q26 qm27 => some (q26, qm27)) else some ((-1 : Int32), μ)))))))))))
theorem s8_person {P : zP} {μ : zMem} {a1 : Int32} {a2 : Int32} {r : Int32} {μ' : zMem} (h : f8_person a1 a2 μ = some (r, μ')) : z_Sp P y_8_person M_8_person 6 [zA 8 0, zI a1, zI a2] μ (some (zI r)) μ' := by
  refine z_Sp.of (plainFor_of_name (by decide)) rfl (l0 := [some (zA 8 0), some (zI a1), some (zI a2)]) rfl (Nat.le_of_ble_eq_true rfl) ?_
  unfold f8_person at h
  refine zr_aload_n (i := 0) d_8_person_0 rfl rfl ?_
  refine zr_iload_n (i := 1) d_8_person_1 rfl rfl ?_
  refine zr_callVi (av := [zI a1]) (st := []) d_8_person_2 mw_8_isPerson ml_8_131 im_8_isPerson se_8_isPerson rfl rfl (Nat.le_of_ble_eq_true rfl) fit_1_2_6 rfl rfl rfl (s8_isPerson rfl) ?_
  refine zr_if_ne (tgt := 10) d_8_person_5 rfl (fun hc2 => ?_) (fun hc2 => ?_)
  · replace h := z_ip h hc2
    refine zr_iconst (v := (-1 : Int32)) d_8_person_8 rfl ?_
    obtain ⟨rfl, rfl⟩ := Prod.mk.inj (Option.some.inj h)
    exact ze_i d_8_person_9 rfl
  · replace h := z_im h hc2
    refine zr_iload_n (i := 2) d_8_person_10 rfl rfl ?_
    by_cases hs3 : a2 = (0 : Int32)
    · replace h := z_ip h hs3
      refine zr_tbl (off := 49) (tgt := 60) hs3 d_8_person_11 (by decide) (by decide) rfl rfl ?_
      refine zr_aload_n (i := 0) d_8_person_60 rfl rfl ?_
      refine zr_gets (i' := 0) d_8_person_61 fw_8_34 rfl ?_
      refine zr_gets (i' := 0) d_8_person_64 fw_8_134 rfl ?_
      refine zr_iload_n (i := 1) d_8_person_67 rfl rfl ?_
      obtain ⟨hb4, h⟩ := z_gd h
      refine zr_iald d_8_person_68 sa_24 rfl hb4 ?_
      obtain ⟨rfl, rfl⟩ := Prod.mk.inj (Option.some.inj h)
      exact ze_i d_8_person_69 rfl
    · replace h := z_im h hs3
      by_cases hs5 : a2 = (1 : Int32)
      · replace h := z_ip h hs5
        refine zr_tbl (off := 59) (tgt := 70) hs5 d_8_person_11 (by decide) (by decide) rfl rfl ?_
        refine zr_aload_n (i := 0) d_8_person_70 rfl rfl ?_
        refine zr_gets (i' := 0) d_8_person_71 fw_8_34 rfl ?_
        refine zr_iload_n (i := 1) d_8_person_74 rfl rfl ?_
        refine zr_callVi (av := [zI a1]) (st := []) d_8_person_75 mw_5_standingOf ml_8_137 im_5_standingOf se_5_standingOf rfl rfl (Nat.le_of_ble_eq_true rfl) fit_2_2_6 rfl rfl rfl (s5_standingOf rfl) ?_
        obtain ⟨rfl, rfl⟩ := Prod.mk.inj (Option.some.inj h)
        exact ze_i d_8_person_78 rfl
      · replace h := z_im h hs5
        by_cases hs7 : a2 = (2 : Int32)
        · replace h := z_ip h hs7
          refine zr_tbl (off := 68) (tgt := 79) hs7 d_8_person_11 (by decide) (by decide) rfl rfl ?_
          refine zr_aload_n (i := 0) d_8_person_79 rfl rfl ?_
          refine zr_gets (i' := 0) d_8_person_80 fw_8_34 rfl ?_
          refine zr_gets (i' := 0) d_8_person_83 fw_8_140 rfl ?_
          refine zr_iload_n (i := 1) d_8_person_86 rfl rfl ?_
          obtain ⟨hb8, h⟩ := z_gd h
          refine zr_iald d_8_person_87 sa_22 rfl hb8 ?_
          obtain ⟨rfl, rfl⟩ := Prod.mk.inj (Option.some.inj h)
          exact ze_i d_8_person_88 rfl
        · replace h := z_im h hs7
          by_cases hs9 : a2 = (3 : Int32)
          · replace h := z_ip h hs9
            refine zr_tbl (off := 78) (tgt := 89) hs9 d_8_person_11 (by decide) (by decide) rfl rfl ?_
            refine zr_aload_n (i := 0) d_8_person_89 rfl rfl ?_
            refine zr_gets (i' := 0) d_8_person_90 fw_8_34 rfl ?_
            refine zr_gets (i' := 0) d_8_person_93 fw_8_143 rfl ?_
            refine zr_iload_n (i := 1) d_8_person_96 rfl rfl ?_
            obtain ⟨hb10, h⟩ := z_gd h
            refine zr_iald d_8_person_97 sa_23 rfl hb10 ?_
            obtain ⟨rfl, rfl⟩ := Prod.mk.inj (Option.some.inj h)
            exact ze_i d_8_person_98 rfl
          · replace h := z_im h hs9
            by_cases hs11 : a2 = (4 : Int32)
            · replace h := z_ip h hs11
              refine zr_tbl (off := 88) (tgt := 99) hs11 d_8_person_11 (by decide) (by decide) rfl rfl ?_
              refine zr_aload_n (i := 0) d_8_person_99 rfl rfl ?_
              refine zr_iload_n (i := 1) d_8_person_100 rfl rfl ?_
              obtain ⟨q12, hq13, h⟩ := z_bd h
              refine zr_callVi (av := [zI a1]) (st := []) d_8_person_101 mw_8_rightsOf ml_8_146 im_8_rightsOf se_8_rightsOf rfl rfl (Nat.le_of_ble_eq_true rfl) fit_2_4_6 rfl rfl rfl (s8_rightsOf hq13) ?_
              obtain ⟨rfl, rfl⟩ := Prod.mk.inj (Option.some.inj h)
              exact ze_i d_8_person_104 rfl
            · replace h := z_im h hs11
              by_cases hs14 : a2 = (5 : Int32)
              · replace h := z_ip h hs14
                refine zr_tbl (off := 94) (tgt := 105) hs14 d_8_person_11 (by decide) (by decide) rfl rfl ?_
                refine zr_aload_n (i := 0) d_8_person_105 rfl rfl ?_
                refine zr_iload_n (i := 1) d_8_person_106 rfl rfl ?_
                obtain ⟨q15, hq16, h⟩ := z_bd h
                refine zr_callVi (av := [zI a1]) (st := []) d_8_person_107 mw_8_ownHouses ml_8_149 im_8_ownHouses se_8_ownHouses rfl rfl (Nat.le_of_ble_eq_true rfl) fit_4_4_6 rfl rfl rfl (s8_ownHouses hq16) ?_
                obtain ⟨rfl, rfl⟩ := Prod.mk.inj (Option.some.inj h)
                exact ze_i d_8_person_110 rfl
              · replace h := z_im h hs14
                by_cases hs17 : a2 = (6 : Int32)
                · replace h := z_ip h hs17
                  refine zr_tbl (off := 100) (tgt := 111) hs17 d_8_person_11 (by decide) (by decide) rfl rfl ?_
                  refine zr_aload_n (i := 0) d_8_person_111 rfl rfl ?_
                  refine zr_iconst (v := (0 : Int32)) d_8_person_112 rfl ?_
                  refine zr_iload_n (i := 1) d_8_person_113 rfl rfl ?_
                  obtain ⟨⟨q18, qm19⟩, hq20, h⟩ := z_bd h
                  replace h := z_h2 h
                  refine zr_callVi (av := [zI (0 : Int32), zI a1]) (st := []) d_8_person_114 mw_8_chanceNow ml_8_152 im_8_chanceNow se_8_chanceNow rfl rfl (Nat.le_of_ble_eq_true rfl) fit_5_3_6 rfl rfl rfl (s8_chanceNow hq20) ?_
                  obtain ⟨rfl, rfl⟩ := Prod.mk.inj (Option.some.inj h)
                  exact ze_i d_8_person_117 rfl
                · replace h := z_im h hs17
                  by_cases hs21 : a2 = (7 : Int32)
                  · replace h := z_ip h hs21
                    refine zr_tbl (off := 107) (tgt := 118) hs21 d_8_person_11 (by decide) (by decide) rfl rfl ?_
                    refine zr_aload_n (i := 0) d_8_person_118 rfl rfl ?_
                    refine zr_iconst (v := (1 : Int32)) d_8_person_119 rfl ?_
                    refine zr_iload_n (i := 1) d_8_person_120 rfl rfl ?_
                    obtain ⟨⟨q22, qm23⟩, hq24, h⟩ := z_bd h
                    replace h := z_h2 h
                    refine zr_callVi (av := [zI (1 : Int32), zI a1]) (st := []) d_8_person_121 mw_8_chanceNow ml_8_152 im_8_chanceNow se_8_chanceNow rfl rfl (Nat.le_of_ble_eq_true rfl) fit_5_3_6 rfl rfl rfl (s8_chanceNow hq24) ?_
                    obtain ⟨rfl, rfl⟩ := Prod.mk.inj (Option.some.inj h)
                    exact ze_i d_8_person_124 rfl
                  · replace h := z_im h hs21
                    by_cases hs25 : a2 = (8 : Int32)
                    · replace h := z_ip h hs25
                      refine zr_tbl (off := 114) (tgt := 125) hs25 d_8_person_11 (by decide) (by decide) rfl rfl ?_
                      refine zr_aload_n (i := 0) d_8_person_125 rfl rfl ?_
                      refine zr_iconst (v := (2 : Int32)) d_8_person_126 rfl ?_
                      refine zr_iload_n (i := 1) d_8_person_127 rfl rfl ?_
                      obtain ⟨⟨q26, qm27⟩, hq28, h⟩ := z_bd h
                      replace h := z_h2 h
                      refine zr_callVi (av := [zI (2 : Int32), zI a1]) (st := []) d_8_person_128 mw_8_chanceNow ml_8_152 im_8_chanceNow se_8_chanceNow rfl rfl (Nat.le_of_ble_eq_true rfl) fit_5_3_6 rfl rfl rfl (s8_chanceNow hq28) ?_
                      obtain ⟨rfl, rfl⟩ := Prod.mk.inj (Option.some.inj h)
                      exact ze_i d_8_person_131 rfl
                    · replace h := z_im h hs25
                      have hs3t := z_ti hs3
                      have hs5t := z_ti hs5
                      have hs7t := z_ti hs7
                      have hs9t := z_ti hs9
                      have hs11t := z_ti hs11
                      have hs14t := z_ti hs14
                      have hs17t := z_ti hs17
                      have hs21t := z_ti hs21
                      have hs25t := z_ti hs25
                      simp only [show ((0 : Int32)).toInt = 0 from rfl, show ((1 : Int32)).toInt = 1 from rfl, show ((2 : Int32)).toInt = 2 from rfl, show ((3 : Int32)).toInt = 3 from rfl, show ((4 : Int32)).toInt = 4 from rfl, show ((5 : Int32)).toInt = 5 from rfl, show ((6 : Int32)).toInt = 6 from rfl, show ((7 : Int32)).toInt = 7 from rfl, show ((8 : Int32)).toInt = 8 from rfl] at hs3t hs5t hs7t hs9t hs11t hs14t hs17t hs21t hs25t
                      refine zr_tableOut (tgt := 132) d_8_person_11 (by omega) rfl ?_
                      refine zr_iconst (v := (-1 : Int32)) d_8_person_132 rfl ?_
                      obtain ⟨rfl, rfl⟩ := Prod.mk.inj (Option.some.inj h)
                      exact ze_i d_8_person_133 rfl
def f8_send (a1 : Int32) (μ : zMem) : Option (Int32 × zMem) :=
  (if (f8_isPerson a1 μ) = 0 then some ((0 : Int32), μ) else (if (f8_has (μ.1 5 0 1) a1) = 0 then some ((0 : Int32), μ) else (f3_keep 0 μ).bind (fun qm5 => (f5_goAway 0 a1 qm5).bind (fun qm7 => some ((1 : Int32), qm7)))))
theorem s8_send {P : zP} {μ : zMem} {a1 : Int32} {r : Int32} {μ' : zMem} (h : f8_send a1 μ = some (r, μ')) : z_Sp P y_8_send M_8_send 3 [zA 8 0, zI a1] μ (some (zI r)) μ' := by
  refine z_Sp.of (plainFor_of_name (by decide)) rfl (l0 := [some (zA 8 0), some (zI a1)]) rfl (Nat.le_of_ble_eq_true rfl) ?_
  unfold f8_send at h
  refine zr_aload_n (i := 0) d_8_send_0 rfl rfl ?_
  refine zr_iload_n (i := 1) d_8_send_1 rfl rfl ?_
  refine zr_callVi (av := [zI a1]) (st := []) d_8_send_2 mw_8_isPerson ml_8_131 im_8_isPerson se_8_isPerson rfl rfl (Nat.le_of_ble_eq_true rfl) fit_1_2_3 rfl rfl rfl (s8_isPerson rfl) ?_
  refine zr_if_eq (tgt := 22) d_8_send_5 rfl (fun hc2 => ?_) (fun hc2 => ?_)
  · replace h := z_ip h hc2
    refine zr_iconst (v := (0 : Int32)) d_8_send_22 rfl ?_
    obtain ⟨rfl, rfl⟩ := Prod.mk.inj (Option.some.inj h)
    exact ze_z d_8_send_23 rfl rfl
  · replace h := z_im h hc2
    refine zr_aload_n (i := 0) d_8_send_8 rfl rfl ?_
    refine zr_gets (i' := 0) d_8_send_9 fw_8_34 rfl ?_
    refine zr_geti d_8_send_12 fw_8_167 (by decide) ?_
    refine zr_iload_n (i := 1) d_8_send_15 rfl rfl ?_
    refine zr_callSi (av := [zI (μ.1 5 0 1), zI a1]) (st := []) d_8_send_16 mw_8_has ml_8_159 is_8_has rfl rfl (Nat.le_of_ble_eq_true rfl) fit_1_2_3 (s8_has rfl) ?_
    refine zr_if_ne (tgt := 24) d_8_send_19 rfl (fun hc4 => ?_) (fun hc4 => ?_)
    · replace h := z_ip h hc4
      refine zr_iconst (v := (0 : Int32)) d_8_send_22 rfl ?_
      obtain ⟨rfl, rfl⟩ := Prod.mk.inj (Option.some.inj h)
      exact ze_z d_8_send_23 rfl rfl
    · replace h := z_im h hc4
      refine zr_aload_n (i := 0) d_8_send_24 rfl rfl ?_
      refine zr_gets (i' := 0) d_8_send_25 fw_8_54 rfl ?_
      refine zr_aload_n (i := 0) d_8_send_28 rfl rfl ?_
      refine zr_gets (i' := 0) d_8_send_29 fw_8_34 rfl ?_
      obtain ⟨qm5, hq6, h⟩ := z_bd h
      refine zr_callVv (av := [zA 5 0]) (st := []) d_8_send_32 mw_3_keep ml_8_170 im_3_keep se_3_keep rfl rfl (Nat.le_of_ble_eq_true rfl) fit_2_2_3 rfl rfl rfl (s3_keep hq6) ?_
      refine zr_aload_n (i := 0) d_8_send_35 rfl rfl ?_
      refine zr_gets (i' := 0) d_8_send_36 fw_8_34 rfl ?_
      refine zr_iload_n (i := 1) d_8_send_39 rfl rfl ?_
      obtain ⟨qm7, hq8, h⟩ := z_bd h
      refine zr_callVv (av := [zI a1]) (st := []) d_8_send_40 mw_5_goAway ml_8_174 im_5_goAway se_5_goAway rfl rfl (Nat.le_of_ble_eq_true rfl) fit_1_2_3 rfl rfl rfl (s5_goAway hq8) ?_
      refine zr_iconst (v := (1 : Int32)) d_8_send_43 rfl ?_
      obtain ⟨rfl, rfl⟩ := Prod.mk.inj (Option.some.inj h)
      exact ze_z d_8_send_44 rfl rfl
def f8_call (a1 : Int32) (μ : zMem) : Option (Int32 × zMem) :=
  (if (f8_isPerson a1 μ) = 0 then some ((0 : Int32), μ) else (if (f8_has (μ.1 5 0 2) a1) = 0 then some ((0 : Int32), μ) else (f3_keep 0 μ).bind (fun qm5 => (f5_comeHome 0 a1 qm5).bind (fun qm7 => some ((1 : Int32), qm7)))))
theorem s8_call {P : zP} {μ : zMem} {a1 : Int32} {r : Int32} {μ' : zMem} (h : f8_call a1 μ = some (r, μ')) : z_Sp P y_8_call M_8_call 3 [zA 8 0, zI a1] μ (some (zI r)) μ' := by
  refine z_Sp.of (plainFor_of_name (by decide)) rfl (l0 := [some (zA 8 0), some (zI a1)]) rfl (Nat.le_of_ble_eq_true rfl) ?_
  unfold f8_call at h
  refine zr_aload_n (i := 0) d_8_call_0 rfl rfl ?_
  refine zr_iload_n (i := 1) d_8_call_1 rfl rfl ?_
  refine zr_callVi (av := [zI a1]) (st := []) d_8_call_2 mw_8_isPerson ml_8_131 im_8_isPerson se_8_isPerson rfl rfl (Nat.le_of_ble_eq_true rfl) fit_1_2_3 rfl rfl rfl (s8_isPerson rfl) ?_
  refine zr_if_eq (tgt := 22) d_8_call_5 rfl (fun hc2 => ?_) (fun hc2 => ?_)
  · replace h := z_ip h hc2
    refine zr_iconst (v := (0 : Int32)) d_8_call_22 rfl ?_
    obtain ⟨rfl, rfl⟩ := Prod.mk.inj (Option.some.inj h)
    exact ze_z d_8_call_23 rfl rfl
  · replace h := z_im h hc2
    refine zr_aload_n (i := 0) d_8_call_8 rfl rfl ?_
    refine zr_gets (i' := 0) d_8_call_9 fw_8_34 rfl ?_
    refine zr_geti d_8_call_12 fw_8_177 (by decide) ?_
    refine zr_iload_n (i := 1) d_8_call_15 rfl rfl ?_
    refine zr_callSi (av := [zI (μ.1 5 0 2), zI a1]) (st := []) d_8_call_16 mw_8_has ml_8_159 is_8_has rfl rfl (Nat.le_of_ble_eq_true rfl) fit_1_2_3 (s8_has rfl) ?_
    refine zr_if_ne (tgt := 24) d_8_call_19 rfl (fun hc4 => ?_) (fun hc4 => ?_)
    · replace h := z_ip h hc4
      refine zr_iconst (v := (0 : Int32)) d_8_call_22 rfl ?_
      obtain ⟨rfl, rfl⟩ := Prod.mk.inj (Option.some.inj h)
      exact ze_z d_8_call_23 rfl rfl
    · replace h := z_im h hc4
      refine zr_aload_n (i := 0) d_8_call_24 rfl rfl ?_
      refine zr_gets (i' := 0) d_8_call_25 fw_8_54 rfl ?_
      refine zr_aload_n (i := 0) d_8_call_28 rfl rfl ?_
      refine zr_gets (i' := 0) d_8_call_29 fw_8_34 rfl ?_
      obtain ⟨qm5, hq6, h⟩ := z_bd h
      refine zr_callVv (av := [zA 5 0]) (st := []) d_8_call_32 mw_3_keep ml_8_170 im_3_keep se_3_keep rfl rfl (Nat.le_of_ble_eq_true rfl) fit_2_2_3 rfl rfl rfl (s3_keep hq6) ?_
      refine zr_aload_n (i := 0) d_8_call_35 rfl rfl ?_
      refine zr_gets (i' := 0) d_8_call_36 fw_8_34 rfl ?_
      refine zr_iload_n (i := 1) d_8_call_39 rfl rfl ?_
      obtain ⟨qm7, hq8, h⟩ := z_bd h
      refine zr_callVv (av := [zI a1]) (st := []) d_8_call_40 mw_5_comeHome ml_8_180 im_5_comeHome se_5_comeHome rfl rfl (Nat.le_of_ble_eq_true rfl) fit_1_2_3 rfl rfl rfl (s5_comeHome hq8) ?_
      refine zr_iconst (v := (1 : Int32)) d_8_call_43 rfl ?_
      obtain ⟨rfl, rfl⟩ := Prod.mk.inj (Option.some.inj h)
      exact ze_z d_8_call_44 rfl rfl
def f8_bury (a1 : Int32) (μ : zMem) : Option (Int32 × zMem) :=
  (if (f8_isPerson a1 μ) = 0 then some ((0 : Int32), μ) else (if (f8_has (f5_alive 0 μ) a1) = 0 then some ((0 : Int32), μ) else (f3_keep 0 μ).bind (fun qm6 => (f5_die 0 a1 qm6).bind (fun qm8 => some ((1 : Int32), qm8)))))
theorem s8_bury {P : zP} {μ : zMem} {a1 : Int32} {r : Int32} {μ' : zMem} (h : f8_bury a1 μ = some (r, μ')) : z_Sp P y_8_bury M_8_bury 3 [zA 8 0, zI a1] μ (some (zI r)) μ' := by
  refine z_Sp.of (plainFor_of_name (by decide)) rfl (l0 := [some (zA 8 0), some (zI a1)]) rfl (Nat.le_of_ble_eq_true rfl) ?_
  unfold f8_bury at h
  refine zr_aload_n (i := 0) d_8_bury_0 rfl rfl ?_
  refine zr_iload_n (i := 1) d_8_bury_1 rfl rfl ?_
  refine zr_callVi (av := [zI a1]) (st := []) d_8_bury_2 mw_8_isPerson ml_8_131 im_8_isPerson se_8_isPerson rfl rfl (Nat.le_of_ble_eq_true rfl) fit_1_2_3 rfl rfl rfl (s8_isPerson rfl) ?_
  refine zr_if_eq (tgt := 22) d_8_bury_5 rfl (fun hc2 => ?_) (fun hc2 => ?_)
  · replace h := z_ip h hc2
    refine zr_iconst (v := (0 : Int32)) d_8_bury_22 rfl ?_
    obtain ⟨rfl, rfl⟩ := Prod.mk.inj (Option.some.inj h)
    exact ze_z d_8_bury_23 rfl rfl
  · replace h := z_im h hc2
    refine zr_aload_n (i := 0) d_8_bury_8 rfl rfl ?_
    refine zr_gets (i' := 0) d_8_bury_9 fw_8_34 rfl ?_
    refine zr_callVi (av := []) (st := []) d_8_bury_12 mw_5_alive ml_8_183 im_5_alive se_5_alive rfl rfl (Nat.le_of_ble_eq_true rfl) fit_1_1_3 rfl rfl rfl (s5_alive rfl) ?_
    refine zr_iload_n (i := 1) d_8_bury_15 rfl rfl ?_
    refine zr_callSi (av := [zI (f5_alive 0 μ), zI a1]) (st := []) d_8_bury_16 mw_8_has ml_8_159 is_8_has rfl rfl (Nat.le_of_ble_eq_true rfl) fit_1_2_3 (s8_has rfl) ?_
    refine zr_if_ne (tgt := 24) d_8_bury_19 rfl (fun hc5 => ?_) (fun hc5 => ?_)
    · replace h := z_ip h hc5
      refine zr_iconst (v := (0 : Int32)) d_8_bury_22 rfl ?_
      obtain ⟨rfl, rfl⟩ := Prod.mk.inj (Option.some.inj h)
      exact ze_z d_8_bury_23 rfl rfl
    · replace h := z_im h hc5
      refine zr_aload_n (i := 0) d_8_bury_24 rfl rfl ?_
      refine zr_gets (i' := 0) d_8_bury_25 fw_8_54 rfl ?_
      refine zr_aload_n (i := 0) d_8_bury_28 rfl rfl ?_
      refine zr_gets (i' := 0) d_8_bury_29 fw_8_34 rfl ?_
      obtain ⟨qm6, hq7, h⟩ := z_bd h
      refine zr_callVv (av := [zA 5 0]) (st := []) d_8_bury_32 mw_3_keep ml_8_170 im_3_keep se_3_keep rfl rfl (Nat.le_of_ble_eq_true rfl) fit_2_2_3 rfl rfl rfl (s3_keep hq7) ?_
      refine zr_aload_n (i := 0) d_8_bury_35 rfl rfl ?_
      refine zr_gets (i' := 0) d_8_bury_36 fw_8_34 rfl ?_
      refine zr_iload_n (i := 1) d_8_bury_39 rfl rfl ?_
      obtain ⟨qm8, hq9, h⟩ := z_bd h
      refine zr_callVv (av := [zI a1]) (st := []) d_8_bury_40 mw_5_die ml_8_187 im_5_die se_5_die rfl rfl (Nat.le_of_ble_eq_true rfl) fit_1_2_3 rfl rfl rfl (s5_die hq9) ?_
      refine zr_iconst (v := (1 : Int32)) d_8_bury_43 rfl ?_
      obtain ⟨rfl, rfl⟩ := Prod.mk.inj (Option.some.inj h)
      exact ze_z d_8_bury_44 rfl rfl
def f8_give (a1 : Int32) (a2 : Int32) (a3 : Int32) (μ : zMem) : Option (Int32 × zMem) :=
  (if (f8_isPerson a1 μ) = 0 then some ((0 : Int32), μ) else (if (f8_isHouse a2 μ) = 0 then some ((0 : Int32), μ) else if z_in a2 5 = true then (if (f8_has (μ.1 25 0 a2.toNatClampNeg) a1) = a3 then some ((0 : Int32), μ) else (f3_keep 0 μ).bind (fun qm8 => z_let (z_sI qm8 25 0 a2.toNatClampNeg ((qm8.1 25 0 a2.toNatClampNeg) ^^^ ((1 : Int32) <<< (a1 &&& 31)))) fun m10 => some ((1 : Int32), m10))) else none))
theorem s8_give {P : zP} {μ : zMem} {a1 : Int32} {a2 : Int32} {a3 : Int32} {r : Int32} {μ' : zMem} (h : f8_give a1 a2 a3 μ = some (r, μ')) : z_Sp P y_8_give M_8_give 3 [zA 8 0, zI a1, zI a2, zI a3] μ (some (zI r)) μ' := by
  refine z_Sp.of (plainFor_of_name (by decide)) rfl (l0 := [some (zA 8 0), some (zI a1), some (zI a2), some (zI a3)]) rfl (Nat.le_of_ble_eq_true rfl) ?_
  unfold f8_give at h
  refine zr_aload_n (i := 0) d_8_give_0 rfl rfl ?_
  refine zr_iload_n (i := 1) d_8_give_1 rfl rfl ?_
  refine zr_callVi (av := [zI a1]) (st := []) d_8_give_2 mw_8_isPerson ml_8_131 im_8_isPerson se_8_isPerson rfl rfl (Nat.le_of_ble_eq_true rfl) fit_1_2_3 rfl rfl rfl (s8_isPerson rfl) ?_
  refine zr_if_eq (tgt := 33) d_8_give_5 rfl (fun hc2 => ?_) (fun hc2 => ?_)
  · replace h := z_ip h hc2
    refine zr_iconst (v := (0 : Int32)) d_8_give_33 rfl ?_
    obtain ⟨rfl, rfl⟩ := Prod.mk.inj (Option.some.inj h)
    exact ze_z d_8_give_34 rfl rfl
  · replace h := z_im h hc2
    refine zr_aload_n (i := 0) d_8_give_8 rfl rfl ?_
    refine zr_iload_n (i := 2) d_8_give_9 rfl rfl ?_
    refine zr_callVi (av := [zI a2]) (st := []) d_8_give_10 mw_8_isHouse ml_8_109 im_8_isHouse se_8_isHouse rfl rfl (Nat.le_of_ble_eq_true rfl) fit_1_2_3 rfl rfl rfl (s8_isHouse rfl) ?_
    refine zr_if_eq (tgt := 33) d_8_give_13 rfl (fun hc4 => ?_) (fun hc4 => ?_)
    · replace h := z_ip h hc4
      refine zr_iconst (v := (0 : Int32)) d_8_give_33 rfl ?_
      obtain ⟨rfl, rfl⟩ := Prod.mk.inj (Option.some.inj h)
      exact ze_z d_8_give_34 rfl rfl
    · replace h := z_im h hc4
      refine zr_aload_n (i := 0) d_8_give_16 rfl rfl ?_
      refine zr_gets (i' := 0) d_8_give_17 fw_8_34 rfl ?_
      refine zr_gets (i' := 0) d_8_give_20 fw_8_120 rfl ?_
      refine zr_iload_n (i := 2) d_8_give_23 rfl rfl ?_
      obtain ⟨hb5, h⟩ := z_gd h
      refine zr_iald d_8_give_24 sa_25 rfl hb5 ?_
      refine zr_iload_n (i := 1) d_8_give_25 rfl rfl ?_
      refine zr_callSi (av := [zI (μ.1 25 0 a2.toNatClampNeg), zI a1]) (st := []) d_8_give_26 mw_8_has ml_8_159 is_8_has rfl rfl (Nat.le_of_ble_eq_true rfl) fit_1_2_3 (s8_has rfl) ?_
      refine zr_iload_n (i := 3) d_8_give_29 rfl rfl ?_
      refine zr_icmp_ne (tgt := 35) d_8_give_30 rfl (fun hc7 => ?_) (fun hc7 => ?_)
      · replace h := z_ip h hc7
        refine zr_iconst (v := (0 : Int32)) d_8_give_33 rfl ?_
        obtain ⟨rfl, rfl⟩ := Prod.mk.inj (Option.some.inj h)
        exact ze_z d_8_give_34 rfl rfl
      · replace h := z_im h hc7
        refine zr_aload_n (i := 0) d_8_give_35 rfl rfl ?_
        refine zr_gets (i' := 0) d_8_give_36 fw_8_54 rfl ?_
        refine zr_aload_n (i := 0) d_8_give_39 rfl rfl ?_
        refine zr_gets (i' := 0) d_8_give_40 fw_8_34 rfl ?_
        obtain ⟨qm8, hq9, h⟩ := z_bd h
        refine zr_callVv (av := [zA 5 0]) (st := []) d_8_give_43 mw_3_keep ml_8_170 im_3_keep se_3_keep rfl rfl (Nat.le_of_ble_eq_true rfl) fit_2_2_3 rfl rfl rfl (s3_keep hq9) ?_
        refine zr_aload_n (i := 0) d_8_give_46 rfl rfl ?_
        refine zr_gets (i' := 0) d_8_give_47 fw_8_34 rfl ?_
        refine zr_gets (i' := 0) d_8_give_50 fw_8_120 rfl ?_
        refine zr_iload_n (i := 2) d_8_give_53 rfl rfl ?_
        refine zr_dup2 d_8_give_54 ?_
        refine zr_iald d_8_give_55 sa_25 rfl hb5 ?_
        refine zr_iconst (v := (1 : Int32)) d_8_give_56 rfl ?_
        refine zr_iload_n (i := 1) d_8_give_57 rfl rfl ?_
        refine zr_ishl d_8_give_58 ?_
        refine zr_ixor d_8_give_59 ?_
        obtain ⟨m10, hm11, h⟩ := z_lt h
        refine zr_iast d_8_give_60 sa_25 rfl hb5 hm11 ?_
        refine zr_iconst (v := (1 : Int32)) d_8_give_61 rfl ?_
        obtain ⟨rfl, rfl⟩ := Prod.mk.inj (Option.some.inj h)
        exact ze_z d_8_give_62 rfl rfl
def f8_areYears (a0 : Int32) (a1 : Int32) : Int32 :=
  (if a0 < a1 then (0 : Int32) else (if (40 : Int32) < a0 then (0 : Int32) else (1 : Int32)))
theorem s8_areYears {P : zP} {μ : zMem} {a0 : Int32} {a1 : Int32} {r : Int32} (h : f8_areYears a0 a1 = r) : z_Sp P y_8_areYears M_8_areYears 1 [zI a0, zI a1] μ (some (zI r)) μ := by
  refine z_Sp.of (plainFor_of_name (by decide)) rfl (l0 := [some (zI a0), some (zI a1)]) rfl (Nat.le_of_ble_eq_true rfl) ?_
  unfold f8_areYears at h
  refine zr_iload_n (i := 0) d_8_areYears_0 rfl rfl ?_
  refine zr_iload_n (i := 1) d_8_areYears_1 rfl rfl ?_
  refine zr_icmp_lt (tgt := 15) d_8_areYears_2 rfl (fun hc1 => ?_) (fun hc1 => ?_)
  · replace h := z_ip h hc1
    refine zr_iconst (v := (0 : Int32)) d_8_areYears_15 rfl ?_
    obtain rfl := h
    exact ze_z d_8_areYears_16 rfl rfl
  · replace h := z_im h hc1
    refine zr_iload_n (i := 0) d_8_areYears_5 rfl rfl ?_
    refine zr_bipush (v := (40 : Int32)) d_8_areYears_6 rfl ?_
    refine zr_icmp_gt (tgt := 15) d_8_areYears_8 rfl (fun hc2 => ?_) (fun hc2 => ?_)
    · replace h := z_ip h hc2
      refine zr_iconst (v := (0 : Int32)) d_8_areYears_15 rfl ?_
      obtain rfl := h
      exact ze_z d_8_areYears_16 rfl rfl
    · replace h := z_im h hc2
      refine zr_iconst (v := (1 : Int32)) d_8_areYears_11 rfl ?_
      refine zr_goto (tgt := 16) d_8_areYears_12 rfl ?_
      obtain rfl := h
      exact ze_z d_8_areYears_16 rfl rfl
def f8_years (a1 : Int32) (μ : zMem) : Option (Int32 × zMem) :=
  (if (f8_areYears a1 (0 : Int32)) = 0 then some ((-1 : Int32), μ) else (if 0 < a1 then (f3_keep 0 μ).bind (fun qm4 => (f0_goOn (qm4.2.2 8 0 3) 0 a1 (qm4.1 6 (qm4.2.2 8 0 3) 2) qm4).bind (fun qm6 => some ((qm6.1 5 0 0), qm6))) else some ((μ.1 5 0 0), μ)))
theorem s8_years {P : zP} {μ : zMem} {a1 : Int32} {r : Int32} {μ' : zMem} (h : f8_years a1 μ = some (r, μ')) : z_Sp P y_8_years M_8_years 7 [zA 8 0, zI a1] μ (some (zI r)) μ' := by
  refine z_Sp.of (plainFor_of_name (by decide)) rfl (l0 := [some (zA 8 0), some (zI a1)]) rfl (Nat.le_of_ble_eq_true rfl) ?_
  unfold f8_years at h
  refine zr_iload_n (i := 1) d_8_years_0 rfl rfl ?_
  refine zr_iconst (v := (0 : Int32)) d_8_years_1 rfl ?_
  refine zr_callSi (av := [zI a1, zI (0 : Int32)]) (st := []) d_8_years_2 mw_8_areYears ml_8_190 is_8_areYears rfl rfl (Nat.le_of_ble_eq_true rfl) fit_1_2_7 (s8_areYears rfl) ?_
  refine zr_if_ne (tgt := 10) d_8_years_5 rfl (fun hc2 => ?_) (fun hc2 => ?_)
  · replace h := z_ip h hc2
    refine zr_iconst (v := (-1 : Int32)) d_8_years_8 rfl ?_
    obtain ⟨rfl, rfl⟩ := Prod.mk.inj (Option.some.inj h)
    exact ze_i d_8_years_9 rfl
  · replace h := z_im h hc2
    refine zr_iload_n (i := 1) d_8_years_10 rfl rfl ?_
    refine zr_if_le (tgt := 48) d_8_years_11 rfl (fun hc3 => ?_) (fun hc3 => ?_)
    · replace h := z_ip h hc3
      refine zr_aload_n (i := 0) d_8_years_14 rfl rfl ?_
      refine zr_gets (i' := 0) d_8_years_15 fw_8_54 rfl ?_
      refine zr_aload_n (i := 0) d_8_years_18 rfl rfl ?_
      refine zr_gets (i' := 0) d_8_years_19 fw_8_34 rfl ?_
      obtain ⟨qm4, hq5, h⟩ := z_bd h
      refine zr_callVv (av := [zA 5 0]) (st := []) d_8_years_22 mw_3_keep ml_8_170 im_3_keep se_3_keep rfl rfl (Nat.le_of_ble_eq_true rfl) fit_2_2_7 rfl rfl rfl (s3_keep hq5) ?_
      refine zr_aload_n (i := 0) d_8_years_25 rfl rfl ?_
      refine zr_gets (i' := 0) d_8_years_26 fw_8_75 rfl ?_
      refine zr_aload_n (i := 0) d_8_years_29 rfl rfl ?_
      refine zr_getd d_8_years_30 fw_8_27 ?_
      refine zr_aload_n (i := 0) d_8_years_33 rfl rfl ?_
      refine zr_gets (i' := 0) d_8_years_34 fw_8_34 rfl ?_
      refine zr_iload_n (i := 1) d_8_years_37 rfl rfl ?_
      refine zr_aload_n (i := 0) d_8_years_38 rfl rfl ?_
      refine zr_getd d_8_years_39 fw_8_27 ?_
      refine zr_geti d_8_years_42 fw_8_193 (by decide) ?_
      obtain ⟨qm6, hq7, h⟩ := z_bd h
      refine zr_callVv (av := [zA 6 (qm4.2.2 8 0 3), zA 5 0, zI a1, zI (qm4.1 6 (qm4.2.2 8 0 3) 2)]) (st := []) d_8_years_45 mw_0_goOn ml_8_196 im_0_goOn se_0_goOn rfl rfl (Nat.le_of_ble_eq_true rfl) fit_6_9_7 rfl rfl rfl (s0_goOn hq7) ?_
      refine zr_aload_n (i := 0) d_8_years_48 rfl rfl ?_
      refine zr_gets (i' := 0) d_8_years_49 fw_8_34 rfl ?_
      refine zr_geti d_8_years_52 fw_8_200 (by decide) ?_
      obtain ⟨rfl, rfl⟩ := Prod.mk.inj (Option.some.inj h)
      exact ze_i d_8_years_55 rfl
    · replace h := z_im h hc3
      refine zr_aload_n (i := 0) d_8_years_48 rfl rfl ?_
      refine zr_gets (i' := 0) d_8_years_49 fw_8_34 rfl ?_
      refine zr_geti d_8_years_52 fw_8_200 (by decide) ?_
      obtain ⟨rfl, rfl⟩ := Prod.mk.inj (Option.some.inj h)
      exact ze_i d_8_years_55 rfl
def f8_undo  (μ : zMem) : Option (Int32 × zMem) :=
  (f3_takeBack 0 μ).bind (z_u2 fun q1 qm2 => if z_b q1 = true then some (q1, qm2) else none)
theorem s8_undo {P : zP} {μ : zMem} {r : Int32} {μ' : zMem} (h : f8_undo μ = some (r, μ')) : z_Sp P y_8_undo M_8_undo 3 [zA 8 0] μ (some (zI r)) μ' := by
  refine z_Sp.of (plainFor_of_name (by decide)) rfl (l0 := [some (zA 8 0)]) rfl (Nat.le_of_ble_eq_true rfl) ?_
  unfold f8_undo at h
  refine zr_aload_n (i := 0) d_8_undo_0 rfl rfl ?_
  refine zr_gets (i' := 0) d_8_undo_1 fw_8_54 rfl ?_
  refine zr_aload_n (i := 0) d_8_undo_4 rfl rfl ?_
  refine zr_gets (i' := 0) d_8_undo_5 fw_8_34 rfl ?_
  obtain ⟨⟨q1, qm2⟩, hq3, h⟩ := z_bd h
  replace h := z_h2 h
  refine zr_callVi (av := [zA 5 0]) (st := []) d_8_undo_8 mw_3_takeBack ml_8_203 im_3_takeBack se_3_takeBack rfl rfl (Nat.le_of_ble_eq_true rfl) fit_2_2_3 rfl rfl rfl (s3_takeBack hq3) ?_
  obtain ⟨hzb, h⟩ := z_gd h
  obtain ⟨rfl, rfl⟩ := Prod.mk.inj (Option.some.inj h)
  exact ze_z d_8_undo_11 rfl (z_b_ok hzb)
def f8_heir (a1 : Int32) (μ : zMem) : Option (Int32) :=
  (if (f8_isHouse a1 μ) = 0 then some (-1 : Int32) else (f5_heirOf 0 a1 μ).bind (fun q3 => some q3))
theorem s8_heir {P : zP} {μ : zMem} {a1 : Int32} {r : Int32} (h : f8_heir a1 μ = some r) : z_Sp P y_8_heir M_8_heir 5 [zA 8 0, zI a1] μ (some (zI r)) μ := by
  refine z_Sp.of (plainFor_of_name (by decide)) rfl (l0 := [some (zA 8 0), some (zI a1)]) rfl (Nat.le_of_ble_eq_true rfl) ?_
  unfold f8_heir at h
  refine zr_aload_n (i := 0) d_8_heir_0 rfl rfl ?_
  refine zr_iload_n (i := 1) d_8_heir_1 rfl rfl ?_
  refine zr_callVi (av := [zI a1]) (st := []) d_8_heir_2 mw_8_isHouse ml_8_109 im_8_isHouse se_8_isHouse rfl rfl (Nat.le_of_ble_eq_true rfl) fit_1_2_5 rfl rfl rfl (s8_isHouse rfl) ?_
  refine zr_if_ne (tgt := 10) d_8_heir_5 rfl (fun hc2 => ?_) (fun hc2 => ?_)
  · replace h := z_ip h hc2
    refine zr_iconst (v := (-1 : Int32)) d_8_heir_8 rfl ?_
    obtain rfl := Option.some.inj h
    exact ze_i d_8_heir_9 rfl
  · replace h := z_im h hc2
    refine zr_aload_n (i := 0) d_8_heir_10 rfl rfl ?_
    refine zr_gets (i' := 0) d_8_heir_11 fw_8_34 rfl ?_
    refine zr_iload_n (i := 1) d_8_heir_14 rfl rfl ?_
    obtain ⟨q3, hq4, h⟩ := z_bd h
    refine zr_callVi (av := [zI a1]) (st := []) d_8_heir_15 mw_5_heirOf ml_8_207 im_5_heirOf se_5_heirOf rfl rfl (Nat.le_of_ble_eq_true rfl) fit_4_3_5 rfl rfl rfl (s5_heirOf hq4) ?_
    obtain rfl := Option.some.inj h
    exact ze_i d_8_heir_18 rfl
def f8_race (a1 : Int32) (μ : zMem) : Option (Int32) :=
  (if (f8_isHouse a1 μ) = 0 then some (-1 : Int32) else (f5_landlordOf 0 a1 μ).bind (fun q3 => (f5_heirOf 0 a1 μ).bind (fun q5 => (if q3 < 0 then some (-2 : Int32) else (if q5 < 0 then some (-2 : Int32) else if z_in q3 7 = true then if z_in q5 7 = true then some ((μ.1 22 0 q3.toNatClampNeg) - (μ.1 22 0 q5.toNatClampNeg)) else none else none)))))
theorem s8_race {P : zP} {μ : zMem} {a1 : Int32} {r : Int32} (h : f8_race a1 μ = some r) : z_Sp P y_8_race M_8_race 5 [zA 8 0, zI a1] μ (some (zI r)) μ := by
  refine z_Sp.of (plainFor_of_name (by decide)) rfl (l0 := [some (zA 8 0), some (zI a1), none, none]) rfl (Nat.le_of_ble_eq_true rfl) ?_
  unfold f8_race at h
  refine zr_aload_n (i := 0) d_8_race_0 rfl rfl ?_
  refine zr_iload_n (i := 1) d_8_race_1 rfl rfl ?_
  refine zr_callVi (av := [zI a1]) (st := []) d_8_race_2 mw_8_isHouse ml_8_109 im_8_isHouse se_8_isHouse rfl rfl (Nat.le_of_ble_eq_true rfl) fit_1_2_5 rfl rfl rfl (s8_isHouse rfl) ?_
  refine zr_if_ne (tgt := 10) d_8_race_5 rfl (fun hc2 => ?_) (fun hc2 => ?_)
  · replace h := z_ip h hc2
    refine zr_iconst (v := (-1 : Int32)) d_8_race_8 rfl ?_
    obtain rfl := Option.some.inj h
    exact ze_i d_8_race_9 rfl
  · replace h := z_im h hc2
    refine zr_aload_n (i := 0) d_8_race_10 rfl rfl ?_
    refine zr_gets (i' := 0) d_8_race_11 fw_8_34 rfl ?_
    refine zr_iload_n (i := 1) d_8_race_14 rfl rfl ?_
    obtain ⟨q3, hq4, h⟩ := z_bd h
    refine zr_callVi (av := [zI a1]) (st := []) d_8_race_15 mw_5_landlordOf ml_8_116 im_5_landlordOf se_5_landlordOf rfl rfl (Nat.le_of_ble_eq_true rfl) fit_3_2_5 rfl rfl rfl (s5_landlordOf hq4) ?_
    refine zr_istore_n (i := 2) (l' := [some (zA 8 0), some (zI a1), some (zI q3), none]) d_8_race_18 rfl (by decide) rfl ?_
    refine zr_aload_n (i := 0) d_8_race_19 rfl rfl ?_
    refine zr_gets (i' := 0) d_8_race_20 fw_8_34 rfl ?_
    refine zr_iload_n (i := 1) d_8_race_23 rfl rfl ?_
    obtain ⟨q5, hq6, h⟩ := z_bd h
    refine zr_callVi (av := [zI a1]) (st := []) d_8_race_24 mw_5_heirOf ml_8_207 im_5_heirOf se_5_heirOf rfl rfl (Nat.le_of_ble_eq_true rfl) fit_4_3_5 rfl rfl rfl (s5_heirOf hq6) ?_
    refine zr_istore_n (i := 3) (l' := [some (zA 8 0), some (zI a1), some (zI q3), some (zI q5)]) d_8_race_27 rfl (by decide) rfl ?_
    refine zr_iload_n (i := 2) d_8_race_28 rfl rfl ?_
    refine zr_if_lt (tgt := 36) d_8_race_29 rfl (fun hc7 => ?_) (fun hc7 => ?_)
    · replace h := z_ip h hc7
      refine zr_bipush (v := (-2 : Int32)) d_8_race_36 (by decide) ?_
      obtain rfl := Option.some.inj h
      exact ze_i d_8_race_38 rfl
    · replace h := z_im h hc7
      refine zr_iload_n (i := 3) d_8_race_32 rfl rfl ?_
      refine zr_if_ge (tgt := 39) d_8_race_33 rfl (fun hc8 => ?_) (fun hc8 => ?_)
      · replace h := z_ip h hc8
        refine zr_bipush (v := (-2 : Int32)) d_8_race_36 (by decide) ?_
        obtain rfl := Option.some.inj h
        exact ze_i d_8_race_38 rfl
      · replace h := z_im h hc8
        refine zr_aload_n (i := 0) d_8_race_39 rfl rfl ?_
        refine zr_gets (i' := 0) d_8_race_40 fw_8_34 rfl ?_
        refine zr_gets (i' := 0) d_8_race_43 fw_8_140 rfl ?_
        refine zr_iload_n (i := 2) d_8_race_46 rfl rfl ?_
        obtain ⟨hb9, h⟩ := z_gd h
        refine zr_iald d_8_race_47 sa_22 rfl hb9 ?_
        refine zr_aload_n (i := 0) d_8_race_48 rfl rfl ?_
        refine zr_gets (i' := 0) d_8_race_49 fw_8_34 rfl ?_
        refine zr_gets (i' := 0) d_8_race_52 fw_8_140 rfl ?_
        refine zr_iload_n (i := 3) d_8_race_55 rfl rfl ?_
        obtain ⟨hb10, h⟩ := z_gd h
        refine zr_iald d_8_race_56 sa_22 rfl hb10 ?_
        refine zr_isub d_8_race_57 ?_
        obtain rfl := Option.some.inj h
        exact ze_i d_8_race_58 rfl
def f8_gainOnTrial (a1 : Int32) (a2 : Int32) (μ : zMem) : Option (Int32 × zMem) :=
  (f0_standStill (μ.2.2 8 0 3) 1 a2 μ).bind (fun qm1 => if z_in a1 7 = true then some (((qm1.1 23 1 a1.toNatClampNeg) - (qm1.1 23 0 a1.toNatClampNeg)), qm1) else none)
theorem s8_gainOnTrial {P : zP} {μ : zMem} {a1 : Int32} {a2 : Int32} {r : Int32} {μ' : zMem} (h : f8_gainOnTrial a1 a2 μ = some (r, μ')) : z_Sp P y_8_gainOnTrial M_8_gainOnTrial 7 [zA 8 0, zI a1, zI a2] μ (some (zI r)) μ' := by
  refine z_Sp.of (plainFor_of_name (by decide)) rfl (l0 := [some (zA 8 0), some (zI a1), some (zI a2)]) rfl (Nat.le_of_ble_eq_true rfl) ?_
  unfold f8_gainOnTrial at h
  refine zr_aload_n (i := 0) d_8_gainOnTrial_0 rfl rfl ?_
  refine zr_gets (i' := 0) d_8_gainOnTrial_1 fw_8_75 rfl ?_
  refine zr_aload_n (i := 0) d_8_gainOnTrial_4 rfl rfl ?_
  refine zr_getd d_8_gainOnTrial_5 fw_8_27 ?_
  refine zr_aload_n (i := 0) d_8_gainOnTrial_8 rfl rfl ?_
  refine zr_gets (i' := 1) d_8_gainOnTrial_9 fw_8_38 rfl ?_
  refine zr_iload_n (i := 2) d_8_gainOnTrial_12 rfl rfl ?_
  obtain ⟨qm1, hq2, h⟩ := z_bd h
  refine zr_callVv (av := [zA 6 (μ.2.2 8 0 3), zA 5 1, zI a2]) (st := []) d_8_gainOnTrial_13 mw_0_standStill ml_8_216 im_0_standStill se_0_standStill rfl rfl (Nat.le_of_ble_eq_true rfl) fit_6_5_7 rfl rfl rfl (s0_standStill hq2) ?_
  refine zr_aload_n (i := 0) d_8_gainOnTrial_16 rfl rfl ?_
  refine zr_gets (i' := 1) d_8_gainOnTrial_17 fw_8_38 rfl ?_
  refine zr_gets (i' := 1) d_8_gainOnTrial_20 fw_8_143 rfl ?_
  refine zr_iload_n (i := 1) d_8_gainOnTrial_23 rfl rfl ?_
  obtain ⟨hb3, h⟩ := z_gd h
  refine zr_iald d_8_gainOnTrial_24 sa_23 rfl hb3 ?_
  refine zr_aload_n (i := 0) d_8_gainOnTrial_25 rfl rfl ?_
  refine zr_gets (i' := 0) d_8_gainOnTrial_26 fw_8_34 rfl ?_
  refine zr_gets (i' := 0) d_8_gainOnTrial_29 fw_8_143 rfl ?_
  refine zr_iload_n (i := 1) d_8_gainOnTrial_32 rfl rfl ?_
  refine zr_iald d_8_gainOnTrial_33 sa_23 rfl hb3 ?_
  refine zr_isub d_8_gainOnTrial_34 ?_
  obtain ⟨rfl, rfl⟩ := Prod.mk.inj (Option.some.inj h)
  exact ze_i d_8_gainOnTrial_35 rfl
def f8_gain (a1 : Int32) (a2 : Int32) (μ : zMem) : Option (Int32 × zMem) :=
  (if (f8_isPerson a1 μ) = 0 then some ((-1 : Int32), μ) else (if (f8_areYears a2 (0 : Int32)) = 0 then some ((-1 : Int32), μ) else z_let (f5_copyFrom 1 0 μ) (fun qm5 => (f8_gainOnTrial a1 a2 qm5).bind (z_u2 fun q7 qm8 => some (q7, qm8)))))
theorem s8_gain {P : zP} {μ : zMem} {a1 : Int32} {a2 : Int32} {r : Int32} {μ' : zMem} (h : f8_gain a1 a2 μ = some (r, μ')) : z_Sp P y_8_gain M_8_gain 8 [zA 8 0, zI a1, zI a2] μ (some (zI r)) μ' := by
  refine z_Sp.of (plainFor_of_name (by decide)) rfl (l0 := [some (zA 8 0), some (zI a1), some (zI a2)]) rfl (Nat.le_of_ble_eq_true rfl) ?_
  unfold f8_gain at h
  refine zr_aload_n (i := 0) d_8_gain_0 rfl rfl ?_
  refine zr_iload_n (i := 1) d_8_gain_1 rfl rfl ?_
  refine zr_callVi (av := [zI a1]) (st := []) d_8_gain_2 mw_8_isPerson ml_8_131 im_8_isPerson se_8_isPerson rfl rfl (Nat.le_of_ble_eq_true rfl) fit_1_2_8 rfl rfl rfl (s8_isPerson rfl) ?_
  refine zr_if_eq (tgt := 16) d_8_gain_5 rfl (fun hc2 => ?_) (fun hc2 => ?_)
  · replace h := z_ip h hc2
    refine zr_iconst (v := (-1 : Int32)) d_8_gain_16 rfl ?_
    obtain ⟨rfl, rfl⟩ := Prod.mk.inj (Option.some.inj h)
    exact ze_i d_8_gain_17 rfl
  · replace h := z_im h hc2
    refine zr_iload_n (i := 2) d_8_gain_8 rfl rfl ?_
    refine zr_iconst (v := (0 : Int32)) d_8_gain_9 rfl ?_
    refine zr_callSi (av := [zI a2, zI (0 : Int32)]) (st := []) d_8_gain_10 mw_8_areYears ml_8_190 is_8_areYears rfl rfl (Nat.le_of_ble_eq_true rfl) fit_1_2_8 (s8_areYears rfl) ?_
    refine zr_if_ne (tgt := 18) d_8_gain_13 rfl (fun hc4 => ?_) (fun hc4 => ?_)
    · replace h := z_ip h hc4
      refine zr_iconst (v := (-1 : Int32)) d_8_gain_16 rfl ?_
      obtain ⟨rfl, rfl⟩ := Prod.mk.inj (Option.some.inj h)
      exact ze_i d_8_gain_17 rfl
    · replace h := z_im h hc4
      refine zr_aload_n (i := 0) d_8_gain_18 rfl rfl ?_
      refine zr_gets (i' := 1) d_8_gain_19 fw_8_38 rfl ?_
      refine zr_aload_n (i := 0) d_8_gain_22 rfl rfl ?_
      refine zr_gets (i' := 0) d_8_gain_23 fw_8_34 rfl ?_
      obtain ⟨qm5, hq6, h⟩ := z_lt h
      refine zr_callVv (av := [zA 5 0]) (st := []) d_8_gain_26 mw_5_copyFrom ml_8_210 im_5_copyFrom se_5_copyFrom rfl rfl (Nat.le_of_ble_eq_true rfl) fit_1_2_8 rfl rfl rfl (s5_copyFrom hq6.symm) ?_
      refine zr_aload_n (i := 0) d_8_gain_29 rfl rfl ?_
      refine zr_iload_n (i := 1) d_8_gain_30 rfl rfl ?_
      refine zr_iload_n (i := 2) d_8_gain_31 rfl rfl ?_
      obtain ⟨⟨q7, qm8⟩, hq9, h⟩ := z_bd h
      replace h := z_h2 h
      refine zr_callVi (av := [zI a1, zI a2]) (st := []) d_8_gain_32 mw_8_gainOnTrial ml_8_213 im_8_gainOnTrial se_8_gainOnTrial rfl rfl (Nat.le_of_ble_eq_true rfl) fit_7_3_8 rfl rfl rfl (s8_gainOnTrial hq9) ?_
      obtain ⟨rfl, rfl⟩ := Prod.mk.inj (Option.some.inj h)
      exact ze_i d_8_gain_35 rfl
def f8_best_L11 (a1 : Int32) (a2 : Int32) : (Int32 × Int32 × Int32 × zMem) → Option ((Int32 × Int32 × Int32 × zMem) ⊕ (Int32 × Int32 × zMem)) := (z_u4 fun x12 x13 x14 xm15 => 
  (if x14 < a2 then z_let (f5_copyFrom 1 2 xm15) (fun qm17 => (f5_goAway 1 a1 qm17).bind (fun qm19 => (f8_gainOnTrial a1 (a2 - x14) qm19).bind (z_u2 fun q21 qm22 => ((if x14 = 0 then some (x14, q21) else (if x13 < q21 then some (x14, q21) else some (x12, x13))) : Option (Int32 × Int32)).bind (z_u2 fun j28 j29 => (f0_standStill (qm22.2.2 8 0 3) 2 (1 : Int32) qm22).bind (fun qm30 => some (.inl (j28, j29, (x14 + (1 : Int32)), qm30))))))) else some (.inr (x12, x13, xm15))))
def f8_best (a1 : Int32) (a2 : Int32) (a3 : Int32) (μ : zMem) : Option (Int32 × zMem) :=
  (if (f8_isPerson a1 μ) = 0 then some ((-1 : Int32), μ) else (if (f8_has (μ.1 5 0 1) a1) = 0 then some ((-1 : Int32), μ) else (if (f8_areYears a2 (1 : Int32)) = 0 then some ((-1 : Int32), μ) else (if a3 < 0 then some ((-1 : Int32), μ) else (if (1 : Int32) < a3 then some ((-1 : Int32), μ) else z_let (f5_copyFrom 2 0 μ) (fun qm9 => (z_it (f8_best_L11 a1 a2) z_fu ((0 : Int32), (-1 : Int32), (0 : Int32), qm9)).bind (z_u3 fun e32 e33 e34 => (if a3 = 0 then some (e32, e34) else some (e33, e34)))))))))
theorem s8_best_L11 {P : zP} {ro : Option zV} {μo : zMem} (a1 : Int32) (a2 : Int32) (a3 : Int32) (x12 : Int32) (x13 : Int32) (x14 : Int32) (xm15 : zMem) (K : (Int32 × Int32 × Int32 × zMem) ⊕ (Int32 × Int32 × zMem)) (h : f8_best_L11 a1 a2 (x12, x13, x14, xm15) = some K) (hI : ∀ (y0 : Int32) (y1 : Int32) (y2 : Int32) (y3 : zMem), K = .inl (y0, y1, y2, y3) → z_RQ P M_8_best (z_rm 8) (z_mq P ro μo) 0 0 61 [some (zA 8 0), some (zI a1), some (zI a2), some (zI a3), some (zI y0), some (zI y1), some (zI y2), none] [] y3) (hE : ∀ (z0 : Int32) (z1 : Int32) (z2 : zMem), K = .inr (z0, z1, z2) → z_RQ P M_8_best (z_rm 8) (z_mq P ro μo) 0 0 139 [none, none, none, some (zI a3), some (zI z0), some (zI z1), none, none] [] z2)  : z_RQ P M_8_best (z_rm 8) (z_mq P ro μo) 0 0 61 [some (zA 8 0), some (zI a1), some (zI a2), some (zI a3), some (zI x12), some (zI x13), some (zI x14), none] [] xm15 := by
  unfold f8_best_L11 at h
  replace h := z_h4 h
  refine zr_iload d_8_best_61 rfl ?_
  refine zr_iload_n (i := 2) d_8_best_63 rfl rfl ?_
  refine zr_icmp_ge (tgt := 139) d_8_best_64 rfl (fun hc16 => ?_) (fun hc16 => ?_)
  · replace h := z_ip h hc16
    refine zr_aload_n (i := 0) d_8_best_67 rfl rfl ?_
    refine zr_gets (i' := 1) d_8_best_68 fw_8_38 rfl ?_
    refine zr_aload_n (i := 0) d_8_best_71 rfl rfl ?_
    refine zr_gets (i' := 2) d_8_best_72 fw_8_41 rfl ?_
    obtain ⟨qm17, hq18, h⟩ := z_lt h
    refine zr_callVv (av := [zA 5 2]) (st := []) d_8_best_75 mw_5_copyFrom ml_8_210 im_5_copyFrom se_5_copyFrom rfl rfl (Nat.le_of_ble_eq_true rfl) fit_1_2_8 rfl rfl rfl (s5_copyFrom hq18.symm) ?_
    refine zr_aload_n (i := 0) d_8_best_78 rfl rfl ?_
    refine zr_gets (i' := 1) d_8_best_79 fw_8_38 rfl ?_
    refine zr_iload_n (i := 1) d_8_best_82 rfl rfl ?_
    obtain ⟨qm19, hq20, h⟩ := z_bd h
    refine zr_callVv (av := [zI a1]) (st := []) d_8_best_83 mw_5_goAway ml_8_174 im_5_goAway se_5_goAway rfl rfl (Nat.le_of_ble_eq_true rfl) fit_1_2_8 rfl rfl rfl (s5_goAway hq20) ?_
    refine zr_aload_n (i := 0) d_8_best_86 rfl rfl ?_
    refine zr_iload_n (i := 1) d_8_best_87 rfl rfl ?_
    refine zr_iload_n (i := 2) d_8_best_88 rfl rfl ?_
    refine zr_iload d_8_best_89 rfl ?_
    refine zr_isub d_8_best_91 ?_
    obtain ⟨⟨q21, qm22⟩, hq23, h⟩ := z_bd h
    replace h := z_h2 h
    refine zr_callVi (av := [zI a1, zI (a2 - x14)]) (st := []) d_8_best_92 mw_8_gainOnTrial ml_8_213 im_8_gainOnTrial se_8_gainOnTrial rfl rfl (Nat.le_of_ble_eq_true rfl) fit_7_3_8 rfl rfl rfl (s8_gainOnTrial hq23) ?_
    refine zr_istore (i := 7) (l' := [some (zA 8 0), some (zI a1), some (zI a2), some (zI a3), some (zI x12), some (zI x13), some (zI x14), some (zI q21)]) d_8_best_95 (by decide) rfl ?_
    refine zr_iload d_8_best_97 rfl ?_
    obtain ⟨⟨j28, j29⟩, hT24, h⟩ := z_bd h
    replace h := z_h2 h
    have hJ25 : z_RQ P M_8_best (z_rm 8) (z_mq P ro μo) 0 0 117 [some (zA 8 0), some (zI a1), some (zI a2), some (zI a3), some (zI j28), some (zI j29), some (zI x14), none] [] qm22 := by
      refine zr_aload_n (i := 0) d_8_best_117 rfl rfl ?_
      refine zr_gets (i' := 0) d_8_best_118 fw_8_75 rfl ?_
      refine zr_aload_n (i := 0) d_8_best_121 rfl rfl ?_
      refine zr_getd d_8_best_122 fw_8_27 ?_
      refine zr_aload_n (i := 0) d_8_best_125 rfl rfl ?_
      refine zr_gets (i' := 2) d_8_best_126 fw_8_41 rfl ?_
      refine zr_iconst (v := (1 : Int32)) d_8_best_129 rfl ?_
      obtain ⟨qm30, hq31, h⟩ := z_bd h
      refine zr_callVv (av := [zA 6 (qm22.2.2 8 0 3), zA 5 2, zI (1 : Int32)]) (st := []) d_8_best_130 mw_0_standStill ml_8_216 im_0_standStill se_0_standStill rfl rfl (Nat.le_of_ble_eq_true rfl) fit_6_5_8 rfl rfl rfl (s0_standStill hq31) ?_
      refine zr_iinc (v := (x14 + (1 : Int32))) (l' := [some (zA 8 0), some (zI a1), some (zI a2), some (zI a3), some (zI j28), some (zI j29), some (zI (x14 + (1 : Int32))), none]) d_8_best_133 (by decide) rfl rfl rfl ?_
      refine zr_goto (tgt := 61) d_8_best_136 rfl ?_
      obtain rfl := Option.some.inj h
      exact zr_wk2 (hI j28 j29 (x14 + (1 : Int32)) qm30 rfl) ⟨rfl, ⟨rfl, ⟨rfl, ⟨rfl, ⟨rfl, ⟨rfl, ⟨rfl, trivial⟩⟩⟩⟩⟩⟩⟩
    refine zr_if_eq (tgt := 109) d_8_best_99 rfl (fun hc26 => ?_) (fun hc26 => ?_)
    · replace hT24 := z_ip hT24 hc26
      refine zr_iload d_8_best_109 rfl ?_
      refine zr_istore (i := 4) (l' := [some (zA 8 0), some (zI a1), some (zI a2), some (zI a3), some (zI x14), some (zI x13), some (zI x14), some (zI q21)]) d_8_best_111 (by decide) rfl ?_
      refine zr_iload d_8_best_113 rfl ?_
      refine zr_istore (i := 5) (l' := [some (zA 8 0), some (zI a1), some (zI a2), some (zI a3), some (zI x14), some (zI q21), some (zI x14), some (zI q21)]) d_8_best_115 (by decide) rfl ?_
      obtain ⟨rfl, rfl⟩ := z_i2 (Option.some.inj hT24)
      exact zr_wk2 hJ25 ⟨rfl, ⟨rfl, ⟨rfl, ⟨rfl, ⟨rfl, ⟨rfl, ⟨rfl, trivial⟩⟩⟩⟩⟩⟩⟩
    · replace hT24 := z_im hT24 hc26
      refine zr_iload d_8_best_102 rfl ?_
      refine zr_iload d_8_best_104 rfl ?_
      refine zr_icmp_le (tgt := 117) d_8_best_106 rfl (fun hc27 => ?_) (fun hc27 => ?_)
      · replace hT24 := z_ip hT24 hc27
        refine zr_iload d_8_best_109 rfl ?_
        refine zr_istore (i := 4) (l' := [some (zA 8 0), some (zI a1), some (zI a2), some (zI a3), some (zI x14), some (zI x13), some (zI x14), some (zI q21)]) d_8_best_111 (by decide) rfl ?_
        refine zr_iload d_8_best_113 rfl ?_
        refine zr_istore (i := 5) (l' := [some (zA 8 0), some (zI a1), some (zI a2), some (zI a3), some (zI x14), some (zI q21), some (zI x14), some (zI q21)]) d_8_best_115 (by decide) rfl ?_
        obtain ⟨rfl, rfl⟩ := z_i2 (Option.some.inj hT24)
        exact zr_wk2 hJ25 ⟨rfl, ⟨rfl, ⟨rfl, ⟨rfl, ⟨rfl, ⟨rfl, ⟨rfl, trivial⟩⟩⟩⟩⟩⟩⟩
      · replace hT24 := z_im hT24 hc27
        obtain ⟨rfl, rfl⟩ := z_i2 (Option.some.inj hT24)
        exact zr_wk2 hJ25 ⟨rfl, ⟨rfl, ⟨rfl, ⟨rfl, ⟨rfl, ⟨rfl, ⟨rfl, trivial⟩⟩⟩⟩⟩⟩⟩
  · replace h := z_im h hc16
    obtain rfl := Option.some.inj h
    exact zr_wk2 (hE x12 x13 xm15 rfl) ⟨rfl, ⟨rfl, ⟨rfl, trivial⟩⟩⟩
theorem s8_best {P : zP} {μ : zMem} {a1 : Int32} {a2 : Int32} {a3 : Int32} {r : Int32} {μ' : zMem} (h : f8_best a1 a2 a3 μ = some (r, μ')) : z_Sp P y_8_best M_8_best 8 [zA 8 0, zI a1, zI a2, zI a3] μ (some (zI r)) μ' := by
  refine z_Sp.of (plainFor_of_name (by decide)) rfl (l0 := [some (zA 8 0), some (zI a1), some (zI a2), some (zI a3), none, none, none, none]) rfl (Nat.le_of_ble_eq_true rfl) ?_
  unfold f8_best at h
  refine zr_aload_n (i := 0) d_8_best_0 rfl rfl ?_
  refine zr_iload_n (i := 1) d_8_best_1 rfl rfl ?_
  refine zr_callVi (av := [zI a1]) (st := []) d_8_best_2 mw_8_isPerson ml_8_131 im_8_isPerson se_8_isPerson rfl rfl (Nat.le_of_ble_eq_true rfl) fit_1_2_8 rfl rfl rfl (s8_isPerson rfl) ?_
  refine zr_if_eq (tgt := 39) d_8_best_5 rfl (fun hc2 => ?_) (fun hc2 => ?_)
  · replace h := z_ip h hc2
    refine zr_iconst (v := (-1 : Int32)) d_8_best_39 rfl ?_
    obtain ⟨rfl, rfl⟩ := Prod.mk.inj (Option.some.inj h)
    exact ze_i d_8_best_40 rfl
  · replace h := z_im h hc2
    refine zr_aload_n (i := 0) d_8_best_8 rfl rfl ?_
    refine zr_gets (i' := 0) d_8_best_9 fw_8_34 rfl ?_
    refine zr_geti d_8_best_12 fw_8_167 (by decide) ?_
    refine zr_iload_n (i := 1) d_8_best_15 rfl rfl ?_
    refine zr_callSi (av := [zI (μ.1 5 0 1), zI a1]) (st := []) d_8_best_16 mw_8_has ml_8_159 is_8_has rfl rfl (Nat.le_of_ble_eq_true rfl) fit_1_2_8 (s8_has rfl) ?_
    refine zr_if_eq (tgt := 39) d_8_best_19 rfl (fun hc4 => ?_) (fun hc4 => ?_)
    · replace h := z_ip h hc4
      refine zr_iconst (v := (-1 : Int32)) d_8_best_39 rfl ?_
      obtain ⟨rfl, rfl⟩ := Prod.mk.inj (Option.some.inj h)
      exact ze_i d_8_best_40 rfl
    · replace h := z_im h hc4
      refine zr_iload_n (i := 2) d_8_best_22 rfl rfl ?_
      refine zr_iconst (v := (1 : Int32)) d_8_best_23 rfl ?_
      refine zr_callSi (av := [zI a2, zI (1 : Int32)]) (st := []) d_8_best_24 mw_8_areYears ml_8_190 is_8_areYears rfl rfl (Nat.le_of_ble_eq_true rfl) fit_1_2_8 (s8_areYears rfl) ?_
      refine zr_if_eq (tgt := 39) d_8_best_27 rfl (fun hc6 => ?_) (fun hc6 => ?_)
      · replace h := z_ip h hc6
        refine zr_iconst (v := (-1 : Int32)) d_8_best_39 rfl ?_
        obtain ⟨rfl, rfl⟩ := Prod.mk.inj (Option.some.inj h)
        exact ze_i d_8_best_40 rfl
      · replace h := z_im h hc6
        refine zr_iload_n (i := 3) d_8_best_30 rfl rfl ?_
        refine zr_if_lt (tgt := 39) d_8_best_31 rfl (fun hc7 => ?_) (fun hc7 => ?_)
        · replace h := z_ip h hc7
          refine zr_iconst (v := (-1 : Int32)) d_8_best_39 rfl ?_
          obtain ⟨rfl, rfl⟩ := Prod.mk.inj (Option.some.inj h)
          exact ze_i d_8_best_40 rfl
        · replace h := z_im h hc7
          refine zr_iload_n (i := 3) d_8_best_34 rfl rfl ?_
          refine zr_iconst (v := (1 : Int32)) d_8_best_35 rfl ?_
          refine zr_icmp_le (tgt := 41) d_8_best_36 rfl (fun hc8 => ?_) (fun hc8 => ?_)
          · replace h := z_ip h hc8
            refine zr_iconst (v := (-1 : Int32)) d_8_best_39 rfl ?_
            obtain ⟨rfl, rfl⟩ := Prod.mk.inj (Option.some.inj h)
            exact ze_i d_8_best_40 rfl
          · replace h := z_im h hc8
            refine zr_iconst (v := (0 : Int32)) d_8_best_41 rfl ?_
            refine zr_istore (i := 4) (l' := [some (zA 8 0), some (zI a1), some (zI a2), some (zI a3), some (zI (0 : Int32)), none, none, none]) d_8_best_42 (by decide) rfl ?_
            refine zr_iconst (v := (-1 : Int32)) d_8_best_44 rfl ?_
            refine zr_istore (i := 5) (l' := [some (zA 8 0), some (zI a1), some (zI a2), some (zI a3), some (zI (0 : Int32)), some (zI (-1 : Int32)), none, none]) d_8_best_45 (by decide) rfl ?_
            refine zr_aload_n (i := 0) d_8_best_47 rfl rfl ?_
            refine zr_gets (i' := 2) d_8_best_48 fw_8_41 rfl ?_
            refine zr_aload_n (i := 0) d_8_best_51 rfl rfl ?_
            refine zr_gets (i' := 0) d_8_best_52 fw_8_34 rfl ?_
            obtain ⟨qm9, hq10, h⟩ := z_lt h
            refine zr_callVv (av := [zA 5 0]) (st := []) d_8_best_55 mw_5_copyFrom ml_8_210 im_5_copyFrom se_5_copyFrom rfl rfl (Nat.le_of_ble_eq_true rfl) fit_1_2_8 rfl rfl rfl (s5_copyFrom hq10.symm) ?_
            refine zr_iconst (v := (0 : Int32)) d_8_best_58 rfl ?_
            refine zr_istore (i := 6) (l' := [some (zA 8 0), some (zI a1), some (zI a2), some (zI a3), some (zI (0 : Int32)), some (zI (-1 : Int32)), some (zI (0 : Int32)), none]) d_8_best_59 (by decide) rfl ?_
            obtain ⟨⟨e32, e33, e34⟩, hl35, h⟩ := z_bd h
            replace h := z_h3 h
            refine zr_wk (l' := [some (zA 8 0), some (zI a1), some (zI a2), some (zI a3), some (zI (0 : Int32)), some (zI (-1 : Int32)), some (zI (0 : Int32)), none]) ⟨rfl, ⟨rfl, ⟨rfl, ⟨rfl, ⟨rfl, ⟨rfl, ⟨rfl, trivial⟩⟩⟩⟩⟩⟩⟩ ?_
            refine z_loop (Hd := (z_u4 fun y0 y1 y2 y3 => z_RQ P M_8_best (z_rm 8) (z_mq P (some (zI r)) μ') 0 0 61 [some (zA 8 0), some (zI a1), some (zI a2), some (zI a3), some (zI y0), some (zI y1), some (zI y2), none] [] y3)) (Ex := (z_u3 fun z0 z1 z2 => z_RQ P M_8_best (z_rm 8) (z_mq P (some (zI r)) μ') 0 0 139 [none, none, none, some (zI a3), some (zI z0), some (zI z1), none, none] [] z2)) (fun ⟨x12, x13, x14, xm15⟩ K h hI hE => s8_best_L11 a1 a2 a3 x12 x13 x14 xm15 K h (fun y0 y1 y2 y3 e => hI (y0, y1, y2, y3) e) (fun z0 z1 z2 e => hE (z0, z1, z2) e) ) _ _ _ hl35 ?_
            refine zr_iload_n (i := 3) d_8_best_139 rfl rfl ?_
            refine zr_if_ne (tgt := 148) d_8_best_140 rfl (fun hc36 => ?_) (fun hc36 => ?_)
            · replace h := z_ip h hc36
              refine zr_iload d_8_best_143 rfl ?_
              refine zr_goto (tgt := 150) d_8_best_145 rfl ?_
              obtain ⟨rfl, rfl⟩ := Prod.mk.inj (Option.some.inj h)
              exact ze_i d_8_best_150 rfl
            · replace h := z_im h hc36
              refine zr_iload d_8_best_148 rfl ?_
              obtain ⟨rfl, rfl⟩ := Prod.mk.inj (Option.some.inj h)
              exact ze_i d_8_best_150 rfl
def f8_gainOfOthers_L3 (a1 : Int32) (qm1 : zMem) : (Int32 × Int32) → Option ((Int32 × Int32) ⊕ (Int32)) := (z_u2 fun x4 x5 => 
  (if x5 < (qm1.1 6 (qm1.2.2 8 0 3) 1) then ((if x5 = a1 then some x4 else if z_in x5 7 = true then z_let (x4 + ((qm1.1 23 1 x5.toNatClampNeg) - (qm1.1 23 0 x5.toNatClampNeg))) fun v11 => some v11 else none) : Option (Int32)).bind (fun j13 => some (.inl (j13, (x5 + (1 : Int32))))) else some (.inr x4)))
def f8_gainOfOthers (a1 : Int32) (a2 : Int32) (μ : zMem) : Option (Int32 × zMem) :=
  (f0_standStill (μ.2.2 8 0 3) 1 a2 μ).bind (fun qm1 => (z_it (f8_gainOfOthers_L3 a1 qm1) z_fu ((0 : Int32), (0 : Int32))).bind (fun e14 => some (e14, qm1)))
theorem s8_gainOfOthers_L3 {P : zP} {ro : Option zV} {μo : zMem} (a1 : Int32) (qm1 : zMem) (x4 : Int32) (x5 : Int32) (K : (Int32 × Int32) ⊕ (Int32)) (h : f8_gainOfOthers_L3 a1 qm1 (x4, x5) = some K) (hI : ∀ (y0 : Int32) (y1 : Int32), K = .inl (y0, y1) → z_RQ P M_8_gainOfOthers (z_rm 7) (z_mq P ro μo) 0 0 21 [some (zA 8 0), some (zI a1), none, some (zI y0), some (zI y1)] [] qm1) (hE : ∀ (z0 : Int32), K = .inr z0 → z_RQ P M_8_gainOfOthers (z_rm 7) (z_mq P ro μo) 0 0 69 [none, none, none, some (zI z0), none] [] qm1)  : z_RQ P M_8_gainOfOthers (z_rm 7) (z_mq P ro μo) 0 0 21 [some (zA 8 0), some (zI a1), none, some (zI x4), some (zI x5)] [] qm1 := by
  unfold f8_gainOfOthers_L3 at h
  replace h := z_h2 h
  refine zr_iload d_8_gainOfOthers_21 rfl ?_
  refine zr_aload_n (i := 0) d_8_gainOfOthers_23 rfl rfl ?_
  refine zr_getd d_8_gainOfOthers_24 fw_8_27 ?_
  refine zr_geti d_8_gainOfOthers_27 fw_8_224 (by decide) ?_
  refine zr_icmp_ge (tgt := 69) d_8_gainOfOthers_30 rfl (fun hc6 => ?_) (fun hc6 => ?_)
  · replace h := z_ip h hc6
    refine zr_iload d_8_gainOfOthers_33 rfl ?_
    refine zr_iload_n (i := 1) d_8_gainOfOthers_35 rfl rfl ?_
    obtain ⟨j13, hT7, h⟩ := z_bd h
    have hJ8 : z_RQ P M_8_gainOfOthers (z_rm 7) (z_mq P ro μo) 0 0 63 [some (zA 8 0), some (zI a1), none, some (zI j13), some (zI x5)] [] qm1 := by
      refine zr_iinc (v := (x5 + (1 : Int32))) (l' := [some (zA 8 0), some (zI a1), none, some (zI j13), some (zI (x5 + (1 : Int32)))]) d_8_gainOfOthers_63 (by decide) rfl rfl rfl ?_
      refine zr_goto (tgt := 21) d_8_gainOfOthers_66 rfl ?_
      obtain rfl := Option.some.inj h
      exact zr_wk2 (hI j13 (x5 + (1 : Int32)) rfl) ⟨rfl, ⟨rfl, ⟨rfl, ⟨rfl, trivial⟩⟩⟩⟩
    refine zr_icmp_eq (tgt := 63) d_8_gainOfOthers_36 rfl (fun hc9 => ?_) (fun hc9 => ?_)
    · replace hT7 := z_ip hT7 hc9
      obtain rfl := Option.some.inj hT7
      exact zr_wk2 hJ8 ⟨rfl, ⟨rfl, ⟨rfl, ⟨rfl, trivial⟩⟩⟩⟩
    · replace hT7 := z_im hT7 hc9
      refine zr_iload_n (i := 3) d_8_gainOfOthers_39 rfl rfl ?_
      refine zr_aload_n (i := 0) d_8_gainOfOthers_40 rfl rfl ?_
      refine zr_gets (i' := 1) d_8_gainOfOthers_41 fw_8_38 rfl ?_
      refine zr_gets (i' := 1) d_8_gainOfOthers_44 fw_8_143 rfl ?_
      refine zr_iload d_8_gainOfOthers_47 rfl ?_
      obtain ⟨hb10, hT7⟩ := z_gd hT7
      refine zr_iald d_8_gainOfOthers_49 sa_23 rfl hb10 ?_
      refine zr_aload_n (i := 0) d_8_gainOfOthers_50 rfl rfl ?_
      refine zr_gets (i' := 0) d_8_gainOfOthers_51 fw_8_34 rfl ?_
      refine zr_gets (i' := 0) d_8_gainOfOthers_54 fw_8_143 rfl ?_
      refine zr_iload d_8_gainOfOthers_57 rfl ?_
      refine zr_iald d_8_gainOfOthers_59 sa_23 rfl hb10 ?_
      refine zr_isub d_8_gainOfOthers_60 ?_
      refine zr_iadd d_8_gainOfOthers_61 ?_
      obtain ⟨v11, hv12, hT7⟩ := z_lt hT7
      refine zr_nm hv12 ?_
      refine zr_istore_n (i := 3) (l' := [some (zA 8 0), some (zI a1), none, some (zI v11), some (zI x5)]) d_8_gainOfOthers_62 rfl (by decide) rfl ?_
      obtain rfl := Option.some.inj hT7
      exact zr_wk2 hJ8 ⟨rfl, ⟨rfl, ⟨rfl, ⟨rfl, trivial⟩⟩⟩⟩
  · replace h := z_im h hc6
    obtain rfl := Option.some.inj h
    exact zr_wk2 (hE x4 rfl) ⟨rfl, trivial⟩
theorem s8_gainOfOthers {P : zP} {μ : zMem} {a1 : Int32} {a2 : Int32} {r : Int32} {μ' : zMem} (h : f8_gainOfOthers a1 a2 μ = some (r, μ')) : z_Sp P y_8_gainOfOthers M_8_gainOfOthers 7 [zA 8 0, zI a1, zI a2] μ (some (zI r)) μ' := by
  refine z_Sp.of (plainFor_of_name (by decide)) rfl (l0 := [some (zA 8 0), some (zI a1), some (zI a2), none, none]) rfl (Nat.le_of_ble_eq_true rfl) ?_
  unfold f8_gainOfOthers at h
  refine zr_aload_n (i := 0) d_8_gainOfOthers_0 rfl rfl ?_
  refine zr_gets (i' := 0) d_8_gainOfOthers_1 fw_8_75 rfl ?_
  refine zr_aload_n (i := 0) d_8_gainOfOthers_4 rfl rfl ?_
  refine zr_getd d_8_gainOfOthers_5 fw_8_27 ?_
  refine zr_aload_n (i := 0) d_8_gainOfOthers_8 rfl rfl ?_
  refine zr_gets (i' := 1) d_8_gainOfOthers_9 fw_8_38 rfl ?_
  refine zr_iload_n (i := 2) d_8_gainOfOthers_12 rfl rfl ?_
  obtain ⟨qm1, hq2, h⟩ := z_bd h
  refine zr_callVv (av := [zA 6 (μ.2.2 8 0 3), zA 5 1, zI a2]) (st := []) d_8_gainOfOthers_13 mw_0_standStill ml_8_216 im_0_standStill se_0_standStill rfl rfl (Nat.le_of_ble_eq_true rfl) fit_6_5_7 rfl rfl rfl (s0_standStill hq2) ?_
  refine zr_iconst (v := (0 : Int32)) d_8_gainOfOthers_16 rfl ?_
  refine zr_istore_n (i := 3) (l' := [some (zA 8 0), some (zI a1), some (zI a2), some (zI (0 : Int32)), none]) d_8_gainOfOthers_17 rfl (by decide) rfl ?_
  refine zr_iconst (v := (0 : Int32)) d_8_gainOfOthers_18 rfl ?_
  refine zr_istore (i := 4) (l' := [some (zA 8 0), some (zI a1), some (zI a2), some (zI (0 : Int32)), some (zI (0 : Int32))]) d_8_gainOfOthers_19 (by decide) rfl ?_
  obtain ⟨e14, hl15, h⟩ := z_bd h
  refine zr_wk (l' := [some (zA 8 0), some (zI a1), none, some (zI (0 : Int32)), some (zI (0 : Int32))]) ⟨rfl, ⟨rfl, ⟨rfl, ⟨rfl, trivial⟩⟩⟩⟩ ?_
  refine z_loop (Hd := (z_u2 fun y0 y1 => z_RQ P M_8_gainOfOthers (z_rm 7) (z_mq P (some (zI r)) μ') 0 0 21 [some (zA 8 0), some (zI a1), none, some (zI y0), some (zI y1)] [] qm1)) (Ex := (fun z0 => z_RQ P M_8_gainOfOthers (z_rm 7) (z_mq P (some (zI r)) μ') 0 0 69 [none, none, none, some (zI z0), none] [] qm1)) (fun ⟨x4, x5⟩ K h hI hE => s8_gainOfOthers_L3 a1 qm1 x4 x5 K h (fun y0 y1 e => hI (y0, y1) e) (fun z0 e => hE z0 e) ) _ _ _ hl15 ?_
  refine zr_iload_n (i := 3) d_8_gainOfOthers_69 rfl rfl ?_
  obtain ⟨rfl, rfl⟩ := Prod.mk.inj (Option.some.inj h)
  exact ze_i d_8_gainOfOthers_70 rfl
def f8_loss (a1 : Int32) (a2 : Int32) (μ : zMem) : Option (Int32 × zMem) :=
  (if (f8_isPerson a1 μ) = 0 then some ((-100000 : Int32), μ) else (if (f8_has (μ.1 5 0 2) a1) = 0 then some ((-100000 : Int32), μ) else (if (f8_areYears a2 (0 : Int32)) = 0 then some ((-100000 : Int32), μ) else z_let (f5_copyFrom 1 0 μ) (fun qm7 => (f8_gainOfOthers a1 a2 qm7).bind (z_u2 fun q9 qm10 => z_let (f5_copyFrom 1 0 qm10) (fun qm12 => (f5_comeHome 1 a1 qm12).bind (fun qm14 => (f8_gainOfOthers a1 a2 qm14).bind (z_u2 fun q16 qm17 => some ((q16 - q9), qm17)))))))))
theorem s8_loss {P : zP} {μ : zMem} {a1 : Int32} {a2 : Int32} {r : Int32} {μ' : zMem} (h : f8_loss a1 a2 μ = some (r, μ')) : z_Sp P y_8_loss M_8_loss 8 [zA 8 0, zI a1, zI a2] μ (some (zI r)) μ' := by
  refine z_Sp.of (plainFor_of_name (by decide)) rfl (l0 := [some (zA 8 0), some (zI a1), some (zI a2), none]) rfl (Nat.le_of_ble_eq_true rfl) ?_
  unfold f8_loss at h
  refine zr_aload_n (i := 0) d_8_loss_0 rfl rfl ?_
  refine zr_iload_n (i := 1) d_8_loss_1 rfl rfl ?_
  refine zr_callVi (av := [zI a1]) (st := []) d_8_loss_2 mw_8_isPerson ml_8_131 im_8_isPerson se_8_isPerson rfl rfl (Nat.le_of_ble_eq_true rfl) fit_1_2_8 rfl rfl rfl (s8_isPerson rfl) ?_
  refine zr_if_eq (tgt := 30) d_8_loss_5 rfl (fun hc2 => ?_) (fun hc2 => ?_)
  · replace h := z_ip h hc2
    refine zr_ldc (v := (-100000 : Int32)) d_8_loss_30 kc_8_220 ?_
    obtain ⟨rfl, rfl⟩ := Prod.mk.inj (Option.some.inj h)
    exact ze_i d_8_loss_32 rfl
  · replace h := z_im h hc2
    refine zr_aload_n (i := 0) d_8_loss_8 rfl rfl ?_
    refine zr_gets (i' := 0) d_8_loss_9 fw_8_34 rfl ?_
    refine zr_geti d_8_loss_12 fw_8_177 (by decide) ?_
    refine zr_iload_n (i := 1) d_8_loss_15 rfl rfl ?_
    refine zr_callSi (av := [zI (μ.1 5 0 2), zI a1]) (st := []) d_8_loss_16 mw_8_has ml_8_159 is_8_has rfl rfl (Nat.le_of_ble_eq_true rfl) fit_1_2_8 (s8_has rfl) ?_
    refine zr_if_eq (tgt := 30) d_8_loss_19 rfl (fun hc4 => ?_) (fun hc4 => ?_)
    · replace h := z_ip h hc4
      refine zr_ldc (v := (-100000 : Int32)) d_8_loss_30 kc_8_220 ?_
      obtain ⟨rfl, rfl⟩ := Prod.mk.inj (Option.some.inj h)
      exact ze_i d_8_loss_32 rfl
    · replace h := z_im h hc4
      refine zr_iload_n (i := 2) d_8_loss_22 rfl rfl ?_
      refine zr_iconst (v := (0 : Int32)) d_8_loss_23 rfl ?_
      refine zr_callSi (av := [zI a2, zI (0 : Int32)]) (st := []) d_8_loss_24 mw_8_areYears ml_8_190 is_8_areYears rfl rfl (Nat.le_of_ble_eq_true rfl) fit_1_2_8 (s8_areYears rfl) ?_
      refine zr_if_ne (tgt := 33) d_8_loss_27 rfl (fun hc6 => ?_) (fun hc6 => ?_)
      · replace h := z_ip h hc6
        refine zr_ldc (v := (-100000 : Int32)) d_8_loss_30 kc_8_220 ?_
        obtain ⟨rfl, rfl⟩ := Prod.mk.inj (Option.some.inj h)
        exact ze_i d_8_loss_32 rfl
      · replace h := z_im h hc6
        refine zr_aload_n (i := 0) d_8_loss_33 rfl rfl ?_
        refine zr_gets (i' := 1) d_8_loss_34 fw_8_38 rfl ?_
        refine zr_aload_n (i := 0) d_8_loss_37 rfl rfl ?_
        refine zr_gets (i' := 0) d_8_loss_38 fw_8_34 rfl ?_
        obtain ⟨qm7, hq8, h⟩ := z_lt h
        refine zr_callVv (av := [zA 5 0]) (st := []) d_8_loss_41 mw_5_copyFrom ml_8_210 im_5_copyFrom se_5_copyFrom rfl rfl (Nat.le_of_ble_eq_true rfl) fit_1_2_8 rfl rfl rfl (s5_copyFrom hq8.symm) ?_
        refine zr_aload_n (i := 0) d_8_loss_44 rfl rfl ?_
        refine zr_iload_n (i := 1) d_8_loss_45 rfl rfl ?_
        refine zr_iload_n (i := 2) d_8_loss_46 rfl rfl ?_
        obtain ⟨⟨q9, qm10⟩, hq11, h⟩ := z_bd h
        replace h := z_h2 h
        refine zr_callVi (av := [zI a1, zI a2]) (st := []) d_8_loss_47 mw_8_gainOfOthers ml_8_221 im_8_gainOfOthers se_8_gainOfOthers rfl rfl (Nat.le_of_ble_eq_true rfl) fit_7_5_8 rfl rfl rfl (s8_gainOfOthers hq11) ?_
        refine zr_istore_n (i := 3) (l' := [some (zA 8 0), some (zI a1), some (zI a2), some (zI q9)]) d_8_loss_50 rfl (by decide) rfl ?_
        refine zr_aload_n (i := 0) d_8_loss_51 rfl rfl ?_
        refine zr_gets (i' := 1) d_8_loss_52 fw_8_38 rfl ?_
        refine zr_aload_n (i := 0) d_8_loss_55 rfl rfl ?_
        refine zr_gets (i' := 0) d_8_loss_56 fw_8_34 rfl ?_
        obtain ⟨qm12, hq13, h⟩ := z_lt h
        refine zr_callVv (av := [zA 5 0]) (st := []) d_8_loss_59 mw_5_copyFrom ml_8_210 im_5_copyFrom se_5_copyFrom rfl rfl (Nat.le_of_ble_eq_true rfl) fit_1_2_8 rfl rfl rfl (s5_copyFrom hq13.symm) ?_
        refine zr_aload_n (i := 0) d_8_loss_62 rfl rfl ?_
        refine zr_gets (i' := 1) d_8_loss_63 fw_8_38 rfl ?_
        refine zr_iload_n (i := 1) d_8_loss_66 rfl rfl ?_
        obtain ⟨qm14, hq15, h⟩ := z_bd h
        refine zr_callVv (av := [zI a1]) (st := []) d_8_loss_67 mw_5_comeHome ml_8_180 im_5_comeHome se_5_comeHome rfl rfl (Nat.le_of_ble_eq_true rfl) fit_1_2_8 rfl rfl rfl (s5_comeHome hq15) ?_
        refine zr_aload_n (i := 0) d_8_loss_70 rfl rfl ?_
        refine zr_iload_n (i := 1) d_8_loss_71 rfl rfl ?_
        refine zr_iload_n (i := 2) d_8_loss_72 rfl rfl ?_
        obtain ⟨⟨q16, qm17⟩, hq18, h⟩ := z_bd h
        replace h := z_h2 h
        refine zr_callVi (av := [zI a1, zI a2]) (st := []) d_8_loss_73 mw_8_gainOfOthers ml_8_221 im_8_gainOfOthers se_8_gainOfOthers rfl rfl (Nat.le_of_ble_eq_true rfl) fit_7_5_8 rfl rfl rfl (s8_gainOfOthers hq18) ?_
        refine zr_iload_n (i := 3) d_8_loss_76 rfl rfl ?_
        refine zr_isub d_8_loss_77 ?_
        obtain ⟨rfl, rfl⟩ := Prod.mk.inj (Option.some.inj h)
        exact ze_i d_8_loss_78 rfl
def f8_canDuel (a1 : Int32) (a2 : Int32) (a3 : Int32) (μ : zMem) : Int32 :=
  (if (f8_isPerson a1 μ) = 0 then (0 : Int32) else (if (f8_isPerson a2 μ) = 0 then (0 : Int32) else (if a1 = a2 then (0 : Int32) else (if (f8_has (μ.1 5 0 1) a1) = 0 then (0 : Int32) else (if (f8_has (μ.1 5 0 1) a2) = 0 then (0 : Int32) else (if (f8_areYears a3 (1 : Int32)) = 0 then (0 : Int32) else (1 : Int32)))))))
theorem s8_canDuel {P : zP} {μ : zMem} {a1 : Int32} {a2 : Int32} {a3 : Int32} {r : Int32} (h : f8_canDuel a1 a2 a3 μ = r) : z_Sp P y_8_canDuel M_8_canDuel 2 [zA 8 0, zI a1, zI a2, zI a3] μ (some (zI r)) μ := by
  refine z_Sp.of (plainFor_of_name (by decide)) rfl (l0 := [some (zA 8 0), some (zI a1), some (zI a2), some (zI a3)]) rfl (Nat.le_of_ble_eq_true rfl) ?_
  unfold f8_canDuel at h
  refine zr_aload_n (i := 0) d_8_canDuel_0 rfl rfl ?_
  refine zr_iload_n (i := 1) d_8_canDuel_1 rfl rfl ?_
  refine zr_callVi (av := [zI a1]) (st := []) d_8_canDuel_2 mw_8_isPerson ml_8_131 im_8_isPerson se_8_isPerson rfl rfl (Nat.le_of_ble_eq_true rfl) fit_1_2_2 rfl rfl rfl (s8_isPerson rfl) ?_
  refine zr_if_eq (tgt := 61) d_8_canDuel_5 rfl (fun hc2 => ?_) (fun hc2 => ?_)
  · replace h := z_ip h hc2
    refine zr_iconst (v := (0 : Int32)) d_8_canDuel_61 rfl ?_
    obtain rfl := h
    exact ze_z d_8_canDuel_62 rfl rfl
  · replace h := z_im h hc2
    refine zr_aload_n (i := 0) d_8_canDuel_8 rfl rfl ?_
    refine zr_iload_n (i := 2) d_8_canDuel_9 rfl rfl ?_
    refine zr_callVi (av := [zI a2]) (st := []) d_8_canDuel_10 mw_8_isPerson ml_8_131 im_8_isPerson se_8_isPerson rfl rfl (Nat.le_of_ble_eq_true rfl) fit_1_2_2 rfl rfl rfl (s8_isPerson rfl) ?_
    refine zr_if_eq (tgt := 61) d_8_canDuel_13 rfl (fun hc4 => ?_) (fun hc4 => ?_)
    · replace h := z_ip h hc4
      refine zr_iconst (v := (0 : Int32)) d_8_canDuel_61 rfl ?_
      obtain rfl := h
      exact ze_z d_8_canDuel_62 rfl rfl
    · replace h := z_im h hc4
      refine zr_iload_n (i := 1) d_8_canDuel_16 rfl rfl ?_
      refine zr_iload_n (i := 2) d_8_canDuel_17 rfl rfl ?_
      refine zr_icmp_eq (tgt := 61) d_8_canDuel_18 rfl (fun hc5 => ?_) (fun hc5 => ?_)
      · replace h := z_ip h hc5
        refine zr_iconst (v := (0 : Int32)) d_8_canDuel_61 rfl ?_
        obtain rfl := h
        exact ze_z d_8_canDuel_62 rfl rfl
      · replace h := z_im h hc5
        refine zr_aload_n (i := 0) d_8_canDuel_21 rfl rfl ?_
        refine zr_gets (i' := 0) d_8_canDuel_22 fw_8_34 rfl ?_
        refine zr_geti d_8_canDuel_25 fw_8_167 (by decide) ?_
        refine zr_iload_n (i := 1) d_8_canDuel_28 rfl rfl ?_
        refine zr_callSi (av := [zI (μ.1 5 0 1), zI a1]) (st := []) d_8_canDuel_29 mw_8_has ml_8_159 is_8_has rfl rfl (Nat.le_of_ble_eq_true rfl) fit_1_2_2 (s8_has rfl) ?_
        refine zr_if_eq (tgt := 61) d_8_canDuel_32 rfl (fun hc7 => ?_) (fun hc7 => ?_)
        · replace h := z_ip h hc7
          refine zr_iconst (v := (0 : Int32)) d_8_canDuel_61 rfl ?_
          obtain rfl := h
          exact ze_z d_8_canDuel_62 rfl rfl
        · replace h := z_im h hc7
          refine zr_aload_n (i := 0) d_8_canDuel_35 rfl rfl ?_
          refine zr_gets (i' := 0) d_8_canDuel_36 fw_8_34 rfl ?_
          refine zr_geti d_8_canDuel_39 fw_8_167 (by decide) ?_
          refine zr_iload_n (i := 2) d_8_canDuel_42 rfl rfl ?_
          refine zr_callSi (av := [zI (μ.1 5 0 1), zI a2]) (st := []) d_8_canDuel_43 mw_8_has ml_8_159 is_8_has rfl rfl (Nat.le_of_ble_eq_true rfl) fit_1_2_2 (s8_has rfl) ?_
          refine zr_if_eq (tgt := 61) d_8_canDuel_46 rfl (fun hc9 => ?_) (fun hc9 => ?_)
          · replace h := z_ip h hc9
            refine zr_iconst (v := (0 : Int32)) d_8_canDuel_61 rfl ?_
            obtain rfl := h
            exact ze_z d_8_canDuel_62 rfl rfl
          · replace h := z_im h hc9
            refine zr_iload_n (i := 3) d_8_canDuel_49 rfl rfl ?_
            refine zr_iconst (v := (1 : Int32)) d_8_canDuel_50 rfl ?_
            refine zr_callSi (av := [zI a3, zI (1 : Int32)]) (st := []) d_8_canDuel_51 mw_8_areYears ml_8_190 is_8_areYears rfl rfl (Nat.le_of_ble_eq_true rfl) fit_1_2_2 (s8_areYears rfl) ?_
            refine zr_if_eq (tgt := 61) d_8_canDuel_54 rfl (fun hc11 => ?_) (fun hc11 => ?_)
            · replace h := z_ip h hc11
              refine zr_iconst (v := (0 : Int32)) d_8_canDuel_61 rfl ?_
              obtain rfl := h
              exact ze_z d_8_canDuel_62 rfl rfl
            · replace h := z_im h hc11
              refine zr_iconst (v := (1 : Int32)) d_8_canDuel_57 rfl ?_
              refine zr_goto (tgt := 62) d_8_canDuel_58 rfl ?_
              obtain rfl := h
              exact ze_z d_8_canDuel_62 rfl rfl
def f8_playDuel (a1 : Int32) (a2 : Int32) (a3 : Int32) (a4 : Int32) (μ : zMem) : Option (zMem) :=
  z_let (f5_copyFrom 1 0 μ) (fun qm1 => ((if (a4 &&& (1 : Int32)) = 0 then some qm1 else (f5_goAway 1 a1 qm1).bind (fun qm6 => some qm6)) : Option (zMem)).bind (fun jm8 => ((if (a4 &&& (2 : Int32)) = 0 then some jm8 else (f5_goAway 1 a2 jm8).bind (fun qm12 => some qm12)) : Option (zMem)).bind (fun jm14 => (f0_standStill (jm14.2.2 8 0 3) 1 a3 jm14).bind (fun qm15 => if z_in a1 7 = true then if z_in a4 4 = true then z_let (z_sI qm15 35 0 a4.toNatClampNeg ((qm15.1 23 1 a1.toNatClampNeg) - (qm15.1 23 0 a1.toNatClampNeg))) fun m18 => if z_in a2 7 = true then z_let (z_sI m18 36 0 a4.toNatClampNeg ((m18.1 23 1 a2.toNatClampNeg) - (m18.1 23 0 a2.toNatClampNeg))) fun m22 => some m22 else none else none else none))))
theorem s8_playDuel {P : zP} {μ : zMem} {a1 : Int32} {a2 : Int32} {a3 : Int32} {a4 : Int32} {μ' : zMem} (h : f8_playDuel a1 a2 a3 a4 μ = some μ') : z_Sp P y_8_playDuel M_8_playDuel 7 [zA 8 0, zI a1, zI a2, zI a3, zI a4] μ none μ' := by
  refine z_Sp.of (plainFor_of_name (by decide)) rfl (l0 := [some (zA 8 0), some (zI a1), some (zI a2), some (zI a3), some (zI a4)]) rfl (Nat.le_of_ble_eq_true rfl) ?_
  unfold f8_playDuel at h
  refine zr_aload_n (i := 0) d_8_playDuel_0 rfl rfl ?_
  refine zr_gets (i' := 1) d_8_playDuel_1 fw_8_38 rfl ?_
  refine zr_aload_n (i := 0) d_8_playDuel_4 rfl rfl ?_
  refine zr_gets (i' := 0) d_8_playDuel_5 fw_8_34 rfl ?_
  obtain ⟨qm1, hq2, h⟩ := z_lt h
  refine zr_callVv (av := [zA 5 0]) (st := []) d_8_playDuel_8 mw_5_copyFrom ml_8_210 im_5_copyFrom se_5_copyFrom rfl rfl (Nat.le_of_ble_eq_true rfl) fit_1_2_7 rfl rfl rfl (s5_copyFrom hq2.symm) ?_
  refine zr_iload d_8_playDuel_11 rfl ?_
  refine zr_iconst (v := (1 : Int32)) d_8_playDuel_13 rfl ?_
  refine zr_iand d_8_playDuel_14 ?_
  obtain ⟨jm8, hT3, h⟩ := z_bd h
  have hJ4 : z_RQ P M_8_playDuel (z_rm 7) (z_mq P none μ') 0 0 26 [some (zA 8 0), some (zI a1), some (zI a2), some (zI a3), some (zI a4)] [] jm8 := by
    refine zr_iload d_8_playDuel_26 rfl ?_
    refine zr_iconst (v := (2 : Int32)) d_8_playDuel_28 rfl ?_
    refine zr_iand d_8_playDuel_29 ?_
    obtain ⟨jm14, hT9, h⟩ := z_bd h
    have hJ10 : z_RQ P M_8_playDuel (z_rm 7) (z_mq P none μ') 0 0 41 [some (zA 8 0), some (zI a1), some (zI a2), some (zI a3), some (zI a4)] [] jm14 := by
      refine zr_aload_n (i := 0) d_8_playDuel_41 rfl rfl ?_
      refine zr_gets (i' := 0) d_8_playDuel_42 fw_8_75 rfl ?_
      refine zr_aload_n (i := 0) d_8_playDuel_45 rfl rfl ?_
      refine zr_getd d_8_playDuel_46 fw_8_27 ?_
      refine zr_aload_n (i := 0) d_8_playDuel_49 rfl rfl ?_
      refine zr_gets (i' := 1) d_8_playDuel_50 fw_8_38 rfl ?_
      refine zr_iload_n (i := 3) d_8_playDuel_53 rfl rfl ?_
      obtain ⟨qm15, hq16, h⟩ := z_bd h
      refine zr_callVv (av := [zA 6 (jm14.2.2 8 0 3), zA 5 1, zI a3]) (st := []) d_8_playDuel_54 mw_0_standStill ml_8_216 im_0_standStill se_0_standStill rfl rfl (Nat.le_of_ble_eq_true rfl) fit_6_5_7 rfl rfl rfl (s0_standStill hq16) ?_
      refine zr_aload_n (i := 0) d_8_playDuel_57 rfl rfl ?_
      refine zr_gets (i' := 0) d_8_playDuel_58 fw_8_44 rfl ?_
      refine zr_iload d_8_playDuel_61 rfl ?_
      refine zr_aload_n (i := 0) d_8_playDuel_63 rfl rfl ?_
      refine zr_gets (i' := 1) d_8_playDuel_64 fw_8_38 rfl ?_
      refine zr_gets (i' := 1) d_8_playDuel_67 fw_8_143 rfl ?_
      refine zr_iload_n (i := 1) d_8_playDuel_70 rfl rfl ?_
      obtain ⟨hb17, h⟩ := z_gd h
      refine zr_iald d_8_playDuel_71 sa_23 rfl hb17 ?_
      refine zr_aload_n (i := 0) d_8_playDuel_72 rfl rfl ?_
      refine zr_gets (i' := 0) d_8_playDuel_73 fw_8_34 rfl ?_
      refine zr_gets (i' := 0) d_8_playDuel_76 fw_8_143 rfl ?_
      refine zr_iload_n (i := 1) d_8_playDuel_79 rfl rfl ?_
      refine zr_iald d_8_playDuel_80 sa_23 rfl hb17 ?_
      refine zr_isub d_8_playDuel_81 ?_
      obtain ⟨hb20, h⟩ := z_gd h
      obtain ⟨m18, hm19, h⟩ := z_lt h
      refine zr_iast d_8_playDuel_82 sa_35 rfl hb20 hm19 ?_
      refine zr_aload_n (i := 0) d_8_playDuel_83 rfl rfl ?_
      refine zr_gets (i' := 0) d_8_playDuel_84 fw_8_48 rfl ?_
      refine zr_iload d_8_playDuel_87 rfl ?_
      refine zr_aload_n (i := 0) d_8_playDuel_89 rfl rfl ?_
      refine zr_gets (i' := 1) d_8_playDuel_90 fw_8_38 rfl ?_
      refine zr_gets (i' := 1) d_8_playDuel_93 fw_8_143 rfl ?_
      refine zr_iload_n (i := 2) d_8_playDuel_96 rfl rfl ?_
      obtain ⟨hb21, h⟩ := z_gd h
      refine zr_iald d_8_playDuel_97 sa_23 rfl hb21 ?_
      refine zr_aload_n (i := 0) d_8_playDuel_98 rfl rfl ?_
      refine zr_gets (i' := 0) d_8_playDuel_99 fw_8_34 rfl ?_
      refine zr_gets (i' := 0) d_8_playDuel_102 fw_8_143 rfl ?_
      refine zr_iload_n (i := 2) d_8_playDuel_105 rfl rfl ?_
      refine zr_iald d_8_playDuel_106 sa_23 rfl hb21 ?_
      refine zr_isub d_8_playDuel_107 ?_
      obtain ⟨m22, hm23, h⟩ := z_lt h
      refine zr_iast d_8_playDuel_108 sa_36 rfl hb20 hm23 ?_
      obtain rfl := Option.some.inj h
      exact ze_v d_8_playDuel_109 rfl
    refine zr_if_eq (tgt := 41) d_8_playDuel_30 rfl (fun hc11 => ?_) (fun hc11 => ?_)
    · replace hT9 := z_ip hT9 hc11
      obtain rfl := Option.some.inj hT9
      exact zr_wk2 hJ10 ⟨rfl, ⟨rfl, ⟨rfl, ⟨rfl, ⟨rfl, trivial⟩⟩⟩⟩⟩
    · replace hT9 := z_im hT9 hc11
      refine zr_aload_n (i := 0) d_8_playDuel_33 rfl rfl ?_
      refine zr_gets (i' := 1) d_8_playDuel_34 fw_8_38 rfl ?_
      refine zr_iload_n (i := 2) d_8_playDuel_37 rfl rfl ?_
      obtain ⟨qm12, hq13, hT9⟩ := z_bd hT9
      refine zr_callVv (av := [zI a2]) (st := []) d_8_playDuel_38 mw_5_goAway ml_8_174 im_5_goAway se_5_goAway rfl rfl (Nat.le_of_ble_eq_true rfl) fit_1_2_7 rfl rfl rfl (s5_goAway hq13) ?_
      obtain rfl := Option.some.inj hT9
      exact zr_wk2 hJ10 ⟨rfl, ⟨rfl, ⟨rfl, ⟨rfl, ⟨rfl, trivial⟩⟩⟩⟩⟩
  refine zr_if_eq (tgt := 26) d_8_playDuel_15 rfl (fun hc5 => ?_) (fun hc5 => ?_)
  · replace hT3 := z_ip hT3 hc5
    obtain rfl := Option.some.inj hT3
    exact zr_wk2 hJ4 ⟨rfl, ⟨rfl, ⟨rfl, ⟨rfl, ⟨rfl, trivial⟩⟩⟩⟩⟩
  · replace hT3 := z_im hT3 hc5
    refine zr_aload_n (i := 0) d_8_playDuel_18 rfl rfl ?_
    refine zr_gets (i' := 1) d_8_playDuel_19 fw_8_38 rfl ?_
    refine zr_iload_n (i := 1) d_8_playDuel_22 rfl rfl ?_
    obtain ⟨qm6, hq7, hT3⟩ := z_bd hT3
    refine zr_callVv (av := [zI a1]) (st := []) d_8_playDuel_23 mw_5_goAway ml_8_174 im_5_goAway se_5_goAway rfl rfl (Nat.le_of_ble_eq_true rfl) fit_1_2_7 rfl rfl rfl (s5_goAway hq7) ?_
    obtain rfl := Option.some.inj hT3
    exact zr_wk2 hJ4 ⟨rfl, ⟨rfl, ⟨rfl, ⟨rfl, ⟨rfl, trivial⟩⟩⟩⟩⟩
def f8_duel (a1 : Int32) (a2 : Int32) (a3 : Int32) (a4 : Int32) (a5 : Int32) (μ : zMem) : Option (Int32 × zMem) :=
  (if (f8_canDuel a1 a2 a3 μ) = 0 then some ((-1 : Int32), μ) else (if a4 < 0 then some ((-1 : Int32), μ) else (if a4 < (4 : Int32) then (if a5 < 0 then some ((-1 : Int32), μ) else (if (1 : Int32) < a5 then some ((-1 : Int32), μ) else (f8_playDuel a1 a2 a3 a4 μ).bind (fun qm7 => (if a5 = 0 then if z_in a4 4 = true then some ((qm7.1 35 0 a4.toNatClampNeg), qm7) else none else if z_in a4 4 = true then some ((qm7.1 36 0 a4.toNatClampNeg), qm7) else none)))) else some ((-1 : Int32), μ))))
theorem s8_duel {P : zP} {μ : zMem} {a1 : Int32} {a2 : Int32} {a3 : Int32} {a4 : Int32} {a5 : Int32} {r : Int32} {μ' : zMem} (h : f8_duel a1 a2 a3 a4 a5 μ = some (r, μ')) : z_Sp P y_8_duel M_8_duel 8 [zA 8 0, zI a1, zI a2, zI a3, zI a4, zI a5] μ (some (zI r)) μ' := by
  refine z_Sp.of (plainFor_of_name (by decide)) rfl (l0 := [some (zA 8 0), some (zI a1), some (zI a2), some (zI a3), some (zI a4), some (zI a5)]) rfl (Nat.le_of_ble_eq_true rfl) ?_
  unfold f8_duel at h
  refine zr_aload_n (i := 0) d_8_duel_0 rfl rfl ?_
  refine zr_iload_n (i := 1) d_8_duel_1 rfl rfl ?_
  refine zr_iload_n (i := 2) d_8_duel_2 rfl rfl ?_
  refine zr_iload_n (i := 3) d_8_duel_3 rfl rfl ?_
  refine zr_callVi (av := [zI a1, zI a2, zI a3]) (st := []) d_8_duel_4 mw_8_canDuel ml_8_227 im_8_canDuel se_8_canDuel rfl rfl (Nat.le_of_ble_eq_true rfl) fit_2_4_8 rfl rfl rfl (s8_canDuel rfl) ?_
  refine zr_if_eq (tgt := 32) d_8_duel_7 rfl (fun hc2 => ?_) (fun hc2 => ?_)
  · replace h := z_ip h hc2
    refine zr_iconst (v := (-1 : Int32)) d_8_duel_32 rfl ?_
    obtain ⟨rfl, rfl⟩ := Prod.mk.inj (Option.some.inj h)
    exact ze_i d_8_duel_33 rfl
  · replace h := z_im h hc2
    refine zr_iload d_8_duel_10 rfl ?_
    refine zr_if_lt (tgt := 32) d_8_duel_12 rfl (fun hc3 => ?_) (fun hc3 => ?_)
    · replace h := z_ip h hc3
      refine zr_iconst (v := (-1 : Int32)) d_8_duel_32 rfl ?_
      obtain ⟨rfl, rfl⟩ := Prod.mk.inj (Option.some.inj h)
      exact ze_i d_8_duel_33 rfl
    · replace h := z_im h hc3
      refine zr_iload d_8_duel_15 rfl ?_
      refine zr_iconst (v := (4 : Int32)) d_8_duel_17 rfl ?_
      refine zr_icmp_ge (tgt := 32) d_8_duel_18 rfl (fun hc4 => ?_) (fun hc4 => ?_)
      · replace h := z_ip h hc4
        refine zr_iload d_8_duel_21 rfl ?_
        refine zr_if_lt (tgt := 32) d_8_duel_23 rfl (fun hc5 => ?_) (fun hc5 => ?_)
        · replace h := z_ip h hc5
          refine zr_iconst (v := (-1 : Int32)) d_8_duel_32 rfl ?_
          obtain ⟨rfl, rfl⟩ := Prod.mk.inj (Option.some.inj h)
          exact ze_i d_8_duel_33 rfl
        · replace h := z_im h hc5
          refine zr_iload d_8_duel_26 rfl ?_
          refine zr_iconst (v := (1 : Int32)) d_8_duel_28 rfl ?_
          refine zr_icmp_le (tgt := 34) d_8_duel_29 rfl (fun hc6 => ?_) (fun hc6 => ?_)
          · replace h := z_ip h hc6
            refine zr_iconst (v := (-1 : Int32)) d_8_duel_32 rfl ?_
            obtain ⟨rfl, rfl⟩ := Prod.mk.inj (Option.some.inj h)
            exact ze_i d_8_duel_33 rfl
          · replace h := z_im h hc6
            refine zr_aload_n (i := 0) d_8_duel_34 rfl rfl ?_
            refine zr_iload_n (i := 1) d_8_duel_35 rfl rfl ?_
            refine zr_iload_n (i := 2) d_8_duel_36 rfl rfl ?_
            refine zr_iload_n (i := 3) d_8_duel_37 rfl rfl ?_
            refine zr_iload d_8_duel_38 rfl ?_
            obtain ⟨qm7, hq8, h⟩ := z_bd h
            refine zr_callVv (av := [zI a1, zI a2, zI a3, zI a4]) (st := []) d_8_duel_40 mw_8_playDuel ml_8_231 im_8_playDuel se_8_playDuel rfl rfl (Nat.le_of_ble_eq_true rfl) fit_7_5_8 rfl rfl rfl (s8_playDuel hq8) ?_
            refine zr_iload d_8_duel_43 rfl ?_
            refine zr_if_ne (tgt := 58) d_8_duel_45 rfl (fun hc9 => ?_) (fun hc9 => ?_)
            · replace h := z_ip h hc9
              refine zr_aload_n (i := 0) d_8_duel_48 rfl rfl ?_
              refine zr_gets (i' := 0) d_8_duel_49 fw_8_44 rfl ?_
              refine zr_iload d_8_duel_52 rfl ?_
              obtain ⟨hb10, h⟩ := z_gd h
              refine zr_iald d_8_duel_54 sa_35 rfl hb10 ?_
              refine zr_goto (tgt := 65) d_8_duel_55 rfl ?_
              obtain ⟨rfl, rfl⟩ := Prod.mk.inj (Option.some.inj h)
              exact ze_i d_8_duel_65 rfl
            · replace h := z_im h hc9
              refine zr_aload_n (i := 0) d_8_duel_58 rfl rfl ?_
              refine zr_gets (i' := 0) d_8_duel_59 fw_8_48 rfl ?_
              refine zr_iload d_8_duel_62 rfl ?_
              obtain ⟨hb11, h⟩ := z_gd h
              refine zr_iald d_8_duel_64 sa_36 rfl hb11 ?_
              obtain ⟨rfl, rfl⟩ := Prod.mk.inj (Option.some.inj h)
              exact ze_i d_8_duel_65 rfl
      · replace h := z_im h hc4
        refine zr_iconst (v := (-1 : Int32)) d_8_duel_32 rfl ?_
        obtain ⟨rfl, rfl⟩ := Prod.mk.inj (Option.some.inj h)
        exact ze_i d_8_duel_33 rfl
def f8_rest_L3 (a1 : Int32) (a2 : Int32) (a3 : Int32) : (Int32 × zMem) → Option ((Int32 × zMem) ⊕ (zMem)) := (z_u2 fun x4 xm5 => 
  (if x4 < (4 : Int32) then (f8_playDuel a1 a2 a3 x4 xm5).bind (fun qm7 => some (.inl ((x4 + (1 : Int32)), qm7))) else some (.inr xm5)))
def f8_rest_L11 (e9 : zMem) : (Int32 × Int32) → Option ((Int32 × Int32) ⊕ (Int32)) := (z_u2 fun x12 x13 => 
  (if x13 < (4 : Int32) then if z_in (x13 ^^^ (1 : Int32)) 4 = true then if z_in x13 4 = true then ((if (e9.1 35 0 x13.toNatClampNeg) < (e9.1 35 0 (x13 ^^^ (1 : Int32)).toNatClampNeg) then some x12 else if z_in (x13 ^^^ (2 : Int32)) 4 = true then (if (e9.1 36 0 x13.toNatClampNeg) < (e9.1 36 0 (x13 ^^^ (2 : Int32)).toNatClampNeg) then some x12 else z_let (x12 ||| ((1 : Int32) <<< (x13 &&& 31))) fun v22 => some v22) else none) : Option (Int32)).bind (fun j24 => some (.inl (j24, (x13 + (1 : Int32))))) else none else none else some (.inr x12)))
def f8_rest (a1 : Int32) (a2 : Int32) (a3 : Int32) (μ : zMem) : Option (Int32 × zMem) :=
  (if (f8_canDuel a1 a2 a3 μ) = 0 then some ((-1 : Int32), μ) else (z_it (f8_rest_L3 a1 a2 a3) z_fu ((0 : Int32), μ)).bind (fun e9 => (z_it (f8_rest_L11 e9) z_fu ((0 : Int32), (0 : Int32))).bind (fun e25 => some (e25, e9))))
theorem s8_rest_L3 {P : zP} {ro : Option zV} {μo : zMem} (a1 : Int32) (a2 : Int32) (a3 : Int32) (x4 : Int32) (xm5 : zMem) (K : (Int32 × zMem) ⊕ (zMem)) (h : f8_rest_L3 a1 a2 a3 (x4, xm5) = some K) (hI : ∀ (y0 : Int32) (y1 : zMem), K = .inl (y0, y1) → z_RQ P M_8_rest (z_rm 8) (z_mq P ro μo) 0 0 15 [some (zA 8 0), some (zI a1), some (zI a2), some (zI a3), some (zI y0), none] [] y1) (hE : ∀ (z0 : zMem), K = .inr z0 → z_RQ P M_8_rest (z_rm 8) (z_mq P ro μo) 0 0 36 [some (zA 8 0), none, none, none, none, none] [] z0)  : z_RQ P M_8_rest (z_rm 8) (z_mq P ro μo) 0 0 15 [some (zA 8 0), some (zI a1), some (zI a2), some (zI a3), some (zI x4), none] [] xm5 := by
  unfold f8_rest_L3 at h
  replace h := z_h2 h
  refine zr_iload d_8_rest_15 rfl ?_
  refine zr_iconst (v := (4 : Int32)) d_8_rest_17 rfl ?_
  refine zr_icmp_ge (tgt := 36) d_8_rest_18 rfl (fun hc6 => ?_) (fun hc6 => ?_)
  · replace h := z_ip h hc6
    refine zr_aload_n (i := 0) d_8_rest_21 rfl rfl ?_
    refine zr_iload_n (i := 1) d_8_rest_22 rfl rfl ?_
    refine zr_iload_n (i := 2) d_8_rest_23 rfl rfl ?_
    refine zr_iload_n (i := 3) d_8_rest_24 rfl rfl ?_
    refine zr_iload d_8_rest_25 rfl ?_
    obtain ⟨qm7, hq8, h⟩ := z_bd h
    refine zr_callVv (av := [zI a1, zI a2, zI a3, zI x4]) (st := []) d_8_rest_27 mw_8_playDuel ml_8_231 im_8_playDuel se_8_playDuel rfl rfl (Nat.le_of_ble_eq_true rfl) fit_7_5_8 rfl rfl rfl (s8_playDuel hq8) ?_
    refine zr_iinc (v := (x4 + (1 : Int32))) (l' := [some (zA 8 0), some (zI a1), some (zI a2), some (zI a3), some (zI (x4 + (1 : Int32))), none]) d_8_rest_30 (by decide) rfl rfl rfl ?_
    refine zr_goto (tgt := 15) d_8_rest_33 rfl ?_
    obtain rfl := Option.some.inj h
    exact zr_wk2 (hI (x4 + (1 : Int32)) qm7 rfl) ⟨rfl, ⟨rfl, ⟨rfl, ⟨rfl, ⟨rfl, trivial⟩⟩⟩⟩⟩
  · replace h := z_im h hc6
    obtain rfl := Option.some.inj h
    exact zr_wk2 (hE xm5 rfl) ⟨rfl, trivial⟩
theorem s8_rest_L11 {P : zP} {ro : Option zV} {μo : zMem} (e9 : zMem) (x12 : Int32) (x13 : Int32) (K : (Int32 × Int32) ⊕ (Int32)) (h : f8_rest_L11 e9 (x12, x13) = some K) (hI : ∀ (y0 : Int32) (y1 : Int32), K = .inl (y0, y1) → z_RQ P M_8_rest (z_rm 8) (z_mq P ro μo) 0 0 42 [some (zA 8 0), none, none, none, some (zI y0), some (zI y1)] [] e9) (hE : ∀ (z0 : Int32), K = .inr z0 → z_RQ P M_8_rest (z_rm 8) (z_mq P ro μo) 0 0 101 [none, none, none, none, some (zI z0), none] [] e9)  : z_RQ P M_8_rest (z_rm 8) (z_mq P ro μo) 0 0 42 [some (zA 8 0), none, none, none, some (zI x12), some (zI x13)] [] e9 := by
  unfold f8_rest_L11 at h
  replace h := z_h2 h
  refine zr_iload d_8_rest_42 rfl ?_
  refine zr_iconst (v := (4 : Int32)) d_8_rest_44 rfl ?_
  refine zr_icmp_ge (tgt := 101) d_8_rest_45 rfl (fun hc14 => ?_) (fun hc14 => ?_)
  · replace h := z_ip h hc14
    refine zr_aload_n (i := 0) d_8_rest_48 rfl rfl ?_
    refine zr_gets (i' := 0) d_8_rest_49 fw_8_44 rfl ?_
    refine zr_iload d_8_rest_52 rfl ?_
    refine zr_iconst (v := (1 : Int32)) d_8_rest_54 rfl ?_
    refine zr_ixor d_8_rest_55 ?_
    obtain ⟨hb15, h⟩ := z_gd h
    refine zr_iald d_8_rest_56 sa_35 rfl hb15 ?_
    refine zr_aload_n (i := 0) d_8_rest_57 rfl rfl ?_
    refine zr_gets (i' := 0) d_8_rest_58 fw_8_44 rfl ?_
    refine zr_iload d_8_rest_61 rfl ?_
    obtain ⟨hb16, h⟩ := z_gd h
    refine zr_iald d_8_rest_63 sa_35 rfl hb16 ?_
    obtain ⟨j24, hT17, h⟩ := z_bd h
    have hJ18 : z_RQ P M_8_rest (z_rm 8) (z_mq P ro μo) 0 0 95 [some (zA 8 0), none, none, none, some (zI j24), some (zI x13)] [] e9 := by
      refine zr_iinc (v := (x13 + (1 : Int32))) (l' := [some (zA 8 0), none, none, none, some (zI j24), some (zI (x13 + (1 : Int32)))]) d_8_rest_95 (by decide) rfl rfl rfl ?_
      refine zr_goto (tgt := 42) d_8_rest_98 rfl ?_
      obtain rfl := Option.some.inj h
      exact zr_wk2 (hI j24 (x13 + (1 : Int32)) rfl) ⟨rfl, ⟨rfl, ⟨rfl, trivial⟩⟩⟩
    refine zr_icmp_gt (tgt := 95) d_8_rest_64 rfl (fun hc19 => ?_) (fun hc19 => ?_)
    · replace hT17 := z_ip hT17 hc19
      obtain rfl := Option.some.inj hT17
      exact zr_wk2 hJ18 ⟨rfl, ⟨rfl, ⟨rfl, trivial⟩⟩⟩
    · replace hT17 := z_im hT17 hc19
      refine zr_aload_n (i := 0) d_8_rest_67 rfl rfl ?_
      refine zr_gets (i' := 0) d_8_rest_68 fw_8_48 rfl ?_
      refine zr_iload d_8_rest_71 rfl ?_
      refine zr_iconst (v := (2 : Int32)) d_8_rest_73 rfl ?_
      refine zr_ixor d_8_rest_74 ?_
      obtain ⟨hb20, hT17⟩ := z_gd hT17
      refine zr_iald d_8_rest_75 sa_36 rfl hb20 ?_
      refine zr_aload_n (i := 0) d_8_rest_76 rfl rfl ?_
      refine zr_gets (i' := 0) d_8_rest_77 fw_8_48 rfl ?_
      refine zr_iload d_8_rest_80 rfl ?_
      refine zr_iald d_8_rest_82 sa_36 rfl hb16 ?_
      refine zr_icmp_gt (tgt := 95) d_8_rest_83 rfl (fun hc21 => ?_) (fun hc21 => ?_)
      · replace hT17 := z_ip hT17 hc21
        obtain rfl := Option.some.inj hT17
        exact zr_wk2 hJ18 ⟨rfl, ⟨rfl, ⟨rfl, trivial⟩⟩⟩
      · replace hT17 := z_im hT17 hc21
        refine zr_iload d_8_rest_86 rfl ?_
        refine zr_iconst (v := (1 : Int32)) d_8_rest_88 rfl ?_
        refine zr_iload d_8_rest_89 rfl ?_
        refine zr_ishl d_8_rest_91 ?_
        refine zr_ior d_8_rest_92 ?_
        obtain ⟨v22, hv23, hT17⟩ := z_lt hT17
        refine zr_nm hv23 ?_
        refine zr_istore (i := 4) (l' := [some (zA 8 0), none, none, none, some (zI v22), some (zI x13)]) d_8_rest_93 (by decide) rfl ?_
        obtain rfl := Option.some.inj hT17
        exact zr_wk2 hJ18 ⟨rfl, ⟨rfl, ⟨rfl, trivial⟩⟩⟩
  · replace h := z_im h hc14
    obtain rfl := Option.some.inj h
    exact zr_wk2 (hE x12 rfl) ⟨rfl, trivial⟩
theorem s8_rest {P : zP} {μ : zMem} {a1 : Int32} {a2 : Int32} {a3 : Int32} {r : Int32} {μ' : zMem} (h : f8_rest a1 a2 a3 μ = some (r, μ')) : z_Sp P y_8_rest M_8_rest 8 [zA 8 0, zI a1, zI a2, zI a3] μ (some (zI r)) μ' := by
  refine z_Sp.of (plainFor_of_name (by decide)) rfl (l0 := [some (zA 8 0), some (zI a1), some (zI a2), some (zI a3), none, none]) rfl (Nat.le_of_ble_eq_true rfl) ?_
  unfold f8_rest at h
  refine zr_aload_n (i := 0) d_8_rest_0 rfl rfl ?_
  refine zr_iload_n (i := 1) d_8_rest_1 rfl rfl ?_
  refine zr_iload_n (i := 2) d_8_rest_2 rfl rfl ?_
  refine zr_iload_n (i := 3) d_8_rest_3 rfl rfl ?_
  refine zr_callVi (av := [zI a1, zI a2, zI a3]) (st := []) d_8_rest_4 mw_8_canDuel ml_8_227 im_8_canDuel se_8_canDuel rfl rfl (Nat.le_of_ble_eq_true rfl) fit_2_4_8 rfl rfl rfl (s8_canDuel rfl) ?_
  refine zr_if_ne (tgt := 12) d_8_rest_7 rfl (fun hc2 => ?_) (fun hc2 => ?_)
  · replace h := z_ip h hc2
    refine zr_iconst (v := (-1 : Int32)) d_8_rest_10 rfl ?_
    obtain ⟨rfl, rfl⟩ := Prod.mk.inj (Option.some.inj h)
    exact ze_i d_8_rest_11 rfl
  · replace h := z_im h hc2
    refine zr_iconst (v := (0 : Int32)) d_8_rest_12 rfl ?_
    refine zr_istore (i := 4) (l' := [some (zA 8 0), some (zI a1), some (zI a2), some (zI a3), some (zI (0 : Int32)), none]) d_8_rest_13 (by decide) rfl ?_
    obtain ⟨e9, hl10, h⟩ := z_bd h
    refine zr_wk (l' := [some (zA 8 0), some (zI a1), some (zI a2), some (zI a3), some (zI (0 : Int32)), none]) ⟨rfl, ⟨rfl, ⟨rfl, ⟨rfl, ⟨rfl, trivial⟩⟩⟩⟩⟩ ?_
    refine z_loop (Hd := (z_u2 fun y0 y1 => z_RQ P M_8_rest (z_rm 8) (z_mq P (some (zI r)) μ') 0 0 15 [some (zA 8 0), some (zI a1), some (zI a2), some (zI a3), some (zI y0), none] [] y1)) (Ex := (fun z0 => z_RQ P M_8_rest (z_rm 8) (z_mq P (some (zI r)) μ') 0 0 36 [some (zA 8 0), none, none, none, none, none] [] z0)) (fun ⟨x4, xm5⟩ K h hI hE => s8_rest_L3 a1 a2 a3 x4 xm5 K h (fun y0 y1 e => hI (y0, y1) e) (fun z0 e => hE z0 e) ) _ _ _ hl10 ?_
    refine zr_iconst (v := (0 : Int32)) d_8_rest_36 rfl ?_
    refine zr_istore (i := 4) (l' := [some (zA 8 0), none, none, none, some (zI (0 : Int32)), none]) d_8_rest_37 (by decide) rfl ?_
    refine zr_iconst (v := (0 : Int32)) d_8_rest_39 rfl ?_
    refine zr_istore (i := 5) (l' := [some (zA 8 0), none, none, none, some (zI (0 : Int32)), some (zI (0 : Int32))]) d_8_rest_40 (by decide) rfl ?_
    obtain ⟨e25, hl26, h⟩ := z_bd h
    refine zr_wk (l' := [some (zA 8 0), none, none, none, some (zI (0 : Int32)), some (zI (0 : Int32))]) ⟨rfl, ⟨rfl, ⟨rfl, trivial⟩⟩⟩ ?_
    refine z_loop (Hd := (z_u2 fun y0 y1 => z_RQ P M_8_rest (z_rm 8) (z_mq P (some (zI r)) μ') 0 0 42 [some (zA 8 0), none, none, none, some (zI y0), some (zI y1)] [] e9)) (Ex := (fun z0 => z_RQ P M_8_rest (z_rm 8) (z_mq P (some (zI r)) μ') 0 0 101 [none, none, none, none, some (zI z0), none] [] e9)) (fun ⟨x12, x13⟩ K h hI hE => s8_rest_L11 e9 x12 x13 K h (fun y0 y1 e => hI (y0, y1) e) (fun z0 e => hE z0 e) ) _ _ _ hl26 ?_
    refine zr_iload d_8_rest_101 rfl ?_
    obtain ⟨rfl, rfl⟩ := Prod.mk.inj (Option.some.inj h)
    exact ze_i d_8_rest_103 rfl
def f8_serveAll_L1 (a1 : Int32) (μ : zMem) : (Int32) → Option ((Int32) ⊕ ((Unit) ⊕ (Int32))) := (fun x2 => 
  (if x2 < (μ.1 6 (μ.2.2 8 0 3) 0) then if z_in x2 5 = true then z_let (μ.1 25 0 x2.toNatClampNeg) fun v5 => (if (v5 &&& (f5_alive 0 μ)) = 0 then some (.inl (x2 + (1 : Int32))) else (if (v5 &&& a1) = 0 then some (.inr (.inr (0 : Int32))) else some (.inl (x2 + (1 : Int32))))) else none else some (.inr (.inl ()))))
def f8_serveAll (a1 : Int32) (μ : zMem) : Option (Int32) :=
  (z_it (f8_serveAll_L1 a1 μ) z_fu (0 : Int32)).bind (Sum.elim (fun (_ : Unit) => some (1 : Int32)) (fun qr11 => some qr11))
theorem s8_serveAll_L1 {P : zP} {ro : Option zV} {μo : zMem} (a1 : Int32) (μ : zMem) (x2 : Int32) (K : (Int32) ⊕ ((Unit) ⊕ (Int32))) (h : f8_serveAll_L1 a1 μ x2 = some K) (hI : ∀ (y0 : Int32), K = .inl y0 → z_RQ P M_8_serveAll (z_rm 2) (z_mq P ro μo) 0 0 2 [some (zA 8 0), some (zI a1), some (zI y0), none] [] μ) (hE : K = .inr (.inl ()) → z_RQ P M_8_serveAll (z_rm 2) (z_mq P ro μo) 0 0 49 [none, none, none, none] [] μ) (hR : ∀ (qr : Int32), K = .inr (.inr qr) → ro = some (zI qr) ∧ μo = μ) : z_RQ P M_8_serveAll (z_rm 2) (z_mq P ro μo) 0 0 2 [some (zA 8 0), some (zI a1), some (zI x2), none] [] μ := by
  unfold f8_serveAll_L1 at h
  refine zr_iload_n (i := 2) d_8_serveAll_2 rfl rfl ?_
  refine zr_aload_n (i := 0) d_8_serveAll_3 rfl rfl ?_
  refine zr_getd d_8_serveAll_4 fw_8_27 ?_
  refine zr_geti d_8_serveAll_7 fw_8_156 (by decide) ?_
  refine zr_icmp_ge (tgt := 49) d_8_serveAll_10 rfl (fun hc3 => ?_) (fun hc3 => ?_)
  · replace h := z_ip h hc3
    refine zr_aload_n (i := 0) d_8_serveAll_13 rfl rfl ?_
    refine zr_gets (i' := 0) d_8_serveAll_14 fw_8_34 rfl ?_
    refine zr_gets (i' := 0) d_8_serveAll_17 fw_8_120 rfl ?_
    refine zr_iload_n (i := 2) d_8_serveAll_20 rfl rfl ?_
    obtain ⟨hb4, h⟩ := z_gd h
    refine zr_iald d_8_serveAll_21 sa_25 rfl hb4 ?_
    obtain ⟨v5, hv6, h⟩ := z_lt h
    refine zr_nm hv6 ?_
    refine zr_istore_n (i := 3) (l' := [some (zA 8 0), some (zI a1), some (zI x2), some (zI v5)]) d_8_serveAll_22 rfl (by decide) rfl ?_
    refine zr_iload_n (i := 3) d_8_serveAll_23 rfl rfl ?_
    refine zr_aload_n (i := 0) d_8_serveAll_24 rfl rfl ?_
    refine zr_gets (i' := 0) d_8_serveAll_25 fw_8_34 rfl ?_
    refine zr_callVi (av := []) (st := [zI v5]) d_8_serveAll_28 mw_5_alive ml_8_183 im_5_alive se_5_alive rfl rfl (Nat.le_of_ble_eq_true rfl) fit_1_1_2 rfl rfl rfl (s5_alive rfl) ?_
    refine zr_iand d_8_serveAll_31 ?_
    refine zr_if_eq (tgt := 43) d_8_serveAll_32 rfl (fun hc8 => ?_) (fun hc8 => ?_)
    · replace h := z_ip h hc8
      refine zr_iinc (v := (x2 + (1 : Int32))) (l' := [some (zA 8 0), some (zI a1), some (zI (x2 + (1 : Int32))), some (zI v5)]) d_8_serveAll_43 (by decide) rfl rfl rfl ?_
      refine zr_goto (tgt := 2) d_8_serveAll_46 rfl ?_
      obtain rfl := Option.some.inj h
      exact zr_wk2 (hI (x2 + (1 : Int32)) rfl) ⟨rfl, ⟨rfl, ⟨rfl, trivial⟩⟩⟩
    · replace h := z_im h hc8
      refine zr_iload_n (i := 3) d_8_serveAll_35 rfl rfl ?_
      refine zr_iload_n (i := 1) d_8_serveAll_36 rfl rfl ?_
      refine zr_iand d_8_serveAll_37 ?_
      refine zr_if_ne (tgt := 43) d_8_serveAll_38 rfl (fun hc9 => ?_) (fun hc9 => ?_)
      · replace h := z_ip h hc9
        refine zr_iconst (v := (0 : Int32)) d_8_serveAll_41 rfl ?_
        obtain rfl := Option.some.inj h
        obtain ⟨rfl, rfl⟩ := hR (0 : Int32) rfl
        exact ze_z d_8_serveAll_42 rfl rfl
      · replace h := z_im h hc9
        refine zr_iinc (v := (x2 + (1 : Int32))) (l' := [some (zA 8 0), some (zI a1), some (zI (x2 + (1 : Int32))), some (zI v5)]) d_8_serveAll_43 (by decide) rfl rfl rfl ?_
        refine zr_goto (tgt := 2) d_8_serveAll_46 rfl ?_
        obtain rfl := Option.some.inj h
        exact zr_wk2 (hI (x2 + (1 : Int32)) rfl) ⟨rfl, ⟨rfl, ⟨rfl, trivial⟩⟩⟩
  · replace h := z_im h hc3
    obtain rfl := Option.some.inj h
    exact zr_wk2 (hE  rfl) trivial
theorem s8_serveAll {P : zP} {μ : zMem} {a1 : Int32} {r : Int32} (h : f8_serveAll a1 μ = some r) : z_Sp P y_8_serveAll M_8_serveAll 2 [zA 8 0, zI a1] μ (some (zI r)) μ := by
  refine z_Sp.of (plainFor_of_name (by decide)) rfl (l0 := [some (zA 8 0), some (zI a1), none, none]) rfl (Nat.le_of_ble_eq_true rfl) ?_
  unfold f8_serveAll at h
  refine zr_iconst (v := (0 : Int32)) d_8_serveAll_0 rfl ?_
  refine zr_istore_n (i := 2) (l' := [some (zA 8 0), some (zI a1), some (zI (0 : Int32)), none]) d_8_serveAll_1 rfl (by decide) rfl ?_
  rcases z_bs h with ⟨⟨⟩, hl10, h⟩ | ⟨qr11, hl10, h⟩
  · refine zr_wk (l' := [some (zA 8 0), some (zI a1), some (zI (0 : Int32)), none]) ⟨rfl, ⟨rfl, ⟨rfl, trivial⟩⟩⟩ ?_
    refine z_loop (Hd := (fun y0 => z_RQ P M_8_serveAll (z_rm 2) (z_mq P (some (zI r)) μ) 0 0 2 [some (zA 8 0), some (zI a1), some (zI y0), none] [] μ)) (Ex := (Sum.elim (fun (_ : Unit) => z_RQ P M_8_serveAll (z_rm 2) (z_mq P (some (zI r)) μ) 0 0 49 [none, none, none, none] [] μ) (fun qr => (some (zI r)) = some (zI qr) ∧ μ = μ))) (fun x2 K h hI hE => s8_serveAll_L1 a1 μ x2 K h (fun y0 e => hI y0 e) (fun  e => hE (.inl ()) e) (fun qr e => hE (.inr qr) e)) _ _ _ hl10 ?_
    refine zr_iconst (v := (1 : Int32)) d_8_serveAll_49 rfl ?_
    obtain rfl := Option.some.inj h
    exact ze_z d_8_serveAll_50 rfl rfl
  · refine zr_wk (l' := [some (zA 8 0), some (zI a1), some (zI (0 : Int32)), none]) ⟨rfl, ⟨rfl, ⟨rfl, trivial⟩⟩⟩ ?_
    refine z_loop (Hd := (fun y0 => z_RQ P M_8_serveAll (z_rm 2) (z_mq P (some (zI r)) μ) 0 0 2 [some (zA 8 0), some (zI a1), some (zI y0), none] [] μ)) (Ex := (Sum.elim (fun (_ : Unit) => z_RQ P M_8_serveAll (z_rm 2) (z_mq P (some (zI r)) μ) 0 0 49 [none, none, none, none] [] μ) (fun qr => (some (zI r)) = some (zI qr) ∧ μ = μ))) (fun x2 K h hI hE => s8_serveAll_L1 a1 μ x2 K h (fun y0 e => hI y0 e) (fun  e => hE (.inl ()) e) (fun qr e => hE (.inr qr) e)) _ _ _ hl10 ?_
    obtain rfl := Option.some.inj h
    exact ⟨rfl, rfl⟩
def f8_fewestFor_L1 (a1 : Int32) (a2 : Int32) (μ : zMem) : (Int32 × Int32) → Option ((Int32 × Int32) ⊕ (Int32)) := (z_u2 fun x2 x3 => 
  (if x3 < ((1 : Int32) <<< ((μ.1 6 (μ.2.2 8 0 3) 1) &&& 31)) then ((if (fj6_bitCount_0f7a4 x3) < (fj6_bitCount_0f7a4 x2) then some (1 : Int32) else some (0 : Int32)) : Option (Int32)).bind (fun j10 => ((if (x3 &&& (a1 ^^^ (-1 : Int32))) = 0 then (if j10 = 0 then some x2 else (f8_serveAll (x3 ||| a2) μ).bind (fun q15 => (if q15 = 0 then some x2 else some x3))) else some x2) : Option (Int32)).bind (fun j18 => some (.inl (j18, (x3 + (1 : Int32)))))) else some (.inr x2)))
def f8_fewestFor (a1 : Int32) (a2 : Int32) (μ : zMem) : Option (Int32) :=
  (z_it (f8_fewestFor_L1 a1 a2 μ) z_fu (a1, (0 : Int32))).bind (fun e19 => some e19)
theorem s8_fewestFor_L1 {P : zP} {ro : Option zV} {μo : zMem} (a1 : Int32) (a2 : Int32) (μ : zMem) (x2 : Int32) (x3 : Int32) (K : (Int32 × Int32) ⊕ (Int32)) (h : f8_fewestFor_L1 a1 a2 μ (x2, x3) = some K) (hI : ∀ (y0 : Int32) (y1 : Int32), K = .inl (y0, y1) → z_RQ P M_8_fewestFor (z_rm 3) (z_mq P ro μo) 0 0 5 [some (zA 8 0), some (zI a1), some (zI a2), some (zI y0), some (zI y1), none] [] μ) (hE : ∀ (z0 : Int32), K = .inr z0 → z_RQ P M_8_fewestFor (z_rm 3) (z_mq P ro μo) 0 0 72 [none, none, none, some (zI z0), none, none] [] μ)  : z_RQ P M_8_fewestFor (z_rm 3) (z_mq P ro μo) 0 0 5 [some (zA 8 0), some (zI a1), some (zI a2), some (zI x2), some (zI x3), none] [] μ := by
  unfold f8_fewestFor_L1 at h
  replace h := z_h2 h
  refine zr_iload d_8_fewestFor_5 rfl ?_
  refine zr_iconst (v := (1 : Int32)) d_8_fewestFor_7 rfl ?_
  refine zr_aload_n (i := 0) d_8_fewestFor_8 rfl rfl ?_
  refine zr_getd d_8_fewestFor_9 fw_8_27 ?_
  refine zr_geti d_8_fewestFor_12 fw_8_224 (by decide) ?_
  refine zr_ishl d_8_fewestFor_15 ?_
  refine zr_icmp_ge (tgt := 72) d_8_fewestFor_16 rfl (fun hc4 => ?_) (fun hc4 => ?_)
  · replace h := z_ip h hc4
    refine zr_iload d_8_fewestFor_19 rfl ?_
    refine zr_callSi (av := [zI x3]) (st := []) d_8_fewestFor_21 mw_j6_bitCount_0f7a4 ml_8_241 is_j6_bitCount_0f7a4 rfl rfl (Nat.le_of_ble_eq_true rfl) fit_1_1_3 (sj6_bitCount_0f7a4 rfl) ?_
    refine zr_iload_n (i := 3) d_8_fewestFor_24 rfl rfl ?_
    refine zr_callSi (av := [zI x2]) (st := [zI (fj6_bitCount_0f7a4 x3)]) d_8_fewestFor_25 mw_j6_bitCount_0f7a4 ml_8_241 is_j6_bitCount_0f7a4 rfl rfl (Nat.le_of_ble_eq_true rfl) fit_1_1_3 (sj6_bitCount_0f7a4 rfl) ?_
    obtain ⟨j10, hT7, h⟩ := z_bd h
    have hJ8 : z_RQ P M_8_fewestFor (z_rm 3) (z_mq P ro μo) 0 0 36 [some (zA 8 0), some (zI a1), some (zI a2), some (zI x2), some (zI x3), none] [zI j10] μ := by
      refine zr_istore (i := 5) (l' := [some (zA 8 0), some (zI a1), some (zI a2), some (zI x2), some (zI x3), some (zI j10)]) d_8_fewestFor_36 (by decide) rfl ?_
      refine zr_iload d_8_fewestFor_38 rfl ?_
      refine zr_iload_n (i := 1) d_8_fewestFor_40 rfl rfl ?_
      refine zr_iconst (v := (-1 : Int32)) d_8_fewestFor_41 rfl ?_
      refine zr_ixor d_8_fewestFor_42 ?_
      refine zr_iand d_8_fewestFor_43 ?_
      obtain ⟨j18, hT11, h⟩ := z_bd h
      have hJ12 : z_RQ P M_8_fewestFor (z_rm 3) (z_mq P ro μo) 0 0 66 [some (zA 8 0), some (zI a1), some (zI a2), some (zI j18), some (zI x3), none] [] μ := by
        refine zr_iinc (v := (x3 + (1 : Int32))) (l' := [some (zA 8 0), some (zI a1), some (zI a2), some (zI j18), some (zI (x3 + (1 : Int32))), none]) d_8_fewestFor_66 (by decide) rfl rfl rfl ?_
        refine zr_goto (tgt := 5) d_8_fewestFor_69 rfl ?_
        obtain rfl := Option.some.inj h
        exact zr_wk2 (hI j18 (x3 + (1 : Int32)) rfl) ⟨rfl, ⟨rfl, ⟨rfl, ⟨rfl, ⟨rfl, trivial⟩⟩⟩⟩⟩
      refine zr_if_ne (tgt := 66) d_8_fewestFor_44 rfl (fun hc13 => ?_) (fun hc13 => ?_)
      · replace hT11 := z_ip hT11 hc13
        refine zr_iload d_8_fewestFor_47 rfl ?_
        refine zr_if_eq (tgt := 66) d_8_fewestFor_49 rfl (fun hc14 => ?_) (fun hc14 => ?_)
        · replace hT11 := z_ip hT11 hc14
          obtain rfl := Option.some.inj hT11
          exact zr_wk2 hJ12 ⟨rfl, ⟨rfl, ⟨rfl, ⟨rfl, ⟨rfl, trivial⟩⟩⟩⟩⟩
        · replace hT11 := z_im hT11 hc14
          refine zr_aload_n (i := 0) d_8_fewestFor_52 rfl rfl ?_
          refine zr_iload d_8_fewestFor_53 rfl ?_
          refine zr_iload_n (i := 2) d_8_fewestFor_55 rfl rfl ?_
          refine zr_ior d_8_fewestFor_56 ?_
          obtain ⟨q15, hq16, hT11⟩ := z_bd hT11
          refine zr_callVi (av := [zI (x3 ||| a2)]) (st := []) d_8_fewestFor_57 mw_8_serveAll ml_8_246 im_8_serveAll se_8_serveAll rfl rfl (Nat.le_of_ble_eq_true rfl) fit_2_4_3 rfl rfl rfl (s8_serveAll hq16) ?_
          refine zr_if_eq (tgt := 66) d_8_fewestFor_60 rfl (fun hc17 => ?_) (fun hc17 => ?_)
          · replace hT11 := z_ip hT11 hc17
            obtain rfl := Option.some.inj hT11
            exact zr_wk2 hJ12 ⟨rfl, ⟨rfl, ⟨rfl, ⟨rfl, ⟨rfl, trivial⟩⟩⟩⟩⟩
          · replace hT11 := z_im hT11 hc17
            refine zr_iload d_8_fewestFor_63 rfl ?_
            refine zr_istore_n (i := 3) (l' := [some (zA 8 0), some (zI a1), some (zI a2), some (zI x3), some (zI x3), some (zI j10)]) d_8_fewestFor_65 rfl (by decide) rfl ?_
            obtain rfl := Option.some.inj hT11
            exact zr_wk2 hJ12 ⟨rfl, ⟨rfl, ⟨rfl, ⟨rfl, ⟨rfl, trivial⟩⟩⟩⟩⟩
      · replace hT11 := z_im hT11 hc13
        obtain rfl := Option.some.inj hT11
        exact zr_wk2 hJ12 ⟨rfl, ⟨rfl, ⟨rfl, ⟨rfl, ⟨rfl, trivial⟩⟩⟩⟩⟩
    refine zr_icmp_ge (tgt := 35) d_8_fewestFor_28 rfl (fun hc9 => ?_) (fun hc9 => ?_)
    · replace hT7 := z_ip hT7 hc9
      refine zr_iconst (v := (1 : Int32)) d_8_fewestFor_31 rfl ?_
      refine zr_goto (tgt := 36) d_8_fewestFor_32 rfl ?_
      obtain rfl := Option.some.inj hT7
      exact zr_wk2 hJ8 ⟨rfl, ⟨rfl, ⟨rfl, ⟨rfl, ⟨rfl, trivial⟩⟩⟩⟩⟩
    · replace hT7 := z_im hT7 hc9
      refine zr_iconst (v := (0 : Int32)) d_8_fewestFor_35 rfl ?_
      obtain rfl := Option.some.inj hT7
      exact zr_wk2 hJ8 ⟨rfl, ⟨rfl, ⟨rfl, ⟨rfl, ⟨rfl, trivial⟩⟩⟩⟩⟩
  · replace h := z_im h hc4
    obtain rfl := Option.some.inj h
    exact zr_wk2 (hE x2 rfl) ⟨rfl, trivial⟩
theorem s8_fewestFor {P : zP} {μ : zMem} {a1 : Int32} {a2 : Int32} {r : Int32} (h : f8_fewestFor a1 a2 μ = some r) : z_Sp P y_8_fewestFor M_8_fewestFor 3 [zA 8 0, zI a1, zI a2] μ (some (zI r)) μ := by
  refine z_Sp.of (plainFor_of_name (by decide)) rfl (l0 := [some (zA 8 0), some (zI a1), some (zI a2), none, none, none]) rfl (Nat.le_of_ble_eq_true rfl) ?_
  unfold f8_fewestFor at h
  refine zr_iload_n (i := 1) d_8_fewestFor_0 rfl rfl ?_
  refine zr_istore_n (i := 3) (l' := [some (zA 8 0), some (zI a1), some (zI a2), some (zI a1), none, none]) d_8_fewestFor_1 rfl (by decide) rfl ?_
  refine zr_iconst (v := (0 : Int32)) d_8_fewestFor_2 rfl ?_
  refine zr_istore (i := 4) (l' := [some (zA 8 0), some (zI a1), some (zI a2), some (zI a1), some (zI (0 : Int32)), none]) d_8_fewestFor_3 (by decide) rfl ?_
  obtain ⟨e19, hl20, h⟩ := z_bd h
  refine zr_wk (l' := [some (zA 8 0), some (zI a1), some (zI a2), some (zI a1), some (zI (0 : Int32)), none]) ⟨rfl, ⟨rfl, ⟨rfl, ⟨rfl, ⟨rfl, trivial⟩⟩⟩⟩⟩ ?_
  refine z_loop (Hd := (z_u2 fun y0 y1 => z_RQ P M_8_fewestFor (z_rm 3) (z_mq P (some (zI r)) μ) 0 0 5 [some (zA 8 0), some (zI a1), some (zI a2), some (zI y0), some (zI y1), none] [] μ)) (Ex := (fun z0 => z_RQ P M_8_fewestFor (z_rm 3) (z_mq P (some (zI r)) μ) 0 0 72 [none, none, none, some (zI z0), none, none] [] μ)) (fun ⟨x2, x3⟩ K h hI hE => s8_fewestFor_L1 a1 a2 μ x2 x3 K h (fun y0 y1 e => hI (y0, y1) e) (fun z0 e => hE z0 e) ) _ _ _ hl20 ?_
  refine zr_iload_n (i := 3) d_8_fewestFor_72 rfl rfl ?_
  obtain rfl := Option.some.inj h
  exact ze_i d_8_fewestFor_73 rfl
def f8_manyOrWho (a0 : Int32) (a1 : Int32) : Int32 :=
  (if a1 = (0 : Int32) then (fj6_bitCount_0f7a4 a0) else (if a1 = (1 : Int32) then a0 else (-1 : Int32)))
theorem s8_manyOrWho {P : zP} {μ : zMem} {a0 : Int32} {a1 : Int32} {r : Int32} (h : f8_manyOrWho a0 a1 = r) : z_Sp P y_8_manyOrWho M_8_manyOrWho 2 [zI a0, zI a1] μ (some (zI r)) μ := by
  refine z_Sp.of (plainFor_of_name (by decide)) rfl (l0 := [some (zI a0), some (zI a1)]) rfl (Nat.le_of_ble_eq_true rfl) ?_
  unfold f8_manyOrWho at h
  refine zr_iload_n (i := 1) d_8_manyOrWho_0 rfl rfl ?_
  by_cases hs1 : a1 = (0 : Int32)
  · replace h := z_ip h hs1
    refine zr_lkp (off := 27) (tgt := 28) hs1 d_8_manyOrWho_1 rfl rfl rfl ?_
    refine zr_iload_n (i := 0) d_8_manyOrWho_28 rfl rfl ?_
    refine zr_callSi (av := [zI a0]) (st := []) d_8_manyOrWho_29 mw_j6_bitCount_0f7a4 ml_8_241 is_j6_bitCount_0f7a4 rfl rfl (Nat.le_of_ble_eq_true rfl) fit_1_1_2 (sj6_bitCount_0f7a4 rfl) ?_
    obtain rfl := h
    exact ze_i d_8_manyOrWho_32 rfl
  · replace h := z_im h hs1
    by_cases hs3 : a1 = (1 : Int32)
    · replace h := z_ip h hs3
      refine zr_lkp (off := 32) (tgt := 33) hs3 d_8_manyOrWho_1 rfl rfl rfl ?_
      refine zr_iload_n (i := 0) d_8_manyOrWho_33 rfl rfl ?_
      obtain rfl := h
      exact ze_i d_8_manyOrWho_34 rfl
    · replace h := z_im h hs3
      have hs1t := z_ti hs1
      have hs3t := z_ti hs3
      simp only [show ((0 : Int32)).toInt = 0 from rfl, show ((1 : Int32)).toInt = 1 from rfl] at hs1t hs3t
      refine zr_lookup (tgt := 35) (off := 34) d_8_manyOrWho_1 rfl (by simp [Op.lookupswitch.offset, hs1t, Ne.symm hs1t, hs3t, Ne.symm hs3t]) rfl ?_
      refine zr_iconst (v := (-1 : Int32)) d_8_manyOrWho_35 rfl ?_
      obtain rfl := h
      exact ze_i d_8_manyOrWho_36 rfl
def f8_fill (a1 : Int32) (μ : zMem) : Option (Int32) :=
  (f8_fewestFor (μ.1 5 0 1) (μ.1 5 0 2) μ).bind (fun q1 => some (f8_manyOrWho q1 a1))
theorem s8_fill {P : zP} {μ : zMem} {a1 : Int32} {r : Int32} (h : f8_fill a1 μ = some r) : z_Sp P y_8_fill M_8_fill 4 [zA 8 0, zI a1] μ (some (zI r)) μ := by
  refine z_Sp.of (plainFor_of_name (by decide)) rfl (l0 := [some (zA 8 0), some (zI a1)]) rfl (Nat.le_of_ble_eq_true rfl) ?_
  unfold f8_fill at h
  refine zr_aload_n (i := 0) d_8_fill_0 rfl rfl ?_
  refine zr_aload_n (i := 0) d_8_fill_1 rfl rfl ?_
  refine zr_gets (i' := 0) d_8_fill_2 fw_8_34 rfl ?_
  refine zr_geti d_8_fill_5 fw_8_167 (by decide) ?_
  refine zr_aload_n (i := 0) d_8_fill_8 rfl rfl ?_
  refine zr_gets (i' := 0) d_8_fill_9 fw_8_34 rfl ?_
  refine zr_geti d_8_fill_12 fw_8_177 (by decide) ?_
  obtain ⟨q1, hq2, h⟩ := z_bd h
  refine zr_callVi (av := [zI (μ.1 5 0 1), zI (μ.1 5 0 2)]) (st := []) d_8_fill_15 mw_8_fewestFor ml_8_235 im_8_fewestFor se_8_fewestFor rfl rfl (Nat.le_of_ble_eq_true rfl) fit_3_6_4 rfl rfl rfl (s8_fewestFor hq2) ?_
  refine zr_iload_n (i := 1) d_8_fill_18 rfl rfl ?_
  refine zr_callSi (av := [zI q1, zI a1]) (st := []) d_8_fill_19 mw_8_manyOrWho ml_8_238 is_8_manyOrWho rfl rfl (Nat.le_of_ble_eq_true rfl) fit_2_2_4 (s8_manyOrWho rfl) ?_
  obtain rfl := Option.some.inj h
  exact ze_i d_8_fill_22 rfl
def f8_agents (a1 : Int32) (μ : zMem) : Option (Int32) :=
  (f8_fewestFor (f5_alive 0 μ) (0 : Int32) μ).bind (fun q2 => some (f8_manyOrWho q2 a1))
theorem s8_agents {P : zP} {μ : zMem} {a1 : Int32} {r : Int32} (h : f8_agents a1 μ = some r) : z_Sp P y_8_agents M_8_agents 4 [zA 8 0, zI a1] μ (some (zI r)) μ := by
  refine z_Sp.of (plainFor_of_name (by decide)) rfl (l0 := [some (zA 8 0), some (zI a1)]) rfl (Nat.le_of_ble_eq_true rfl) ?_
  unfold f8_agents at h
  refine zr_aload_n (i := 0) d_8_agents_0 rfl rfl ?_
  refine zr_aload_n (i := 0) d_8_agents_1 rfl rfl ?_
  refine zr_gets (i' := 0) d_8_agents_2 fw_8_34 rfl ?_
  refine zr_callVi (av := []) (st := [zA 8 0]) d_8_agents_5 mw_5_alive ml_8_183 im_5_alive se_5_alive rfl rfl (Nat.le_of_ble_eq_true rfl) fit_1_1_4 rfl rfl rfl (s5_alive rfl) ?_
  refine zr_iconst (v := (0 : Int32)) d_8_agents_8 rfl ?_
  obtain ⟨q2, hq3, h⟩ := z_bd h
  refine zr_callVi (av := [zI (f5_alive 0 μ), zI (0 : Int32)]) (st := []) d_8_agents_9 mw_8_fewestFor ml_8_235 im_8_fewestFor se_8_fewestFor rfl rfl (Nat.le_of_ble_eq_true rfl) fit_3_6_4 rfl rfl rfl (s8_fewestFor hq3) ?_
  refine zr_iload_n (i := 1) d_8_agents_12 rfl rfl ?_
  refine zr_callSi (av := [zI q2, zI a1]) (st := []) d_8_agents_13 mw_8_manyOrWho ml_8_238 is_8_manyOrWho rfl rfl (Nat.le_of_ble_eq_true rfl) fit_2_2_4 (s8_manyOrWho rfl) ?_
  obtain rfl := Option.some.inj h
  exact ze_i d_8_agents_16 rfl
def f8_richest_L4 (μ : zMem) : (Int32 × Int32) → Option ((Int32 × Int32) ⊕ (Int32)) := (z_u2 fun x5 x6 => 
  (if x6 < (μ.1 6 (μ.2.2 8 0 3) 1) then if z_in x6 7 = true then if z_in x5 7 = true then ((if (μ.1 23 0 x5.toNatClampNeg) < (μ.1 23 0 x6.toNatClampNeg) then some x6 else some x5) : Option (Int32)).bind (fun j13 => some (.inl (j13, (x6 + (1 : Int32))))) else none else none else some (.inr x5)))
def f8_richest (a1 : Int32) (μ : zMem) : Option (Int32) :=
  (if a1 < 0 then some (-1 : Int32) else (if (1 : Int32) < a1 then some (-1 : Int32) else (if (μ.1 6 (μ.2.2 8 0 3) 1) = 0 then some (-2 : Int32) else (z_it (f8_richest_L4 μ) z_fu ((0 : Int32), (1 : Int32))).bind (fun e14 => (if a1 = 0 then some e14 else if z_in e14 7 = true then some (μ.1 23 0 e14.toNatClampNeg) else none)))))
theorem s8_richest_L4 {P : zP} {ro : Option zV} {μo : zMem} (a1 : Int32) (μ : zMem) (x5 : Int32) (x6 : Int32) (K : (Int32 × Int32) ⊕ (Int32)) (h : f8_richest_L4 μ (x5, x6) = some K) (hI : ∀ (y0 : Int32) (y1 : Int32), K = .inl (y0, y1) → z_RQ P M_8_richest (z_rm 1) (z_mq P ro μo) 0 0 28 [some (zA 8 0), some (zI a1), some (zI y0), some (zI y1)] [] μ) (hE : ∀ (z0 : Int32), K = .inr z0 → z_RQ P M_8_richest (z_rm 1) (z_mq P ro μo) 0 0 68 [some (zA 8 0), some (zI a1), some (zI z0), none] [] μ)  : z_RQ P M_8_richest (z_rm 1) (z_mq P ro μo) 0 0 28 [some (zA 8 0), some (zI a1), some (zI x5), some (zI x6)] [] μ := by
  unfold f8_richest_L4 at h
  replace h := z_h2 h
  refine zr_iload_n (i := 3) d_8_richest_28 rfl rfl ?_
  refine zr_aload_n (i := 0) d_8_richest_29 rfl rfl ?_
  refine zr_getd d_8_richest_30 fw_8_27 ?_
  refine zr_geti d_8_richest_33 fw_8_224 (by decide) ?_
  refine zr_icmp_ge (tgt := 68) d_8_richest_36 rfl (fun hc7 => ?_) (fun hc7 => ?_)
  · replace h := z_ip h hc7
    refine zr_aload_n (i := 0) d_8_richest_39 rfl rfl ?_
    refine zr_gets (i' := 0) d_8_richest_40 fw_8_34 rfl ?_
    refine zr_gets (i' := 0) d_8_richest_43 fw_8_143 rfl ?_
    refine zr_iload_n (i := 3) d_8_richest_46 rfl rfl ?_
    obtain ⟨hb8, h⟩ := z_gd h
    refine zr_iald d_8_richest_47 sa_23 rfl hb8 ?_
    refine zr_aload_n (i := 0) d_8_richest_48 rfl rfl ?_
    refine zr_gets (i' := 0) d_8_richest_49 fw_8_34 rfl ?_
    refine zr_gets (i' := 0) d_8_richest_52 fw_8_143 rfl ?_
    refine zr_iload_n (i := 2) d_8_richest_55 rfl rfl ?_
    obtain ⟨hb9, h⟩ := z_gd h
    refine zr_iald d_8_richest_56 sa_23 rfl hb9 ?_
    obtain ⟨j13, hT10, h⟩ := z_bd h
    have hJ11 : z_RQ P M_8_richest (z_rm 1) (z_mq P ro μo) 0 0 62 [some (zA 8 0), some (zI a1), some (zI j13), some (zI x6)] [] μ := by
      refine zr_iinc (v := (x6 + (1 : Int32))) (l' := [some (zA 8 0), some (zI a1), some (zI j13), some (zI (x6 + (1 : Int32)))]) d_8_richest_62 (by decide) rfl rfl rfl ?_
      refine zr_goto (tgt := 28) d_8_richest_65 rfl ?_
      obtain rfl := Option.some.inj h
      exact zr_wk2 (hI j13 (x6 + (1 : Int32)) rfl) ⟨rfl, ⟨rfl, ⟨rfl, ⟨rfl, trivial⟩⟩⟩⟩
    refine zr_icmp_le (tgt := 62) d_8_richest_57 rfl (fun hc12 => ?_) (fun hc12 => ?_)
    · replace hT10 := z_ip hT10 hc12
      refine zr_iload_n (i := 3) d_8_richest_60 rfl rfl ?_
      refine zr_istore_n (i := 2) (l' := [some (zA 8 0), some (zI a1), some (zI x6), some (zI x6)]) d_8_richest_61 rfl (by decide) rfl ?_
      obtain rfl := Option.some.inj hT10
      exact zr_wk2 hJ11 ⟨rfl, ⟨rfl, ⟨rfl, ⟨rfl, trivial⟩⟩⟩⟩
    · replace hT10 := z_im hT10 hc12
      obtain rfl := Option.some.inj hT10
      exact zr_wk2 hJ11 ⟨rfl, ⟨rfl, ⟨rfl, ⟨rfl, trivial⟩⟩⟩⟩
  · replace h := z_im h hc7
    obtain rfl := Option.some.inj h
    exact zr_wk2 (hE x5 rfl) ⟨rfl, ⟨rfl, ⟨rfl, trivial⟩⟩⟩
theorem s8_richest {P : zP} {μ : zMem} {a1 : Int32} {r : Int32} (h : f8_richest a1 μ = some r) : z_Sp P y_8_richest M_8_richest 1 [zA 8 0, zI a1] μ (some (zI r)) μ := by
  refine z_Sp.of (plainFor_of_name (by decide)) rfl (l0 := [some (zA 8 0), some (zI a1), none, none]) rfl (Nat.le_of_ble_eq_true rfl) ?_
  unfold f8_richest at h
  refine zr_iload_n (i := 1) d_8_richest_0 rfl rfl ?_
  refine zr_if_lt (tgt := 9) d_8_richest_1 rfl (fun hc1 => ?_) (fun hc1 => ?_)
  · replace h := z_ip h hc1
    refine zr_iconst (v := (-1 : Int32)) d_8_richest_9 rfl ?_
    obtain rfl := Option.some.inj h
    exact ze_i d_8_richest_10 rfl
  · replace h := z_im h hc1
    refine zr_iload_n (i := 1) d_8_richest_4 rfl rfl ?_
    refine zr_iconst (v := (1 : Int32)) d_8_richest_5 rfl ?_
    refine zr_icmp_le (tgt := 11) d_8_richest_6 rfl (fun hc2 => ?_) (fun hc2 => ?_)
    · replace h := z_ip h hc2
      refine zr_iconst (v := (-1 : Int32)) d_8_richest_9 rfl ?_
      obtain rfl := Option.some.inj h
      exact ze_i d_8_richest_10 rfl
    · replace h := z_im h hc2
      refine zr_aload_n (i := 0) d_8_richest_11 rfl rfl ?_
      refine zr_getd d_8_richest_12 fw_8_27 ?_
      refine zr_geti d_8_richest_15 fw_8_224 (by decide) ?_
      refine zr_if_ne (tgt := 24) d_8_richest_18 rfl (fun hc3 => ?_) (fun hc3 => ?_)
      · replace h := z_ip h hc3
        refine zr_bipush (v := (-2 : Int32)) d_8_richest_21 (by decide) ?_
        obtain rfl := Option.some.inj h
        exact ze_i d_8_richest_23 rfl
      · replace h := z_im h hc3
        refine zr_iconst (v := (0 : Int32)) d_8_richest_24 rfl ?_
        refine zr_istore_n (i := 2) (l' := [some (zA 8 0), some (zI a1), some (zI (0 : Int32)), none]) d_8_richest_25 rfl (by decide) rfl ?_
        refine zr_iconst (v := (1 : Int32)) d_8_richest_26 rfl ?_
        refine zr_istore_n (i := 3) (l' := [some (zA 8 0), some (zI a1), some (zI (0 : Int32)), some (zI (1 : Int32))]) d_8_richest_27 rfl (by decide) rfl ?_
        obtain ⟨e14, hl15, h⟩ := z_bd h
        refine zr_wk (l' := [some (zA 8 0), some (zI a1), some (zI (0 : Int32)), some (zI (1 : Int32))]) ⟨rfl, ⟨rfl, ⟨rfl, ⟨rfl, trivial⟩⟩⟩⟩ ?_
        refine z_loop (Hd := (z_u2 fun y0 y1 => z_RQ P M_8_richest (z_rm 1) (z_mq P (some (zI r)) μ) 0 0 28 [some (zA 8 0), some (zI a1), some (zI y0), some (zI y1)] [] μ)) (Ex := (fun z0 => z_RQ P M_8_richest (z_rm 1) (z_mq P (some (zI r)) μ) 0 0 68 [some (zA 8 0), some (zI a1), some (zI z0), none] [] μ)) (fun ⟨x5, x6⟩ K h hI hE => s8_richest_L4 a1 μ x5 x6 K h (fun y0 y1 e => hI (y0, y1) e) (fun z0 e => hE z0 e) ) _ _ _ hl15 ?_
        refine zr_iload_n (i := 1) d_8_richest_68 rfl rfl ?_
        refine zr_if_ne (tgt := 76) d_8_richest_69 rfl (fun hc16 => ?_) (fun hc16 => ?_)
        · replace h := z_ip h hc16
          refine zr_iload_n (i := 2) d_8_richest_72 rfl rfl ?_
          refine zr_goto (tgt := 85) d_8_richest_73 rfl ?_
          obtain rfl := Option.some.inj h
          exact ze_i d_8_richest_85 rfl
        · replace h := z_im h hc16
          refine zr_aload_n (i := 0) d_8_richest_76 rfl rfl ?_
          refine zr_gets (i' := 0) d_8_richest_77 fw_8_34 rfl ?_
          refine zr_gets (i' := 0) d_8_richest_80 fw_8_143 rfl ?_
          refine zr_iload_n (i := 2) d_8_richest_83 rfl rfl ?_
          obtain ⟨hb17, h⟩ := z_gd h
          refine zr_iald d_8_richest_84 sa_23 rfl hb17 ?_
          obtain rfl := Option.some.inj h
          exact ze_i d_8_richest_85 rfl
def f8_eldest_L3 (μ : zMem) : (Int32 × Int32 × Int32) → Option ((Int32 × Int32 × Int32) ⊕ (Int32 × Int32)) := (z_u3 fun x4 x5 x6 => 
  (if x6 < (μ.1 6 (μ.2.2 8 0 3) 1) then if z_in x6 7 = true then z_let (μ.1 24 0 x6.toNatClampNeg) fun v9 => ((if (f8_has (f5_alive 0 μ) x6) = 0 then some (x4, x5) else (if x4 = (-2 : Int32) then some (x6, v9) else (if x5 < v9 then some (x6, v9) else some (x4, x5)))) : Option (Int32 × Int32)).bind (z_u2 fun j18 j19 => some (.inl (j18, j19, (x6 + (1 : Int32))))) else none else some (.inr (x4, x5))))
def f8_eldest (a1 : Int32) (μ : zMem) : Option (Int32) :=
  (if a1 < 0 then some (-1 : Int32) else (if (1 : Int32) < a1 then some (-1 : Int32) else (z_it (f8_eldest_L3 μ) z_fu ((-2 : Int32), (-2 : Int32), (0 : Int32))).bind (z_u2 fun e20 e21 => (if a1 = 0 then some e20 else some e21))))
theorem s8_eldest_L3 {P : zP} {ro : Option zV} {μo : zMem} (a1 : Int32) (μ : zMem) (x4 : Int32) (x5 : Int32) (x6 : Int32) (K : (Int32 × Int32 × Int32) ⊕ (Int32 × Int32)) (h : f8_eldest_L3 μ (x4, x5, x6) = some K) (hI : ∀ (y0 : Int32) (y1 : Int32) (y2 : Int32), K = .inl (y0, y1, y2) → z_RQ P M_8_eldest (z_rm 2) (z_mq P ro μo) 0 0 20 [some (zA 8 0), some (zI a1), some (zI y0), some (zI y1), some (zI y2), none] [] μ) (hE : ∀ (z0 : Int32) (z1 : Int32), K = .inr (z0, z1) → z_RQ P M_8_eldest (z_rm 2) (z_mq P ro μo) 0 0 83 [none, some (zI a1), some (zI z0), some (zI z1), none, none] [] μ)  : z_RQ P M_8_eldest (z_rm 2) (z_mq P ro μo) 0 0 20 [some (zA 8 0), some (zI a1), some (zI x4), some (zI x5), some (zI x6), none] [] μ := by
  unfold f8_eldest_L3 at h
  replace h := z_h3 h
  refine zr_iload d_8_eldest_20 rfl ?_
  refine zr_aload_n (i := 0) d_8_eldest_22 rfl rfl ?_
  refine zr_getd d_8_eldest_23 fw_8_27 ?_
  refine zr_geti d_8_eldest_26 fw_8_224 (by decide) ?_
  refine zr_icmp_ge (tgt := 83) d_8_eldest_29 rfl (fun hc7 => ?_) (fun hc7 => ?_)
  · replace h := z_ip h hc7
    refine zr_aload_n (i := 0) d_8_eldest_32 rfl rfl ?_
    refine zr_gets (i' := 0) d_8_eldest_33 fw_8_34 rfl ?_
    refine zr_gets (i' := 0) d_8_eldest_36 fw_8_134 rfl ?_
    refine zr_iload d_8_eldest_39 rfl ?_
    obtain ⟨hb8, h⟩ := z_gd h
    refine zr_iald d_8_eldest_41 sa_24 rfl hb8 ?_
    obtain ⟨v9, hv10, h⟩ := z_lt h
    refine zr_nm hv10 ?_
    refine zr_istore (i := 5) (l' := [some (zA 8 0), some (zI a1), some (zI x4), some (zI x5), some (zI x6), some (zI v9)]) d_8_eldest_42 (by decide) rfl ?_
    refine zr_aload_n (i := 0) d_8_eldest_44 rfl rfl ?_
    refine zr_gets (i' := 0) d_8_eldest_45 fw_8_34 rfl ?_
    refine zr_callVi (av := []) (st := []) d_8_eldest_48 mw_5_alive ml_8_183 im_5_alive se_5_alive rfl rfl (Nat.le_of_ble_eq_true rfl) fit_1_1_2 rfl rfl rfl (s5_alive rfl) ?_
    refine zr_iload d_8_eldest_51 rfl ?_
    refine zr_callSi (av := [zI (f5_alive 0 μ), zI x6]) (st := []) d_8_eldest_53 mw_8_has ml_8_159 is_8_has rfl rfl (Nat.le_of_ble_eq_true rfl) fit_1_2_2 (s8_has rfl) ?_
    obtain ⟨⟨j18, j19⟩, hT13, h⟩ := z_bd h
    replace h := z_h2 h
    have hJ14 : z_RQ P M_8_eldest (z_rm 2) (z_mq P ro μo) 0 0 77 [some (zA 8 0), some (zI a1), some (zI j18), some (zI j19), some (zI x6), none] [] μ := by
      refine zr_iinc (v := (x6 + (1 : Int32))) (l' := [some (zA 8 0), some (zI a1), some (zI j18), some (zI j19), some (zI (x6 + (1 : Int32))), none]) d_8_eldest_77 (by decide) rfl rfl rfl ?_
      refine zr_goto (tgt := 20) d_8_eldest_80 rfl ?_
      obtain rfl := Option.some.inj h
      exact zr_wk2 (hI j18 j19 (x6 + (1 : Int32)) rfl) ⟨rfl, ⟨rfl, ⟨rfl, ⟨rfl, ⟨rfl, trivial⟩⟩⟩⟩⟩
    refine zr_if_eq (tgt := 77) d_8_eldest_56 rfl (fun hc15 => ?_) (fun hc15 => ?_)
    · replace hT13 := z_ip hT13 hc15
      obtain ⟨rfl, rfl⟩ := z_i2 (Option.some.inj hT13)
      exact zr_wk2 hJ14 ⟨rfl, ⟨rfl, ⟨rfl, ⟨rfl, ⟨rfl, trivial⟩⟩⟩⟩⟩
    · replace hT13 := z_im hT13 hc15
      refine zr_iload_n (i := 2) d_8_eldest_59 rfl rfl ?_
      refine zr_bipush (v := (-2 : Int32)) d_8_eldest_60 (by decide) ?_
      refine zr_icmp_eq (tgt := 71) d_8_eldest_62 rfl (fun hc16 => ?_) (fun hc16 => ?_)
      · replace hT13 := z_ip hT13 hc16
        refine zr_iload d_8_eldest_71 rfl ?_
        refine zr_istore_n (i := 2) (l' := [some (zA 8 0), some (zI a1), some (zI x6), some (zI x5), some (zI x6), some (zI v9)]) d_8_eldest_73 rfl (by decide) rfl ?_
        refine zr_iload d_8_eldest_74 rfl ?_
        refine zr_istore_n (i := 3) (l' := [some (zA 8 0), some (zI a1), some (zI x6), some (zI v9), some (zI x6), some (zI v9)]) d_8_eldest_76 rfl (by decide) rfl ?_
        obtain ⟨rfl, rfl⟩ := z_i2 (Option.some.inj hT13)
        exact zr_wk2 hJ14 ⟨rfl, ⟨rfl, ⟨rfl, ⟨rfl, ⟨rfl, trivial⟩⟩⟩⟩⟩
      · replace hT13 := z_im hT13 hc16
        refine zr_iload d_8_eldest_65 rfl ?_
        refine zr_iload_n (i := 3) d_8_eldest_67 rfl rfl ?_
        refine zr_icmp_le (tgt := 77) d_8_eldest_68 rfl (fun hc17 => ?_) (fun hc17 => ?_)
        · replace hT13 := z_ip hT13 hc17
          refine zr_iload d_8_eldest_71 rfl ?_
          refine zr_istore_n (i := 2) (l' := [some (zA 8 0), some (zI a1), some (zI x6), some (zI x5), some (zI x6), some (zI v9)]) d_8_eldest_73 rfl (by decide) rfl ?_
          refine zr_iload d_8_eldest_74 rfl ?_
          refine zr_istore_n (i := 3) (l' := [some (zA 8 0), some (zI a1), some (zI x6), some (zI v9), some (zI x6), some (zI v9)]) d_8_eldest_76 rfl (by decide) rfl ?_
          obtain ⟨rfl, rfl⟩ := z_i2 (Option.some.inj hT13)
          exact zr_wk2 hJ14 ⟨rfl, ⟨rfl, ⟨rfl, ⟨rfl, ⟨rfl, trivial⟩⟩⟩⟩⟩
        · replace hT13 := z_im hT13 hc17
          obtain ⟨rfl, rfl⟩ := z_i2 (Option.some.inj hT13)
          exact zr_wk2 hJ14 ⟨rfl, ⟨rfl, ⟨rfl, ⟨rfl, ⟨rfl, trivial⟩⟩⟩⟩⟩
  · replace h := z_im h hc7
    obtain rfl := Option.some.inj h
    exact zr_wk2 (hE x4 x5 rfl) ⟨rfl, ⟨rfl, ⟨rfl, trivial⟩⟩⟩
theorem s8_eldest {P : zP} {μ : zMem} {a1 : Int32} {r : Int32} (h : f8_eldest a1 μ = some r) : z_Sp P y_8_eldest M_8_eldest 2 [zA 8 0, zI a1] μ (some (zI r)) μ := by
  refine z_Sp.of (plainFor_of_name (by decide)) rfl (l0 := [some (zA 8 0), some (zI a1), none, none, none, none]) rfl (Nat.le_of_ble_eq_true rfl) ?_
  unfold f8_eldest at h
  refine zr_iload_n (i := 1) d_8_eldest_0 rfl rfl ?_
  refine zr_if_lt (tgt := 9) d_8_eldest_1 rfl (fun hc1 => ?_) (fun hc1 => ?_)
  · replace h := z_ip h hc1
    refine zr_iconst (v := (-1 : Int32)) d_8_eldest_9 rfl ?_
    obtain rfl := Option.some.inj h
    exact ze_i d_8_eldest_10 rfl
  · replace h := z_im h hc1
    refine zr_iload_n (i := 1) d_8_eldest_4 rfl rfl ?_
    refine zr_iconst (v := (1 : Int32)) d_8_eldest_5 rfl ?_
    refine zr_icmp_le (tgt := 11) d_8_eldest_6 rfl (fun hc2 => ?_) (fun hc2 => ?_)
    · replace h := z_ip h hc2
      refine zr_iconst (v := (-1 : Int32)) d_8_eldest_9 rfl ?_
      obtain rfl := Option.some.inj h
      exact ze_i d_8_eldest_10 rfl
    · replace h := z_im h hc2
      refine zr_bipush (v := (-2 : Int32)) d_8_eldest_11 (by decide) ?_
      refine zr_istore_n (i := 2) (l' := [some (zA 8 0), some (zI a1), some (zI (-2 : Int32)), none, none, none]) d_8_eldest_13 rfl (by decide) rfl ?_
      refine zr_bipush (v := (-2 : Int32)) d_8_eldest_14 (by decide) ?_
      refine zr_istore_n (i := 3) (l' := [some (zA 8 0), some (zI a1), some (zI (-2 : Int32)), some (zI (-2 : Int32)), none, none]) d_8_eldest_16 rfl (by decide) rfl ?_
      refine zr_iconst (v := (0 : Int32)) d_8_eldest_17 rfl ?_
      refine zr_istore (i := 4) (l' := [some (zA 8 0), some (zI a1), some (zI (-2 : Int32)), some (zI (-2 : Int32)), some (zI (0 : Int32)), none]) d_8_eldest_18 (by decide) rfl ?_
      obtain ⟨⟨e20, e21⟩, hl22, h⟩ := z_bd h
      replace h := z_h2 h
      refine zr_wk (l' := [some (zA 8 0), some (zI a1), some (zI (-2 : Int32)), some (zI (-2 : Int32)), some (zI (0 : Int32)), none]) ⟨rfl, ⟨rfl, ⟨rfl, ⟨rfl, ⟨rfl, trivial⟩⟩⟩⟩⟩ ?_
      refine z_loop (Hd := (z_u3 fun y0 y1 y2 => z_RQ P M_8_eldest (z_rm 2) (z_mq P (some (zI r)) μ) 0 0 20 [some (zA 8 0), some (zI a1), some (zI y0), some (zI y1), some (zI y2), none] [] μ)) (Ex := (z_u2 fun z0 z1 => z_RQ P M_8_eldest (z_rm 2) (z_mq P (some (zI r)) μ) 0 0 83 [none, some (zI a1), some (zI z0), some (zI z1), none, none] [] μ)) (fun ⟨x4, x5, x6⟩ K h hI hE => s8_eldest_L3 a1 μ x4 x5 x6 K h (fun y0 y1 y2 e => hI (y0, y1, y2) e) (fun z0 z1 e => hE (z0, z1) e) ) _ _ _ hl22 ?_
      refine zr_iload_n (i := 1) d_8_eldest_83 rfl rfl ?_
      refine zr_if_ne (tgt := 91) d_8_eldest_84 rfl (fun hc23 => ?_) (fun hc23 => ?_)
      · replace h := z_ip h hc23
        refine zr_iload_n (i := 2) d_8_eldest_87 rfl rfl ?_
        refine zr_goto (tgt := 92) d_8_eldest_88 rfl ?_
        obtain rfl := Option.some.inj h
        exact ze_i d_8_eldest_92 rfl
      · replace h := z_im h hc23
        refine zr_iload_n (i := 3) d_8_eldest_91 rfl rfl ?_
        obtain rfl := Option.some.inj h
        exact ze_i d_8_eldest_92 rfl
def f8_suitedTo_L1 (a1 : Int32) (μ : zMem) : (Int32 × Int32) → Option ((Int32 × Int32) ⊕ (Int32)) := (z_u2 fun x2 x3 => 
  (if x3 < (μ.1 6 (μ.2.2 8 0 3) 0) then ((if (f8_has a1 x3) = 0 then some x2 else if z_in x3 5 = true then z_let (x2 ||| ((μ.1 25 0 x3.toNatClampNeg) &&& (μ.1 5 0 2))) fun v10 => some v10 else none) : Option (Int32)).bind (fun j12 => some (.inl (j12, (x3 + (1 : Int32))))) else some (.inr x2)))
def f8_suitedTo (a1 : Int32) (μ : zMem) : Option (Int32) :=
  (z_it (f8_suitedTo_L1 a1 μ) z_fu ((0 : Int32), (0 : Int32))).bind (fun e13 => some e13)
theorem s8_suitedTo_L1 {P : zP} {ro : Option zV} {μo : zMem} (a1 : Int32) (μ : zMem) (x2 : Int32) (x3 : Int32) (K : (Int32 × Int32) ⊕ (Int32)) (h : f8_suitedTo_L1 a1 μ (x2, x3) = some K) (hI : ∀ (y0 : Int32) (y1 : Int32), K = .inl (y0, y1) → z_RQ P M_8_suitedTo (z_rm 2) (z_mq P ro μo) 0 0 4 [some (zA 8 0), some (zI a1), some (zI y0), some (zI y1)] [] μ) (hE : ∀ (z0 : Int32), K = .inr z0 → z_RQ P M_8_suitedTo (z_rm 2) (z_mq P ro μo) 0 0 49 [none, none, some (zI z0), none] [] μ)  : z_RQ P M_8_suitedTo (z_rm 2) (z_mq P ro μo) 0 0 4 [some (zA 8 0), some (zI a1), some (zI x2), some (zI x3)] [] μ := by
  unfold f8_suitedTo_L1 at h
  replace h := z_h2 h
  refine zr_iload_n (i := 3) d_8_suitedTo_4 rfl rfl ?_
  refine zr_aload_n (i := 0) d_8_suitedTo_5 rfl rfl ?_
  refine zr_getd d_8_suitedTo_6 fw_8_27 ?_
  refine zr_geti d_8_suitedTo_9 fw_8_156 (by decide) ?_
  refine zr_icmp_ge (tgt := 49) d_8_suitedTo_12 rfl (fun hc4 => ?_) (fun hc4 => ?_)
  · replace h := z_ip h hc4
    refine zr_iload_n (i := 1) d_8_suitedTo_15 rfl rfl ?_
    refine zr_iload_n (i := 3) d_8_suitedTo_16 rfl rfl ?_
    refine zr_callSi (av := [zI a1, zI x3]) (st := []) d_8_suitedTo_17 mw_8_has ml_8_159 is_8_has rfl rfl (Nat.le_of_ble_eq_true rfl) fit_1_2_2 (s8_has rfl) ?_
    obtain ⟨j12, hT6, h⟩ := z_bd h
    have hJ7 : z_RQ P M_8_suitedTo (z_rm 2) (z_mq P ro μo) 0 0 43 [some (zA 8 0), some (zI a1), some (zI j12), some (zI x3)] [] μ := by
      refine zr_iinc (v := (x3 + (1 : Int32))) (l' := [some (zA 8 0), some (zI a1), some (zI j12), some (zI (x3 + (1 : Int32)))]) d_8_suitedTo_43 (by decide) rfl rfl rfl ?_
      refine zr_goto (tgt := 4) d_8_suitedTo_46 rfl ?_
      obtain rfl := Option.some.inj h
      exact zr_wk2 (hI j12 (x3 + (1 : Int32)) rfl) ⟨rfl, ⟨rfl, ⟨rfl, ⟨rfl, trivial⟩⟩⟩⟩
    refine zr_if_eq (tgt := 43) d_8_suitedTo_20 rfl (fun hc8 => ?_) (fun hc8 => ?_)
    · replace hT6 := z_ip hT6 hc8
      obtain rfl := Option.some.inj hT6
      exact zr_wk2 hJ7 ⟨rfl, ⟨rfl, ⟨rfl, ⟨rfl, trivial⟩⟩⟩⟩
    · replace hT6 := z_im hT6 hc8
      refine zr_iload_n (i := 2) d_8_suitedTo_23 rfl rfl ?_
      refine zr_aload_n (i := 0) d_8_suitedTo_24 rfl rfl ?_
      refine zr_gets (i' := 0) d_8_suitedTo_25 fw_8_34 rfl ?_
      refine zr_gets (i' := 0) d_8_suitedTo_28 fw_8_120 rfl ?_
      refine zr_iload_n (i := 3) d_8_suitedTo_31 rfl rfl ?_
      obtain ⟨hb9, hT6⟩ := z_gd hT6
      refine zr_iald d_8_suitedTo_32 sa_25 rfl hb9 ?_
      refine zr_aload_n (i := 0) d_8_suitedTo_33 rfl rfl ?_
      refine zr_gets (i' := 0) d_8_suitedTo_34 fw_8_34 rfl ?_
      refine zr_geti d_8_suitedTo_37 fw_8_177 (by decide) ?_
      refine zr_iand d_8_suitedTo_40 ?_
      refine zr_ior d_8_suitedTo_41 ?_
      obtain ⟨v10, hv11, hT6⟩ := z_lt hT6
      refine zr_nm hv11 ?_
      refine zr_istore_n (i := 2) (l' := [some (zA 8 0), some (zI a1), some (zI v10), some (zI x3)]) d_8_suitedTo_42 rfl (by decide) rfl ?_
      obtain rfl := Option.some.inj hT6
      exact zr_wk2 hJ7 ⟨rfl, ⟨rfl, ⟨rfl, ⟨rfl, trivial⟩⟩⟩⟩
  · replace h := z_im h hc4
    obtain rfl := Option.some.inj h
    exact zr_wk2 (hE x2 rfl) ⟨rfl, trivial⟩
theorem s8_suitedTo {P : zP} {μ : zMem} {a1 : Int32} {r : Int32} (h : f8_suitedTo a1 μ = some r) : z_Sp P y_8_suitedTo M_8_suitedTo 2 [zA 8 0, zI a1] μ (some (zI r)) μ := by
  refine z_Sp.of (plainFor_of_name (by decide)) rfl (l0 := [some (zA 8 0), some (zI a1), none, none]) rfl (Nat.le_of_ble_eq_true rfl) ?_
  unfold f8_suitedTo at h
  refine zr_iconst (v := (0 : Int32)) d_8_suitedTo_0 rfl ?_
  refine zr_istore_n (i := 2) (l' := [some (zA 8 0), some (zI a1), some (zI (0 : Int32)), none]) d_8_suitedTo_1 rfl (by decide) rfl ?_
  refine zr_iconst (v := (0 : Int32)) d_8_suitedTo_2 rfl ?_
  refine zr_istore_n (i := 3) (l' := [some (zA 8 0), some (zI a1), some (zI (0 : Int32)), some (zI (0 : Int32))]) d_8_suitedTo_3 rfl (by decide) rfl ?_
  obtain ⟨e13, hl14, h⟩ := z_bd h
  refine zr_wk (l' := [some (zA 8 0), some (zI a1), some (zI (0 : Int32)), some (zI (0 : Int32))]) ⟨rfl, ⟨rfl, ⟨rfl, ⟨rfl, trivial⟩⟩⟩⟩ ?_
  refine z_loop (Hd := (z_u2 fun y0 y1 => z_RQ P M_8_suitedTo (z_rm 2) (z_mq P (some (zI r)) μ) 0 0 4 [some (zA 8 0), some (zI a1), some (zI y0), some (zI y1)] [] μ)) (Ex := (fun z0 => z_RQ P M_8_suitedTo (z_rm 2) (z_mq P (some (zI r)) μ) 0 0 49 [none, none, some (zI z0), none] [] μ)) (fun ⟨x2, x3⟩ K h hI hE => s8_suitedTo_L1 a1 μ x2 x3 K h (fun y0 y1 e => hI (y0, y1) e) (fun z0 e => hE z0 e) ) _ _ _ hl14 ?_
  refine zr_iload_n (i := 2) d_8_suitedTo_49 rfl rfl ?_
  obtain rfl := Option.some.inj h
  exact ze_i d_8_suitedTo_50 rfl
def f8_mostLords_L1 (a1 : Int32) (a2 : Int32) (μ : zMem) : (Int32 × Int32) → Option ((Int32 × Int32) ⊕ (Int32)) := (z_u2 fun x2 x3 => 
  (if x3 < ((1 : Int32) <<< ((μ.1 6 (μ.2.2 8 0 3) 0) &&& 31)) then ((if (x3 &&& (((1 : Int32) <<< (a1 &&& 31)) - (1 : Int32))) = 0 then (f8_suitedTo x3 μ).bind (fun q9 => z_let (fj9_max_7cf53 x2 ((fj6_bitCount_0f7a4 x3) - (fj6_bitCount_0f7a4 (q9 &&& (a2 ^^^ (-1 : Int32)))))) fun v13 => some v13) else some x2) : Option (Int32)).bind (fun j15 => some (.inl (j15, (x3 + (1 : Int32))))) else some (.inr x2)))
def f8_mostLords (a1 : Int32) (a2 : Int32) (μ : zMem) : Option (Int32) :=
  (z_it (f8_mostLords_L1 a1 a2 μ) z_fu ((0 : Int32), (0 : Int32))).bind (fun e16 => some (((μ.1 6 (μ.2.2 8 0 3) 0) - a1) - e16))
theorem s8_mostLords_L1 {P : zP} {ro : Option zV} {μo : zMem} (a1 : Int32) (a2 : Int32) (μ : zMem) (x2 : Int32) (x3 : Int32) (K : (Int32 × Int32) ⊕ (Int32)) (h : f8_mostLords_L1 a1 a2 μ (x2, x3) = some K) (hI : ∀ (y0 : Int32) (y1 : Int32), K = .inl (y0, y1) → z_RQ P M_8_mostLords (z_rm 3) (z_mq P ro μo) 0 0 5 [some (zA 8 0), some (zI a1), some (zI a2), some (zI y0), some (zI y1)] [] μ) (hE : ∀ (z0 : Int32), K = .inr z0 → z_RQ P M_8_mostLords (z_rm 3) (z_mq P ro μo) 0 0 60 [some (zA 8 0), some (zI a1), none, some (zI z0), none] [] μ)  : z_RQ P M_8_mostLords (z_rm 3) (z_mq P ro μo) 0 0 5 [some (zA 8 0), some (zI a1), some (zI a2), some (zI x2), some (zI x3)] [] μ := by
  unfold f8_mostLords_L1 at h
  replace h := z_h2 h
  refine zr_iload d_8_mostLords_5 rfl ?_
  refine zr_iconst (v := (1 : Int32)) d_8_mostLords_7 rfl ?_
  refine zr_aload_n (i := 0) d_8_mostLords_8 rfl rfl ?_
  refine zr_getd d_8_mostLords_9 fw_8_27 ?_
  refine zr_geti d_8_mostLords_12 fw_8_156 (by decide) ?_
  refine zr_ishl d_8_mostLords_15 ?_
  refine zr_icmp_ge (tgt := 60) d_8_mostLords_16 rfl (fun hc4 => ?_) (fun hc4 => ?_)
  · replace h := z_ip h hc4
    refine zr_iload d_8_mostLords_19 rfl ?_
    refine zr_iconst (v := (1 : Int32)) d_8_mostLords_21 rfl ?_
    refine zr_iload_n (i := 1) d_8_mostLords_22 rfl rfl ?_
    refine zr_ishl d_8_mostLords_23 ?_
    refine zr_iconst (v := (1 : Int32)) d_8_mostLords_24 rfl ?_
    refine zr_isub d_8_mostLords_25 ?_
    refine zr_iand d_8_mostLords_26 ?_
    obtain ⟨j15, hT5, h⟩ := z_bd h
    have hJ6 : z_RQ P M_8_mostLords (z_rm 3) (z_mq P ro μo) 0 0 54 [some (zA 8 0), some (zI a1), some (zI a2), some (zI j15), some (zI x3)] [] μ := by
      refine zr_iinc (v := (x3 + (1 : Int32))) (l' := [some (zA 8 0), some (zI a1), some (zI a2), some (zI j15), some (zI (x3 + (1 : Int32)))]) d_8_mostLords_54 (by decide) rfl rfl rfl ?_
      refine zr_goto (tgt := 5) d_8_mostLords_57 rfl ?_
      obtain rfl := Option.some.inj h
      exact zr_wk2 (hI j15 (x3 + (1 : Int32)) rfl) ⟨rfl, ⟨rfl, ⟨rfl, ⟨rfl, ⟨rfl, trivial⟩⟩⟩⟩⟩
    refine zr_if_ne (tgt := 54) d_8_mostLords_27 rfl (fun hc7 => ?_) (fun hc7 => ?_)
    · replace hT5 := z_ip hT5 hc7
      refine zr_iload_n (i := 3) d_8_mostLords_30 rfl rfl ?_
      refine zr_iload d_8_mostLords_31 rfl ?_
      refine zr_callSi (av := [zI x3]) (st := [zI x2]) d_8_mostLords_33 mw_j6_bitCount_0f7a4 ml_8_241 is_j6_bitCount_0f7a4 rfl rfl (Nat.le_of_ble_eq_true rfl) fit_1_1_3 (sj6_bitCount_0f7a4 rfl) ?_
      refine zr_aload_n (i := 0) d_8_mostLords_36 rfl rfl ?_
      refine zr_iload d_8_mostLords_37 rfl ?_
      obtain ⟨q9, hq10, hT5⟩ := z_bd hT5
      refine zr_callVi (av := [zI x3]) (st := [zI (fj6_bitCount_0f7a4 x3), zI x2]) d_8_mostLords_39 mw_8_suitedTo ml_8_255 im_8_suitedTo se_8_suitedTo rfl rfl (Nat.le_of_ble_eq_true rfl) fit_2_4_3 rfl rfl rfl (s8_suitedTo hq10) ?_
      refine zr_iload_n (i := 2) d_8_mostLords_42 rfl rfl ?_
      refine zr_iconst (v := (-1 : Int32)) d_8_mostLords_43 rfl ?_
      refine zr_ixor d_8_mostLords_44 ?_
      refine zr_iand d_8_mostLords_45 ?_
      refine zr_callSi (av := [zI (q9 &&& (a2 ^^^ (-1 : Int32)))]) (st := [zI (fj6_bitCount_0f7a4 x3), zI x2]) d_8_mostLords_46 mw_j6_bitCount_0f7a4 ml_8_241 is_j6_bitCount_0f7a4 rfl rfl (Nat.le_of_ble_eq_true rfl) fit_1_1_3 (sj6_bitCount_0f7a4 rfl) ?_
      refine zr_isub d_8_mostLords_49 ?_
      refine zr_callSi (av := [zI x2, zI ((fj6_bitCount_0f7a4 x3) - (fj6_bitCount_0f7a4 (q9 &&& (a2 ^^^ (-1 : Int32)))))]) (st := []) d_8_mostLords_50 mw_j9_max_7cf53 ml_8_258 is_j9_max_7cf53 rfl rfl (Nat.le_of_ble_eq_true rfl) fit_1_2_3 (sj9_max_7cf53 rfl) ?_
      obtain ⟨v13, hv14, hT5⟩ := z_lt hT5
      refine zr_nm hv14 ?_
      refine zr_istore_n (i := 3) (l' := [some (zA 8 0), some (zI a1), some (zI a2), some (zI v13), some (zI x3)]) d_8_mostLords_53 rfl (by decide) rfl ?_
      obtain rfl := Option.some.inj hT5
      exact zr_wk2 hJ6 ⟨rfl, ⟨rfl, ⟨rfl, ⟨rfl, ⟨rfl, trivial⟩⟩⟩⟩⟩
    · replace hT5 := z_im hT5 hc7
      obtain rfl := Option.some.inj hT5
      exact zr_wk2 hJ6 ⟨rfl, ⟨rfl, ⟨rfl, ⟨rfl, ⟨rfl, trivial⟩⟩⟩⟩⟩
  · replace h := z_im h hc4
    obtain rfl := Option.some.inj h
    exact zr_wk2 (hE x2 rfl) ⟨rfl, ⟨rfl, ⟨rfl, trivial⟩⟩⟩
theorem s8_mostLords {P : zP} {μ : zMem} {a1 : Int32} {a2 : Int32} {r : Int32} (h : f8_mostLords a1 a2 μ = some r) : z_Sp P y_8_mostLords M_8_mostLords 3 [zA 8 0, zI a1, zI a2] μ (some (zI r)) μ := by
  refine z_Sp.of (plainFor_of_name (by decide)) rfl (l0 := [some (zA 8 0), some (zI a1), some (zI a2), none, none]) rfl (Nat.le_of_ble_eq_true rfl) ?_
  unfold f8_mostLords at h
  refine zr_iconst (v := (0 : Int32)) d_8_mostLords_0 rfl ?_
  refine zr_istore_n (i := 3) (l' := [some (zA 8 0), some (zI a1), some (zI a2), some (zI (0 : Int32)), none]) d_8_mostLords_1 rfl (by decide) rfl ?_
  refine zr_iconst (v := (0 : Int32)) d_8_mostLords_2 rfl ?_
  refine zr_istore (i := 4) (l' := [some (zA 8 0), some (zI a1), some (zI a2), some (zI (0 : Int32)), some (zI (0 : Int32))]) d_8_mostLords_3 (by decide) rfl ?_
  obtain ⟨e16, hl17, h⟩ := z_bd h
  refine zr_wk (l' := [some (zA 8 0), some (zI a1), some (zI a2), some (zI (0 : Int32)), some (zI (0 : Int32))]) ⟨rfl, ⟨rfl, ⟨rfl, ⟨rfl, ⟨rfl, trivial⟩⟩⟩⟩⟩ ?_
  refine z_loop (Hd := (z_u2 fun y0 y1 => z_RQ P M_8_mostLords (z_rm 3) (z_mq P (some (zI r)) μ) 0 0 5 [some (zA 8 0), some (zI a1), some (zI a2), some (zI y0), some (zI y1)] [] μ)) (Ex := (fun z0 => z_RQ P M_8_mostLords (z_rm 3) (z_mq P (some (zI r)) μ) 0 0 60 [some (zA 8 0), some (zI a1), none, some (zI z0), none] [] μ)) (fun ⟨x2, x3⟩ K h hI hE => s8_mostLords_L1 a1 a2 μ x2 x3 K h (fun y0 y1 e => hI (y0, y1) e) (fun z0 e => hE z0 e) ) _ _ _ hl17 ?_
  refine zr_aload_n (i := 0) d_8_mostLords_60 rfl rfl ?_
  refine zr_getd d_8_mostLords_61 fw_8_27 ?_
  refine zr_geti d_8_mostLords_64 fw_8_156 (by decide) ?_
  refine zr_iload_n (i := 1) d_8_mostLords_67 rfl rfl ?_
  refine zr_isub d_8_mostLords_68 ?_
  refine zr_iload_n (i := 3) d_8_mostLords_69 rfl rfl ?_
  refine zr_isub d_8_mostLords_70 ?_
  obtain rfl := Option.some.inj h
  exact ze_i d_8_mostLords_71 rfl
def f8_lordGiven_L6 (a1 : Int32) (a2 : Int32) (μ : zMem) (q1 : Int32) (v4 : Int32) : (Int32) → Option ((Int32) ⊕ ((Unit) ⊕ (Int32))) := (fun x7 => 
  (if x7 < (μ.1 6 (μ.2.2 8 0 3) 1) then (if (f8_has v4 x7) = 0 then some (.inl (x7 + (1 : Int32))) else (f8_mostLords (a1 + (1 : Int32)) (a2 ||| ((1 : Int32) <<< (x7 &&& 31))) μ).bind (fun q11 => (if ((1 : Int32) + q11) = q1 then some (.inr (.inr x7)) else some (.inl (x7 + (1 : Int32)))))) else some (.inr (.inl ()))))
def f8_lordGiven (a1 : Int32) (a2 : Int32) (μ : zMem) : Option (Int32) :=
  (f8_mostLords a1 a2 μ).bind (fun q1 => if z_in a1 5 = true then z_let (((μ.1 25 0 a1.toNatClampNeg) &&& (μ.1 5 0 2)) &&& (a2 ^^^ (-1 : Int32))) fun v4 => (z_it (f8_lordGiven_L6 a1 a2 μ q1 v4) z_fu (0 : Int32)).bind (Sum.elim (fun (_ : Unit) => some (-2 : Int32)) (fun qr15 => some qr15)) else none)
theorem s8_lordGiven_L6 {P : zP} {ro : Option zV} {μo : zMem} (a1 : Int32) (a2 : Int32) (μ : zMem) (q1 : Int32) (v4 : Int32) (x7 : Int32) (K : (Int32) ⊕ ((Unit) ⊕ (Int32))) (h : f8_lordGiven_L6 a1 a2 μ q1 v4 x7 = some K) (hI : ∀ (y0 : Int32), K = .inl y0 → z_RQ P M_8_lordGiven (z_rm 4) (z_mq P ro μo) 0 0 33 [some (zA 8 0), some (zI a1), some (zI a2), some (zI q1), some (zI v4), some (zI y0)] [] μ) (hE : K = .inr (.inl ()) → z_RQ P M_8_lordGiven (z_rm 4) (z_mq P ro μo) 0 0 83 [none, none, none, none, none, none] [] μ) (hR : ∀ (qr : Int32), K = .inr (.inr qr) → ro = some (zI qr) ∧ μo = μ) : z_RQ P M_8_lordGiven (z_rm 4) (z_mq P ro μo) 0 0 33 [some (zA 8 0), some (zI a1), some (zI a2), some (zI q1), some (zI v4), some (zI x7)] [] μ := by
  unfold f8_lordGiven_L6 at h
  refine zr_iload d_8_lordGiven_33 rfl ?_
  refine zr_aload_n (i := 0) d_8_lordGiven_35 rfl rfl ?_
  refine zr_getd d_8_lordGiven_36 fw_8_27 ?_
  refine zr_geti d_8_lordGiven_39 fw_8_224 (by decide) ?_
  refine zr_icmp_ge (tgt := 83) d_8_lordGiven_42 rfl (fun hc8 => ?_) (fun hc8 => ?_)
  · replace h := z_ip h hc8
    refine zr_iload d_8_lordGiven_45 rfl ?_
    refine zr_iload d_8_lordGiven_47 rfl ?_
    refine zr_callSi (av := [zI v4, zI x7]) (st := []) d_8_lordGiven_49 mw_8_has ml_8_159 is_8_has rfl rfl (Nat.le_of_ble_eq_true rfl) fit_1_2_4 (s8_has rfl) ?_
    refine zr_if_eq (tgt := 77) d_8_lordGiven_52 rfl (fun hc10 => ?_) (fun hc10 => ?_)
    · replace h := z_ip h hc10
      refine zr_iinc (v := (x7 + (1 : Int32))) (l' := [some (zA 8 0), some (zI a1), some (zI a2), some (zI q1), some (zI v4), some (zI (x7 + (1 : Int32)))]) d_8_lordGiven_77 (by decide) rfl rfl rfl ?_
      refine zr_goto (tgt := 33) d_8_lordGiven_80 rfl ?_
      obtain rfl := Option.some.inj h
      exact zr_wk2 (hI (x7 + (1 : Int32)) rfl) ⟨rfl, ⟨rfl, ⟨rfl, ⟨rfl, ⟨rfl, ⟨rfl, trivial⟩⟩⟩⟩⟩⟩
    · replace h := z_im h hc10
      refine zr_iconst (v := (1 : Int32)) d_8_lordGiven_55 rfl ?_
      refine zr_aload_n (i := 0) d_8_lordGiven_56 rfl rfl ?_
      refine zr_iload_n (i := 1) d_8_lordGiven_57 rfl rfl ?_
      refine zr_iconst (v := (1 : Int32)) d_8_lordGiven_58 rfl ?_
      refine zr_iadd d_8_lordGiven_59 ?_
      refine zr_iload_n (i := 2) d_8_lordGiven_60 rfl rfl ?_
      refine zr_iconst (v := (1 : Int32)) d_8_lordGiven_61 rfl ?_
      refine zr_iload d_8_lordGiven_62 rfl ?_
      refine zr_ishl d_8_lordGiven_64 ?_
      refine zr_ior d_8_lordGiven_65 ?_
      obtain ⟨q11, hq12, h⟩ := z_bd h
      refine zr_callVi (av := [zI (a1 + (1 : Int32)), zI (a2 ||| ((1 : Int32) <<< (x7 &&& 31)))]) (st := [zI (1 : Int32)]) d_8_lordGiven_66 mw_8_mostLords ml_8_249 im_8_mostLords se_8_mostLords rfl rfl (Nat.le_of_ble_eq_true rfl) fit_3_5_4 rfl rfl rfl (s8_mostLords hq12) ?_
      refine zr_iadd d_8_lordGiven_69 ?_
      refine zr_iload_n (i := 3) d_8_lordGiven_70 rfl rfl ?_
      refine zr_icmp_ne (tgt := 77) d_8_lordGiven_71 rfl (fun hc13 => ?_) (fun hc13 => ?_)
      · replace h := z_ip h hc13
        refine zr_iload d_8_lordGiven_74 rfl ?_
        obtain rfl := Option.some.inj h
        obtain ⟨rfl, rfl⟩ := hR x7 rfl
        exact ze_i d_8_lordGiven_76 rfl
      · replace h := z_im h hc13
        refine zr_iinc (v := (x7 + (1 : Int32))) (l' := [some (zA 8 0), some (zI a1), some (zI a2), some (zI q1), some (zI v4), some (zI (x7 + (1 : Int32)))]) d_8_lordGiven_77 (by decide) rfl rfl rfl ?_
        refine zr_goto (tgt := 33) d_8_lordGiven_80 rfl ?_
        obtain rfl := Option.some.inj h
        exact zr_wk2 (hI (x7 + (1 : Int32)) rfl) ⟨rfl, ⟨rfl, ⟨rfl, ⟨rfl, ⟨rfl, ⟨rfl, trivial⟩⟩⟩⟩⟩⟩
  · replace h := z_im h hc8
    obtain rfl := Option.some.inj h
    exact zr_wk2 (hE  rfl) trivial
theorem s8_lordGiven {P : zP} {μ : zMem} {a1 : Int32} {a2 : Int32} {r : Int32} (h : f8_lordGiven a1 a2 μ = some r) : z_Sp P y_8_lordGiven M_8_lordGiven 4 [zA 8 0, zI a1, zI a2] μ (some (zI r)) μ := by
  refine z_Sp.of (plainFor_of_name (by decide)) rfl (l0 := [some (zA 8 0), some (zI a1), some (zI a2), none, none, none]) rfl (Nat.le_of_ble_eq_true rfl) ?_
  unfold f8_lordGiven at h
  refine zr_aload_n (i := 0) d_8_lordGiven_0 rfl rfl ?_
  refine zr_iload_n (i := 1) d_8_lordGiven_1 rfl rfl ?_
  refine zr_iload_n (i := 2) d_8_lordGiven_2 rfl rfl ?_
  obtain ⟨q1, hq2, h⟩ := z_bd h
  refine zr_callVi (av := [zI a1, zI a2]) (st := []) d_8_lordGiven_3 mw_8_mostLords ml_8_249 im_8_mostLords se_8_mostLords rfl rfl (Nat.le_of_ble_eq_true rfl) fit_3_5_4 rfl rfl rfl (s8_mostLords hq2) ?_
  refine zr_istore_n (i := 3) (l' := [some (zA 8 0), some (zI a1), some (zI a2), some (zI q1), none, none]) d_8_lordGiven_6 rfl (by decide) rfl ?_
  refine zr_aload_n (i := 0) d_8_lordGiven_7 rfl rfl ?_
  refine zr_gets (i' := 0) d_8_lordGiven_8 fw_8_34 rfl ?_
  refine zr_gets (i' := 0) d_8_lordGiven_11 fw_8_120 rfl ?_
  refine zr_iload_n (i := 1) d_8_lordGiven_14 rfl rfl ?_
  obtain ⟨hb3, h⟩ := z_gd h
  refine zr_iald d_8_lordGiven_15 sa_25 rfl hb3 ?_
  refine zr_aload_n (i := 0) d_8_lordGiven_16 rfl rfl ?_
  refine zr_gets (i' := 0) d_8_lordGiven_17 fw_8_34 rfl ?_
  refine zr_geti d_8_lordGiven_20 fw_8_177 (by decide) ?_
  refine zr_iand d_8_lordGiven_23 ?_
  refine zr_iload_n (i := 2) d_8_lordGiven_24 rfl rfl ?_
  refine zr_iconst (v := (-1 : Int32)) d_8_lordGiven_25 rfl ?_
  refine zr_ixor d_8_lordGiven_26 ?_
  refine zr_iand d_8_lordGiven_27 ?_
  obtain ⟨v4, hv5, h⟩ := z_lt h
  refine zr_nm hv5 ?_
  refine zr_istore (i := 4) (l' := [some (zA 8 0), some (zI a1), some (zI a2), some (zI q1), some (zI v4), none]) d_8_lordGiven_28 (by decide) rfl ?_
  refine zr_iconst (v := (0 : Int32)) d_8_lordGiven_30 rfl ?_
  refine zr_istore (i := 5) (l' := [some (zA 8 0), some (zI a1), some (zI a2), some (zI q1), some (zI v4), some (zI (0 : Int32))]) d_8_lordGiven_31 (by decide) rfl ?_
  rcases z_bs h with ⟨⟨⟩, hl14, h⟩ | ⟨qr15, hl14, h⟩
  · refine zr_wk (l' := [some (zA 8 0), some (zI a1), some (zI a2), some (zI q1), some (zI v4), some (zI (0 : Int32))]) ⟨rfl, ⟨rfl, ⟨rfl, ⟨rfl, ⟨rfl, ⟨rfl, trivial⟩⟩⟩⟩⟩⟩ ?_
    refine z_loop (Hd := (fun y0 => z_RQ P M_8_lordGiven (z_rm 4) (z_mq P (some (zI r)) μ) 0 0 33 [some (zA 8 0), some (zI a1), some (zI a2), some (zI q1), some (zI v4), some (zI y0)] [] μ)) (Ex := (Sum.elim (fun (_ : Unit) => z_RQ P M_8_lordGiven (z_rm 4) (z_mq P (some (zI r)) μ) 0 0 83 [none, none, none, none, none, none] [] μ) (fun qr => (some (zI r)) = some (zI qr) ∧ μ = μ))) (fun x7 K h hI hE => s8_lordGiven_L6 a1 a2 μ q1 v4 x7 K h (fun y0 e => hI y0 e) (fun  e => hE (.inl ()) e) (fun qr e => hE (.inr qr) e)) _ _ _ hl14 ?_
    refine zr_bipush (v := (-2 : Int32)) d_8_lordGiven_83 (by decide) ?_
    obtain rfl := Option.some.inj h
    exact ze_i d_8_lordGiven_85 rfl
  · refine zr_wk (l' := [some (zA 8 0), some (zI a1), some (zI a2), some (zI q1), some (zI v4), some (zI (0 : Int32))]) ⟨rfl, ⟨rfl, ⟨rfl, ⟨rfl, ⟨rfl, ⟨rfl, trivial⟩⟩⟩⟩⟩⟩ ?_
    refine z_loop (Hd := (fun y0 => z_RQ P M_8_lordGiven (z_rm 4) (z_mq P (some (zI r)) μ) 0 0 33 [some (zA 8 0), some (zI a1), some (zI a2), some (zI q1), some (zI v4), some (zI y0)] [] μ)) (Ex := (Sum.elim (fun (_ : Unit) => z_RQ P M_8_lordGiven (z_rm 4) (z_mq P (some (zI r)) μ) 0 0 83 [none, none, none, none, none, none] [] μ) (fun qr => (some (zI r)) = some (zI qr) ∧ μ = μ))) (fun x7 K h hI hE => s8_lordGiven_L6 a1 a2 μ q1 v4 x7 K h (fun y0 e => hI y0 e) (fun  e => hE (.inl ()) e) (fun qr e => hE (.inr qr) e)) _ _ _ hl14 ?_
    obtain rfl := Option.some.inj h
    exact ⟨rfl, rfl⟩
def f8_lords_L6 (a1 : Int32) (μ : zMem) : (Int32 × Int32 × Int32) → Option ((Int32 × Int32 × Int32) ⊕ (Int32)) := (z_u3 fun x7 x8 x9 => 
  (if a1 < x9 then some (.inr x8) else (f8_lordGiven x9 x7 μ).bind (fun q11 => ((if q11 < 0 then some x7 else z_let (x7 ||| ((1 : Int32) <<< (q11 &&& 31))) fun v16 => some v16) : Option (Int32)).bind (fun j18 => some (.inl (j18, q11, (x9 + (1 : Int32))))))))
def f8_lords (a1 : Int32) (μ : zMem) : Option (Int32) :=
  (if a1 = (-1 : Int32) then (f8_mostLords (0 : Int32) (0 : Int32) μ).bind (fun q2 => some q2) else (if (f8_isHouse a1 μ) = 0 then some (-1 : Int32) else (z_it (f8_lords_L6 a1 μ) z_fu ((0 : Int32), (-2 : Int32), (0 : Int32))).bind (fun e19 => some e19)))
theorem s8_lords_L6 {P : zP} {ro : Option zV} {μo : zMem} (a1 : Int32) (μ : zMem) (x7 : Int32) (x8 : Int32) (x9 : Int32) (K : (Int32 × Int32 × Int32) ⊕ (Int32)) (h : f8_lords_L6 a1 μ (x7, x8, x9) = some K) (hI : ∀ (y0 : Int32) (y1 : Int32) (y2 : Int32), K = .inl (y0, y1, y2) → z_RQ P M_8_lords (z_rm 5) (z_mq P ro μo) 0 0 30 [some (zA 8 0), some (zI a1), some (zI y0), some (zI y1), some (zI y2)] [] μ) (hE : ∀ (z0 : Int32), K = .inr z0 → z_RQ P M_8_lords (z_rm 5) (z_mq P ro μo) 0 0 60 [none, none, none, some (zI z0), none] [] μ)  : z_RQ P M_8_lords (z_rm 5) (z_mq P ro μo) 0 0 30 [some (zA 8 0), some (zI a1), some (zI x7), some (zI x8), some (zI x9)] [] μ := by
  unfold f8_lords_L6 at h
  replace h := z_h3 h
  refine zr_iload d_8_lords_30 rfl ?_
  refine zr_iload_n (i := 1) d_8_lords_32 rfl rfl ?_
  refine zr_icmp_gt (tgt := 60) d_8_lords_33 rfl (fun hc10 => ?_) (fun hc10 => ?_)
  · replace h := z_ip h hc10
    obtain rfl := Option.some.inj h
    exact zr_wk2 (hE x8 rfl) ⟨rfl, trivial⟩
  · replace h := z_im h hc10
    refine zr_aload_n (i := 0) d_8_lords_36 rfl rfl ?_
    refine zr_iload d_8_lords_37 rfl ?_
    refine zr_iload_n (i := 2) d_8_lords_39 rfl rfl ?_
    obtain ⟨q11, hq12, h⟩ := z_bd h
    refine zr_callVi (av := [zI x9, zI x7]) (st := []) d_8_lords_40 mw_8_lordGiven ml_8_252 im_8_lordGiven se_8_lordGiven rfl rfl (Nat.le_of_ble_eq_true rfl) fit_4_6_5 rfl rfl rfl (s8_lordGiven hq12) ?_
    refine zr_istore_n (i := 3) (l' := [some (zA 8 0), some (zI a1), some (zI x7), some (zI q11), some (zI x9)]) d_8_lords_43 rfl (by decide) rfl ?_
    refine zr_iload_n (i := 3) d_8_lords_44 rfl rfl ?_
    obtain ⟨j18, hT13, h⟩ := z_bd h
    have hJ14 : z_RQ P M_8_lords (z_rm 5) (z_mq P ro μo) 0 0 54 [some (zA 8 0), some (zI a1), some (zI j18), some (zI q11), some (zI x9)] [] μ := by
      refine zr_iinc (v := (x9 + (1 : Int32))) (l' := [some (zA 8 0), some (zI a1), some (zI j18), some (zI q11), some (zI (x9 + (1 : Int32)))]) d_8_lords_54 (by decide) rfl rfl rfl ?_
      refine zr_goto (tgt := 30) d_8_lords_57 rfl ?_
      obtain rfl := Option.some.inj h
      exact zr_wk2 (hI j18 q11 (x9 + (1 : Int32)) rfl) ⟨rfl, ⟨rfl, ⟨rfl, ⟨rfl, ⟨rfl, trivial⟩⟩⟩⟩⟩
    refine zr_if_lt (tgt := 54) d_8_lords_45 rfl (fun hc15 => ?_) (fun hc15 => ?_)
    · replace hT13 := z_ip hT13 hc15
      obtain rfl := Option.some.inj hT13
      exact zr_wk2 hJ14 ⟨rfl, ⟨rfl, ⟨rfl, ⟨rfl, ⟨rfl, trivial⟩⟩⟩⟩⟩
    · replace hT13 := z_im hT13 hc15
      refine zr_iload_n (i := 2) d_8_lords_48 rfl rfl ?_
      refine zr_iconst (v := (1 : Int32)) d_8_lords_49 rfl ?_
      refine zr_iload_n (i := 3) d_8_lords_50 rfl rfl ?_
      refine zr_ishl d_8_lords_51 ?_
      refine zr_ior d_8_lords_52 ?_
      obtain ⟨v16, hv17, hT13⟩ := z_lt hT13
      refine zr_nm hv17 ?_
      refine zr_istore_n (i := 2) (l' := [some (zA 8 0), some (zI a1), some (zI v16), some (zI q11), some (zI x9)]) d_8_lords_53 rfl (by decide) rfl ?_
      obtain rfl := Option.some.inj hT13
      exact zr_wk2 hJ14 ⟨rfl, ⟨rfl, ⟨rfl, ⟨rfl, ⟨rfl, trivial⟩⟩⟩⟩⟩
theorem s8_lords {P : zP} {μ : zMem} {a1 : Int32} {r : Int32} (h : f8_lords a1 μ = some r) : z_Sp P y_8_lords M_8_lords 5 [zA 8 0, zI a1] μ (some (zI r)) μ := by
  refine z_Sp.of (plainFor_of_name (by decide)) rfl (l0 := [some (zA 8 0), some (zI a1), none, none, none]) rfl (Nat.le_of_ble_eq_true rfl) ?_
  unfold f8_lords at h
  refine zr_iload_n (i := 1) d_8_lords_0 rfl rfl ?_
  refine zr_iconst (v := (-1 : Int32)) d_8_lords_1 rfl ?_
  refine zr_icmp_ne (tgt := 12) d_8_lords_2 rfl (fun hc1 => ?_) (fun hc1 => ?_)
  · replace h := z_ip h hc1
    refine zr_aload_n (i := 0) d_8_lords_5 rfl rfl ?_
    refine zr_iconst (v := (0 : Int32)) d_8_lords_6 rfl ?_
    refine zr_iconst (v := (0 : Int32)) d_8_lords_7 rfl ?_
    obtain ⟨q2, hq3, h⟩ := z_bd h
    refine zr_callVi (av := [zI (0 : Int32), zI (0 : Int32)]) (st := []) d_8_lords_8 mw_8_mostLords ml_8_249 im_8_mostLords se_8_mostLords rfl rfl (Nat.le_of_ble_eq_true rfl) fit_3_5_5 rfl rfl rfl (s8_mostLords hq3) ?_
    obtain rfl := Option.some.inj h
    exact ze_i d_8_lords_11 rfl
  · replace h := z_im h hc1
    refine zr_aload_n (i := 0) d_8_lords_12 rfl rfl ?_
    refine zr_iload_n (i := 1) d_8_lords_13 rfl rfl ?_
    refine zr_callVi (av := [zI a1]) (st := []) d_8_lords_14 mw_8_isHouse ml_8_109 im_8_isHouse se_8_isHouse rfl rfl (Nat.le_of_ble_eq_true rfl) fit_1_2_5 rfl rfl rfl (s8_isHouse rfl) ?_
    refine zr_if_ne (tgt := 22) d_8_lords_17 rfl (fun hc5 => ?_) (fun hc5 => ?_)
    · replace h := z_ip h hc5
      refine zr_iconst (v := (-1 : Int32)) d_8_lords_20 rfl ?_
      obtain rfl := Option.some.inj h
      exact ze_i d_8_lords_21 rfl
    · replace h := z_im h hc5
      refine zr_iconst (v := (0 : Int32)) d_8_lords_22 rfl ?_
      refine zr_istore_n (i := 2) (l' := [some (zA 8 0), some (zI a1), some (zI (0 : Int32)), none, none]) d_8_lords_23 rfl (by decide) rfl ?_
      refine zr_bipush (v := (-2 : Int32)) d_8_lords_24 (by decide) ?_
      refine zr_istore_n (i := 3) (l' := [some (zA 8 0), some (zI a1), some (zI (0 : Int32)), some (zI (-2 : Int32)), none]) d_8_lords_26 rfl (by decide) rfl ?_
      refine zr_iconst (v := (0 : Int32)) d_8_lords_27 rfl ?_
      refine zr_istore (i := 4) (l' := [some (zA 8 0), some (zI a1), some (zI (0 : Int32)), some (zI (-2 : Int32)), some (zI (0 : Int32))]) d_8_lords_28 (by decide) rfl ?_
      obtain ⟨e19, hl20, h⟩ := z_bd h
      refine zr_wk (l' := [some (zA 8 0), some (zI a1), some (zI (0 : Int32)), some (zI (-2 : Int32)), some (zI (0 : Int32))]) ⟨rfl, ⟨rfl, ⟨rfl, ⟨rfl, ⟨rfl, trivial⟩⟩⟩⟩⟩ ?_
      refine z_loop (Hd := (z_u3 fun y0 y1 y2 => z_RQ P M_8_lords (z_rm 5) (z_mq P (some (zI r)) μ) 0 0 30 [some (zA 8 0), some (zI a1), some (zI y0), some (zI y1), some (zI y2)] [] μ)) (Ex := (fun z0 => z_RQ P M_8_lords (z_rm 5) (z_mq P (some (zI r)) μ) 0 0 60 [none, none, none, some (zI z0), none] [] μ)) (fun ⟨x7, x8, x9⟩ K h hI hE => s8_lords_L6 a1 μ x7 x8 x9 K h (fun y0 y1 y2 e => hI (y0, y1, y2) e) (fun z0 e => hE z0 e) ) _ _ _ hl20 ?_
      refine zr_iload_n (i := 3) d_8_lords_60 rfl rfl ?_
      obtain rfl := Option.some.inj h
      exact ze_i d_8_lords_61 rfl
