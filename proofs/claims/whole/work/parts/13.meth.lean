/-! 13.meth.lean.txt -/
def y_8_restore : MethodName := ⟨zR8, "restore", "(I)Z"⟩
abbrev M_8_restore : zM := (zR8, prog_1_method_62_code, 2, (Option.some Jvm.ClassFile.FieldType.boolean))
def y_8_allGot : MethodName := ⟨zR8, "allGot", "()I"⟩
abbrev M_8_allGot : zM := (zR8, prog_1_method_64_code, 3, (Option.some Jvm.ClassFile.FieldType.int))
def y_8_allRent : MethodName := ⟨zR8, "allRent", "()I"⟩
abbrev M_8_allRent : zM := (zR8, prog_1_method_65_code, 3, (Option.some Jvm.ClassFile.FieldType.int))
def y_8_allGone : MethodName := ⟨zR8, "allGone", "()I"⟩
abbrev M_8_allGone : zM := (zR8, prog_1_method_66_code, 3, (Option.some Jvm.ClassFile.FieldType.int))
def y_8_allRents : MethodName := ⟨zR8, "allRents", "()I"⟩
abbrev M_8_allRents : zM := (zR8, prog_1_method_67_code, 3, (Option.some Jvm.ClassFile.FieldType.int))
def y_8_whoHasNoRight : MethodName := ⟨zR8, "whoHasNoRight", "()I"⟩
abbrev M_8_whoHasNoRight : zM := (zR8, prog_1_method_68_code, 3, (Option.some Jvm.ClassFile.FieldType.int))
def y_8_count : MethodName := ⟨zR8, "count", "(I)I"⟩
abbrev M_8_count : zM := (zR8, prog_1_method_63_code, 2, (Option.some Jvm.ClassFile.FieldType.int))
def y_9_plain : MethodName := ⟨zR9, "plain", "(I)V"⟩
abbrev M_9_plain : zM := (zR9, prog_11_method_19_code, 3, (Option.none : Option Jvm.ClassFile.FieldType))
def y_9_appends : MethodName := ⟨zR9, "appends", "(JI)J"⟩
abbrev M_9_appends : zM := (zR9, prog_11_method_9_code, 3, (Option.some Jvm.ClassFile.FieldType.long))
def y_9_word : MethodName := ⟨zR9, "word", "(IIIIIII)J"⟩
abbrev M_9_word : zM := (zR9, prog_11_method_10_code, 7, (Option.some Jvm.ClassFile.FieldType.long))
def y_9_begins : MethodName := ⟨zR9, "begins", "()V"⟩
abbrev M_9_begins : zM := (zR9, prog_11_method_43_code, 3, (Option.none : Option Jvm.ClassFile.FieldType))
def y_9_keepsRow : MethodName := ⟨zR9, "keepsRow", "()V"⟩
abbrev M_9_keepsRow : zM := (zR9, prog_11_method_44_code, 2, (Option.none : Option Jvm.ClassFile.FieldType))
def y_9_put : MethodName := ⟨zR9, "put", "(I)V"⟩
abbrev M_9_put : zM := (zR9, prog_11_method_4_code, 3, (Option.none : Option Jvm.ClassFile.FieldType))
def y_9_feed : MethodName := ⟨zR9, "feed", "(IIIII)I"⟩
abbrev M_9_feed : zM := (zR9, prog_11_method_3_code, 6, (Option.some Jvm.ClassFile.FieldType.int))
def y_9_back : MethodName := ⟨zR9, "back", "(I)I"⟩
abbrev M_9_back : zM := (zR9, prog_11_method_5_code, 2, (Option.some Jvm.ClassFile.FieldType.int))
def y_9_byteAt : MethodName := ⟨zR9, "byteAt", "(I)I"⟩
abbrev M_9_byteAt : zM := (zR9, prog_11_method_6_code, 2, (Option.some Jvm.ClassFile.FieldType.int))
def y_9_isDigit : MethodName := ⟨zR9, "isDigit", "(I)Z"⟩
abbrev M_9_isDigit : zM := (zR9, prog_11_method_7_code, 1, (Option.some Jvm.ClassFile.FieldType.boolean))
def y_9_isLetter : MethodName := ⟨zR9, "isLetter", "(I)Z"⟩
abbrev M_9_isLetter : zM := (zR9, prog_11_method_8_code, 1, (Option.some Jvm.ClassFile.FieldType.boolean))
def y_9_token : MethodName := ⟨zR9, "token", "(IIIJ)V"⟩
abbrev M_9_token : zM := (zR9, prog_11_method_11_code, 6, (Option.none : Option Jvm.ClassFile.FieldType))
def y_9_sign : MethodName := ⟨zR9, "sign", "(III)I"⟩
abbrev M_9_sign : zM := (zR9, prog_11_method_13_code, 5, (Option.some Jvm.ClassFile.FieldType.int))
def y_9_cut : MethodName := ⟨zR9, "cut", "()V"⟩
abbrev M_9_cut : zM := (zR9, prog_11_method_12_code, 8, (Option.none : Option Jvm.ClassFile.FieldType))
def y_9_is : MethodName := ⟨zR9, "is", "(I)Z"⟩
abbrev M_9_is : zM := (zR9, prog_11_method_14_code, 2, (Option.some Jvm.ClassFile.FieldType.boolean))
def y_9_fail : MethodName := ⟨zR9, "fail", "(I)V"⟩
abbrev M_9_fail : zM := (zR9, prog_11_method_15_code, 2, (Option.none : Option Jvm.ClassFile.FieldType))
def y_9_wrong : MethodName := ⟨zR9, "wrong", "(II)V"⟩
abbrev M_9_wrong : zM := (zR9, prog_11_method_16_code, 4, (Option.none : Option Jvm.ClassFile.FieldType))
def y_9_goesOn : MethodName := ⟨zR9, "goesOn", "()V"⟩
abbrev M_9_goesOn : zM := (zR9, prog_11_method_17_code, 1, (Option.none : Option Jvm.ClassFile.FieldType))
def y_9_must : MethodName := ⟨zR9, "must", "(I)V"⟩
abbrev M_9_must : zM := (zR9, prog_11_method_18_code, 2, (Option.none : Option Jvm.ClassFile.FieldType))
def y_9_roomFor : MethodName := ⟨zR9, "roomFor", "(II)V"⟩
abbrev M_9_roomFor : zM := (zR9, prog_11_method_22_code, 3, (Option.none : Option Jvm.ClassFile.FieldType))
def y_9_named : MethodName := ⟨zR9, "named", "()I"⟩
abbrev M_9_named : zM := (zR9, prog_11_method_24_code, 3, (Option.some Jvm.ClassFile.FieldType.int))
def y_9_bounded : MethodName := ⟨zR9, "bounded", "(I)I"⟩
abbrev M_9_bounded : zM := (zR9, prog_11_method_27_code, 3, (Option.some Jvm.ClassFile.FieldType.int))
def y_9_endsName : MethodName := ⟨zR9, "endsName", "(II)V"⟩
abbrev M_9_endsName : zM := (zR9, prog_11_method_25_code, 3, (Option.none : Option Jvm.ClassFile.FieldType))
def y_9_known : MethodName := ⟨zR9, "known", "(I)I"⟩
abbrev M_9_known : zM := (zR9, prog_11_method_26_code, 4, (Option.some Jvm.ClassFile.FieldType.int))
def y_9_tellRight : MethodName := ⟨zR9, "tellRight", "()V"⟩
abbrev M_9_tellRight : zM := (zR9, prog_11_method_28_code, 5, (Option.none : Option Jvm.ClassFile.FieldType))
def y_9_tellAway : MethodName := ⟨zR9, "tellAway", "()V"⟩
abbrev M_9_tellAway : zM := (zR9, prog_11_method_29_code, 3, (Option.none : Option Jvm.ClassFile.FieldType))
def y_9_emit : MethodName := ⟨zR9, "emit", "(II)V"⟩
abbrev M_9_emit : zM := (zR9, prog_11_method_32_code, 3, (Option.none : Option Jvm.ClassFile.FieldType))
def y_9_unit : MethodName := ⟨zR9, "unit", "()V"⟩
abbrev M_9_unit : zM := (zR9, prog_11_method_35_code, 1, (Option.none : Option Jvm.ClassFile.FieldType))
def y_9_comesOut : MethodName := ⟨zR9, "comesOut", "(Z)V"⟩
abbrev M_9_comesOut : zM := (zR9, prog_11_method_33_code, 3, (Option.none : Option Jvm.ClassFile.FieldType))
def y_9_expression : MethodName := ⟨zR9, "expression", "()V"⟩
abbrev M_9_expression : zM := (zR9, prog_11_method_34_code, 3, (Option.none : Option Jvm.ClassFile.FieldType))
theorem mw_3_clear : z_MW y_3_clear M_3_clear 0 := ⟨z_m1 (List.mem_of_getElem? (i := 6) rfl) rfl, z_m3 (List.mem_of_getElem? (i := 151) rfl) rfl, by decide, by decide, by decide +kernel⟩
theorem ml_8_102 : Cond.methodLink zR8 102 y_3_clear ∈ lw_gd := z_m3 (List.mem_of_getElem? (i := 148) rfl) rfl
theorem im_3_clear : Cond.instanceMethod y_3_clear ∈ lw_gd := z_m3 (List.mem_of_getElem? (i := 149) rfl) rfl
theorem se_3_clear : Cond.selects y_3_clear.cls y_3_clear y_3_clear ∈ lw_gd := z_m3 (List.mem_of_getElem? (i := 150) rfl) rfl
theorem ml_8_320 : Cond.methodLink zR8 320 y_8_everybody ∈ lw_gd := z_m5 (List.mem_of_getElem? (i := 123) rfl) rfl
theorem fw_8_200 : z_FW zR8 200 5 0 (0, 0, fun i => i) := ⟨_, _, rfl, rfl, rfl, by decide, z_m1 (List.mem_of_getElem? (i := 180) rfl) rfl⟩
theorem mw_5_whoStands : z_MW y_5_whoStands M_5_whoStands 2 := ⟨z_m1 (List.mem_of_getElem? (i := 5) rfl) rfl, z_m4 (List.mem_of_getElem? (i := 222) rfl) rfl, by decide, by decide, by decide +kernel⟩
theorem fit_2_3_6 : z_fit (z_rm 6) 0 0 2 3 := ⟨by decide, by decide, by decide, by decide⟩
theorem ml_8_270 : Cond.methodLink zR8 270 y_5_whoStands ∈ lw_gd := z_m4 (List.mem_of_getElem? (i := 219) rfl) rfl
theorem im_5_whoStands : Cond.instanceMethod y_5_whoStands ∈ lw_gd := z_m4 (List.mem_of_getElem? (i := 220) rfl) rfl
theorem se_5_whoStands : Cond.selects y_5_whoStands.cls y_5_whoStands y_5_whoStands ∈ lw_gd := z_m4 (List.mem_of_getElem? (i := 221) rfl) rfl
theorem mw_5_allLandlords : z_MW y_5_allLandlords M_5_allLandlords 1 := ⟨z_m1 (List.mem_of_getElem? (i := 5) rfl) rfl, z_m4 (List.mem_of_getElem? (i := 235) rfl) rfl, by decide, by decide, by decide +kernel⟩
theorem ml_8_274 : Cond.methodLink zR8 274 y_5_allLandlords ∈ lw_gd := z_m4 (List.mem_of_getElem? (i := 232) rfl) rfl
theorem im_5_allLandlords : Cond.instanceMethod y_5_allLandlords ∈ lw_gd := z_m4 (List.mem_of_getElem? (i := 233) rfl) rfl
theorem se_5_allLandlords : Cond.selects y_5_allLandlords.cls y_5_allLandlords y_5_allLandlords ∈ lw_gd := z_m4 (List.mem_of_getElem? (i := 234) rfl) rfl
theorem mw_8_allGot : z_MW y_8_allGot M_8_allGot 0 := ⟨z_m1 (List.mem_of_getElem? (i := 1) rfl) rfl, z_m5 (List.mem_of_getElem? (i := 106) rfl) rfl, by decide, by decide, by decide +kernel⟩
theorem fit_1_3_6 : z_fit (z_rm 6) 0 0 1 3 := ⟨by decide, by decide, by decide, by decide⟩
theorem ml_8_302 : Cond.methodLink zR8 302 y_8_allGot ∈ lw_gd := z_m5 (List.mem_of_getElem? (i := 103) rfl) rfl
theorem im_8_allGot : Cond.instanceMethod y_8_allGot ∈ lw_gd := z_m5 (List.mem_of_getElem? (i := 105) rfl) rfl
theorem se_8_allGot : Cond.selects y_8_allGot.cls y_8_allGot y_8_allGot ∈ lw_gd := z_s (q := (y_8_allGot, _)) (List.mem_of_getElem? (i := 56) rfl)
theorem fw_8_305 : z_FW zR8 305 3 2 (0, 0, fun i => i) := ⟨_, _, rfl, rfl, rfl, by decide, z_m1 (List.mem_of_getElem? (i := 229) rfl) rfl⟩
theorem fit_1_1_6 : z_fit (z_rm 6) 0 0 1 1 := ⟨by decide, by decide, by decide, by decide⟩
theorem mw_8_allRent : z_MW y_8_allRent M_8_allRent 0 := ⟨z_m1 (List.mem_of_getElem? (i := 1) rfl) rfl, z_m5 (List.mem_of_getElem? (i := 110) rfl) rfl, by decide, by decide, by decide +kernel⟩
theorem ml_8_308 : Cond.methodLink zR8 308 y_8_allRent ∈ lw_gd := z_m5 (List.mem_of_getElem? (i := 107) rfl) rfl
theorem im_8_allRent : Cond.instanceMethod y_8_allRent ∈ lw_gd := z_m5 (List.mem_of_getElem? (i := 109) rfl) rfl
theorem se_8_allRent : Cond.selects y_8_allRent.cls y_8_allRent y_8_allRent ∈ lw_gd := z_s (q := (y_8_allRent, _)) (List.mem_of_getElem? (i := 57) rfl)
theorem mw_8_allGone : z_MW y_8_allGone M_8_allGone 0 := ⟨z_m1 (List.mem_of_getElem? (i := 1) rfl) rfl, z_m5 (List.mem_of_getElem? (i := 114) rfl) rfl, by decide, by decide, by decide +kernel⟩
theorem ml_8_311 : Cond.methodLink zR8 311 y_8_allGone ∈ lw_gd := z_m5 (List.mem_of_getElem? (i := 111) rfl) rfl
theorem im_8_allGone : Cond.instanceMethod y_8_allGone ∈ lw_gd := z_m5 (List.mem_of_getElem? (i := 113) rfl) rfl
theorem se_8_allGone : Cond.selects y_8_allGone.cls y_8_allGone y_8_allGone ∈ lw_gd := z_s (q := (y_8_allGone, _)) (List.mem_of_getElem? (i := 58) rfl)
theorem mw_8_allRents : z_MW y_8_allRents M_8_allRents 0 := ⟨z_m1 (List.mem_of_getElem? (i := 1) rfl) rfl, z_m5 (List.mem_of_getElem? (i := 118) rfl) rfl, by decide, by decide, by decide +kernel⟩
theorem ml_8_314 : Cond.methodLink zR8 314 y_8_allRents ∈ lw_gd := z_m5 (List.mem_of_getElem? (i := 115) rfl) rfl
theorem im_8_allRents : Cond.instanceMethod y_8_allRents ∈ lw_gd := z_m5 (List.mem_of_getElem? (i := 117) rfl) rfl
theorem se_8_allRents : Cond.selects y_8_allRents.cls y_8_allRents y_8_allRents ∈ lw_gd := z_s (q := (y_8_allRents, _)) (List.mem_of_getElem? (i := 59) rfl)
theorem mw_8_whoHasNoRight : z_MW y_8_whoHasNoRight M_8_whoHasNoRight 0 := ⟨z_m1 (List.mem_of_getElem? (i := 1) rfl) rfl, z_m5 (List.mem_of_getElem? (i := 122) rfl) rfl, by decide, by decide, by decide +kernel⟩
theorem ml_8_317 : Cond.methodLink zR8 317 y_8_whoHasNoRight ∈ lw_gd := z_m5 (List.mem_of_getElem? (i := 119) rfl) rfl
theorem im_8_whoHasNoRight : Cond.instanceMethod y_8_whoHasNoRight ∈ lw_gd := z_m5 (List.mem_of_getElem? (i := 121) rfl) rfl
theorem se_8_whoHasNoRight : Cond.selects y_8_whoHasNoRight.cls y_8_whoHasNoRight y_8_whoHasNoRight ∈ lw_gd := z_s (q := (y_8_whoHasNoRight, _)) (List.mem_of_getElem? (i := 60) rfl)
theorem fw_9_46 : z_FW zR9 46 9 23 (2, 123, fun i => i) := ⟨_, _, rfl, rfl, rfl, by decide, z_m5 (List.mem_of_getElem? (i := 171) rfl) rfl⟩
theorem sa_123 : z_SA 123 0 := ⟨rfl, rfl, by decide⟩
theorem fw_9_55 : z_FW zR9 55 9 26 (2, 126, fun i => i) := ⟨_, _, rfl, rfl, rfl, by decide, z_m5 (List.mem_of_getElem? (i := 174) rfl) rfl⟩
theorem sa_126 : z_SA 126 0 := ⟨rfl, rfl, by decide⟩
theorem fw_9_64 : z_FW zR9 64 9 29 (2, 129, fun i => i) := ⟨_, _, rfl, rfl, rfl, by decide, z_m5 (List.mem_of_getElem? (i := 177) rfl) rfl⟩
theorem sa_129 : z_SA 129 0 := ⟨rfl, rfl, by decide⟩
theorem fw_9_67 : z_FW zR9 67 9 30 (2, 130, fun i => i) := ⟨_, _, rfl, rfl, rfl, by decide, z_m5 (List.mem_of_getElem? (i := 178) rfl) rfl⟩
theorem sa_130 : z_SA 130 0 := ⟨rfl, rfl, by decide⟩
theorem fw_9_70 : z_FW zR9 70 9 31 (2, 131, fun i => i) := ⟨_, _, rfl, rfl, rfl, by decide, z_m5 (List.mem_of_getElem? (i := 179) rfl) rfl⟩
theorem sa_131 : z_SA 131 0 := ⟨rfl, rfl, by decide⟩
theorem fw_9_52 : z_FW zR9 52 9 25 (2, 125, fun i => i) := ⟨_, _, rfl, rfl, rfl, by decide, z_m5 (List.mem_of_getElem? (i := 173) rfl) rfl⟩
theorem sa_125 : z_SA 125 0 := ⟨rfl, rfl, by decide⟩
theorem fw_9_61 : z_FW zR9 61 9 28 (2, 128, fun i => i) := ⟨_, _, rfl, rfl, rfl, by decide, z_m5 (List.mem_of_getElem? (i := 176) rfl) rfl⟩
theorem sa_128 : z_SA 128 0 := ⟨rfl, rfl, by decide⟩
theorem fw_9_73 : z_FW zR9 73 9 32 (2, 132, fun i => i) := ⟨_, _, rfl, rfl, rfl, by decide, z_m5 (List.mem_of_getElem? (i := 180) rfl) rfl⟩
theorem sa_132 : z_SA 132 0 := ⟨rfl, rfl, by decide⟩
theorem fw_9_76 : z_FW zR9 76 9 33 (2, 133, fun i => i) := ⟨_, _, rfl, rfl, rfl, by decide, z_m5 (List.mem_of_getElem? (i := 181) rfl) rfl⟩
theorem sa_133 : z_SA 133 0 := ⟨rfl, rfl, by decide⟩
theorem kc_9_175 : Cond.constantLong zR9 175 (27 : Int64) ∈ lw_gd := z_m5 (List.mem_of_getElem? (i := 140) rfl) rfl
theorem mw_9_appends : z_MW y_9_appends M_9_appends 2 := ⟨z_m1 (List.mem_of_getElem? (i := 10) rfl) rfl, z_m5 (List.mem_of_getElem? (i := 139) rfl) rfl, by decide, by decide, by decide +kernel⟩
theorem ml_9_177 : Cond.methodLink zR9 177 y_9_appends ∈ lw_gd := z_m5 (List.mem_of_getElem? (i := 137) rfl) rfl
theorem is_9_appends : Cond.static y_9_appends ∈ lw_gd := z_m5 (List.mem_of_getElem? (i := 138) rfl) rfl
theorem fw_9_113 : z_FW zR9 113 9 49 (2, 149, fun i => i) := ⟨_, _, rfl, rfl, rfl, by decide, z_m5 (List.mem_of_getElem? (i := 197) rfl) rfl⟩
theorem sa_149 : z_SA 149 0 := ⟨rfl, rfl, by decide⟩
theorem fw_9_233 : z_FW zR9 233 9 18 (0, 0, fun i => i) := ⟨_, _, rfl, rfl, rfl, by decide, z_m5 (List.mem_of_getElem? (i := 166) rfl) rfl⟩
theorem fw_9_319 : z_FW zR9 319 9 50 (0, 0, fun i => i) := ⟨_, _, rfl, rfl, rfl, by decide, z_m5 (List.mem_of_getElem? (i := 198) rfl) rfl⟩
theorem pw_9_50 : z_PW 9 50 (.int) := fun _ _ h1 h2 => by
  cases h1
  cases h2
  exact ⟨rfl, by decide +kernel⟩
theorem fw_9_322 : z_FW zR9 322 9 51 (1, 0, fun i => i) := ⟨_, _, rfl, rfl, rfl, by decide, z_m5 (List.mem_of_getElem? (i := 199) rfl) rfl⟩
theorem pw_9_51 : z_PW 9 51 (.boolean) := fun _ _ h1 h2 => by
  cases h1
  cases h2
  exact ⟨rfl, by decide +kernel⟩
theorem fw_9_110 : z_FW zR9 110 9 48 (2, 148, fun i => i) := ⟨_, _, rfl, rfl, rfl, by decide, z_m5 (List.mem_of_getElem? (i := 196) rfl) rfl⟩
theorem sa_148 : z_SA 148 0 := ⟨rfl, rfl, by decide⟩
theorem fw_9_13 : z_FW zR9 13 9 1 (2, 101, fun i => i) := ⟨_, _, rfl, rfl, rfl, by decide, z_m5 (List.mem_of_getElem? (i := 149) rfl) rfl⟩
theorem fw_9_166 : z_FW zR9 166 9 2 (0, 0, fun i => i) := ⟨_, _, rfl, rfl, rfl, by decide, z_m5 (List.mem_of_getElem? (i := 150) rfl) rfl⟩
theorem sa_101 : z_SA 101 1 := ⟨rfl, rfl, by decide⟩
theorem pw_9_2 : z_PW 9 2 (.int) := fun _ _ h1 h2 => by
  cases h1
  cases h2
  exact ⟨rfl, by decide +kernel⟩
theorem mw_9_put : z_MW y_9_put M_9_put 1 := ⟨z_m1 (List.mem_of_getElem? (i := 10) rfl) rfl, z_m6 (List.mem_of_getElem? (i := 115) rfl) rfl, by decide, by decide, by decide +kernel⟩
theorem ml_9_169 : Cond.methodLink zR9 169 y_9_put ∈ lw_gd := z_m6 (List.mem_of_getElem? (i := 112) rfl) rfl
theorem im_9_put : Cond.instanceMethod y_9_put ∈ lw_gd := z_m6 (List.mem_of_getElem? (i := 114) rfl) rfl
theorem se_9_put : Cond.selects y_9_put.cls y_9_put y_9_put ∈ lw_gd := z_s (q := (y_9_put, _)) (List.mem_of_getElem? (i := 64) rfl)
theorem fw_9_172 : z_FW zR9 172 9 4 (0, 0, fun i => i) := ⟨_, _, rfl, rfl, rfl, by decide, z_m5 (List.mem_of_getElem? (i := 152) rfl) rfl⟩
theorem fw_9_17 : z_FW zR9 17 9 3 (2, 103, fun i => i) := ⟨_, _, rfl, rfl, rfl, by decide, z_m5 (List.mem_of_getElem? (i := 151) rfl) rfl⟩
theorem sa_103 : z_SA 103 1 := ⟨rfl, rfl, by decide⟩
theorem fw_9_20 : z_FW zR9 20 9 5 (2, 105, fun i => i) := ⟨_, _, rfl, rfl, rfl, by decide, z_m5 (List.mem_of_getElem? (i := 153) rfl) rfl⟩
theorem fw_9_181 : z_FW zR9 181 9 10 (0, 0, fun i => i) := ⟨_, _, rfl, rfl, rfl, by decide, z_m5 (List.mem_of_getElem? (i := 158) rfl) rfl⟩
theorem sa_105 : z_SA 105 0 := ⟨rfl, rfl, by decide⟩
theorem fw_9_24 : z_FW zR9 24 9 6 (2, 106, fun i => i) := ⟨_, _, rfl, rfl, rfl, by decide, z_m5 (List.mem_of_getElem? (i := 154) rfl) rfl⟩
theorem sa_106 : z_SA 106 0 := ⟨rfl, rfl, by decide⟩
theorem fw_9_27 : z_FW zR9 27 9 7 (2, 107, fun i => i) := ⟨_, _, rfl, rfl, rfl, by decide, z_m5 (List.mem_of_getElem? (i := 155) rfl) rfl⟩
theorem sa_107 : z_SA 107 0 := ⟨rfl, rfl, by decide⟩
theorem fw_9_30 : z_FW zR9 30 9 8 (2, 108, fun i => i) := ⟨_, _, rfl, rfl, rfl, by decide, z_m5 (List.mem_of_getElem? (i := 156) rfl) rfl⟩
theorem sa_108 : z_SA 108 3 := ⟨rfl, rfl, by decide⟩
theorem pw_9_10 : z_PW 9 10 (.int) := fun _ _ h1 h2 => by
  cases h1
  cases h2
  exact ⟨rfl, by decide +kernel⟩
theorem mw_9_token : z_MW y_9_token M_9_token 4 := ⟨z_m1 (List.mem_of_getElem? (i := 10) rfl) rfl, z_m6 (List.mem_of_getElem? (i := 135) rfl) rfl, by decide, by decide, by decide +kernel⟩
theorem fit_1_6_2 : z_fit (z_rm 2) 0 0 1 6 := ⟨by decide, by decide, by decide, by decide⟩
theorem ml_9_188 : Cond.methodLink zR9 188 y_9_token ∈ lw_gd := z_m6 (List.mem_of_getElem? (i := 132) rfl) rfl
theorem im_9_token : Cond.instanceMethod y_9_token ∈ lw_gd := z_m6 (List.mem_of_getElem? (i := 134) rfl) rfl
theorem se_9_token : Cond.selects y_9_token.cls y_9_token y_9_token ∈ lw_gd := z_s (q := (y_9_token, _)) (List.mem_of_getElem? (i := 67) rfl)
theorem mw_9_byteAt : z_MW y_9_byteAt M_9_byteAt 1 := ⟨z_m1 (List.mem_of_getElem? (i := 10) rfl) rfl, z_m6 (List.mem_of_getElem? (i := 131) rfl) rfl, by decide, by decide, by decide +kernel⟩
theorem ml_9_184 : Cond.methodLink zR9 184 y_9_byteAt ∈ lw_gd := z_m6 (List.mem_of_getElem? (i := 128) rfl) rfl
theorem im_9_byteAt : Cond.instanceMethod y_9_byteAt ∈ lw_gd := z_m6 (List.mem_of_getElem? (i := 130) rfl) rfl
theorem se_9_byteAt : Cond.selects y_9_byteAt.cls y_9_byteAt y_9_byteAt ∈ lw_gd := z_s (q := (y_9_byteAt, _)) (List.mem_of_getElem? (i := 66) rfl)
theorem mw_9_isLetter : z_MW y_9_isLetter M_9_isLetter 1 := ⟨z_m1 (List.mem_of_getElem? (i := 10) rfl) rfl, z_m6 (List.mem_of_getElem? (i := 138) rfl) rfl, by decide, by decide, by decide +kernel⟩
theorem ml_9_192 : Cond.methodLink zR9 192 y_9_isLetter ∈ lw_gd := z_m6 (List.mem_of_getElem? (i := 136) rfl) rfl
theorem is_9_isLetter : Cond.static y_9_isLetter ∈ lw_gd := z_m6 (List.mem_of_getElem? (i := 137) rfl) rfl
theorem mw_9_isDigit : z_MW y_9_isDigit M_9_isDigit 1 := ⟨z_m1 (List.mem_of_getElem? (i := 10) rfl) rfl, z_m6 (List.mem_of_getElem? (i := 141) rfl) rfl, by decide, by decide, by decide +kernel⟩
theorem ml_9_196 : Cond.methodLink zR9 196 y_9_isDigit ∈ lw_gd := z_m6 (List.mem_of_getElem? (i := 139) rfl) rfl
theorem is_9_isDigit : Cond.static y_9_isDigit ∈ lw_gd := z_m6 (List.mem_of_getElem? (i := 140) rfl) rfl
theorem mw_9_sign : z_MW y_9_sign M_9_sign 3 := ⟨z_m1 (List.mem_of_getElem? (i := 10) rfl) rfl, z_m6 (List.mem_of_getElem? (i := 145) rfl) rfl, by decide, by decide, by decide +kernel⟩
theorem ml_9_199 : Cond.methodLink zR9 199 y_9_sign ∈ lw_gd := z_m6 (List.mem_of_getElem? (i := 142) rfl) rfl
theorem im_9_sign : Cond.instanceMethod y_9_sign ∈ lw_gd := z_m6 (List.mem_of_getElem? (i := 144) rfl) rfl
theorem se_9_sign : Cond.selects y_9_sign.cls y_9_sign y_9_sign ∈ lw_gd := z_s (q := (y_9_sign, _)) (List.mem_of_getElem? (i := 68) rfl)
theorem fit_1_6_3 : z_fit (z_rm 3) 0 0 1 6 := ⟨by decide, by decide, by decide, by decide⟩
theorem fw_9_34 : z_FW zR9 34 9 9 (2, 109, fun i => i) := ⟨_, _, rfl, rfl, rfl, by decide, z_m5 (List.mem_of_getElem? (i := 157) rfl) rfl⟩
theorem sa_109 : z_SA 109 3 := ⟨rfl, rfl, by decide⟩
theorem fw_9_203 : z_FW zR9 203 9 13 (0, 0, fun i => i) := ⟨_, _, rfl, rfl, rfl, by decide, z_m5 (List.mem_of_getElem? (i := 161) rfl) rfl⟩
theorem fw_9_206 : z_FW zR9 206 9 11 (0, 0, fun i => i) := ⟨_, _, rfl, rfl, rfl, by decide, z_m5 (List.mem_of_getElem? (i := 159) rfl) rfl⟩
theorem pw_9_13 : z_PW 9 13 (.int) := fun _ _ h1 h2 => by
  cases h1
  cases h2
  exact ⟨rfl, by decide +kernel⟩
theorem fw_9_209 : z_FW zR9 209 9 14 (0, 0, fun i => i) := ⟨_, _, rfl, rfl, rfl, by decide, z_m5 (List.mem_of_getElem? (i := 162) rfl) rfl⟩
theorem pw_9_14 : z_PW 9 14 (.int) := fun _ _ h1 h2 => by
  cases h1
  cases h2
  exact ⟨rfl, by decide +kernel⟩
theorem fw_9_212 : z_FW zR9 212 9 15 (0, 0, fun i => i) := ⟨_, _, rfl, rfl, rfl, by decide, z_m5 (List.mem_of_getElem? (i := 163) rfl) rfl⟩
theorem pw_9_15 : z_PW 9 15 (.int) := fun _ _ h1 h2 => by
  cases h1
  cases h2
  exact ⟨rfl, by decide +kernel⟩
theorem fw_9_215 : z_FW zR9 215 9 16 (0, 0, fun i => i) := ⟨_, _, rfl, rfl, rfl, by decide, z_m5 (List.mem_of_getElem? (i := 164) rfl) rfl⟩
theorem pw_9_16 : z_PW 9 16 (.int) := fun _ _ h1 h2 => by
  cases h1
  cases h2
  exact ⟨rfl, by decide +kernel⟩
theorem mw_9_fail : z_MW y_9_fail M_9_fail 1 := ⟨z_m1 (List.mem_of_getElem? (i := 10) rfl) rfl, z_m6 (List.mem_of_getElem? (i := 161) rfl) rfl, by decide, by decide, by decide +kernel⟩
theorem ml_9_218 : Cond.methodLink zR9 218 y_9_fail ∈ lw_gd := z_m6 (List.mem_of_getElem? (i := 158) rfl) rfl
theorem im_9_fail : Cond.instanceMethod y_9_fail ∈ lw_gd := z_m6 (List.mem_of_getElem? (i := 160) rfl) rfl
theorem se_9_fail : Cond.selects y_9_fail.cls y_9_fail y_9_fail ∈ lw_gd := z_s (q := (y_9_fail, _)) (List.mem_of_getElem? (i := 72) rfl)
theorem pw_9_11 : z_PW 9 11 (.int) := fun _ _ h1 h2 => by
  cases h1
  cases h2
  exact ⟨rfl, by decide +kernel⟩
theorem mw_9_is : z_MW y_9_is M_9_is 1 := ⟨z_m1 (List.mem_of_getElem? (i := 10) rfl) rfl, z_m6 (List.mem_of_getElem? (i := 149) rfl) rfl, by decide, by decide, by decide +kernel⟩
theorem ml_9_221 : Cond.methodLink zR9 221 y_9_is ∈ lw_gd := z_m6 (List.mem_of_getElem? (i := 146) rfl) rfl
theorem im_9_is : Cond.instanceMethod y_9_is ∈ lw_gd := z_m6 (List.mem_of_getElem? (i := 148) rfl) rfl
theorem se_9_is : Cond.selects y_9_is.cls y_9_is y_9_is ∈ lw_gd := z_s (q := (y_9_is, _)) (List.mem_of_getElem? (i := 69) rfl)
theorem mw_9_goesOn : z_MW y_9_goesOn M_9_goesOn 0 := ⟨z_m1 (List.mem_of_getElem? (i := 10) rfl) rfl, z_m6 (List.mem_of_getElem? (i := 165) rfl) rfl, by decide, by decide, by decide +kernel⟩
theorem fit_2_1_3 : z_fit (z_rm 3) 0 0 2 1 := ⟨by decide, by decide, by decide, by decide⟩
theorem ml_9_224 : Cond.methodLink zR9 224 y_9_goesOn ∈ lw_gd := z_m6 (List.mem_of_getElem? (i := 162) rfl) rfl
theorem im_9_goesOn : Cond.instanceMethod y_9_goesOn ∈ lw_gd := z_m6 (List.mem_of_getElem? (i := 164) rfl) rfl
theorem se_9_goesOn : Cond.selects y_9_goesOn.cls y_9_goesOn y_9_goesOn ∈ lw_gd := z_s (q := (y_9_goesOn, _)) (List.mem_of_getElem? (i := 73) rfl)
theorem mw_9_must : z_MW y_9_must M_9_must 1 := ⟨z_m1 (List.mem_of_getElem? (i := 10) rfl) rfl, z_m6 (List.mem_of_getElem? (i := 173) rfl) rfl, by decide, by decide, by decide +kernel⟩
theorem ml_9_277 : Cond.methodLink zR9 277 y_9_must ∈ lw_gd := z_m6 (List.mem_of_getElem? (i := 170) rfl) rfl
theorem im_9_must : Cond.instanceMethod y_9_must ∈ lw_gd := z_m6 (List.mem_of_getElem? (i := 172) rfl) rfl
theorem se_9_must : Cond.selects y_9_must.cls y_9_must y_9_must ∈ lw_gd := z_s (q := (y_9_must, _)) (List.mem_of_getElem? (i := 75) rfl)
theorem fw_9_239 : z_FW zR9 239 9 20 (0, 0, fun i => i) := ⟨_, _, rfl, rfl, rfl, by decide, z_m5 (List.mem_of_getElem? (i := 168) rfl) rfl⟩
theorem fw_9_40 : z_FW zR9 40 9 21 (2, 121, fun i => i) := ⟨_, _, rfl, rfl, rfl, by decide, z_m5 (List.mem_of_getElem? (i := 169) rfl) rfl⟩
theorem sa_121 : z_SA 121 3 := ⟨rfl, rfl, by decide⟩
theorem mw_9_wrong : z_MW y_9_wrong M_9_wrong 2 := ⟨z_m1 (List.mem_of_getElem? (i := 10) rfl) rfl, z_m6 (List.mem_of_getElem? (i := 177) rfl) rfl, by decide, by decide, by decide +kernel⟩
theorem fit_1_4_4 : z_fit (z_rm 4) 0 0 1 4 := ⟨by decide, by decide, by decide, by decide⟩
theorem ml_9_283 : Cond.methodLink zR9 283 y_9_wrong ∈ lw_gd := z_m6 (List.mem_of_getElem? (i := 174) rfl) rfl
theorem im_9_wrong : Cond.instanceMethod y_9_wrong ∈ lw_gd := z_m6 (List.mem_of_getElem? (i := 176) rfl) rfl
theorem se_9_wrong : Cond.selects y_9_wrong.cls y_9_wrong y_9_wrong ∈ lw_gd := z_s (q := (y_9_wrong, _)) (List.mem_of_getElem? (i := 76) rfl)
theorem fit_1_4_3 : z_fit (z_rm 3) 0 0 1 4 := ⟨by decide, by decide, by decide, by decide⟩
theorem fw_9_43 : z_FW zR9 43 9 22 (2, 122, fun i => i) := ⟨_, _, rfl, rfl, rfl, by decide, z_m5 (List.mem_of_getElem? (i := 170) rfl) rfl⟩
theorem sa_122 : z_SA 122 0 := ⟨rfl, rfl, by decide⟩
theorem pw_9_20 : z_PW 9 20 (.int) := fun _ _ h1 h2 => by
  cases h1
  cases h2
  exact ⟨rfl, by decide +kernel⟩
theorem mw_9_known : z_MW y_9_known M_9_known 1 := ⟨z_m1 (List.mem_of_getElem? (i := 10) rfl) rfl, z_m6 (List.mem_of_getElem? (i := 193) rfl) rfl, by decide, by decide, by decide +kernel⟩
theorem ml_9_286 : Cond.methodLink zR9 286 y_9_known ∈ lw_gd := z_m6 (List.mem_of_getElem? (i := 190) rfl) rfl
theorem im_9_known : Cond.instanceMethod y_9_known ∈ lw_gd := z_m6 (List.mem_of_getElem? (i := 192) rfl) rfl
theorem se_9_known : Cond.selects y_9_known.cls y_9_known y_9_known ∈ lw_gd := z_s (q := (y_9_known, _)) (List.mem_of_getElem? (i := 80) rfl)
theorem fw_9_236 : z_FW zR9 236 9 19 (0, 0, fun i => i) := ⟨_, _, rfl, rfl, rfl, by decide, z_m5 (List.mem_of_getElem? (i := 167) rfl) rfl⟩
theorem fit_1_4_5 : z_fit (z_rm 5) 0 0 1 4 := ⟨by decide, by decide, by decide, by decide⟩
theorem mw_9_bounded : z_MW y_9_bounded M_9_bounded 1 := ⟨z_m1 (List.mem_of_getElem? (i := 10) rfl) rfl, z_m6 (List.mem_of_getElem? (i := 181) rfl) rfl, by decide, by decide, by decide +kernel⟩
theorem fit_3_3_5 : z_fit (z_rm 5) 0 0 3 3 := ⟨by decide, by decide, by decide, by decide⟩
theorem ml_9_265 : Cond.methodLink zR9 265 y_9_bounded ∈ lw_gd := z_m6 (List.mem_of_getElem? (i := 178) rfl) rfl
theorem im_9_bounded : Cond.instanceMethod y_9_bounded ∈ lw_gd := z_m6 (List.mem_of_getElem? (i := 180) rfl) rfl
theorem se_9_bounded : Cond.selects y_9_bounded.cls y_9_bounded y_9_bounded ∈ lw_gd := z_s (q := (y_9_bounded, _)) (List.mem_of_getElem? (i := 77) rfl)
theorem fw_9_95 : z_FW zR9 95 9 41 (2, 141, fun i => i) := ⟨_, _, rfl, rfl, rfl, by decide, z_m5 (List.mem_of_getElem? (i := 189) rfl) rfl⟩
theorem fw_9_245 : z_FW zR9 245 9 40 (0, 0, fun i => i) := ⟨_, _, rfl, rfl, rfl, by decide, z_m5 (List.mem_of_getElem? (i := 188) rfl) rfl⟩
theorem sa_141 : z_SA 141 0 := ⟨rfl, rfl, by decide⟩
theorem fw_9_98 : z_FW zR9 98 9 42 (2, 142, fun i => i) := ⟨_, _, rfl, rfl, rfl, by decide, z_m5 (List.mem_of_getElem? (i := 190) rfl) rfl⟩
theorem sa_142 : z_SA 142 0 := ⟨rfl, rfl, by decide⟩
theorem pw_9_40 : z_PW 9 40 (.int) := fun _ _ h1 h2 => by
  cases h1
  cases h2
  exact ⟨rfl, by decide +kernel⟩
theorem mw_9_emit : z_MW y_9_emit M_9_emit 2 := ⟨z_m1 (List.mem_of_getElem? (i := 10) rfl) rfl, z_m6 (List.mem_of_getElem? (i := 213) rfl) rfl, by decide, by decide, by decide +kernel⟩
theorem ml_9_298 : Cond.methodLink zR9 298 y_9_emit ∈ lw_gd := z_m6 (List.mem_of_getElem? (i := 210) rfl) rfl
theorem im_9_emit : Cond.instanceMethod y_9_emit ∈ lw_gd := z_m6 (List.mem_of_getElem? (i := 212) rfl) rfl
theorem se_9_emit : Cond.selects y_9_emit.cls y_9_emit y_9_emit ∈ lw_gd := z_s (q := (y_9_emit, _)) (List.mem_of_getElem? (i := 85) rfl)
theorem fw_9_295 : z_FW zR9 295 9 44 (0, 0, fun i => i) := ⟨_, _, rfl, rfl, rfl, by decide, z_m5 (List.mem_of_getElem? (i := 192) rfl) rfl⟩
theorem fw_9_101 : z_FW zR9 101 9 43 (2, 143, fun i => i) := ⟨_, _, rfl, rfl, rfl, by decide, z_m5 (List.mem_of_getElem? (i := 191) rfl) rfl⟩
theorem sa_143 : z_SA 143 0 := ⟨rfl, rfl, by decide⟩
theorem pw_9_44 : z_PW 9 44 (.int) := fun _ _ h1 h2 => by
  cases h1
  cases h2
  exact ⟨rfl, by decide +kernel⟩
theorem fw_9_230 : z_FW zR9 230 9 12 (0, 0, fun i => i) := ⟨_, _, rfl, rfl, rfl, by decide, z_m5 (List.mem_of_getElem? (i := 160) rfl) rfl⟩
theorem pw_9_12 : z_PW 9 12 (.int) := fun _ _ h1 h2 => by
  cases h1
  cases h2
  exact ⟨rfl, by decide +kernel⟩
theorem mw_9_unit : z_MW y_9_unit M_9_unit 0 := ⟨z_m1 (List.mem_of_getElem? (i := 10) rfl) rfl, z_m6 (List.mem_of_getElem? (i := 209) rfl) rfl, by decide, by decide, by decide +kernel⟩
theorem ml_9_301 : Cond.methodLink zR9 301 y_9_unit ∈ lw_gd := z_m6 (List.mem_of_getElem? (i := 206) rfl) rfl
theorem im_9_unit : Cond.instanceMethod y_9_unit ∈ lw_gd := z_m6 (List.mem_of_getElem? (i := 208) rfl) rfl
theorem se_9_unit : Cond.selects y_9_unit.cls y_9_unit y_9_unit ∈ lw_gd := z_s (q := (y_9_unit, _)) (List.mem_of_getElem? (i := 84) rfl)
theorem mw_9_comesOut : z_MW y_9_comesOut M_9_comesOut 1 := ⟨z_m1 (List.mem_of_getElem? (i := 10) rfl) rfl, z_m6 (List.mem_of_getElem? (i := 217) rfl) rfl, by decide, by decide, by decide +kernel⟩
theorem ml_9_304 : Cond.methodLink zR9 304 y_9_comesOut ∈ lw_gd := z_m6 (List.mem_of_getElem? (i := 214) rfl) rfl
theorem im_9_comesOut : Cond.instanceMethod y_9_comesOut ∈ lw_gd := z_m6 (List.mem_of_getElem? (i := 216) rfl) rfl
theorem se_9_comesOut : Cond.selects y_9_comesOut.cls y_9_comesOut y_9_comesOut ∈ lw_gd := z_s (q := (y_9_comesOut, _)) (List.mem_of_getElem? (i := 86) rfl)
theorem d_8_restore_0 : zD prog_1_method_62_code 0 (.iload_n 1) 1 1 := ⟨by decide +kernel, rfl⟩
theorem d_8_restore_1 : zD prog_1_method_62_code 1 (.ifCond .lt 19) 3 4 := ⟨by decide +kernel, rfl⟩
theorem d_8_restore_4 : zD prog_1_method_62_code 4 (.iload_n 1) 1 5 := ⟨by decide +kernel, rfl⟩
theorem d_8_restore_5 : zD prog_1_method_62_code 5 (.iconst 3) 1 6 := ⟨by decide +kernel, rfl⟩
theorem d_8_restore_6 : zD prog_1_method_62_code 6 (.if_icmp .ge 14) 3 9 := ⟨by decide +kernel, rfl⟩
theorem d_8_restore_9 : zD prog_1_method_62_code 9 (.aload_n 0) 1 10 := ⟨by decide +kernel, rfl⟩
theorem d_8_restore_10 : zD prog_1_method_62_code 10 (.getfield 62) 3 13 := ⟨by decide +kernel, rfl⟩
theorem d_8_restore_13 : zD prog_1_method_62_code 13 (.iload_n 1) 1 14 := ⟨by decide +kernel, rfl⟩
theorem d_8_restore_14 : zD prog_1_method_62_code 14 (.invokestatic 159) 3 17 := ⟨by decide +kernel, rfl⟩
theorem d_8_restore_17 : zD prog_1_method_62_code 17 (.ifCond .ne 5) 3 20 := ⟨by decide +kernel, rfl⟩
theorem d_8_restore_20 : zD prog_1_method_62_code 20 (.iconst 0) 1 21 := ⟨by decide +kernel, rfl⟩
theorem d_8_restore_21 : zD prog_1_method_62_code 21 (.ireturn) 1 22 := ⟨by decide +kernel, rfl⟩
theorem d_8_restore_22 : zD prog_1_method_62_code 22 (.aload_n 0) 1 23 := ⟨by decide +kernel, rfl⟩
theorem d_8_restore_23 : zD prog_1_method_62_code 23 (.getfield 34) 3 26 := ⟨by decide +kernel, rfl⟩
theorem d_8_restore_26 : zD prog_1_method_62_code 26 (.aload_n 0) 1 27 := ⟨by decide +kernel, rfl⟩
theorem d_8_restore_27 : zD prog_1_method_62_code 27 (.getfield 58) 3 30 := ⟨by decide +kernel, rfl⟩
theorem d_8_restore_30 : zD prog_1_method_62_code 30 (.iload_n 1) 1 31 := ⟨by decide +kernel, rfl⟩
theorem d_8_restore_31 : zD prog_1_method_62_code 31 (.aaload) 1 32 := ⟨by decide +kernel, rfl⟩
theorem d_8_restore_32 : zD prog_1_method_62_code 32 (.invokevirtual 210) 3 35 := ⟨by decide +kernel, rfl⟩
theorem d_8_restore_35 : zD prog_1_method_62_code 35 (.aload_n 0) 1 36 := ⟨by decide +kernel, rfl⟩
theorem d_8_restore_36 : zD prog_1_method_62_code 36 (.getfield 54) 3 39 := ⟨by decide +kernel, rfl⟩
theorem d_8_restore_39 : zD prog_1_method_62_code 39 (.invokevirtual 102) 3 42 := ⟨by decide +kernel, rfl⟩
theorem d_8_restore_42 : zD prog_1_method_62_code 42 (.iconst 1) 1 43 := ⟨by decide +kernel, rfl⟩
theorem d_8_restore_43 : zD prog_1_method_62_code 43 (.ireturn) 1 44 := ⟨by decide +kernel, rfl⟩
theorem d_8_allGot_0 : zD prog_1_method_64_code 0 (.iconst 0) 1 1 := ⟨by decide +kernel, rfl⟩
theorem d_8_allGot_1 : zD prog_1_method_64_code 1 (.istore_n 1) 1 2 := ⟨by decide +kernel, rfl⟩
theorem d_8_allGot_2 : zD prog_1_method_64_code 2 (.iconst 0) 1 3 := ⟨by decide +kernel, rfl⟩
theorem d_8_allGot_3 : zD prog_1_method_64_code 3 (.istore_n 2) 1 4 := ⟨by decide +kernel, rfl⟩
theorem d_8_allGot_4 : zD prog_1_method_64_code 4 (.iload_n 2) 1 5 := ⟨by decide +kernel, rfl⟩
theorem d_8_allGot_5 : zD prog_1_method_64_code 5 (.aload_n 0) 1 6 := ⟨by decide +kernel, rfl⟩
theorem d_8_allGot_6 : zD prog_1_method_64_code 6 (.getfield 27) 3 9 := ⟨by decide +kernel, rfl⟩
theorem d_8_allGot_9 : zD prog_1_method_64_code 9 (.getfield 224) 3 12 := ⟨by decide +kernel, rfl⟩
theorem d_8_allGot_12 : zD prog_1_method_64_code 12 (.if_icmp .ge 21) 3 15 := ⟨by decide +kernel, rfl⟩
theorem d_8_allGot_15 : zD prog_1_method_64_code 15 (.iload_n 1) 1 16 := ⟨by decide +kernel, rfl⟩
theorem d_8_allGot_16 : zD prog_1_method_64_code 16 (.aload_n 0) 1 17 := ⟨by decide +kernel, rfl⟩
theorem d_8_allGot_17 : zD prog_1_method_64_code 17 (.getfield 34) 3 20 := ⟨by decide +kernel, rfl⟩
theorem d_8_allGot_20 : zD prog_1_method_64_code 20 (.getfield 143) 3 23 := ⟨by decide +kernel, rfl⟩
theorem d_8_allGot_23 : zD prog_1_method_64_code 23 (.iload_n 2) 1 24 := ⟨by decide +kernel, rfl⟩
theorem d_8_allGot_24 : zD prog_1_method_64_code 24 (.iaload) 1 25 := ⟨by decide +kernel, rfl⟩
theorem d_8_allGot_25 : zD prog_1_method_64_code 25 (.iadd) 1 26 := ⟨by decide +kernel, rfl⟩
theorem d_8_allGot_26 : zD prog_1_method_64_code 26 (.istore_n 1) 1 27 := ⟨by decide +kernel, rfl⟩
theorem d_8_allGot_27 : zD prog_1_method_64_code 27 (.iinc 2 1) 3 30 := ⟨by decide +kernel, rfl⟩
theorem d_8_allGot_30 : zD prog_1_method_64_code 30 (.goto (-26)) 3 33 := ⟨by decide +kernel, rfl⟩
theorem d_8_allGot_33 : zD prog_1_method_64_code 33 (.iload_n 1) 1 34 := ⟨by decide +kernel, rfl⟩
theorem d_8_allGot_34 : zD prog_1_method_64_code 34 (.ireturn) 1 35 := ⟨by decide +kernel, rfl⟩
theorem d_8_allRent_0 : zD prog_1_method_65_code 0 (.iconst 0) 1 1 := ⟨by decide +kernel, rfl⟩
theorem d_8_allRent_1 : zD prog_1_method_65_code 1 (.istore_n 1) 1 2 := ⟨by decide +kernel, rfl⟩
theorem d_8_allRent_2 : zD prog_1_method_65_code 2 (.iconst 0) 1 3 := ⟨by decide +kernel, rfl⟩
theorem d_8_allRent_3 : zD prog_1_method_65_code 3 (.istore_n 2) 1 4 := ⟨by decide +kernel, rfl⟩
theorem d_8_allRent_4 : zD prog_1_method_65_code 4 (.iload_n 2) 1 5 := ⟨by decide +kernel, rfl⟩
theorem d_8_allRent_5 : zD prog_1_method_65_code 5 (.aload_n 0) 1 6 := ⟨by decide +kernel, rfl⟩
theorem d_8_allRent_6 : zD prog_1_method_65_code 6 (.getfield 27) 3 9 := ⟨by decide +kernel, rfl⟩
theorem d_8_allRent_9 : zD prog_1_method_65_code 9 (.getfield 156) 3 12 := ⟨by decide +kernel, rfl⟩
theorem d_8_allRent_12 : zD prog_1_method_65_code 12 (.if_icmp .ge 21) 3 15 := ⟨by decide +kernel, rfl⟩
theorem d_8_allRent_15 : zD prog_1_method_65_code 15 (.iload_n 1) 1 16 := ⟨by decide +kernel, rfl⟩
theorem d_8_allRent_16 : zD prog_1_method_65_code 16 (.aload_n 0) 1 17 := ⟨by decide +kernel, rfl⟩
theorem d_8_allRent_17 : zD prog_1_method_65_code 17 (.getfield 27) 3 20 := ⟨by decide +kernel, rfl⟩
theorem d_8_allRent_20 : zD prog_1_method_65_code 20 (.getfield 113) 3 23 := ⟨by decide +kernel, rfl⟩
theorem d_8_allRent_23 : zD prog_1_method_65_code 23 (.iload_n 2) 1 24 := ⟨by decide +kernel, rfl⟩
theorem d_8_allRent_24 : zD prog_1_method_65_code 24 (.iaload) 1 25 := ⟨by decide +kernel, rfl⟩
theorem d_8_allRent_25 : zD prog_1_method_65_code 25 (.iadd) 1 26 := ⟨by decide +kernel, rfl⟩
theorem d_8_allRent_26 : zD prog_1_method_65_code 26 (.istore_n 1) 1 27 := ⟨by decide +kernel, rfl⟩
theorem d_8_allRent_27 : zD prog_1_method_65_code 27 (.iinc 2 1) 3 30 := ⟨by decide +kernel, rfl⟩
theorem d_8_allRent_30 : zD prog_1_method_65_code 30 (.goto (-26)) 3 33 := ⟨by decide +kernel, rfl⟩
theorem d_8_allRent_33 : zD prog_1_method_65_code 33 (.iload_n 1) 1 34 := ⟨by decide +kernel, rfl⟩
theorem d_8_allRent_34 : zD prog_1_method_65_code 34 (.ireturn) 1 35 := ⟨by decide +kernel, rfl⟩
theorem d_8_allGone_0 : zD prog_1_method_66_code 0 (.iconst 0) 1 1 := ⟨by decide +kernel, rfl⟩
theorem d_8_allGone_1 : zD prog_1_method_66_code 1 (.istore_n 1) 1 2 := ⟨by decide +kernel, rfl⟩
theorem d_8_allGone_2 : zD prog_1_method_66_code 2 (.iconst 0) 1 3 := ⟨by decide +kernel, rfl⟩
theorem d_8_allGone_3 : zD prog_1_method_66_code 3 (.istore_n 2) 1 4 := ⟨by decide +kernel, rfl⟩
theorem d_8_allGone_4 : zD prog_1_method_66_code 4 (.iload_n 2) 1 5 := ⟨by decide +kernel, rfl⟩
theorem d_8_allGone_5 : zD prog_1_method_66_code 5 (.aload_n 0) 1 6 := ⟨by decide +kernel, rfl⟩
theorem d_8_allGone_6 : zD prog_1_method_66_code 6 (.getfield 27) 3 9 := ⟨by decide +kernel, rfl⟩
theorem d_8_allGone_9 : zD prog_1_method_66_code 9 (.getfield 224) 3 12 := ⟨by decide +kernel, rfl⟩
theorem d_8_allGone_12 : zD prog_1_method_66_code 12 (.if_icmp .ge 21) 3 15 := ⟨by decide +kernel, rfl⟩
theorem d_8_allGone_15 : zD prog_1_method_66_code 15 (.iload_n 1) 1 16 := ⟨by decide +kernel, rfl⟩
theorem d_8_allGone_16 : zD prog_1_method_66_code 16 (.aload_n 0) 1 17 := ⟨by decide +kernel, rfl⟩
theorem d_8_allGone_17 : zD prog_1_method_66_code 17 (.getfield 34) 3 20 := ⟨by decide +kernel, rfl⟩
theorem d_8_allGone_20 : zD prog_1_method_66_code 20 (.getfield 140) 3 23 := ⟨by decide +kernel, rfl⟩
theorem d_8_allGone_23 : zD prog_1_method_66_code 23 (.iload_n 2) 1 24 := ⟨by decide +kernel, rfl⟩
theorem d_8_allGone_24 : zD prog_1_method_66_code 24 (.iaload) 1 25 := ⟨by decide +kernel, rfl⟩
theorem d_8_allGone_25 : zD prog_1_method_66_code 25 (.iadd) 1 26 := ⟨by decide +kernel, rfl⟩
theorem d_8_allGone_26 : zD prog_1_method_66_code 26 (.istore_n 1) 1 27 := ⟨by decide +kernel, rfl⟩
theorem d_8_allGone_27 : zD prog_1_method_66_code 27 (.iinc 2 1) 3 30 := ⟨by decide +kernel, rfl⟩
theorem d_8_allGone_30 : zD prog_1_method_66_code 30 (.goto (-26)) 3 33 := ⟨by decide +kernel, rfl⟩
theorem d_8_allGone_33 : zD prog_1_method_66_code 33 (.iload_n 1) 1 34 := ⟨by decide +kernel, rfl⟩
theorem d_8_allGone_34 : zD prog_1_method_66_code 34 (.ireturn) 1 35 := ⟨by decide +kernel, rfl⟩
theorem d_8_allRents_0 : zD prog_1_method_67_code 0 (.aload_n 0) 1 1 := ⟨by decide +kernel, rfl⟩
theorem d_8_allRents_1 : zD prog_1_method_67_code 1 (.getfield 68) 3 4 := ⟨by decide +kernel, rfl⟩
theorem d_8_allRents_4 : zD prog_1_method_67_code 4 (.aload_n 0) 1 5 := ⟨by decide +kernel, rfl⟩
theorem d_8_allRents_5 : zD prog_1_method_67_code 5 (.getfield 27) 3 8 := ⟨by decide +kernel, rfl⟩
theorem d_8_allRents_8 : zD prog_1_method_67_code 8 (.aload_n 0) 1 9 := ⟨by decide +kernel, rfl⟩
theorem d_8_allRents_9 : zD prog_1_method_67_code 9 (.getfield 34) 3 12 := ⟨by decide +kernel, rfl⟩
theorem d_8_allRents_12 : zD prog_1_method_67_code 12 (.invokevirtual 123) 3 15 := ⟨by decide +kernel, rfl⟩
theorem d_8_allRents_15 : zD prog_1_method_67_code 15 (.iconst 0) 1 16 := ⟨by decide +kernel, rfl⟩
theorem d_8_allRents_16 : zD prog_1_method_67_code 16 (.istore_n 1) 1 17 := ⟨by decide +kernel, rfl⟩
theorem d_8_allRents_17 : zD prog_1_method_67_code 17 (.iconst 0) 1 18 := ⟨by decide +kernel, rfl⟩
theorem d_8_allRents_18 : zD prog_1_method_67_code 18 (.istore_n 2) 1 19 := ⟨by decide +kernel, rfl⟩
theorem d_8_allRents_19 : zD prog_1_method_67_code 19 (.iload_n 2) 1 20 := ⟨by decide +kernel, rfl⟩
theorem d_8_allRents_20 : zD prog_1_method_67_code 20 (.aload_n 0) 1 21 := ⟨by decide +kernel, rfl⟩
theorem d_8_allRents_21 : zD prog_1_method_67_code 21 (.getfield 27) 3 24 := ⟨by decide +kernel, rfl⟩
theorem d_8_allRents_24 : zD prog_1_method_67_code 24 (.getfield 156) 3 27 := ⟨by decide +kernel, rfl⟩
theorem d_8_allRents_27 : zD prog_1_method_67_code 27 (.if_icmp .ge 28) 3 30 := ⟨by decide +kernel, rfl⟩
theorem d_8_allRents_30 : zD prog_1_method_67_code 30 (.iload_n 1) 1 31 := ⟨by decide +kernel, rfl⟩
theorem d_8_allRents_31 : zD prog_1_method_67_code 31 (.aload_n 0) 1 32 := ⟨by decide +kernel, rfl⟩
theorem d_8_allRents_32 : zD prog_1_method_67_code 32 (.getfield 68) 3 35 := ⟨by decide +kernel, rfl⟩
theorem d_8_allRents_35 : zD prog_1_method_67_code 35 (.aload_n 0) 1 36 := ⟨by decide +kernel, rfl⟩
theorem d_8_allRents_36 : zD prog_1_method_67_code 36 (.getfield 27) 3 39 := ⟨by decide +kernel, rfl⟩
theorem d_8_allRents_39 : zD prog_1_method_67_code 39 (.aload_n 0) 1 40 := ⟨by decide +kernel, rfl⟩
theorem d_8_allRents_40 : zD prog_1_method_67_code 40 (.getfield 34) 3 43 := ⟨by decide +kernel, rfl⟩
theorem d_8_allRents_43 : zD prog_1_method_67_code 43 (.iload_n 2) 1 44 := ⟨by decide +kernel, rfl⟩
theorem d_8_allRents_44 : zD prog_1_method_67_code 44 (.invokevirtual 127) 3 47 := ⟨by decide +kernel, rfl⟩
theorem d_8_allRents_47 : zD prog_1_method_67_code 47 (.iadd) 1 48 := ⟨by decide +kernel, rfl⟩
theorem d_8_allRents_48 : zD prog_1_method_67_code 48 (.istore_n 1) 1 49 := ⟨by decide +kernel, rfl⟩
theorem d_8_allRents_49 : zD prog_1_method_67_code 49 (.iinc 2 1) 3 52 := ⟨by decide +kernel, rfl⟩
theorem d_8_allRents_52 : zD prog_1_method_67_code 52 (.goto (-33)) 3 55 := ⟨by decide +kernel, rfl⟩
theorem d_8_allRents_55 : zD prog_1_method_67_code 55 (.iload_n 1) 1 56 := ⟨by decide +kernel, rfl⟩
theorem d_8_allRents_56 : zD prog_1_method_67_code 56 (.ireturn) 1 57 := ⟨by decide +kernel, rfl⟩
theorem d_8_whoHasNoRight_0 : zD prog_1_method_68_code 0 (.aload_n 0) 1 1 := ⟨by decide +kernel, rfl⟩
theorem d_8_whoHasNoRight_1 : zD prog_1_method_68_code 1 (.getfield 27) 3 4 := ⟨by decide +kernel, rfl⟩
theorem d_8_whoHasNoRight_4 : zD prog_1_method_68_code 4 (.getfield 224) 3 7 := ⟨by decide +kernel, rfl⟩
theorem d_8_whoHasNoRight_7 : zD prog_1_method_68_code 7 (.invokestatic 320) 3 10 := ⟨by decide +kernel, rfl⟩
theorem d_8_whoHasNoRight_10 : zD prog_1_method_68_code 10 (.istore_n 1) 1 11 := ⟨by decide +kernel, rfl⟩
theorem d_8_whoHasNoRight_11 : zD prog_1_method_68_code 11 (.iconst 0) 1 12 := ⟨by decide +kernel, rfl⟩
theorem d_8_whoHasNoRight_12 : zD prog_1_method_68_code 12 (.istore_n 2) 1 13 := ⟨by decide +kernel, rfl⟩
theorem d_8_whoHasNoRight_13 : zD prog_1_method_68_code 13 (.iload_n 2) 1 14 := ⟨by decide +kernel, rfl⟩
theorem d_8_whoHasNoRight_14 : zD prog_1_method_68_code 14 (.aload_n 0) 1 15 := ⟨by decide +kernel, rfl⟩
theorem d_8_whoHasNoRight_15 : zD prog_1_method_68_code 15 (.getfield 27) 3 18 := ⟨by decide +kernel, rfl⟩
theorem d_8_whoHasNoRight_18 : zD prog_1_method_68_code 18 (.getfield 156) 3 21 := ⟨by decide +kernel, rfl⟩
theorem d_8_whoHasNoRight_21 : zD prog_1_method_68_code 21 (.if_icmp .ge 23) 3 24 := ⟨by decide +kernel, rfl⟩
theorem d_8_whoHasNoRight_24 : zD prog_1_method_68_code 24 (.iload_n 1) 1 25 := ⟨by decide +kernel, rfl⟩
theorem d_8_whoHasNoRight_25 : zD prog_1_method_68_code 25 (.aload_n 0) 1 26 := ⟨by decide +kernel, rfl⟩
theorem d_8_whoHasNoRight_26 : zD prog_1_method_68_code 26 (.getfield 34) 3 29 := ⟨by decide +kernel, rfl⟩
theorem d_8_whoHasNoRight_29 : zD prog_1_method_68_code 29 (.getfield 120) 3 32 := ⟨by decide +kernel, rfl⟩
theorem d_8_whoHasNoRight_32 : zD prog_1_method_68_code 32 (.iload_n 2) 1 33 := ⟨by decide +kernel, rfl⟩
theorem d_8_whoHasNoRight_33 : zD prog_1_method_68_code 33 (.iaload) 1 34 := ⟨by decide +kernel, rfl⟩
theorem d_8_whoHasNoRight_34 : zD prog_1_method_68_code 34 (.iconst (-1)) 1 35 := ⟨by decide +kernel, rfl⟩
theorem d_8_whoHasNoRight_35 : zD prog_1_method_68_code 35 (.ixor) 1 36 := ⟨by decide +kernel, rfl⟩
theorem d_8_whoHasNoRight_36 : zD prog_1_method_68_code 36 (.iand) 1 37 := ⟨by decide +kernel, rfl⟩
theorem d_8_whoHasNoRight_37 : zD prog_1_method_68_code 37 (.istore_n 1) 1 38 := ⟨by decide +kernel, rfl⟩
theorem d_8_whoHasNoRight_38 : zD prog_1_method_68_code 38 (.iinc 2 1) 3 41 := ⟨by decide +kernel, rfl⟩
theorem d_8_whoHasNoRight_41 : zD prog_1_method_68_code 41 (.goto (-28)) 3 44 := ⟨by decide +kernel, rfl⟩
theorem d_8_whoHasNoRight_44 : zD prog_1_method_68_code 44 (.iload_n 1) 1 45 := ⟨by decide +kernel, rfl⟩
theorem d_8_whoHasNoRight_45 : zD prog_1_method_68_code 45 (.ireturn) 1 46 := ⟨by decide +kernel, rfl⟩
theorem d_8_count_0 : zD prog_1_method_63_code 0 (.iload_n 1) 1 1 := ⟨by decide +kernel, rfl⟩
theorem d_8_count_1 : zD prog_1_method_63_code 1 (.tableswitch 193 0 16 #[83, 91, 99, 107, 107, 107, 122, 134, 139, 144, 152, 160, 168, 173, 178, 183, 188]) 83 84 := ⟨by decide +kernel, rfl⟩
theorem d_8_count_84 : zD prog_1_method_63_code 84 (.aload_n 0) 1 85 := ⟨by decide +kernel, rfl⟩
theorem d_8_count_85 : zD prog_1_method_63_code 85 (.getfield 27) 3 88 := ⟨by decide +kernel, rfl⟩
theorem d_8_count_88 : zD prog_1_method_63_code 88 (.getfield 156) 3 91 := ⟨by decide +kernel, rfl⟩
theorem d_8_count_91 : zD prog_1_method_63_code 91 (.ireturn) 1 92 := ⟨by decide +kernel, rfl⟩
theorem d_8_count_92 : zD prog_1_method_63_code 92 (.aload_n 0) 1 93 := ⟨by decide +kernel, rfl⟩
theorem d_8_count_93 : zD prog_1_method_63_code 93 (.getfield 27) 3 96 := ⟨by decide +kernel, rfl⟩
theorem d_8_count_96 : zD prog_1_method_63_code 96 (.getfield 224) 3 99 := ⟨by decide +kernel, rfl⟩
theorem d_8_count_99 : zD prog_1_method_63_code 99 (.ireturn) 1 100 := ⟨by decide +kernel, rfl⟩
theorem d_8_count_100 : zD prog_1_method_63_code 100 (.aload_n 0) 1 101 := ⟨by decide +kernel, rfl⟩
theorem d_8_count_101 : zD prog_1_method_63_code 101 (.getfield 34) 3 104 := ⟨by decide +kernel, rfl⟩
theorem d_8_count_104 : zD prog_1_method_63_code 104 (.getfield 200) 3 107 := ⟨by decide +kernel, rfl⟩
theorem d_8_count_107 : zD prog_1_method_63_code 107 (.ireturn) 1 108 := ⟨by decide +kernel, rfl⟩
theorem d_8_count_108 : zD prog_1_method_63_code 108 (.aload_n 0) 1 109 := ⟨by decide +kernel, rfl⟩
theorem d_8_count_109 : zD prog_1_method_63_code 109 (.getfield 34) 3 112 := ⟨by decide +kernel, rfl⟩
theorem d_8_count_112 : zD prog_1_method_63_code 112 (.aload_n 0) 1 113 := ⟨by decide +kernel, rfl⟩
theorem d_8_count_113 : zD prog_1_method_63_code 113 (.getfield 27) 3 116 := ⟨by decide +kernel, rfl⟩
theorem d_8_count_116 : zD prog_1_method_63_code 116 (.iload_n 1) 1 117 := ⟨by decide +kernel, rfl⟩
theorem d_8_count_117 : zD prog_1_method_63_code 117 (.iconst 3) 1 118 := ⟨by decide +kernel, rfl⟩
theorem d_8_count_118 : zD prog_1_method_63_code 118 (.isub) 1 119 := ⟨by decide +kernel, rfl⟩
theorem d_8_count_119 : zD prog_1_method_63_code 119 (.invokevirtual 270) 3 122 := ⟨by decide +kernel, rfl⟩
theorem d_8_count_122 : zD prog_1_method_63_code 122 (.ireturn) 1 123 := ⟨by decide +kernel, rfl⟩
theorem d_8_count_123 : zD prog_1_method_63_code 123 (.aload_n 0) 1 124 := ⟨by decide +kernel, rfl⟩
theorem d_8_count_124 : zD prog_1_method_63_code 124 (.getfield 34) 3 127 := ⟨by decide +kernel, rfl⟩
theorem d_8_count_127 : zD prog_1_method_63_code 127 (.aload_n 0) 1 128 := ⟨by decide +kernel, rfl⟩
theorem d_8_count_128 : zD prog_1_method_63_code 128 (.getfield 27) 3 131 := ⟨by decide +kernel, rfl⟩
theorem d_8_count_131 : zD prog_1_method_63_code 131 (.invokevirtual 274) 3 134 := ⟨by decide +kernel, rfl⟩
theorem d_8_count_134 : zD prog_1_method_63_code 134 (.ireturn) 1 135 := ⟨by decide +kernel, rfl⟩
theorem d_8_count_135 : zD prog_1_method_63_code 135 (.aload_n 0) 1 136 := ⟨by decide +kernel, rfl⟩
theorem d_8_count_136 : zD prog_1_method_63_code 136 (.invokevirtual 302) 3 139 := ⟨by decide +kernel, rfl⟩
theorem d_8_count_139 : zD prog_1_method_63_code 139 (.ireturn) 1 140 := ⟨by decide +kernel, rfl⟩
theorem d_8_count_140 : zD prog_1_method_63_code 140 (.aload_n 0) 1 141 := ⟨by decide +kernel, rfl⟩
theorem d_8_count_141 : zD prog_1_method_63_code 141 (.getfield 13) 3 144 := ⟨by decide +kernel, rfl⟩
theorem d_8_count_144 : zD prog_1_method_63_code 144 (.ireturn) 1 145 := ⟨by decide +kernel, rfl⟩
theorem d_8_count_145 : zD prog_1_method_63_code 145 (.aload_n 0) 1 146 := ⟨by decide +kernel, rfl⟩
theorem d_8_count_146 : zD prog_1_method_63_code 146 (.getfield 54) 3 149 := ⟨by decide +kernel, rfl⟩
theorem d_8_count_149 : zD prog_1_method_63_code 149 (.getfield 305) 3 152 := ⟨by decide +kernel, rfl⟩
theorem d_8_count_152 : zD prog_1_method_63_code 152 (.ireturn) 1 153 := ⟨by decide +kernel, rfl⟩
theorem d_8_count_153 : zD prog_1_method_63_code 153 (.aload_n 0) 1 154 := ⟨by decide +kernel, rfl⟩
theorem d_8_count_154 : zD prog_1_method_63_code 154 (.getfield 82) 3 157 := ⟨by decide +kernel, rfl⟩
theorem d_8_count_157 : zD prog_1_method_63_code 157 (.getfield 281) 3 160 := ⟨by decide +kernel, rfl⟩
theorem d_8_count_160 : zD prog_1_method_63_code 160 (.ireturn) 1 161 := ⟨by decide +kernel, rfl⟩
theorem d_8_count_161 : zD prog_1_method_63_code 161 (.aload_n 0) 1 162 := ⟨by decide +kernel, rfl⟩
theorem d_8_count_162 : zD prog_1_method_63_code 162 (.getfield 62) 3 165 := ⟨by decide +kernel, rfl⟩
theorem d_8_count_165 : zD prog_1_method_63_code 165 (.invokestatic 241) 3 168 := ⟨by decide +kernel, rfl⟩
theorem d_8_count_168 : zD prog_1_method_63_code 168 (.ireturn) 1 169 := ⟨by decide +kernel, rfl⟩
theorem d_8_count_169 : zD prog_1_method_63_code 169 (.aload_n 0) 1 170 := ⟨by decide +kernel, rfl⟩
theorem d_8_count_170 : zD prog_1_method_63_code 170 (.invokevirtual 263) 3 173 := ⟨by decide +kernel, rfl⟩
theorem d_8_count_173 : zD prog_1_method_63_code 173 (.ireturn) 1 174 := ⟨by decide +kernel, rfl⟩
theorem d_8_count_174 : zD prog_1_method_63_code 174 (.aload_n 0) 1 175 := ⟨by decide +kernel, rfl⟩
theorem d_8_count_175 : zD prog_1_method_63_code 175 (.invokevirtual 308) 3 178 := ⟨by decide +kernel, rfl⟩
theorem d_8_count_178 : zD prog_1_method_63_code 178 (.ireturn) 1 179 := ⟨by decide +kernel, rfl⟩
theorem d_8_count_179 : zD prog_1_method_63_code 179 (.aload_n 0) 1 180 := ⟨by decide +kernel, rfl⟩
theorem d_8_count_180 : zD prog_1_method_63_code 180 (.invokevirtual 311) 3 183 := ⟨by decide +kernel, rfl⟩
theorem d_8_count_183 : zD prog_1_method_63_code 183 (.ireturn) 1 184 := ⟨by decide +kernel, rfl⟩
theorem d_8_count_184 : zD prog_1_method_63_code 184 (.aload_n 0) 1 185 := ⟨by decide +kernel, rfl⟩
theorem d_8_count_185 : zD prog_1_method_63_code 185 (.invokevirtual 314) 3 188 := ⟨by decide +kernel, rfl⟩
theorem d_8_count_188 : zD prog_1_method_63_code 188 (.ireturn) 1 189 := ⟨by decide +kernel, rfl⟩
theorem d_8_count_189 : zD prog_1_method_63_code 189 (.aload_n 0) 1 190 := ⟨by decide +kernel, rfl⟩
theorem d_8_count_190 : zD prog_1_method_63_code 190 (.invokevirtual 317) 3 193 := ⟨by decide +kernel, rfl⟩
theorem d_8_count_193 : zD prog_1_method_63_code 193 (.ireturn) 1 194 := ⟨by decide +kernel, rfl⟩
theorem d_8_count_194 : zD prog_1_method_63_code 194 (.iconst (-1)) 1 195 := ⟨by decide +kernel, rfl⟩
theorem d_8_count_195 : zD prog_1_method_63_code 195 (.ireturn) 1 196 := ⟨by decide +kernel, rfl⟩
theorem d_9_plain_0 : zD prog_11_method_19_code 0 (.aload_n 0) 1 1 := ⟨by decide +kernel, rfl⟩
theorem d_9_plain_1 : zD prog_11_method_19_code 1 (.getfield 46) 3 4 := ⟨by decide +kernel, rfl⟩
theorem d_9_plain_4 : zD prog_11_method_19_code 4 (.iload_n 1) 1 5 := ⟨by decide +kernel, rfl⟩
theorem d_9_plain_5 : zD prog_11_method_19_code 5 (.iconst 0) 1 6 := ⟨by decide +kernel, rfl⟩
theorem d_9_plain_6 : zD prog_11_method_19_code 6 (.iastore) 1 7 := ⟨by decide +kernel, rfl⟩
theorem d_9_plain_7 : zD prog_11_method_19_code 7 (.aload_n 0) 1 8 := ⟨by decide +kernel, rfl⟩
theorem d_9_plain_8 : zD prog_11_method_19_code 8 (.getfield 55) 3 11 := ⟨by decide +kernel, rfl⟩
theorem d_9_plain_11 : zD prog_11_method_19_code 11 (.iload_n 1) 1 12 := ⟨by decide +kernel, rfl⟩
theorem d_9_plain_12 : zD prog_11_method_19_code 12 (.iconst 0) 1 13 := ⟨by decide +kernel, rfl⟩
theorem d_9_plain_13 : zD prog_11_method_19_code 13 (.iastore) 1 14 := ⟨by decide +kernel, rfl⟩
theorem d_9_plain_14 : zD prog_11_method_19_code 14 (.aload_n 0) 1 15 := ⟨by decide +kernel, rfl⟩
theorem d_9_plain_15 : zD prog_11_method_19_code 15 (.getfield 64) 3 18 := ⟨by decide +kernel, rfl⟩
theorem d_9_plain_18 : zD prog_11_method_19_code 18 (.iload_n 1) 1 19 := ⟨by decide +kernel, rfl⟩
theorem d_9_plain_19 : zD prog_11_method_19_code 19 (.iconst 0) 1 20 := ⟨by decide +kernel, rfl⟩
theorem d_9_plain_20 : zD prog_11_method_19_code 20 (.iastore) 1 21 := ⟨by decide +kernel, rfl⟩
theorem d_9_plain_21 : zD prog_11_method_19_code 21 (.aload_n 0) 1 22 := ⟨by decide +kernel, rfl⟩
theorem d_9_plain_22 : zD prog_11_method_19_code 22 (.getfield 67) 3 25 := ⟨by decide +kernel, rfl⟩
theorem d_9_plain_25 : zD prog_11_method_19_code 25 (.iload_n 1) 1 26 := ⟨by decide +kernel, rfl⟩
theorem d_9_plain_26 : zD prog_11_method_19_code 26 (.iconst 0) 1 27 := ⟨by decide +kernel, rfl⟩
theorem d_9_plain_27 : zD prog_11_method_19_code 27 (.iastore) 1 28 := ⟨by decide +kernel, rfl⟩
theorem d_9_plain_28 : zD prog_11_method_19_code 28 (.aload_n 0) 1 29 := ⟨by decide +kernel, rfl⟩
theorem d_9_plain_29 : zD prog_11_method_19_code 29 (.getfield 70) 3 32 := ⟨by decide +kernel, rfl⟩
theorem d_9_plain_32 : zD prog_11_method_19_code 32 (.iload_n 1) 1 33 := ⟨by decide +kernel, rfl⟩
theorem d_9_plain_33 : zD prog_11_method_19_code 33 (.iconst 0) 1 34 := ⟨by decide +kernel, rfl⟩
theorem d_9_plain_34 : zD prog_11_method_19_code 34 (.iastore) 1 35 := ⟨by decide +kernel, rfl⟩
theorem d_9_plain_35 : zD prog_11_method_19_code 35 (.iconst 0) 1 36 := ⟨by decide +kernel, rfl⟩
theorem d_9_plain_36 : zD prog_11_method_19_code 36 (.istore_n 2) 1 37 := ⟨by decide +kernel, rfl⟩
theorem d_9_plain_37 : zD prog_11_method_19_code 37 (.iload_n 2) 1 38 := ⟨by decide +kernel, rfl⟩
theorem d_9_plain_38 : zD prog_11_method_19_code 38 (.iconst 5) 1 39 := ⟨by decide +kernel, rfl⟩
theorem d_9_plain_39 : zD prog_11_method_19_code 39 (.if_icmp .ge 20) 3 42 := ⟨by decide +kernel, rfl⟩
theorem d_9_plain_42 : zD prog_11_method_19_code 42 (.aload_n 0) 1 43 := ⟨by decide +kernel, rfl⟩
theorem d_9_plain_43 : zD prog_11_method_19_code 43 (.getfield 52) 3 46 := ⟨by decide +kernel, rfl⟩
theorem d_9_plain_46 : zD prog_11_method_19_code 46 (.iconst 5) 1 47 := ⟨by decide +kernel, rfl⟩
theorem d_9_plain_47 : zD prog_11_method_19_code 47 (.iload_n 1) 1 48 := ⟨by decide +kernel, rfl⟩
theorem d_9_plain_48 : zD prog_11_method_19_code 48 (.imul) 1 49 := ⟨by decide +kernel, rfl⟩
theorem d_9_plain_49 : zD prog_11_method_19_code 49 (.iload_n 2) 1 50 := ⟨by decide +kernel, rfl⟩
theorem d_9_plain_50 : zD prog_11_method_19_code 50 (.iadd) 1 51 := ⟨by decide +kernel, rfl⟩
theorem d_9_plain_51 : zD prog_11_method_19_code 51 (.iconst 0) 1 52 := ⟨by decide +kernel, rfl⟩
theorem d_9_plain_52 : zD prog_11_method_19_code 52 (.iastore) 1 53 := ⟨by decide +kernel, rfl⟩
theorem d_9_plain_53 : zD prog_11_method_19_code 53 (.iinc 2 1) 3 56 := ⟨by decide +kernel, rfl⟩
theorem d_9_plain_56 : zD prog_11_method_19_code 56 (.goto (-19)) 3 59 := ⟨by decide +kernel, rfl⟩
theorem d_9_plain_59 : zD prog_11_method_19_code 59 (.iconst 0) 1 60 := ⟨by decide +kernel, rfl⟩
theorem d_9_plain_60 : zD prog_11_method_19_code 60 (.istore_n 2) 1 61 := ⟨by decide +kernel, rfl⟩
theorem d_9_plain_61 : zD prog_11_method_19_code 61 (.iload_n 2) 1 62 := ⟨by decide +kernel, rfl⟩
theorem d_9_plain_62 : zD prog_11_method_19_code 62 (.bipush 7) 2 64 := ⟨by decide +kernel, rfl⟩
theorem d_9_plain_64 : zD prog_11_method_19_code 64 (.if_icmp .ge 21) 3 67 := ⟨by decide +kernel, rfl⟩
theorem d_9_plain_67 : zD prog_11_method_19_code 67 (.aload_n 0) 1 68 := ⟨by decide +kernel, rfl⟩
theorem d_9_plain_68 : zD prog_11_method_19_code 68 (.getfield 61) 3 71 := ⟨by decide +kernel, rfl⟩
theorem d_9_plain_71 : zD prog_11_method_19_code 71 (.bipush 7) 2 73 := ⟨by decide +kernel, rfl⟩
theorem d_9_plain_73 : zD prog_11_method_19_code 73 (.iload_n 1) 1 74 := ⟨by decide +kernel, rfl⟩
theorem d_9_plain_74 : zD prog_11_method_19_code 74 (.imul) 1 75 := ⟨by decide +kernel, rfl⟩
theorem d_9_plain_75 : zD prog_11_method_19_code 75 (.iload_n 2) 1 76 := ⟨by decide +kernel, rfl⟩
theorem d_9_plain_76 : zD prog_11_method_19_code 76 (.iadd) 1 77 := ⟨by decide +kernel, rfl⟩
theorem d_9_plain_77 : zD prog_11_method_19_code 77 (.iconst (-1)) 1 78 := ⟨by decide +kernel, rfl⟩
theorem d_9_plain_78 : zD prog_11_method_19_code 78 (.iastore) 1 79 := ⟨by decide +kernel, rfl⟩
theorem d_9_plain_79 : zD prog_11_method_19_code 79 (.iinc 2 1) 3 82 := ⟨by decide +kernel, rfl⟩
theorem d_9_plain_82 : zD prog_11_method_19_code 82 (.goto (-21)) 3 85 := ⟨by decide +kernel, rfl⟩
theorem d_9_plain_85 : zD prog_11_method_19_code 85 (.iconst 0) 1 86 := ⟨by decide +kernel, rfl⟩
theorem d_9_plain_86 : zD prog_11_method_19_code 86 (.istore_n 2) 1 87 := ⟨by decide +kernel, rfl⟩
theorem d_9_plain_87 : zD prog_11_method_19_code 87 (.iload_n 2) 1 88 := ⟨by decide +kernel, rfl⟩
theorem d_9_plain_88 : zD prog_11_method_19_code 88 (.iconst 4) 1 89 := ⟨by decide +kernel, rfl⟩
theorem d_9_plain_89 : zD prog_11_method_19_code 89 (.if_icmp .ge 31) 3 92 := ⟨by decide +kernel, rfl⟩
theorem d_9_plain_92 : zD prog_11_method_19_code 92 (.aload_n 0) 1 93 := ⟨by decide +kernel, rfl⟩
theorem d_9_plain_93 : zD prog_11_method_19_code 93 (.getfield 73) 3 96 := ⟨by decide +kernel, rfl⟩
theorem d_9_plain_96 : zD prog_11_method_19_code 96 (.iconst 4) 1 97 := ⟨by decide +kernel, rfl⟩
theorem d_9_plain_97 : zD prog_11_method_19_code 97 (.iload_n 1) 1 98 := ⟨by decide +kernel, rfl⟩
theorem d_9_plain_98 : zD prog_11_method_19_code 98 (.imul) 1 99 := ⟨by decide +kernel, rfl⟩
theorem d_9_plain_99 : zD prog_11_method_19_code 99 (.iload_n 2) 1 100 := ⟨by decide +kernel, rfl⟩
theorem d_9_plain_100 : zD prog_11_method_19_code 100 (.iadd) 1 101 := ⟨by decide +kernel, rfl⟩
theorem d_9_plain_101 : zD prog_11_method_19_code 101 (.iconst 0) 1 102 := ⟨by decide +kernel, rfl⟩
theorem d_9_plain_102 : zD prog_11_method_19_code 102 (.iastore) 1 103 := ⟨by decide +kernel, rfl⟩
theorem d_9_plain_103 : zD prog_11_method_19_code 103 (.aload_n 0) 1 104 := ⟨by decide +kernel, rfl⟩
theorem d_9_plain_104 : zD prog_11_method_19_code 104 (.getfield 76) 3 107 := ⟨by decide +kernel, rfl⟩
theorem d_9_plain_107 : zD prog_11_method_19_code 107 (.iconst 4) 1 108 := ⟨by decide +kernel, rfl⟩
theorem d_9_plain_108 : zD prog_11_method_19_code 108 (.iload_n 1) 1 109 := ⟨by decide +kernel, rfl⟩
theorem d_9_plain_109 : zD prog_11_method_19_code 109 (.imul) 1 110 := ⟨by decide +kernel, rfl⟩
theorem d_9_plain_110 : zD prog_11_method_19_code 110 (.iload_n 2) 1 111 := ⟨by decide +kernel, rfl⟩
theorem d_9_plain_111 : zD prog_11_method_19_code 111 (.iadd) 1 112 := ⟨by decide +kernel, rfl⟩
theorem d_9_plain_112 : zD prog_11_method_19_code 112 (.iconst 0) 1 113 := ⟨by decide +kernel, rfl⟩
theorem d_9_plain_113 : zD prog_11_method_19_code 113 (.iastore) 1 114 := ⟨by decide +kernel, rfl⟩
theorem d_9_plain_114 : zD prog_11_method_19_code 114 (.iinc 2 1) 3 117 := ⟨by decide +kernel, rfl⟩
theorem d_9_plain_117 : zD prog_11_method_19_code 117 (.goto (-30)) 3 120 := ⟨by decide +kernel, rfl⟩
theorem d_9_plain_120 : zD prog_11_method_19_code 120 (.return_) 1 121 := ⟨by decide +kernel, rfl⟩
theorem d_9_appends_0 : zD prog_11_method_9_code 0 (.iload_n 2) 1 1 := ⟨by decide +kernel, rfl⟩
theorem d_9_appends_1 : zD prog_11_method_9_code 1 (.ifCond .ne 7) 3 4 := ⟨by decide +kernel, rfl⟩
theorem d_9_appends_4 : zD prog_11_method_9_code 4 (.lload_n 0) 1 5 := ⟨by decide +kernel, rfl⟩
theorem d_9_appends_5 : zD prog_11_method_9_code 5 (.goto 16) 3 8 := ⟨by decide +kernel, rfl⟩
theorem d_9_appends_8 : zD prog_11_method_9_code 8 (.ldc2_w 175) 3 11 := ⟨by decide +kernel, rfl⟩
theorem d_9_appends_11 : zD prog_11_method_9_code 11 (.lload_n 0) 1 12 := ⟨by decide +kernel, rfl⟩
theorem d_9_appends_12 : zD prog_11_method_9_code 12 (.lmul) 1 13 := ⟨by decide +kernel, rfl⟩
theorem d_9_appends_13 : zD prog_11_method_9_code 13 (.iload_n 2) 1 14 := ⟨by decide +kernel, rfl⟩
theorem d_9_appends_14 : zD prog_11_method_9_code 14 (.bipush 97) 2 16 := ⟨by decide +kernel, rfl⟩
theorem d_9_appends_16 : zD prog_11_method_9_code 16 (.isub) 1 17 := ⟨by decide +kernel, rfl⟩
theorem d_9_appends_17 : zD prog_11_method_9_code 17 (.iconst 1) 1 18 := ⟨by decide +kernel, rfl⟩
theorem d_9_appends_18 : zD prog_11_method_9_code 18 (.iadd) 1 19 := ⟨by decide +kernel, rfl⟩
theorem d_9_appends_19 : zD prog_11_method_9_code 19 (.i2l) 1 20 := ⟨by decide +kernel, rfl⟩
theorem d_9_appends_20 : zD prog_11_method_9_code 20 (.ladd) 1 21 := ⟨by decide +kernel, rfl⟩
theorem d_9_appends_21 : zD prog_11_method_9_code 21 (.lreturn) 1 22 := ⟨by decide +kernel, rfl⟩
theorem d_9_word_0 : zD prog_11_method_10_code 0 (.lconst 0) 1 1 := ⟨by decide +kernel, rfl⟩
theorem d_9_word_1 : zD prog_11_method_10_code 1 (.iload_n 0) 1 2 := ⟨by decide +kernel, rfl⟩
theorem d_9_word_2 : zD prog_11_method_10_code 2 (.invokestatic 177) 3 5 := ⟨by decide +kernel, rfl⟩
theorem d_9_word_5 : zD prog_11_method_10_code 5 (.iload_n 1) 1 6 := ⟨by decide +kernel, rfl⟩
theorem d_9_word_6 : zD prog_11_method_10_code 6 (.invokestatic 177) 3 9 := ⟨by decide +kernel, rfl⟩
theorem d_9_word_9 : zD prog_11_method_10_code 9 (.iload_n 2) 1 10 := ⟨by decide +kernel, rfl⟩
theorem d_9_word_10 : zD prog_11_method_10_code 10 (.invokestatic 177) 3 13 := ⟨by decide +kernel, rfl⟩
theorem d_9_word_13 : zD prog_11_method_10_code 13 (.iload_n 3) 1 14 := ⟨by decide +kernel, rfl⟩
theorem d_9_word_14 : zD prog_11_method_10_code 14 (.invokestatic 177) 3 17 := ⟨by decide +kernel, rfl⟩
theorem d_9_word_17 : zD prog_11_method_10_code 17 (.iload 4) 2 19 := ⟨by decide +kernel, rfl⟩
theorem d_9_word_19 : zD prog_11_method_10_code 19 (.invokestatic 177) 3 22 := ⟨by decide +kernel, rfl⟩
theorem d_9_word_22 : zD prog_11_method_10_code 22 (.iload 5) 2 24 := ⟨by decide +kernel, rfl⟩
theorem d_9_word_24 : zD prog_11_method_10_code 24 (.invokestatic 177) 3 27 := ⟨by decide +kernel, rfl⟩
theorem d_9_word_27 : zD prog_11_method_10_code 27 (.iload 6) 2 29 := ⟨by decide +kernel, rfl⟩
theorem d_9_word_29 : zD prog_11_method_10_code 29 (.invokestatic 177) 3 32 := ⟨by decide +kernel, rfl⟩
theorem d_9_word_32 : zD prog_11_method_10_code 32 (.lreturn) 1 33 := ⟨by decide +kernel, rfl⟩
theorem d_9_begins_0 : zD prog_11_method_43_code 0 (.iconst 0) 1 1 := ⟨by decide +kernel, rfl⟩
theorem d_9_begins_1 : zD prog_11_method_43_code 1 (.istore_n 1) 1 2 := ⟨by decide +kernel, rfl⟩
theorem d_9_begins_2 : zD prog_11_method_43_code 2 (.iload_n 1) 1 3 := ⟨by decide +kernel, rfl⟩
theorem d_9_begins_3 : zD prog_11_method_43_code 3 (.bipush 34) 2 5 := ⟨by decide +kernel, rfl⟩
theorem d_9_begins_5 : zD prog_11_method_43_code 5 (.if_icmp .ge 16) 3 8 := ⟨by decide +kernel, rfl⟩
theorem d_9_begins_8 : zD prog_11_method_43_code 8 (.aload_n 0) 1 9 := ⟨by decide +kernel, rfl⟩
theorem d_9_begins_9 : zD prog_11_method_43_code 9 (.getfield 113) 3 12 := ⟨by decide +kernel, rfl⟩
theorem d_9_begins_12 : zD prog_11_method_43_code 12 (.iload_n 1) 1 13 := ⟨by decide +kernel, rfl⟩
theorem d_9_begins_13 : zD prog_11_method_43_code 13 (.iconst 0) 1 14 := ⟨by decide +kernel, rfl⟩
theorem d_9_begins_14 : zD prog_11_method_43_code 14 (.iastore) 1 15 := ⟨by decide +kernel, rfl⟩
theorem d_9_begins_15 : zD prog_11_method_43_code 15 (.iinc 1 1) 3 18 := ⟨by decide +kernel, rfl⟩
theorem d_9_begins_18 : zD prog_11_method_43_code 18 (.goto (-16)) 3 21 := ⟨by decide +kernel, rfl⟩
theorem d_9_begins_21 : zD prog_11_method_43_code 21 (.iconst 0) 1 22 := ⟨by decide +kernel, rfl⟩
theorem d_9_begins_22 : zD prog_11_method_43_code 22 (.istore_n 1) 1 23 := ⟨by decide +kernel, rfl⟩
theorem d_9_begins_23 : zD prog_11_method_43_code 23 (.iload_n 1) 1 24 := ⟨by decide +kernel, rfl⟩
theorem d_9_begins_24 : zD prog_11_method_43_code 24 (.aload_n 0) 1 25 := ⟨by decide +kernel, rfl⟩
theorem d_9_begins_25 : zD prog_11_method_43_code 25 (.getfield 55) 3 28 := ⟨by decide +kernel, rfl⟩
theorem d_9_begins_28 : zD prog_11_method_43_code 28 (.aload_n 0) 1 29 := ⟨by decide +kernel, rfl⟩
theorem d_9_begins_29 : zD prog_11_method_43_code 29 (.getfield 233) 3 32 := ⟨by decide +kernel, rfl⟩
theorem d_9_begins_32 : zD prog_11_method_43_code 32 (.iaload) 1 33 := ⟨by decide +kernel, rfl⟩
theorem d_9_begins_33 : zD prog_11_method_43_code 33 (.if_icmp .ge 57) 3 36 := ⟨by decide +kernel, rfl⟩
theorem d_9_begins_36 : zD prog_11_method_43_code 36 (.aload_n 0) 1 37 := ⟨by decide +kernel, rfl⟩
theorem d_9_begins_37 : zD prog_11_method_43_code 37 (.getfield 61) 3 40 := ⟨by decide +kernel, rfl⟩
theorem d_9_begins_40 : zD prog_11_method_43_code 40 (.bipush 7) 2 42 := ⟨by decide +kernel, rfl⟩
theorem d_9_begins_42 : zD prog_11_method_43_code 42 (.aload_n 0) 1 43 := ⟨by decide +kernel, rfl⟩
theorem d_9_begins_43 : zD prog_11_method_43_code 43 (.getfield 233) 3 46 := ⟨by decide +kernel, rfl⟩
theorem d_9_begins_46 : zD prog_11_method_43_code 46 (.imul) 1 47 := ⟨by decide +kernel, rfl⟩
theorem d_9_begins_47 : zD prog_11_method_43_code 47 (.iload_n 1) 1 48 := ⟨by decide +kernel, rfl⟩
theorem d_9_begins_48 : zD prog_11_method_43_code 48 (.iadd) 1 49 := ⟨by decide +kernel, rfl⟩
theorem d_9_begins_49 : zD prog_11_method_43_code 49 (.iaload) 1 50 := ⟨by decide +kernel, rfl⟩
theorem d_9_begins_50 : zD prog_11_method_43_code 50 (.istore_n 2) 1 51 := ⟨by decide +kernel, rfl⟩
theorem d_9_begins_51 : zD prog_11_method_43_code 51 (.aload_n 0) 1 52 := ⟨by decide +kernel, rfl⟩
theorem d_9_begins_52 : zD prog_11_method_43_code 52 (.getfield 113) 3 55 := ⟨by decide +kernel, rfl⟩
theorem d_9_begins_55 : zD prog_11_method_43_code 55 (.iload_n 1) 1 56 := ⟨by decide +kernel, rfl⟩
theorem d_9_begins_56 : zD prog_11_method_43_code 56 (.iload_n 2) 1 57 := ⟨by decide +kernel, rfl⟩
theorem d_9_begins_57 : zD prog_11_method_43_code 57 (.ifCond .ge 7) 3 60 := ⟨by decide +kernel, rfl⟩
theorem d_9_begins_60 : zD prog_11_method_43_code 60 (.iconst 0) 1 61 := ⟨by decide +kernel, rfl⟩
theorem d_9_begins_61 : zD prog_11_method_43_code 61 (.goto 4) 3 64 := ⟨by decide +kernel, rfl⟩
theorem d_9_begins_64 : zD prog_11_method_43_code 64 (.iconst 1) 1 65 := ⟨by decide +kernel, rfl⟩
theorem d_9_begins_65 : zD prog_11_method_43_code 65 (.iastore) 1 66 := ⟨by decide +kernel, rfl⟩
theorem d_9_begins_66 : zD prog_11_method_43_code 66 (.aload_n 0) 1 67 := ⟨by decide +kernel, rfl⟩
theorem d_9_begins_67 : zD prog_11_method_43_code 67 (.getfield 113) 3 70 := ⟨by decide +kernel, rfl⟩
theorem d_9_begins_70 : zD prog_11_method_43_code 70 (.bipush 7) 2 72 := ⟨by decide +kernel, rfl⟩
theorem d_9_begins_72 : zD prog_11_method_43_code 72 (.iload_n 1) 1 73 := ⟨by decide +kernel, rfl⟩
theorem d_9_begins_73 : zD prog_11_method_43_code 73 (.iadd) 1 74 := ⟨by decide +kernel, rfl⟩
theorem d_9_begins_74 : zD prog_11_method_43_code 74 (.iload_n 2) 1 75 := ⟨by decide +kernel, rfl⟩
theorem d_9_begins_75 : zD prog_11_method_43_code 75 (.ifCond .ge 7) 3 78 := ⟨by decide +kernel, rfl⟩
theorem d_9_begins_78 : zD prog_11_method_43_code 78 (.iconst 0) 1 79 := ⟨by decide +kernel, rfl⟩
theorem d_9_begins_79 : zD prog_11_method_43_code 79 (.goto 4) 3 82 := ⟨by decide +kernel, rfl⟩
theorem d_9_begins_82 : zD prog_11_method_43_code 82 (.iload_n 2) 1 83 := ⟨by decide +kernel, rfl⟩
theorem d_9_begins_83 : zD prog_11_method_43_code 83 (.iastore) 1 84 := ⟨by decide +kernel, rfl⟩
theorem d_9_begins_84 : zD prog_11_method_43_code 84 (.iinc 1 1) 3 87 := ⟨by decide +kernel, rfl⟩
theorem d_9_begins_87 : zD prog_11_method_43_code 87 (.goto (-64)) 3 90 := ⟨by decide +kernel, rfl⟩
theorem d_9_begins_90 : zD prog_11_method_43_code 90 (.iconst 0) 1 91 := ⟨by decide +kernel, rfl⟩
theorem d_9_begins_91 : zD prog_11_method_43_code 91 (.istore_n 1) 1 92 := ⟨by decide +kernel, rfl⟩
theorem d_9_begins_92 : zD prog_11_method_43_code 92 (.iload_n 1) 1 93 := ⟨by decide +kernel, rfl⟩
theorem d_9_begins_93 : zD prog_11_method_43_code 93 (.aload_n 0) 1 94 := ⟨by decide +kernel, rfl⟩
theorem d_9_begins_94 : zD prog_11_method_43_code 94 (.getfield 46) 3 97 := ⟨by decide +kernel, rfl⟩
theorem d_9_begins_97 : zD prog_11_method_43_code 97 (.aload_n 0) 1 98 := ⟨by decide +kernel, rfl⟩
theorem d_9_begins_98 : zD prog_11_method_43_code 98 (.getfield 233) 3 101 := ⟨by decide +kernel, rfl⟩
theorem d_9_begins_101 : zD prog_11_method_43_code 101 (.iaload) 1 102 := ⟨by decide +kernel, rfl⟩
theorem d_9_begins_102 : zD prog_11_method_43_code 102 (.if_icmp .ge 31) 3 105 := ⟨by decide +kernel, rfl⟩
theorem d_9_begins_105 : zD prog_11_method_43_code 105 (.aload_n 0) 1 106 := ⟨by decide +kernel, rfl⟩
theorem d_9_begins_106 : zD prog_11_method_43_code 106 (.getfield 113) 3 109 := ⟨by decide +kernel, rfl⟩
theorem d_9_begins_109 : zD prog_11_method_43_code 109 (.bipush 28) 2 111 := ⟨by decide +kernel, rfl⟩
theorem d_9_begins_111 : zD prog_11_method_43_code 111 (.iload_n 1) 1 112 := ⟨by decide +kernel, rfl⟩
theorem d_9_begins_112 : zD prog_11_method_43_code 112 (.iadd) 1 113 := ⟨by decide +kernel, rfl⟩
theorem d_9_begins_113 : zD prog_11_method_43_code 113 (.aload_n 0) 1 114 := ⟨by decide +kernel, rfl⟩
theorem d_9_begins_114 : zD prog_11_method_43_code 114 (.getfield 52) 3 117 := ⟨by decide +kernel, rfl⟩
theorem d_9_begins_117 : zD prog_11_method_43_code 117 (.iconst 5) 1 118 := ⟨by decide +kernel, rfl⟩
theorem d_9_begins_118 : zD prog_11_method_43_code 118 (.aload_n 0) 1 119 := ⟨by decide +kernel, rfl⟩
theorem d_9_begins_119 : zD prog_11_method_43_code 119 (.getfield 233) 3 122 := ⟨by decide +kernel, rfl⟩
theorem d_9_begins_122 : zD prog_11_method_43_code 122 (.imul) 1 123 := ⟨by decide +kernel, rfl⟩
theorem d_9_begins_123 : zD prog_11_method_43_code 123 (.iload_n 1) 1 124 := ⟨by decide +kernel, rfl⟩
theorem d_9_begins_124 : zD prog_11_method_43_code 124 (.iadd) 1 125 := ⟨by decide +kernel, rfl⟩
theorem d_9_begins_125 : zD prog_11_method_43_code 125 (.iaload) 1 126 := ⟨by decide +kernel, rfl⟩
theorem d_9_begins_126 : zD prog_11_method_43_code 126 (.iastore) 1 127 := ⟨by decide +kernel, rfl⟩
theorem d_9_begins_127 : zD prog_11_method_43_code 127 (.iinc 1 1) 3 130 := ⟨by decide +kernel, rfl⟩
theorem d_9_begins_130 : zD prog_11_method_43_code 130 (.goto (-38)) 3 133 := ⟨by decide +kernel, rfl⟩
theorem d_9_begins_133 : zD prog_11_method_43_code 133 (.aload_n 0) 1 134 := ⟨by decide +kernel, rfl⟩
theorem d_9_begins_134 : zD prog_11_method_43_code 134 (.aload_n 0) 1 135 := ⟨by decide +kernel, rfl⟩
theorem d_9_begins_135 : zD prog_11_method_43_code 135 (.getfield 70) 3 138 := ⟨by decide +kernel, rfl⟩
theorem d_9_begins_138 : zD prog_11_method_43_code 138 (.aload_n 0) 1 139 := ⟨by decide +kernel, rfl⟩
theorem d_9_begins_139 : zD prog_11_method_43_code 139 (.getfield 233) 3 142 := ⟨by decide +kernel, rfl⟩
theorem d_9_begins_142 : zD prog_11_method_43_code 142 (.iaload) 1 143 := ⟨by decide +kernel, rfl⟩
theorem d_9_begins_143 : zD prog_11_method_43_code 143 (.putfield 319) 3 146 := ⟨by decide +kernel, rfl⟩
theorem d_9_begins_146 : zD prog_11_method_43_code 146 (.aload_n 0) 1 147 := ⟨by decide +kernel, rfl⟩
theorem d_9_begins_147 : zD prog_11_method_43_code 147 (.iconst 0) 1 148 := ⟨by decide +kernel, rfl⟩
theorem d_9_begins_148 : zD prog_11_method_43_code 148 (.putfield 322) 3 151 := ⟨by decide +kernel, rfl⟩
theorem d_9_begins_151 : zD prog_11_method_43_code 151 (.return_) 1 152 := ⟨by decide +kernel, rfl⟩
theorem d_9_keepsRow_0 : zD prog_11_method_44_code 0 (.iconst 0) 1 1 := ⟨by decide +kernel, rfl⟩
theorem d_9_keepsRow_1 : zD prog_11_method_44_code 1 (.istore_n 1) 1 2 := ⟨by decide +kernel, rfl⟩
theorem d_9_keepsRow_2 : zD prog_11_method_44_code 2 (.iload_n 1) 1 3 := ⟨by decide +kernel, rfl⟩
theorem d_9_keepsRow_3 : zD prog_11_method_44_code 3 (.bipush 34) 2 5 := ⟨by decide +kernel, rfl⟩
theorem d_9_keepsRow_5 : zD prog_11_method_44_code 5 (.if_icmp .ge 21) 3 8 := ⟨by decide +kernel, rfl⟩
theorem d_9_keepsRow_8 : zD prog_11_method_44_code 8 (.aload_n 0) 1 9 := ⟨by decide +kernel, rfl⟩
theorem d_9_keepsRow_9 : zD prog_11_method_44_code 9 (.getfield 110) 3 12 := ⟨by decide +kernel, rfl⟩
theorem d_9_keepsRow_12 : zD prog_11_method_44_code 12 (.iload_n 1) 1 13 := ⟨by decide +kernel, rfl⟩
theorem d_9_keepsRow_13 : zD prog_11_method_44_code 13 (.aload_n 0) 1 14 := ⟨by decide +kernel, rfl⟩
theorem d_9_keepsRow_14 : zD prog_11_method_44_code 14 (.getfield 113) 3 17 := ⟨by decide +kernel, rfl⟩
theorem d_9_keepsRow_17 : zD prog_11_method_44_code 17 (.iload_n 1) 1 18 := ⟨by decide +kernel, rfl⟩
theorem d_9_keepsRow_18 : zD prog_11_method_44_code 18 (.iaload) 1 19 := ⟨by decide +kernel, rfl⟩
theorem d_9_keepsRow_19 : zD prog_11_method_44_code 19 (.iastore) 1 20 := ⟨by decide +kernel, rfl⟩
theorem d_9_keepsRow_20 : zD prog_11_method_44_code 20 (.iinc 1 1) 3 23 := ⟨by decide +kernel, rfl⟩
theorem d_9_keepsRow_23 : zD prog_11_method_44_code 23 (.goto (-21)) 3 26 := ⟨by decide +kernel, rfl⟩
theorem d_9_keepsRow_26 : zD prog_11_method_44_code 26 (.return_) 1 27 := ⟨by decide +kernel, rfl⟩
theorem d_9_put_0 : zD prog_11_method_4_code 0 (.bipush 24) 2 2 := ⟨by decide +kernel, rfl⟩
theorem d_9_put_2 : zD prog_11_method_4_code 2 (.istore_n 2) 1 3 := ⟨by decide +kernel, rfl⟩
theorem d_9_put_3 : zD prog_11_method_4_code 3 (.iload_n 2) 1 4 := ⟨by decide +kernel, rfl⟩
theorem d_9_put_4 : zD prog_11_method_4_code 4 (.ifCond .lt 32) 3 7 := ⟨by decide +kernel, rfl⟩
theorem d_9_put_7 : zD prog_11_method_4_code 7 (.aload_n 0) 1 8 := ⟨by decide +kernel, rfl⟩
theorem d_9_put_8 : zD prog_11_method_4_code 8 (.getfield 13) 3 11 := ⟨by decide +kernel, rfl⟩
theorem d_9_put_11 : zD prog_11_method_4_code 11 (.aload_n 0) 1 12 := ⟨by decide +kernel, rfl⟩
theorem d_9_put_12 : zD prog_11_method_4_code 12 (.getfield 166) 3 15 := ⟨by decide +kernel, rfl⟩
theorem d_9_put_15 : zD prog_11_method_4_code 15 (.iload_n 1) 1 16 := ⟨by decide +kernel, rfl⟩
theorem d_9_put_16 : zD prog_11_method_4_code 16 (.iload_n 2) 1 17 := ⟨by decide +kernel, rfl⟩
theorem d_9_put_17 : zD prog_11_method_4_code 17 (.ishr) 1 18 := ⟨by decide +kernel, rfl⟩
theorem d_9_put_18 : zD prog_11_method_4_code 18 (.i2b) 1 19 := ⟨by decide +kernel, rfl⟩
theorem d_9_put_19 : zD prog_11_method_4_code 19 (.bastore) 1 20 := ⟨by decide +kernel, rfl⟩
theorem d_9_put_20 : zD prog_11_method_4_code 20 (.aload_n 0) 1 21 := ⟨by decide +kernel, rfl⟩
theorem d_9_put_21 : zD prog_11_method_4_code 21 (.dup) 1 22 := ⟨by decide +kernel, rfl⟩
theorem d_9_put_22 : zD prog_11_method_4_code 22 (.getfield 166) 3 25 := ⟨by decide +kernel, rfl⟩
theorem d_9_put_25 : zD prog_11_method_4_code 25 (.iconst 1) 1 26 := ⟨by decide +kernel, rfl⟩
theorem d_9_put_26 : zD prog_11_method_4_code 26 (.iadd) 1 27 := ⟨by decide +kernel, rfl⟩
theorem d_9_put_27 : zD prog_11_method_4_code 27 (.putfield 166) 3 30 := ⟨by decide +kernel, rfl⟩
theorem d_9_put_30 : zD prog_11_method_4_code 30 (.iinc 2 (-8)) 3 33 := ⟨by decide +kernel, rfl⟩
theorem d_9_put_33 : zD prog_11_method_4_code 33 (.goto (-30)) 3 36 := ⟨by decide +kernel, rfl⟩
theorem d_9_put_36 : zD prog_11_method_4_code 36 (.return_) 1 37 := ⟨by decide +kernel, rfl⟩
theorem d_9_feed_0 : zD prog_11_method_3_code 0 (.aload_n 0) 1 1 := ⟨by decide +kernel, rfl⟩
theorem d_9_feed_1 : zD prog_11_method_3_code 1 (.getfield 166) 3 4 := ⟨by decide +kernel, rfl⟩
theorem d_9_feed_4 : zD prog_11_method_3_code 4 (.bipush 20) 2 6 := ⟨by decide +kernel, rfl⟩
theorem d_9_feed_6 : zD prog_11_method_3_code 6 (.iadd) 1 7 := ⟨by decide +kernel, rfl⟩
theorem d_9_feed_7 : zD prog_11_method_3_code 7 (.sipush 2000) 3 10 := ⟨by decide +kernel, rfl⟩
theorem d_9_feed_10 : zD prog_11_method_3_code 10 (.if_icmp .le 5) 3 13 := ⟨by decide +kernel, rfl⟩
theorem d_9_feed_13 : zD prog_11_method_3_code 13 (.iconst (-1)) 1 14 := ⟨by decide +kernel, rfl⟩
theorem d_9_feed_14 : zD prog_11_method_3_code 14 (.ireturn) 1 15 := ⟨by decide +kernel, rfl⟩
theorem d_9_feed_15 : zD prog_11_method_3_code 15 (.aload_n 0) 1 16 := ⟨by decide +kernel, rfl⟩
theorem d_9_feed_16 : zD prog_11_method_3_code 16 (.iload_n 1) 1 17 := ⟨by decide +kernel, rfl⟩
theorem d_9_feed_17 : zD prog_11_method_3_code 17 (.invokevirtual 169) 3 20 := ⟨by decide +kernel, rfl⟩
theorem d_9_feed_20 : zD prog_11_method_3_code 20 (.aload_n 0) 1 21 := ⟨by decide +kernel, rfl⟩
theorem d_9_feed_21 : zD prog_11_method_3_code 21 (.iload_n 2) 1 22 := ⟨by decide +kernel, rfl⟩
theorem d_9_feed_22 : zD prog_11_method_3_code 22 (.invokevirtual 169) 3 25 := ⟨by decide +kernel, rfl⟩
theorem d_9_feed_25 : zD prog_11_method_3_code 25 (.aload_n 0) 1 26 := ⟨by decide +kernel, rfl⟩
theorem d_9_feed_26 : zD prog_11_method_3_code 26 (.iload_n 3) 1 27 := ⟨by decide +kernel, rfl⟩
theorem d_9_feed_27 : zD prog_11_method_3_code 27 (.invokevirtual 169) 3 30 := ⟨by decide +kernel, rfl⟩
theorem d_9_feed_30 : zD prog_11_method_3_code 30 (.aload_n 0) 1 31 := ⟨by decide +kernel, rfl⟩
theorem d_9_feed_31 : zD prog_11_method_3_code 31 (.iload 4) 2 33 := ⟨by decide +kernel, rfl⟩
theorem d_9_feed_33 : zD prog_11_method_3_code 33 (.invokevirtual 169) 3 36 := ⟨by decide +kernel, rfl⟩
theorem d_9_feed_36 : zD prog_11_method_3_code 36 (.aload_n 0) 1 37 := ⟨by decide +kernel, rfl⟩
theorem d_9_feed_37 : zD prog_11_method_3_code 37 (.iload 5) 2 39 := ⟨by decide +kernel, rfl⟩
theorem d_9_feed_39 : zD prog_11_method_3_code 39 (.invokevirtual 169) 3 42 := ⟨by decide +kernel, rfl⟩
theorem d_9_feed_42 : zD prog_11_method_3_code 42 (.aload_n 0) 1 43 := ⟨by decide +kernel, rfl⟩
theorem d_9_feed_43 : zD prog_11_method_3_code 43 (.getfield 166) 3 46 := ⟨by decide +kernel, rfl⟩
theorem d_9_feed_46 : zD prog_11_method_3_code 46 (.ireturn) 1 47 := ⟨by decide +kernel, rfl⟩
theorem d_9_back_0 : zD prog_11_method_5_code 0 (.iload_n 1) 1 1 := ⟨by decide +kernel, rfl⟩
theorem d_9_back_1 : zD prog_11_method_5_code 1 (.ifCond .lt 11) 3 4 := ⟨by decide +kernel, rfl⟩
theorem d_9_back_4 : zD prog_11_method_5_code 4 (.iload_n 1) 1 5 := ⟨by decide +kernel, rfl⟩
theorem d_9_back_5 : zD prog_11_method_5_code 5 (.aload_n 0) 1 6 := ⟨by decide +kernel, rfl⟩
theorem d_9_back_6 : zD prog_11_method_5_code 6 (.getfield 166) 3 9 := ⟨by decide +kernel, rfl⟩
theorem d_9_back_9 : zD prog_11_method_5_code 9 (.if_icmp .le 5) 3 12 := ⟨by decide +kernel, rfl⟩
theorem d_9_back_12 : zD prog_11_method_5_code 12 (.iconst (-1)) 1 13 := ⟨by decide +kernel, rfl⟩
theorem d_9_back_13 : zD prog_11_method_5_code 13 (.ireturn) 1 14 := ⟨by decide +kernel, rfl⟩
theorem d_9_back_14 : zD prog_11_method_5_code 14 (.aload_n 0) 1 15 := ⟨by decide +kernel, rfl⟩
theorem d_9_back_15 : zD prog_11_method_5_code 15 (.dup) 1 16 := ⟨by decide +kernel, rfl⟩
theorem d_9_back_16 : zD prog_11_method_5_code 16 (.getfield 166) 3 19 := ⟨by decide +kernel, rfl⟩
theorem d_9_back_19 : zD prog_11_method_5_code 19 (.iload_n 1) 1 20 := ⟨by decide +kernel, rfl⟩
theorem d_9_back_20 : zD prog_11_method_5_code 20 (.isub) 1 21 := ⟨by decide +kernel, rfl⟩
theorem d_9_back_21 : zD prog_11_method_5_code 21 (.putfield 166) 3 24 := ⟨by decide +kernel, rfl⟩
theorem d_9_back_24 : zD prog_11_method_5_code 24 (.aload_n 0) 1 25 := ⟨by decide +kernel, rfl⟩
theorem d_9_back_25 : zD prog_11_method_5_code 25 (.getfield 166) 3 28 := ⟨by decide +kernel, rfl⟩
theorem d_9_back_28 : zD prog_11_method_5_code 28 (.ireturn) 1 29 := ⟨by decide +kernel, rfl⟩
theorem d_9_byteAt_0 : zD prog_11_method_6_code 0 (.iload_n 1) 1 1 := ⟨by decide +kernel, rfl⟩
theorem d_9_byteAt_1 : zD prog_11_method_6_code 1 (.aload_n 0) 1 2 := ⟨by decide +kernel, rfl⟩
theorem d_9_byteAt_2 : zD prog_11_method_6_code 2 (.getfield 172) 3 5 := ⟨by decide +kernel, rfl⟩
theorem d_9_byteAt_5 : zD prog_11_method_6_code 5 (.if_icmp .ge 16) 3 8 := ⟨by decide +kernel, rfl⟩
theorem d_9_byteAt_8 : zD prog_11_method_6_code 8 (.aload_n 0) 1 9 := ⟨by decide +kernel, rfl⟩
theorem d_9_byteAt_9 : zD prog_11_method_6_code 9 (.getfield 17) 3 12 := ⟨by decide +kernel, rfl⟩
theorem d_9_byteAt_12 : zD prog_11_method_6_code 12 (.iload_n 1) 1 13 := ⟨by decide +kernel, rfl⟩
theorem d_9_byteAt_13 : zD prog_11_method_6_code 13 (.baload) 1 14 := ⟨by decide +kernel, rfl⟩
theorem d_9_byteAt_14 : zD prog_11_method_6_code 14 (.sipush 255) 3 17 := ⟨by decide +kernel, rfl⟩
theorem d_9_byteAt_17 : zD prog_11_method_6_code 17 (.iand) 1 18 := ⟨by decide +kernel, rfl⟩
theorem d_9_byteAt_18 : zD prog_11_method_6_code 18 (.goto 4) 3 21 := ⟨by decide +kernel, rfl⟩
theorem d_9_byteAt_21 : zD prog_11_method_6_code 21 (.iconst 0) 1 22 := ⟨by decide +kernel, rfl⟩
theorem d_9_byteAt_22 : zD prog_11_method_6_code 22 (.ireturn) 1 23 := ⟨by decide +kernel, rfl⟩
theorem d_9_isDigit_0 : zD prog_11_method_7_code 0 (.iload_n 0) 1 1 := ⟨by decide +kernel, rfl⟩
theorem d_9_isDigit_1 : zD prog_11_method_7_code 1 (.bipush 48) 2 3 := ⟨by decide +kernel, rfl⟩
theorem d_9_isDigit_3 : zD prog_11_method_7_code 3 (.if_icmp .lt 13) 3 6 := ⟨by decide +kernel, rfl⟩
theorem d_9_isDigit_6 : zD prog_11_method_7_code 6 (.iload_n 0) 1 7 := ⟨by decide +kernel, rfl⟩
theorem d_9_isDigit_7 : zD prog_11_method_7_code 7 (.bipush 57) 2 9 := ⟨by decide +kernel, rfl⟩
theorem d_9_isDigit_9 : zD prog_11_method_7_code 9 (.if_icmp .gt 7) 3 12 := ⟨by decide +kernel, rfl⟩
theorem d_9_isDigit_12 : zD prog_11_method_7_code 12 (.iconst 1) 1 13 := ⟨by decide +kernel, rfl⟩
theorem d_9_isDigit_13 : zD prog_11_method_7_code 13 (.goto 4) 3 16 := ⟨by decide +kernel, rfl⟩
theorem d_9_isDigit_16 : zD prog_11_method_7_code 16 (.iconst 0) 1 17 := ⟨by decide +kernel, rfl⟩
theorem d_9_isDigit_17 : zD prog_11_method_7_code 17 (.ireturn) 1 18 := ⟨by decide +kernel, rfl⟩
theorem d_9_isLetter_0 : zD prog_11_method_8_code 0 (.iload_n 0) 1 1 := ⟨by decide +kernel, rfl⟩
theorem d_9_isLetter_1 : zD prog_11_method_8_code 1 (.bipush 97) 2 3 := ⟨by decide +kernel, rfl⟩
theorem d_9_isLetter_3 : zD prog_11_method_8_code 3 (.if_icmp .lt 13) 3 6 := ⟨by decide +kernel, rfl⟩
theorem d_9_isLetter_6 : zD prog_11_method_8_code 6 (.iload_n 0) 1 7 := ⟨by decide +kernel, rfl⟩
theorem d_9_isLetter_7 : zD prog_11_method_8_code 7 (.bipush 122) 2 9 := ⟨by decide +kernel, rfl⟩
theorem d_9_isLetter_9 : zD prog_11_method_8_code 9 (.if_icmp .gt 7) 3 12 := ⟨by decide +kernel, rfl⟩
theorem d_9_isLetter_12 : zD prog_11_method_8_code 12 (.iconst 1) 1 13 := ⟨by decide +kernel, rfl⟩
theorem d_9_isLetter_13 : zD prog_11_method_8_code 13 (.goto 4) 3 16 := ⟨by decide +kernel, rfl⟩
theorem d_9_isLetter_16 : zD prog_11_method_8_code 16 (.iconst 0) 1 17 := ⟨by decide +kernel, rfl⟩
theorem d_9_isLetter_17 : zD prog_11_method_8_code 17 (.ireturn) 1 18 := ⟨by decide +kernel, rfl⟩
theorem d_9_token_0 : zD prog_11_method_11_code 0 (.aload_n 0) 1 1 := ⟨by decide +kernel, rfl⟩
theorem d_9_token_1 : zD prog_11_method_11_code 1 (.getfield 20) 3 4 := ⟨by decide +kernel, rfl⟩
theorem d_9_token_4 : zD prog_11_method_11_code 4 (.aload_n 0) 1 5 := ⟨by decide +kernel, rfl⟩
theorem d_9_token_5 : zD prog_11_method_11_code 5 (.getfield 181) 3 8 := ⟨by decide +kernel, rfl⟩
theorem d_9_token_8 : zD prog_11_method_11_code 8 (.iload_n 1) 1 9 := ⟨by decide +kernel, rfl⟩
theorem d_9_token_9 : zD prog_11_method_11_code 9 (.iastore) 1 10 := ⟨by decide +kernel, rfl⟩
theorem d_9_token_10 : zD prog_11_method_11_code 10 (.aload_n 0) 1 11 := ⟨by decide +kernel, rfl⟩
theorem d_9_token_11 : zD prog_11_method_11_code 11 (.getfield 24) 3 14 := ⟨by decide +kernel, rfl⟩
theorem d_9_token_14 : zD prog_11_method_11_code 14 (.aload_n 0) 1 15 := ⟨by decide +kernel, rfl⟩
theorem d_9_token_15 : zD prog_11_method_11_code 15 (.getfield 181) 3 18 := ⟨by decide +kernel, rfl⟩
theorem d_9_token_18 : zD prog_11_method_11_code 18 (.iload_n 2) 1 19 := ⟨by decide +kernel, rfl⟩
theorem d_9_token_19 : zD prog_11_method_11_code 19 (.iastore) 1 20 := ⟨by decide +kernel, rfl⟩
theorem d_9_token_20 : zD prog_11_method_11_code 20 (.aload_n 0) 1 21 := ⟨by decide +kernel, rfl⟩
theorem d_9_token_21 : zD prog_11_method_11_code 21 (.getfield 27) 3 24 := ⟨by decide +kernel, rfl⟩
theorem d_9_token_24 : zD prog_11_method_11_code 24 (.aload_n 0) 1 25 := ⟨by decide +kernel, rfl⟩
theorem d_9_token_25 : zD prog_11_method_11_code 25 (.getfield 181) 3 28 := ⟨by decide +kernel, rfl⟩
theorem d_9_token_28 : zD prog_11_method_11_code 28 (.iload_n 3) 1 29 := ⟨by decide +kernel, rfl⟩
theorem d_9_token_29 : zD prog_11_method_11_code 29 (.iastore) 1 30 := ⟨by decide +kernel, rfl⟩
theorem d_9_token_30 : zD prog_11_method_11_code 30 (.aload_n 0) 1 31 := ⟨by decide +kernel, rfl⟩
theorem d_9_token_31 : zD prog_11_method_11_code 31 (.getfield 30) 3 34 := ⟨by decide +kernel, rfl⟩
theorem d_9_token_34 : zD prog_11_method_11_code 34 (.aload_n 0) 1 35 := ⟨by decide +kernel, rfl⟩
theorem d_9_token_35 : zD prog_11_method_11_code 35 (.getfield 181) 3 38 := ⟨by decide +kernel, rfl⟩
theorem d_9_token_38 : zD prog_11_method_11_code 38 (.lload 4) 2 40 := ⟨by decide +kernel, rfl⟩
theorem d_9_token_40 : zD prog_11_method_11_code 40 (.lastore) 1 41 := ⟨by decide +kernel, rfl⟩
theorem d_9_token_41 : zD prog_11_method_11_code 41 (.aload_n 0) 1 42 := ⟨by decide +kernel, rfl⟩
theorem d_9_token_42 : zD prog_11_method_11_code 42 (.dup) 1 43 := ⟨by decide +kernel, rfl⟩
theorem d_9_token_43 : zD prog_11_method_11_code 43 (.getfield 181) 3 46 := ⟨by decide +kernel, rfl⟩
theorem d_9_token_46 : zD prog_11_method_11_code 46 (.iconst 1) 1 47 := ⟨by decide +kernel, rfl⟩
theorem d_9_token_47 : zD prog_11_method_11_code 47 (.iadd) 1 48 := ⟨by decide +kernel, rfl⟩
theorem d_9_token_48 : zD prog_11_method_11_code 48 (.putfield 181) 3 51 := ⟨by decide +kernel, rfl⟩
theorem d_9_token_51 : zD prog_11_method_11_code 51 (.return_) 1 52 := ⟨by decide +kernel, rfl⟩
theorem d_9_sign_0 : zD prog_11_method_13_code 0 (.iload_n 2) 1 1 := ⟨by decide +kernel, rfl⟩
theorem d_9_sign_1 : zD prog_11_method_13_code 1 (.bipush 59) 2 3 := ⟨by decide +kernel, rfl⟩
theorem d_9_sign_3 : zD prog_11_method_13_code 3 (.if_icmp .ne 7) 3 6 := ⟨by decide +kernel, rfl⟩
theorem d_9_sign_6 : zD prog_11_method_13_code 6 (.iconst 4) 1 7 := ⟨by decide +kernel, rfl⟩
theorem d_9_sign_7 : zD prog_11_method_13_code 7 (.goto 36) 3 10 := ⟨by decide +kernel, rfl⟩
theorem d_9_sign_10 : zD prog_11_method_13_code 10 (.iload_n 2) 1 11 := ⟨by decide +kernel, rfl⟩
theorem d_9_sign_11 : zD prog_11_method_13_code 11 (.bipush 61) 2 13 := ⟨by decide +kernel, rfl⟩
theorem d_9_sign_13 : zD prog_11_method_13_code 13 (.if_icmp .ne 7) 3 16 := ⟨by decide +kernel, rfl⟩
theorem d_9_sign_16 : zD prog_11_method_13_code 16 (.iconst 5) 1 17 := ⟨by decide +kernel, rfl⟩
theorem d_9_sign_17 : zD prog_11_method_13_code 17 (.goto 26) 3 20 := ⟨by decide +kernel, rfl⟩
theorem d_9_sign_20 : zD prog_11_method_13_code 20 (.iload_n 2) 1 21 := ⟨by decide +kernel, rfl⟩
theorem d_9_sign_21 : zD prog_11_method_13_code 21 (.bipush 40) 2 23 := ⟨by decide +kernel, rfl⟩
theorem d_9_sign_23 : zD prog_11_method_13_code 23 (.if_icmp .ne 8) 3 26 := ⟨by decide +kernel, rfl⟩
theorem d_9_sign_26 : zD prog_11_method_13_code 26 (.bipush 6) 2 28 := ⟨by decide +kernel, rfl⟩
theorem d_9_sign_28 : zD prog_11_method_13_code 28 (.goto 15) 3 31 := ⟨by decide +kernel, rfl⟩
theorem d_9_sign_31 : zD prog_11_method_13_code 31 (.iload_n 2) 1 32 := ⟨by decide +kernel, rfl⟩
theorem d_9_sign_32 : zD prog_11_method_13_code 32 (.bipush 41) 2 34 := ⟨by decide +kernel, rfl⟩
theorem d_9_sign_34 : zD prog_11_method_13_code 34 (.if_icmp .ne 8) 3 37 := ⟨by decide +kernel, rfl⟩
theorem d_9_sign_37 : zD prog_11_method_13_code 37 (.bipush 7) 2 39 := ⟨by decide +kernel, rfl⟩
theorem d_9_sign_39 : zD prog_11_method_13_code 39 (.goto 4) 3 42 := ⟨by decide +kernel, rfl⟩
theorem d_9_sign_42 : zD prog_11_method_13_code 42 (.iconst 3) 1 43 := ⟨by decide +kernel, rfl⟩
theorem d_9_sign_43 : zD prog_11_method_13_code 43 (.istore 4) 2 45 := ⟨by decide +kernel, rfl⟩
theorem d_9_sign_45 : zD prog_11_method_13_code 45 (.iload_n 2) 1 46 := ⟨by decide +kernel, rfl⟩
theorem d_9_sign_46 : zD prog_11_method_13_code 46 (.bipush 43) 2 48 := ⟨by decide +kernel, rfl⟩
theorem d_9_sign_48 : zD prog_11_method_13_code 48 (.if_icmp .ne 7) 3 51 := ⟨by decide +kernel, rfl⟩
theorem d_9_sign_51 : zD prog_11_method_13_code 51 (.bipush 8) 2 53 := ⟨by decide +kernel, rfl⟩
theorem d_9_sign_53 : zD prog_11_method_13_code 53 (.istore 4) 2 55 := ⟨by decide +kernel, rfl⟩
theorem d_9_sign_55 : zD prog_11_method_13_code 55 (.iload_n 2) 1 56 := ⟨by decide +kernel, rfl⟩
theorem d_9_sign_56 : zD prog_11_method_13_code 56 (.bipush 45) 2 58 := ⟨by decide +kernel, rfl⟩
theorem d_9_sign_58 : zD prog_11_method_13_code 58 (.if_icmp .ne 7) 3 61 := ⟨by decide +kernel, rfl⟩
theorem d_9_sign_61 : zD prog_11_method_13_code 61 (.bipush 9) 2 63 := ⟨by decide +kernel, rfl⟩
theorem d_9_sign_63 : zD prog_11_method_13_code 63 (.istore 4) 2 65 := ⟨by decide +kernel, rfl⟩
theorem d_9_sign_65 : zD prog_11_method_13_code 65 (.iload_n 2) 1 66 := ⟨by decide +kernel, rfl⟩
theorem d_9_sign_66 : zD prog_11_method_13_code 66 (.bipush 42) 2 68 := ⟨by decide +kernel, rfl⟩
theorem d_9_sign_68 : zD prog_11_method_13_code 68 (.if_icmp .ne 7) 3 71 := ⟨by decide +kernel, rfl⟩
theorem d_9_sign_71 : zD prog_11_method_13_code 71 (.bipush 10) 2 73 := ⟨by decide +kernel, rfl⟩
theorem d_9_sign_73 : zD prog_11_method_13_code 73 (.istore 4) 2 75 := ⟨by decide +kernel, rfl⟩
theorem d_9_sign_75 : zD prog_11_method_13_code 75 (.iload_n 2) 1 76 := ⟨by decide +kernel, rfl⟩
theorem d_9_sign_76 : zD prog_11_method_13_code 76 (.bipush 47) 2 78 := ⟨by decide +kernel, rfl⟩
theorem d_9_sign_78 : zD prog_11_method_13_code 78 (.if_icmp .ne 7) 3 81 := ⟨by decide +kernel, rfl⟩
theorem d_9_sign_81 : zD prog_11_method_13_code 81 (.bipush 15) 2 83 := ⟨by decide +kernel, rfl⟩
theorem d_9_sign_83 : zD prog_11_method_13_code 83 (.istore 4) 2 85 := ⟨by decide +kernel, rfl⟩
theorem d_9_sign_85 : zD prog_11_method_13_code 85 (.iload_n 2) 1 86 := ⟨by decide +kernel, rfl⟩
theorem d_9_sign_86 : zD prog_11_method_13_code 86 (.bipush 60) 2 88 := ⟨by decide +kernel, rfl⟩
theorem d_9_sign_88 : zD prog_11_method_13_code 88 (.if_icmp .ne 7) 3 91 := ⟨by decide +kernel, rfl⟩
theorem d_9_sign_91 : zD prog_11_method_13_code 91 (.bipush 13) 2 93 := ⟨by decide +kernel, rfl⟩
theorem d_9_sign_93 : zD prog_11_method_13_code 93 (.istore 4) 2 95 := ⟨by decide +kernel, rfl⟩
theorem d_9_sign_95 : zD prog_11_method_13_code 95 (.aload_n 0) 1 96 := ⟨by decide +kernel, rfl⟩
theorem d_9_sign_96 : zD prog_11_method_13_code 96 (.iload 4) 2 98 := ⟨by decide +kernel, rfl⟩
theorem d_9_sign_98 : zD prog_11_method_13_code 98 (.iload_n 1) 1 99 := ⟨by decide +kernel, rfl⟩
theorem d_9_sign_99 : zD prog_11_method_13_code 99 (.iconst 0) 1 100 := ⟨by decide +kernel, rfl⟩
theorem d_9_sign_100 : zD prog_11_method_13_code 100 (.lconst 0) 1 101 := ⟨by decide +kernel, rfl⟩
theorem d_9_sign_101 : zD prog_11_method_13_code 101 (.invokevirtual 188) 3 104 := ⟨by decide +kernel, rfl⟩
theorem d_9_sign_104 : zD prog_11_method_13_code 104 (.iconst 1) 1 105 := ⟨by decide +kernel, rfl⟩
theorem d_9_sign_105 : zD prog_11_method_13_code 105 (.ireturn) 1 106 := ⟨by decide +kernel, rfl⟩
theorem d_9_cut_0 : zD prog_11_method_12_code 0 (.aload_n 0) 1 1 := ⟨by decide +kernel, rfl⟩
theorem d_9_cut_1 : zD prog_11_method_12_code 1 (.iconst 0) 1 2 := ⟨by decide +kernel, rfl⟩
theorem d_9_cut_2 : zD prog_11_method_12_code 2 (.putfield 181) 3 5 := ⟨by decide +kernel, rfl⟩
theorem d_9_cut_5 : zD prog_11_method_12_code 5 (.iconst 0) 1 6 := ⟨by decide +kernel, rfl⟩
theorem d_9_cut_6 : zD prog_11_method_12_code 6 (.istore_n 1) 1 7 := ⟨by decide +kernel, rfl⟩
theorem d_9_cut_7 : zD prog_11_method_12_code 7 (.aload_n 0) 1 8 := ⟨by decide +kernel, rfl⟩
theorem d_9_cut_8 : zD prog_11_method_12_code 8 (.getfield 181) 3 11 := ⟨by decide +kernel, rfl⟩
theorem d_9_cut_11 : zD prog_11_method_12_code 11 (.sipush 400) 3 14 := ⟨by decide +kernel, rfl⟩
theorem d_9_cut_14 : zD prog_11_method_12_code 14 (.if_icmp .gt 280) 3 17 := ⟨by decide +kernel, rfl⟩
theorem d_9_cut_17 : zD prog_11_method_12_code 17 (.aload_n 0) 1 18 := ⟨by decide +kernel, rfl⟩
theorem d_9_cut_18 : zD prog_11_method_12_code 18 (.iload_n 1) 1 19 := ⟨by decide +kernel, rfl⟩
theorem d_9_cut_19 : zD prog_11_method_12_code 19 (.invokevirtual 184) 3 22 := ⟨by decide +kernel, rfl⟩
theorem d_9_cut_22 : zD prog_11_method_12_code 22 (.istore_n 2) 1 23 := ⟨by decide +kernel, rfl⟩
theorem d_9_cut_23 : zD prog_11_method_12_code 23 (.iload_n 1) 1 24 := ⟨by decide +kernel, rfl⟩
theorem d_9_cut_24 : zD prog_11_method_12_code 24 (.aload_n 0) 1 25 := ⟨by decide +kernel, rfl⟩
theorem d_9_cut_25 : zD prog_11_method_12_code 25 (.getfield 172) 3 28 := ⟨by decide +kernel, rfl⟩
theorem d_9_cut_28 : zD prog_11_method_12_code 28 (.if_icmp .lt 15) 3 31 := ⟨by decide +kernel, rfl⟩
theorem d_9_cut_31 : zD prog_11_method_12_code 31 (.aload_n 0) 1 32 := ⟨by decide +kernel, rfl⟩
theorem d_9_cut_32 : zD prog_11_method_12_code 32 (.iconst 0) 1 33 := ⟨by decide +kernel, rfl⟩
theorem d_9_cut_33 : zD prog_11_method_12_code 33 (.aload_n 0) 1 34 := ⟨by decide +kernel, rfl⟩
theorem d_9_cut_34 : zD prog_11_method_12_code 34 (.getfield 172) 3 37 := ⟨by decide +kernel, rfl⟩
theorem d_9_cut_37 : zD prog_11_method_12_code 37 (.iconst 0) 1 38 := ⟨by decide +kernel, rfl⟩
theorem d_9_cut_38 : zD prog_11_method_12_code 38 (.lconst 0) 1 39 := ⟨by decide +kernel, rfl⟩
theorem d_9_cut_39 : zD prog_11_method_12_code 39 (.invokevirtual 188) 3 42 := ⟨by decide +kernel, rfl⟩
theorem d_9_cut_42 : zD prog_11_method_12_code 42 (.return_) 1 43 := ⟨by decide +kernel, rfl⟩
theorem d_9_cut_43 : zD prog_11_method_12_code 43 (.iload_n 2) 1 44 := ⟨by decide +kernel, rfl⟩
theorem d_9_cut_44 : zD prog_11_method_12_code 44 (.bipush 9) 2 46 := ⟨by decide +kernel, rfl⟩
theorem d_9_cut_46 : zD prog_11_method_12_code 46 (.if_icmp .eq 21) 3 49 := ⟨by decide +kernel, rfl⟩
theorem d_9_cut_49 : zD prog_11_method_12_code 49 (.iload_n 2) 1 50 := ⟨by decide +kernel, rfl⟩
theorem d_9_cut_50 : zD prog_11_method_12_code 50 (.bipush 10) 2 52 := ⟨by decide +kernel, rfl⟩
theorem d_9_cut_52 : zD prog_11_method_12_code 52 (.if_icmp .eq 15) 3 55 := ⟨by decide +kernel, rfl⟩
theorem d_9_cut_55 : zD prog_11_method_12_code 55 (.iload_n 2) 1 56 := ⟨by decide +kernel, rfl⟩
theorem d_9_cut_56 : zD prog_11_method_12_code 56 (.bipush 13) 2 58 := ⟨by decide +kernel, rfl⟩
theorem d_9_cut_58 : zD prog_11_method_12_code 58 (.if_icmp .eq 9) 3 61 := ⟨by decide +kernel, rfl⟩
theorem d_9_cut_61 : zD prog_11_method_12_code 61 (.iload_n 2) 1 62 := ⟨by decide +kernel, rfl⟩
theorem d_9_cut_62 : zD prog_11_method_12_code 62 (.bipush 32) 2 64 := ⟨by decide +kernel, rfl⟩
theorem d_9_cut_64 : zD prog_11_method_12_code 64 (.if_icmp .ne 9) 3 67 := ⟨by decide +kernel, rfl⟩
theorem d_9_cut_67 : zD prog_11_method_12_code 67 (.iinc 1 1) 3 70 := ⟨by decide +kernel, rfl⟩
theorem d_9_cut_70 : zD prog_11_method_12_code 70 (.goto 221) 3 73 := ⟨by decide +kernel, rfl⟩
theorem d_9_cut_73 : zD prog_11_method_12_code 73 (.iload_n 2) 1 74 := ⟨by decide +kernel, rfl⟩
theorem d_9_cut_74 : zD prog_11_method_12_code 74 (.invokestatic 192) 3 77 := ⟨by decide +kernel, rfl⟩
theorem d_9_cut_77 : zD prog_11_method_12_code 77 (.ifCond .eq 119) 3 80 := ⟨by decide +kernel, rfl⟩
theorem d_9_cut_80 : zD prog_11_method_12_code 80 (.iconst 0) 1 81 := ⟨by decide +kernel, rfl⟩
theorem d_9_cut_81 : zD prog_11_method_12_code 81 (.istore_n 3) 1 82 := ⟨by decide +kernel, rfl⟩
theorem d_9_cut_82 : zD prog_11_method_12_code 82 (.lconst 0) 1 83 := ⟨by decide +kernel, rfl⟩
theorem d_9_cut_83 : zD prog_11_method_12_code 83 (.lstore 4) 2 85 := ⟨by decide +kernel, rfl⟩
theorem d_9_cut_85 : zD prog_11_method_12_code 85 (.aload_n 0) 1 86 := ⟨by decide +kernel, rfl⟩
theorem d_9_cut_86 : zD prog_11_method_12_code 86 (.iload_n 1) 1 87 := ⟨by decide +kernel, rfl⟩
theorem d_9_cut_87 : zD prog_11_method_12_code 87 (.iload_n 3) 1 88 := ⟨by decide +kernel, rfl⟩
theorem d_9_cut_88 : zD prog_11_method_12_code 88 (.iadd) 1 89 := ⟨by decide +kernel, rfl⟩
theorem d_9_cut_89 : zD prog_11_method_12_code 89 (.invokevirtual 184) 3 92 := ⟨by decide +kernel, rfl⟩
theorem d_9_cut_92 : zD prog_11_method_12_code 92 (.invokestatic 192) 3 95 := ⟨by decide +kernel, rfl⟩
theorem d_9_cut_95 : zD prog_11_method_12_code 95 (.ifCond .eq 29) 3 98 := ⟨by decide +kernel, rfl⟩
theorem d_9_cut_98 : zD prog_11_method_12_code 98 (.iload_n 3) 1 99 := ⟨by decide +kernel, rfl⟩
theorem d_9_cut_99 : zD prog_11_method_12_code 99 (.bipush 8) 2 101 := ⟨by decide +kernel, rfl⟩
theorem d_9_cut_101 : zD prog_11_method_12_code 101 (.if_icmp .ge 17) 3 104 := ⟨by decide +kernel, rfl⟩
theorem d_9_cut_104 : zD prog_11_method_12_code 104 (.lload 4) 2 106 := ⟨by decide +kernel, rfl⟩
theorem d_9_cut_106 : zD prog_11_method_12_code 106 (.aload_n 0) 1 107 := ⟨by decide +kernel, rfl⟩
theorem d_9_cut_107 : zD prog_11_method_12_code 107 (.iload_n 1) 1 108 := ⟨by decide +kernel, rfl⟩
theorem d_9_cut_108 : zD prog_11_method_12_code 108 (.iload_n 3) 1 109 := ⟨by decide +kernel, rfl⟩
theorem d_9_cut_109 : zD prog_11_method_12_code 109 (.iadd) 1 110 := ⟨by decide +kernel, rfl⟩
theorem d_9_cut_110 : zD prog_11_method_12_code 110 (.invokevirtual 184) 3 113 := ⟨by decide +kernel, rfl⟩
theorem d_9_cut_113 : zD prog_11_method_12_code 113 (.invokestatic 177) 3 116 := ⟨by decide +kernel, rfl⟩
theorem d_9_cut_116 : zD prog_11_method_12_code 116 (.lstore 4) 2 118 := ⟨by decide +kernel, rfl⟩
theorem d_9_cut_118 : zD prog_11_method_12_code 118 (.iinc 3 1) 3 121 := ⟨by decide +kernel, rfl⟩
theorem d_9_cut_121 : zD prog_11_method_12_code 121 (.goto (-36)) 3 124 := ⟨by decide +kernel, rfl⟩
theorem d_9_cut_124 : zD prog_11_method_12_code 124 (.iload_n 3) 1 125 := ⟨by decide +kernel, rfl⟩
theorem d_9_cut_125 : zD prog_11_method_12_code 125 (.bipush 8) 2 127 := ⟨by decide +kernel, rfl⟩
theorem d_9_cut_127 : zD prog_11_method_12_code 127 (.if_icmp .le 7) 3 130 := ⟨by decide +kernel, rfl⟩
theorem d_9_cut_130 : zD prog_11_method_12_code 130 (.iconst 3) 1 131 := ⟨by decide +kernel, rfl⟩
theorem d_9_cut_131 : zD prog_11_method_12_code 131 (.goto 4) 3 134 := ⟨by decide +kernel, rfl⟩
theorem d_9_cut_134 : zD prog_11_method_12_code 134 (.iconst 1) 1 135 := ⟨by decide +kernel, rfl⟩
theorem d_9_cut_135 : zD prog_11_method_12_code 135 (.istore 6) 2 137 := ⟨by decide +kernel, rfl⟩
theorem d_9_cut_137 : zD prog_11_method_12_code 137 (.iload_n 3) 1 138 := ⟨by decide +kernel, rfl⟩
theorem d_9_cut_138 : zD prog_11_method_12_code 138 (.bipush 8) 2 140 := ⟨by decide +kernel, rfl⟩
theorem d_9_cut_140 : zD prog_11_method_12_code 140 (.if_icmp .gt 39) 3 143 := ⟨by decide +kernel, rfl⟩
theorem d_9_cut_143 : zD prog_11_method_12_code 143 (.iconst 0) 1 144 := ⟨by decide +kernel, rfl⟩
theorem d_9_cut_144 : zD prog_11_method_12_code 144 (.istore 7) 2 146 := ⟨by decide +kernel, rfl⟩
theorem d_9_cut_146 : zD prog_11_method_12_code 146 (.iload 7) 2 148 := ⟨by decide +kernel, rfl⟩
theorem d_9_cut_148 : zD prog_11_method_12_code 148 (.bipush 21) 2 150 := ⟨by decide +kernel, rfl⟩
theorem d_9_cut_150 : zD prog_11_method_12_code 150 (.if_icmp .ge 29) 3 153 := ⟨by decide +kernel, rfl⟩
theorem d_9_cut_153 : zD prog_11_method_12_code 153 (.aload_n 0) 1 154 := ⟨by decide +kernel, rfl⟩
theorem d_9_cut_154 : zD prog_11_method_12_code 154 (.getfield 34) 3 157 := ⟨by decide +kernel, rfl⟩
theorem d_9_cut_157 : zD prog_11_method_12_code 157 (.iload 7) 2 159 := ⟨by decide +kernel, rfl⟩
theorem d_9_cut_159 : zD prog_11_method_12_code 159 (.laload) 1 160 := ⟨by decide +kernel, rfl⟩
theorem d_9_cut_160 : zD prog_11_method_12_code 160 (.lload 4) 2 162 := ⟨by decide +kernel, rfl⟩
theorem d_9_cut_162 : zD prog_11_method_12_code 162 (.lcmp) 1 163 := ⟨by decide +kernel, rfl⟩
theorem d_9_cut_163 : zD prog_11_method_12_code 163 (.ifCond .ne 10) 3 166 := ⟨by decide +kernel, rfl⟩
theorem d_9_cut_166 : zD prog_11_method_12_code 166 (.bipush 20) 2 168 := ⟨by decide +kernel, rfl⟩
theorem d_9_cut_168 : zD prog_11_method_12_code 168 (.iload 7) 2 170 := ⟨by decide +kernel, rfl⟩
theorem d_9_cut_170 : zD prog_11_method_12_code 170 (.iadd) 1 171 := ⟨by decide +kernel, rfl⟩
theorem d_9_cut_171 : zD prog_11_method_12_code 171 (.istore 6) 2 173 := ⟨by decide +kernel, rfl⟩
theorem d_9_cut_173 : zD prog_11_method_12_code 173 (.iinc 7 1) 3 176 := ⟨by decide +kernel, rfl⟩
theorem d_9_cut_176 : zD prog_11_method_12_code 176 (.goto (-30)) 3 179 := ⟨by decide +kernel, rfl⟩
theorem d_9_cut_179 : zD prog_11_method_12_code 179 (.aload_n 0) 1 180 := ⟨by decide +kernel, rfl⟩
theorem d_9_cut_180 : zD prog_11_method_12_code 180 (.iload 6) 2 182 := ⟨by decide +kernel, rfl⟩
theorem d_9_cut_182 : zD prog_11_method_12_code 182 (.iload_n 1) 1 183 := ⟨by decide +kernel, rfl⟩
theorem d_9_cut_183 : zD prog_11_method_12_code 183 (.iconst 0) 1 184 := ⟨by decide +kernel, rfl⟩
theorem d_9_cut_184 : zD prog_11_method_12_code 184 (.lload 4) 2 186 := ⟨by decide +kernel, rfl⟩
theorem d_9_cut_186 : zD prog_11_method_12_code 186 (.invokevirtual 188) 3 189 := ⟨by decide +kernel, rfl⟩
theorem d_9_cut_189 : zD prog_11_method_12_code 189 (.iload_n 1) 1 190 := ⟨by decide +kernel, rfl⟩
theorem d_9_cut_190 : zD prog_11_method_12_code 190 (.iload_n 3) 1 191 := ⟨by decide +kernel, rfl⟩
theorem d_9_cut_191 : zD prog_11_method_12_code 191 (.iadd) 1 192 := ⟨by decide +kernel, rfl⟩
theorem d_9_cut_192 : zD prog_11_method_12_code 192 (.istore_n 1) 1 193 := ⟨by decide +kernel, rfl⟩
theorem d_9_cut_193 : zD prog_11_method_12_code 193 (.goto 98) 3 196 := ⟨by decide +kernel, rfl⟩
theorem d_9_cut_196 : zD prog_11_method_12_code 196 (.iload_n 2) 1 197 := ⟨by decide +kernel, rfl⟩
theorem d_9_cut_197 : zD prog_11_method_12_code 197 (.invokestatic 196) 3 200 := ⟨by decide +kernel, rfl⟩
theorem d_9_cut_200 : zD prog_11_method_12_code 200 (.ifCond .eq 75) 3 203 := ⟨by decide +kernel, rfl⟩
theorem d_9_cut_203 : zD prog_11_method_12_code 203 (.iconst 0) 1 204 := ⟨by decide +kernel, rfl⟩
theorem d_9_cut_204 : zD prog_11_method_12_code 204 (.istore_n 3) 1 205 := ⟨by decide +kernel, rfl⟩
theorem d_9_cut_205 : zD prog_11_method_12_code 205 (.iconst 0) 1 206 := ⟨by decide +kernel, rfl⟩
theorem d_9_cut_206 : zD prog_11_method_12_code 206 (.istore 4) 2 208 := ⟨by decide +kernel, rfl⟩
theorem d_9_cut_208 : zD prog_11_method_12_code 208 (.aload_n 0) 1 209 := ⟨by decide +kernel, rfl⟩
theorem d_9_cut_209 : zD prog_11_method_12_code 209 (.iload_n 1) 1 210 := ⟨by decide +kernel, rfl⟩
theorem d_9_cut_210 : zD prog_11_method_12_code 210 (.iload_n 3) 1 211 := ⟨by decide +kernel, rfl⟩
theorem d_9_cut_211 : zD prog_11_method_12_code 211 (.iadd) 1 212 := ⟨by decide +kernel, rfl⟩
theorem d_9_cut_212 : zD prog_11_method_12_code 212 (.invokevirtual 184) 3 215 := ⟨by decide +kernel, rfl⟩
theorem d_9_cut_215 : zD prog_11_method_12_code 215 (.invokestatic 196) 3 218 := ⟨by decide +kernel, rfl⟩
theorem d_9_cut_218 : zD prog_11_method_12_code 218 (.ifCond .eq 32) 3 221 := ⟨by decide +kernel, rfl⟩
theorem d_9_cut_221 : zD prog_11_method_12_code 221 (.iload_n 3) 1 222 := ⟨by decide +kernel, rfl⟩
theorem d_9_cut_222 : zD prog_11_method_12_code 222 (.iconst 4) 1 223 := ⟨by decide +kernel, rfl⟩
theorem d_9_cut_223 : zD prog_11_method_12_code 223 (.if_icmp .ge 21) 3 226 := ⟨by decide +kernel, rfl⟩
theorem d_9_cut_226 : zD prog_11_method_12_code 226 (.bipush 10) 2 228 := ⟨by decide +kernel, rfl⟩
theorem d_9_cut_228 : zD prog_11_method_12_code 228 (.iload 4) 2 230 := ⟨by decide +kernel, rfl⟩
theorem d_9_cut_230 : zD prog_11_method_12_code 230 (.imul) 1 231 := ⟨by decide +kernel, rfl⟩
theorem d_9_cut_231 : zD prog_11_method_12_code 231 (.aload_n 0) 1 232 := ⟨by decide +kernel, rfl⟩
theorem d_9_cut_232 : zD prog_11_method_12_code 232 (.iload_n 1) 1 233 := ⟨by decide +kernel, rfl⟩
theorem d_9_cut_233 : zD prog_11_method_12_code 233 (.iload_n 3) 1 234 := ⟨by decide +kernel, rfl⟩
theorem d_9_cut_234 : zD prog_11_method_12_code 234 (.iadd) 1 235 := ⟨by decide +kernel, rfl⟩
theorem d_9_cut_235 : zD prog_11_method_12_code 235 (.invokevirtual 184) 3 238 := ⟨by decide +kernel, rfl⟩
theorem d_9_cut_238 : zD prog_11_method_12_code 238 (.iadd) 1 239 := ⟨by decide +kernel, rfl⟩
theorem d_9_cut_239 : zD prog_11_method_12_code 239 (.bipush 48) 2 241 := ⟨by decide +kernel, rfl⟩
theorem d_9_cut_241 : zD prog_11_method_12_code 241 (.isub) 1 242 := ⟨by decide +kernel, rfl⟩
theorem d_9_cut_242 : zD prog_11_method_12_code 242 (.istore 4) 2 244 := ⟨by decide +kernel, rfl⟩
theorem d_9_cut_244 : zD prog_11_method_12_code 244 (.iinc 3 1) 3 247 := ⟨by decide +kernel, rfl⟩
theorem d_9_cut_247 : zD prog_11_method_12_code 247 (.goto (-39)) 3 250 := ⟨by decide +kernel, rfl⟩
theorem d_9_cut_250 : zD prog_11_method_12_code 250 (.aload_n 0) 1 251 := ⟨by decide +kernel, rfl⟩
theorem d_9_cut_251 : zD prog_11_method_12_code 251 (.iload_n 3) 1 252 := ⟨by decide +kernel, rfl⟩
theorem d_9_cut_252 : zD prog_11_method_12_code 252 (.iconst 4) 1 253 := ⟨by decide +kernel, rfl⟩
theorem d_9_cut_253 : zD prog_11_method_12_code 253 (.if_icmp .le 7) 3 256 := ⟨by decide +kernel, rfl⟩
theorem d_9_cut_256 : zD prog_11_method_12_code 256 (.iconst 3) 1 257 := ⟨by decide +kernel, rfl⟩
theorem d_9_cut_257 : zD prog_11_method_12_code 257 (.goto 4) 3 260 := ⟨by decide +kernel, rfl⟩
theorem d_9_cut_260 : zD prog_11_method_12_code 260 (.iconst 2) 1 261 := ⟨by decide +kernel, rfl⟩
theorem d_9_cut_261 : zD prog_11_method_12_code 261 (.iload_n 1) 1 262 := ⟨by decide +kernel, rfl⟩
theorem d_9_cut_262 : zD prog_11_method_12_code 262 (.iload 4) 2 264 := ⟨by decide +kernel, rfl⟩
theorem d_9_cut_264 : zD prog_11_method_12_code 264 (.lconst 0) 1 265 := ⟨by decide +kernel, rfl⟩
theorem d_9_cut_265 : zD prog_11_method_12_code 265 (.invokevirtual 188) 3 268 := ⟨by decide +kernel, rfl⟩
theorem d_9_cut_268 : zD prog_11_method_12_code 268 (.iload_n 1) 1 269 := ⟨by decide +kernel, rfl⟩
theorem d_9_cut_269 : zD prog_11_method_12_code 269 (.iload_n 3) 1 270 := ⟨by decide +kernel, rfl⟩
theorem d_9_cut_270 : zD prog_11_method_12_code 270 (.iadd) 1 271 := ⟨by decide +kernel, rfl⟩
theorem d_9_cut_271 : zD prog_11_method_12_code 271 (.istore_n 1) 1 272 := ⟨by decide +kernel, rfl⟩
theorem d_9_cut_272 : zD prog_11_method_12_code 272 (.goto 19) 3 275 := ⟨by decide +kernel, rfl⟩
theorem d_9_cut_275 : zD prog_11_method_12_code 275 (.iload_n 1) 1 276 := ⟨by decide +kernel, rfl⟩
theorem d_9_cut_276 : zD prog_11_method_12_code 276 (.aload_n 0) 1 277 := ⟨by decide +kernel, rfl⟩
theorem d_9_cut_277 : zD prog_11_method_12_code 277 (.iload_n 1) 1 278 := ⟨by decide +kernel, rfl⟩
theorem d_9_cut_278 : zD prog_11_method_12_code 278 (.iload_n 2) 1 279 := ⟨by decide +kernel, rfl⟩
theorem d_9_cut_279 : zD prog_11_method_12_code 279 (.aload_n 0) 1 280 := ⟨by decide +kernel, rfl⟩
theorem d_9_cut_280 : zD prog_11_method_12_code 280 (.iload_n 1) 1 281 := ⟨by decide +kernel, rfl⟩
theorem d_9_cut_281 : zD prog_11_method_12_code 281 (.iconst 1) 1 282 := ⟨by decide +kernel, rfl⟩
theorem d_9_cut_282 : zD prog_11_method_12_code 282 (.iadd) 1 283 := ⟨by decide +kernel, rfl⟩
theorem d_9_cut_283 : zD prog_11_method_12_code 283 (.invokevirtual 184) 3 286 := ⟨by decide +kernel, rfl⟩
theorem d_9_cut_286 : zD prog_11_method_12_code 286 (.invokevirtual 199) 3 289 := ⟨by decide +kernel, rfl⟩
theorem d_9_cut_289 : zD prog_11_method_12_code 289 (.iadd) 1 290 := ⟨by decide +kernel, rfl⟩
theorem d_9_cut_290 : zD prog_11_method_12_code 290 (.istore_n 1) 1 291 := ⟨by decide +kernel, rfl⟩
theorem d_9_cut_291 : zD prog_11_method_12_code 291 (.goto (-284)) 3 294 := ⟨by decide +kernel, rfl⟩
theorem d_9_cut_294 : zD prog_11_method_12_code 294 (.return_) 1 295 := ⟨by decide +kernel, rfl⟩
theorem d_9_is_0 : zD prog_11_method_14_code 0 (.aload_n 0) 1 1 := ⟨by decide +kernel, rfl⟩
theorem d_9_is_1 : zD prog_11_method_14_code 1 (.getfield 203) 3 4 := ⟨by decide +kernel, rfl⟩
theorem d_9_is_4 : zD prog_11_method_14_code 4 (.ifCond .ne 20) 3 7 := ⟨by decide +kernel, rfl⟩
theorem d_9_is_7 : zD prog_11_method_14_code 7 (.aload_n 0) 1 8 := ⟨by decide +kernel, rfl⟩
theorem d_9_is_8 : zD prog_11_method_14_code 8 (.getfield 20) 3 11 := ⟨by decide +kernel, rfl⟩
theorem d_9_is_11 : zD prog_11_method_14_code 11 (.aload_n 0) 1 12 := ⟨by decide +kernel, rfl⟩
theorem d_9_is_12 : zD prog_11_method_14_code 12 (.getfield 206) 3 15 := ⟨by decide +kernel, rfl⟩
theorem d_9_is_15 : zD prog_11_method_14_code 15 (.iaload) 1 16 := ⟨by decide +kernel, rfl⟩
theorem d_9_is_16 : zD prog_11_method_14_code 16 (.iload_n 1) 1 17 := ⟨by decide +kernel, rfl⟩
theorem d_9_is_17 : zD prog_11_method_14_code 17 (.if_icmp .ne 7) 3 20 := ⟨by decide +kernel, rfl⟩
theorem d_9_is_20 : zD prog_11_method_14_code 20 (.iconst 1) 1 21 := ⟨by decide +kernel, rfl⟩
theorem d_9_is_21 : zD prog_11_method_14_code 21 (.goto 4) 3 24 := ⟨by decide +kernel, rfl⟩
theorem d_9_is_24 : zD prog_11_method_14_code 24 (.iconst 0) 1 25 := ⟨by decide +kernel, rfl⟩
theorem d_9_is_25 : zD prog_11_method_14_code 25 (.ireturn) 1 26 := ⟨by decide +kernel, rfl⟩
theorem d_9_fail_0 : zD prog_11_method_15_code 0 (.aload_n 0) 1 1 := ⟨by decide +kernel, rfl⟩
theorem d_9_fail_1 : zD prog_11_method_15_code 1 (.getfield 203) 3 4 := ⟨by decide +kernel, rfl⟩
theorem d_9_fail_4 : zD prog_11_method_15_code 4 (.ifCond .le 4) 3 7 := ⟨by decide +kernel, rfl⟩
theorem d_9_fail_7 : zD prog_11_method_15_code 7 (.return_) 1 8 := ⟨by decide +kernel, rfl⟩
theorem d_9_fail_8 : zD prog_11_method_15_code 8 (.aload_n 0) 1 9 := ⟨by decide +kernel, rfl⟩
theorem d_9_fail_9 : zD prog_11_method_15_code 9 (.iload_n 1) 1 10 := ⟨by decide +kernel, rfl⟩
theorem d_9_fail_10 : zD prog_11_method_15_code 10 (.putfield 203) 3 13 := ⟨by decide +kernel, rfl⟩
theorem d_9_fail_13 : zD prog_11_method_15_code 13 (.aload_n 0) 1 14 := ⟨by decide +kernel, rfl⟩
theorem d_9_fail_14 : zD prog_11_method_15_code 14 (.aload_n 0) 1 15 := ⟨by decide +kernel, rfl⟩
theorem d_9_fail_15 : zD prog_11_method_15_code 15 (.getfield 24) 3 18 := ⟨by decide +kernel, rfl⟩
theorem d_9_fail_18 : zD prog_11_method_15_code 18 (.aload_n 0) 1 19 := ⟨by decide +kernel, rfl⟩
theorem d_9_fail_19 : zD prog_11_method_15_code 19 (.getfield 206) 3 22 := ⟨by decide +kernel, rfl⟩
theorem d_9_fail_22 : zD prog_11_method_15_code 22 (.iaload) 1 23 := ⟨by decide +kernel, rfl⟩
theorem d_9_fail_23 : zD prog_11_method_15_code 23 (.putfield 209) 3 26 := ⟨by decide +kernel, rfl⟩
theorem d_9_fail_26 : zD prog_11_method_15_code 26 (.return_) 1 27 := ⟨by decide +kernel, rfl⟩
theorem d_9_wrong_0 : zD prog_11_method_16_code 0 (.aload_n 0) 1 1 := ⟨by decide +kernel, rfl⟩
theorem d_9_wrong_1 : zD prog_11_method_16_code 1 (.getfield 24) 3 4 := ⟨by decide +kernel, rfl⟩
theorem d_9_wrong_4 : zD prog_11_method_16_code 4 (.iload_n 2) 1 5 := ⟨by decide +kernel, rfl⟩
theorem d_9_wrong_5 : zD prog_11_method_16_code 5 (.iaload) 1 6 := ⟨by decide +kernel, rfl⟩
theorem d_9_wrong_6 : zD prog_11_method_16_code 6 (.istore_n 3) 1 7 := ⟨by decide +kernel, rfl⟩
theorem d_9_wrong_7 : zD prog_11_method_16_code 7 (.aload_n 0) 1 8 := ⟨by decide +kernel, rfl⟩
theorem d_9_wrong_8 : zD prog_11_method_16_code 8 (.getfield 203) 3 11 := ⟨by decide +kernel, rfl⟩
theorem d_9_wrong_11 : zD prog_11_method_16_code 11 (.ifCond .gt 34) 3 14 := ⟨by decide +kernel, rfl⟩
theorem d_9_wrong_14 : zD prog_11_method_16_code 14 (.aload_n 0) 1 15 := ⟨by decide +kernel, rfl⟩
theorem d_9_wrong_15 : zD prog_11_method_16_code 15 (.getfield 212) 3 18 := ⟨by decide +kernel, rfl⟩
theorem d_9_wrong_18 : zD prog_11_method_16_code 18 (.ifCond .eq 28) 3 21 := ⟨by decide +kernel, rfl⟩
theorem d_9_wrong_21 : zD prog_11_method_16_code 21 (.iload_n 3) 1 22 := ⟨by decide +kernel, rfl⟩
theorem d_9_wrong_22 : zD prog_11_method_16_code 22 (.aload_n 0) 1 23 := ⟨by decide +kernel, rfl⟩
theorem d_9_wrong_23 : zD prog_11_method_16_code 23 (.getfield 215) 3 26 := ⟨by decide +kernel, rfl⟩
theorem d_9_wrong_26 : zD prog_11_method_16_code 26 (.if_icmp .gt 19) 3 29 := ⟨by decide +kernel, rfl⟩
theorem d_9_wrong_29 : zD prog_11_method_16_code 29 (.iload_n 3) 1 30 := ⟨by decide +kernel, rfl⟩
theorem d_9_wrong_30 : zD prog_11_method_16_code 30 (.aload_n 0) 1 31 := ⟨by decide +kernel, rfl⟩
theorem d_9_wrong_31 : zD prog_11_method_16_code 31 (.getfield 215) 3 34 := ⟨by decide +kernel, rfl⟩
theorem d_9_wrong_34 : zD prog_11_method_16_code 34 (.if_icmp .ne 12) 3 37 := ⟨by decide +kernel, rfl⟩
theorem d_9_wrong_37 : zD prog_11_method_16_code 37 (.iload_n 1) 1 38 := ⟨by decide +kernel, rfl⟩
theorem d_9_wrong_38 : zD prog_11_method_16_code 38 (.aload_n 0) 1 39 := ⟨by decide +kernel, rfl⟩
theorem d_9_wrong_39 : zD prog_11_method_16_code 39 (.getfield 212) 3 42 := ⟨by decide +kernel, rfl⟩
theorem d_9_wrong_42 : zD prog_11_method_16_code 42 (.if_icmp .lt 4) 3 45 := ⟨by decide +kernel, rfl⟩
theorem d_9_wrong_45 : zD prog_11_method_16_code 45 (.return_) 1 46 := ⟨by decide +kernel, rfl⟩
theorem d_9_wrong_46 : zD prog_11_method_16_code 46 (.aload_n 0) 1 47 := ⟨by decide +kernel, rfl⟩
theorem d_9_wrong_47 : zD prog_11_method_16_code 47 (.iload_n 1) 1 48 := ⟨by decide +kernel, rfl⟩
theorem d_9_wrong_48 : zD prog_11_method_16_code 48 (.putfield 212) 3 51 := ⟨by decide +kernel, rfl⟩
theorem d_9_wrong_51 : zD prog_11_method_16_code 51 (.aload_n 0) 1 52 := ⟨by decide +kernel, rfl⟩
theorem d_9_wrong_52 : zD prog_11_method_16_code 52 (.iload_n 3) 1 53 := ⟨by decide +kernel, rfl⟩
theorem d_9_wrong_53 : zD prog_11_method_16_code 53 (.putfield 215) 3 56 := ⟨by decide +kernel, rfl⟩
theorem d_9_wrong_56 : zD prog_11_method_16_code 56 (.return_) 1 57 := ⟨by decide +kernel, rfl⟩
theorem d_9_goesOn_0 : zD prog_11_method_17_code 0 (.aload_n 0) 1 1 := ⟨by decide +kernel, rfl⟩
theorem d_9_goesOn_1 : zD prog_11_method_17_code 1 (.getfield 206) 3 4 := ⟨by decide +kernel, rfl⟩
theorem d_9_goesOn_4 : zD prog_11_method_17_code 4 (.sipush 400) 3 7 := ⟨by decide +kernel, rfl⟩
theorem d_9_goesOn_7 : zD prog_11_method_17_code 7 (.if_icmp .ne 11) 3 10 := ⟨by decide +kernel, rfl⟩
theorem d_9_goesOn_10 : zD prog_11_method_17_code 10 (.aload_n 0) 1 11 := ⟨by decide +kernel, rfl⟩
theorem d_9_goesOn_11 : zD prog_11_method_17_code 11 (.iconst 2) 1 12 := ⟨by decide +kernel, rfl⟩
theorem d_9_goesOn_12 : zD prog_11_method_17_code 12 (.invokevirtual 218) 3 15 := ⟨by decide +kernel, rfl⟩
theorem d_9_goesOn_15 : zD prog_11_method_17_code 15 (.goto 13) 3 18 := ⟨by decide +kernel, rfl⟩
theorem d_9_goesOn_18 : zD prog_11_method_17_code 18 (.aload_n 0) 1 19 := ⟨by decide +kernel, rfl⟩
theorem d_9_goesOn_19 : zD prog_11_method_17_code 19 (.dup) 1 20 := ⟨by decide +kernel, rfl⟩
theorem d_9_goesOn_20 : zD prog_11_method_17_code 20 (.getfield 206) 3 23 := ⟨by decide +kernel, rfl⟩
theorem d_9_goesOn_23 : zD prog_11_method_17_code 23 (.iconst 1) 1 24 := ⟨by decide +kernel, rfl⟩
theorem d_9_goesOn_24 : zD prog_11_method_17_code 24 (.iadd) 1 25 := ⟨by decide +kernel, rfl⟩
theorem d_9_goesOn_25 : zD prog_11_method_17_code 25 (.putfield 206) 3 28 := ⟨by decide +kernel, rfl⟩
theorem d_9_goesOn_28 : zD prog_11_method_17_code 28 (.return_) 1 29 := ⟨by decide +kernel, rfl⟩
theorem d_9_must_0 : zD prog_11_method_18_code 0 (.aload_n 0) 1 1 := ⟨by decide +kernel, rfl⟩
theorem d_9_must_1 : zD prog_11_method_18_code 1 (.iload_n 1) 1 2 := ⟨by decide +kernel, rfl⟩
theorem d_9_must_2 : zD prog_11_method_18_code 2 (.invokevirtual 221) 3 5 := ⟨by decide +kernel, rfl⟩
theorem d_9_must_5 : zD prog_11_method_18_code 5 (.ifCond .eq 10) 3 8 := ⟨by decide +kernel, rfl⟩
theorem d_9_must_8 : zD prog_11_method_18_code 8 (.aload_n 0) 1 9 := ⟨by decide +kernel, rfl⟩
theorem d_9_must_9 : zD prog_11_method_18_code 9 (.invokevirtual 224) 3 12 := ⟨by decide +kernel, rfl⟩
theorem d_9_must_12 : zD prog_11_method_18_code 12 (.goto 8) 3 15 := ⟨by decide +kernel, rfl⟩
theorem d_9_must_15 : zD prog_11_method_18_code 15 (.aload_n 0) 1 16 := ⟨by decide +kernel, rfl⟩
theorem d_9_must_16 : zD prog_11_method_18_code 16 (.iconst 1) 1 17 := ⟨by decide +kernel, rfl⟩
theorem d_9_must_17 : zD prog_11_method_18_code 17 (.invokevirtual 218) 3 20 := ⟨by decide +kernel, rfl⟩
theorem d_9_must_20 : zD prog_11_method_18_code 20 (.return_) 1 21 := ⟨by decide +kernel, rfl⟩
theorem d_9_roomFor_0 : zD prog_11_method_22_code 0 (.iload_n 1) 1 1 := ⟨by decide +kernel, rfl⟩
theorem d_9_roomFor_1 : zD prog_11_method_22_code 1 (.iload_n 2) 1 2 := ⟨by decide +kernel, rfl⟩
theorem d_9_roomFor_2 : zD prog_11_method_22_code 2 (.if_icmp .ne 8) 3 5 := ⟨by decide +kernel, rfl⟩
theorem d_9_roomFor_5 : zD prog_11_method_22_code 5 (.aload_n 0) 1 6 := ⟨by decide +kernel, rfl⟩
theorem d_9_roomFor_6 : zD prog_11_method_22_code 6 (.iconst 2) 1 7 := ⟨by decide +kernel, rfl⟩
theorem d_9_roomFor_7 : zD prog_11_method_22_code 7 (.invokevirtual 218) 3 10 := ⟨by decide +kernel, rfl⟩
theorem d_9_roomFor_10 : zD prog_11_method_22_code 10 (.aload_n 0) 1 11 := ⟨by decide +kernel, rfl⟩
theorem d_9_roomFor_11 : zD prog_11_method_22_code 11 (.getfield 203) 3 14 := ⟨by decide +kernel, rfl⟩
theorem d_9_roomFor_14 : zD prog_11_method_22_code 14 (.ifCond .ne 7) 3 17 := ⟨by decide +kernel, rfl⟩
theorem d_9_roomFor_17 : zD prog_11_method_22_code 17 (.aload_n 0) 1 18 := ⟨by decide +kernel, rfl⟩
theorem d_9_roomFor_18 : zD prog_11_method_22_code 18 (.invokevirtual 224) 3 21 := ⟨by decide +kernel, rfl⟩
theorem d_9_roomFor_21 : zD prog_11_method_22_code 21 (.return_) 1 22 := ⟨by decide +kernel, rfl⟩
theorem d_9_named_0 : zD prog_11_method_24_code 0 (.aload_n 0) 1 1 := ⟨by decide +kernel, rfl⟩
theorem d_9_named_1 : zD prog_11_method_24_code 1 (.getfield 206) 3 4 := ⟨by decide +kernel, rfl⟩
theorem d_9_named_4 : zD prog_11_method_24_code 4 (.istore_n 1) 1 5 := ⟨by decide +kernel, rfl⟩
theorem d_9_named_5 : zD prog_11_method_24_code 5 (.aload_n 0) 1 6 := ⟨by decide +kernel, rfl⟩
theorem d_9_named_6 : zD prog_11_method_24_code 6 (.iconst 1) 1 7 := ⟨by decide +kernel, rfl⟩
theorem d_9_named_7 : zD prog_11_method_24_code 7 (.invokevirtual 277) 3 10 := ⟨by decide +kernel, rfl⟩
theorem d_9_named_10 : zD prog_11_method_24_code 10 (.iconst 0) 1 11 := ⟨by decide +kernel, rfl⟩
theorem d_9_named_11 : zD prog_11_method_24_code 11 (.istore_n 2) 1 12 := ⟨by decide +kernel, rfl⟩
theorem d_9_named_12 : zD prog_11_method_24_code 12 (.iload_n 2) 1 13 := ⟨by decide +kernel, rfl⟩
theorem d_9_named_13 : zD prog_11_method_24_code 13 (.aload_n 0) 1 14 := ⟨by decide +kernel, rfl⟩
theorem d_9_named_14 : zD prog_11_method_24_code 14 (.getfield 239) 3 17 := ⟨by decide +kernel, rfl⟩
theorem d_9_named_17 : zD prog_11_method_24_code 17 (.if_icmp .ge 38) 3 20 := ⟨by decide +kernel, rfl⟩
theorem d_9_named_20 : zD prog_11_method_24_code 20 (.aload_n 0) 1 21 := ⟨by decide +kernel, rfl⟩
theorem d_9_named_21 : zD prog_11_method_24_code 21 (.getfield 203) 3 24 := ⟨by decide +kernel, rfl⟩
theorem d_9_named_24 : zD prog_11_method_24_code 24 (.ifCond .ne 31) 3 27 := ⟨by decide +kernel, rfl⟩
theorem d_9_named_27 : zD prog_11_method_24_code 27 (.aload_n 0) 1 28 := ⟨by decide +kernel, rfl⟩
theorem d_9_named_28 : zD prog_11_method_24_code 28 (.getfield 40) 3 31 := ⟨by decide +kernel, rfl⟩
theorem d_9_named_31 : zD prog_11_method_24_code 31 (.iload_n 2) 1 32 := ⟨by decide +kernel, rfl⟩
theorem d_9_named_32 : zD prog_11_method_24_code 32 (.laload) 1 33 := ⟨by decide +kernel, rfl⟩
theorem d_9_named_33 : zD prog_11_method_24_code 33 (.aload_n 0) 1 34 := ⟨by decide +kernel, rfl⟩
theorem d_9_named_34 : zD prog_11_method_24_code 34 (.getfield 30) 3 37 := ⟨by decide +kernel, rfl⟩
theorem d_9_named_37 : zD prog_11_method_24_code 37 (.iload_n 1) 1 38 := ⟨by decide +kernel, rfl⟩
theorem d_9_named_38 : zD prog_11_method_24_code 38 (.laload) 1 39 := ⟨by decide +kernel, rfl⟩
theorem d_9_named_39 : zD prog_11_method_24_code 39 (.lcmp) 1 40 := ⟨by decide +kernel, rfl⟩
theorem d_9_named_40 : zD prog_11_method_24_code 40 (.ifCond .ne 9) 3 43 := ⟨by decide +kernel, rfl⟩
theorem d_9_named_43 : zD prog_11_method_24_code 43 (.aload_n 0) 1 44 := ⟨by decide +kernel, rfl⟩
theorem d_9_named_44 : zD prog_11_method_24_code 44 (.iconst 3) 1 45 := ⟨by decide +kernel, rfl⟩
theorem d_9_named_45 : zD prog_11_method_24_code 45 (.iload_n 1) 1 46 := ⟨by decide +kernel, rfl⟩
theorem d_9_named_46 : zD prog_11_method_24_code 46 (.invokevirtual 283) 3 49 := ⟨by decide +kernel, rfl⟩
theorem d_9_named_49 : zD prog_11_method_24_code 49 (.iinc 2 1) 3 52 := ⟨by decide +kernel, rfl⟩
theorem d_9_named_52 : zD prog_11_method_24_code 52 (.goto (-40)) 3 55 := ⟨by decide +kernel, rfl⟩
theorem d_9_named_55 : zD prog_11_method_24_code 55 (.iload_n 1) 1 56 := ⟨by decide +kernel, rfl⟩
theorem d_9_named_56 : zD prog_11_method_24_code 56 (.ireturn) 1 57 := ⟨by decide +kernel, rfl⟩
theorem d_9_bounded_0 : zD prog_11_method_27_code 0 (.aload_n 0) 1 1 := ⟨by decide +kernel, rfl⟩
theorem d_9_bounded_1 : zD prog_11_method_27_code 1 (.getfield 203) 3 4 := ⟨by decide +kernel, rfl⟩
theorem d_9_bounded_4 : zD prog_11_method_27_code 4 (.ifCond .gt 11) 3 7 := ⟨by decide +kernel, rfl⟩
theorem d_9_bounded_7 : zD prog_11_method_27_code 7 (.aload_n 0) 1 8 := ⟨by decide +kernel, rfl⟩
theorem d_9_bounded_8 : zD prog_11_method_27_code 8 (.iconst 2) 1 9 := ⟨by decide +kernel, rfl⟩
theorem d_9_bounded_9 : zD prog_11_method_27_code 9 (.invokevirtual 221) 3 12 := ⟨by decide +kernel, rfl⟩
theorem d_9_bounded_12 : zD prog_11_method_27_code 12 (.ifCond .ne 10) 3 15 := ⟨by decide +kernel, rfl⟩
theorem d_9_bounded_15 : zD prog_11_method_27_code 15 (.aload_n 0) 1 16 := ⟨by decide +kernel, rfl⟩
theorem d_9_bounded_16 : zD prog_11_method_27_code 16 (.iconst 1) 1 17 := ⟨by decide +kernel, rfl⟩
theorem d_9_bounded_17 : zD prog_11_method_27_code 17 (.invokevirtual 218) 3 20 := ⟨by decide +kernel, rfl⟩
theorem d_9_bounded_20 : zD prog_11_method_27_code 20 (.iconst 0) 1 21 := ⟨by decide +kernel, rfl⟩
theorem d_9_bounded_21 : zD prog_11_method_27_code 21 (.ireturn) 1 22 := ⟨by decide +kernel, rfl⟩
theorem d_9_bounded_22 : zD prog_11_method_27_code 22 (.aload_n 0) 1 23 := ⟨by decide +kernel, rfl⟩
theorem d_9_bounded_23 : zD prog_11_method_27_code 23 (.getfield 27) 3 26 := ⟨by decide +kernel, rfl⟩
theorem d_9_bounded_26 : zD prog_11_method_27_code 26 (.aload_n 0) 1 27 := ⟨by decide +kernel, rfl⟩
theorem d_9_bounded_27 : zD prog_11_method_27_code 27 (.getfield 206) 3 30 := ⟨by decide +kernel, rfl⟩
theorem d_9_bounded_30 : zD prog_11_method_27_code 30 (.iaload) 1 31 := ⟨by decide +kernel, rfl⟩
theorem d_9_bounded_31 : zD prog_11_method_27_code 31 (.istore_n 2) 1 32 := ⟨by decide +kernel, rfl⟩
theorem d_9_bounded_32 : zD prog_11_method_27_code 32 (.iload_n 2) 1 33 := ⟨by decide +kernel, rfl⟩
theorem d_9_bounded_33 : zD prog_11_method_27_code 33 (.iload_n 1) 1 34 := ⟨by decide +kernel, rfl⟩
theorem d_9_bounded_34 : zD prog_11_method_27_code 34 (.if_icmp .le 12) 3 37 := ⟨by decide +kernel, rfl⟩
theorem d_9_bounded_37 : zD prog_11_method_27_code 37 (.aload_n 0) 1 38 := ⟨by decide +kernel, rfl⟩
theorem d_9_bounded_38 : zD prog_11_method_27_code 38 (.iconst 5) 1 39 := ⟨by decide +kernel, rfl⟩
theorem d_9_bounded_39 : zD prog_11_method_27_code 39 (.aload_n 0) 1 40 := ⟨by decide +kernel, rfl⟩
theorem d_9_bounded_40 : zD prog_11_method_27_code 40 (.getfield 206) 3 43 := ⟨by decide +kernel, rfl⟩
theorem d_9_bounded_43 : zD prog_11_method_27_code 43 (.invokevirtual 283) 3 46 := ⟨by decide +kernel, rfl⟩
theorem d_9_bounded_46 : zD prog_11_method_27_code 46 (.aload_n 0) 1 47 := ⟨by decide +kernel, rfl⟩
theorem d_9_bounded_47 : zD prog_11_method_27_code 47 (.invokevirtual 224) 3 50 := ⟨by decide +kernel, rfl⟩
theorem d_9_bounded_50 : zD prog_11_method_27_code 50 (.iload_n 2) 1 51 := ⟨by decide +kernel, rfl⟩
theorem d_9_bounded_51 : zD prog_11_method_27_code 51 (.ireturn) 1 52 := ⟨by decide +kernel, rfl⟩
theorem d_9_endsName_0 : zD prog_11_method_25_code 0 (.aload_n 0) 1 1 := ⟨by decide +kernel, rfl⟩
theorem d_9_endsName_1 : zD prog_11_method_25_code 1 (.iconst 4) 1 2 := ⟨by decide +kernel, rfl⟩
theorem d_9_endsName_2 : zD prog_11_method_25_code 2 (.invokevirtual 277) 3 5 := ⟨by decide +kernel, rfl⟩
theorem d_9_endsName_5 : zD prog_11_method_25_code 5 (.aload_n 0) 1 6 := ⟨by decide +kernel, rfl⟩
theorem d_9_endsName_6 : zD prog_11_method_25_code 6 (.getfield 203) 3 9 := ⟨by decide +kernel, rfl⟩
theorem d_9_endsName_9 : zD prog_11_method_25_code 9 (.ifCond .le 4) 3 12 := ⟨by decide +kernel, rfl⟩
theorem d_9_endsName_12 : zD prog_11_method_25_code 12 (.return_) 1 13 := ⟨by decide +kernel, rfl⟩
theorem d_9_endsName_13 : zD prog_11_method_25_code 13 (.aload_n 0) 1 14 := ⟨by decide +kernel, rfl⟩
theorem d_9_endsName_14 : zD prog_11_method_25_code 14 (.getfield 40) 3 17 := ⟨by decide +kernel, rfl⟩
theorem d_9_endsName_17 : zD prog_11_method_25_code 17 (.aload_n 0) 1 18 := ⟨by decide +kernel, rfl⟩
theorem d_9_endsName_18 : zD prog_11_method_25_code 18 (.getfield 239) 3 21 := ⟨by decide +kernel, rfl⟩
theorem d_9_endsName_21 : zD prog_11_method_25_code 21 (.aload_n 0) 1 22 := ⟨by decide +kernel, rfl⟩
theorem d_9_endsName_22 : zD prog_11_method_25_code 22 (.getfield 30) 3 25 := ⟨by decide +kernel, rfl⟩
theorem d_9_endsName_25 : zD prog_11_method_25_code 25 (.iload_n 1) 1 26 := ⟨by decide +kernel, rfl⟩
theorem d_9_endsName_26 : zD prog_11_method_25_code 26 (.laload) 1 27 := ⟨by decide +kernel, rfl⟩
theorem d_9_endsName_27 : zD prog_11_method_25_code 27 (.lastore) 1 28 := ⟨by decide +kernel, rfl⟩
theorem d_9_endsName_28 : zD prog_11_method_25_code 28 (.aload_n 0) 1 29 := ⟨by decide +kernel, rfl⟩
theorem d_9_endsName_29 : zD prog_11_method_25_code 29 (.getfield 43) 3 32 := ⟨by decide +kernel, rfl⟩
theorem d_9_endsName_32 : zD prog_11_method_25_code 32 (.aload_n 0) 1 33 := ⟨by decide +kernel, rfl⟩
theorem d_9_endsName_33 : zD prog_11_method_25_code 33 (.getfield 239) 3 36 := ⟨by decide +kernel, rfl⟩
theorem d_9_endsName_36 : zD prog_11_method_25_code 36 (.iload_n 2) 1 37 := ⟨by decide +kernel, rfl⟩
theorem d_9_endsName_37 : zD prog_11_method_25_code 37 (.iastore) 1 38 := ⟨by decide +kernel, rfl⟩
theorem d_9_endsName_38 : zD prog_11_method_25_code 38 (.aload_n 0) 1 39 := ⟨by decide +kernel, rfl⟩
theorem d_9_endsName_39 : zD prog_11_method_25_code 39 (.dup) 1 40 := ⟨by decide +kernel, rfl⟩
theorem d_9_endsName_40 : zD prog_11_method_25_code 40 (.getfield 239) 3 43 := ⟨by decide +kernel, rfl⟩
theorem d_9_endsName_43 : zD prog_11_method_25_code 43 (.iconst 1) 1 44 := ⟨by decide +kernel, rfl⟩
theorem d_9_endsName_44 : zD prog_11_method_25_code 44 (.iadd) 1 45 := ⟨by decide +kernel, rfl⟩
theorem d_9_endsName_45 : zD prog_11_method_25_code 45 (.putfield 239) 3 48 := ⟨by decide +kernel, rfl⟩
theorem d_9_endsName_48 : zD prog_11_method_25_code 48 (.return_) 1 49 := ⟨by decide +kernel, rfl⟩
theorem d_9_known_0 : zD prog_11_method_26_code 0 (.aload_n 0) 1 1 := ⟨by decide +kernel, rfl⟩
theorem d_9_known_1 : zD prog_11_method_26_code 1 (.getfield 206) 3 4 := ⟨by decide +kernel, rfl⟩
theorem d_9_known_4 : zD prog_11_method_26_code 4 (.istore_n 2) 1 5 := ⟨by decide +kernel, rfl⟩
theorem d_9_known_5 : zD prog_11_method_26_code 5 (.aload_n 0) 1 6 := ⟨by decide +kernel, rfl⟩
theorem d_9_known_6 : zD prog_11_method_26_code 6 (.iconst 1) 1 7 := ⟨by decide +kernel, rfl⟩
theorem d_9_known_7 : zD prog_11_method_26_code 7 (.invokevirtual 277) 3 10 := ⟨by decide +kernel, rfl⟩
theorem d_9_known_10 : zD prog_11_method_26_code 10 (.aload_n 0) 1 11 := ⟨by decide +kernel, rfl⟩
theorem d_9_known_11 : zD prog_11_method_26_code 11 (.getfield 203) 3 14 := ⟨by decide +kernel, rfl⟩
theorem d_9_known_14 : zD prog_11_method_26_code 14 (.ifCond .le 5) 3 17 := ⟨by decide +kernel, rfl⟩
theorem d_9_known_17 : zD prog_11_method_26_code 17 (.iconst (-1)) 1 18 := ⟨by decide +kernel, rfl⟩
theorem d_9_known_18 : zD prog_11_method_26_code 18 (.ireturn) 1 19 := ⟨by decide +kernel, rfl⟩
theorem d_9_known_19 : zD prog_11_method_26_code 19 (.iconst 0) 1 20 := ⟨by decide +kernel, rfl⟩
theorem d_9_known_20 : zD prog_11_method_26_code 20 (.istore_n 3) 1 21 := ⟨by decide +kernel, rfl⟩
theorem d_9_known_21 : zD prog_11_method_26_code 21 (.iload_n 3) 1 22 := ⟨by decide +kernel, rfl⟩
theorem d_9_known_22 : zD prog_11_method_26_code 22 (.aload_n 0) 1 23 := ⟨by decide +kernel, rfl⟩
theorem d_9_known_23 : zD prog_11_method_26_code 23 (.getfield 239) 3 26 := ⟨by decide +kernel, rfl⟩
theorem d_9_known_26 : zD prog_11_method_26_code 26 (.if_icmp .ge 57) 3 29 := ⟨by decide +kernel, rfl⟩
theorem d_9_known_29 : zD prog_11_method_26_code 29 (.aload_n 0) 1 30 := ⟨by decide +kernel, rfl⟩
theorem d_9_known_30 : zD prog_11_method_26_code 30 (.getfield 40) 3 33 := ⟨by decide +kernel, rfl⟩
theorem d_9_known_33 : zD prog_11_method_26_code 33 (.iload_n 3) 1 34 := ⟨by decide +kernel, rfl⟩
theorem d_9_known_34 : zD prog_11_method_26_code 34 (.laload) 1 35 := ⟨by decide +kernel, rfl⟩
theorem d_9_known_35 : zD prog_11_method_26_code 35 (.aload_n 0) 1 36 := ⟨by decide +kernel, rfl⟩
theorem d_9_known_36 : zD prog_11_method_26_code 36 (.getfield 30) 3 39 := ⟨by decide +kernel, rfl⟩
theorem d_9_known_39 : zD prog_11_method_26_code 39 (.iload_n 2) 1 40 := ⟨by decide +kernel, rfl⟩
theorem d_9_known_40 : zD prog_11_method_26_code 40 (.laload) 1 41 := ⟨by decide +kernel, rfl⟩
theorem d_9_known_41 : zD prog_11_method_26_code 41 (.lcmp) 1 42 := ⟨by decide +kernel, rfl⟩
theorem d_9_known_42 : zD prog_11_method_26_code 42 (.ifCond .ne 35) 3 45 := ⟨by decide +kernel, rfl⟩
theorem d_9_known_45 : zD prog_11_method_26_code 45 (.aload_n 0) 1 46 := ⟨by decide +kernel, rfl⟩
theorem d_9_known_46 : zD prog_11_method_26_code 46 (.getfield 43) 3 49 := ⟨by decide +kernel, rfl⟩
theorem d_9_known_49 : zD prog_11_method_26_code 49 (.iload_n 3) 1 50 := ⟨by decide +kernel, rfl⟩
theorem d_9_known_50 : zD prog_11_method_26_code 50 (.iaload) 1 51 := ⟨by decide +kernel, rfl⟩
theorem d_9_known_51 : zD prog_11_method_26_code 51 (.iload_n 1) 1 52 := ⟨by decide +kernel, rfl⟩
theorem d_9_known_52 : zD prog_11_method_26_code 52 (.if_icmp .lt 25) 3 55 := ⟨by decide +kernel, rfl⟩
theorem d_9_known_55 : zD prog_11_method_26_code 55 (.aload_n 0) 1 56 := ⟨by decide +kernel, rfl⟩
theorem d_9_known_56 : zD prog_11_method_26_code 56 (.getfield 43) 3 59 := ⟨by decide +kernel, rfl⟩
theorem d_9_known_59 : zD prog_11_method_26_code 59 (.iload_n 3) 1 60 := ⟨by decide +kernel, rfl⟩
theorem d_9_known_60 : zD prog_11_method_26_code 60 (.iaload) 1 61 := ⟨by decide +kernel, rfl⟩
theorem d_9_known_61 : zD prog_11_method_26_code 61 (.iload_n 1) 1 62 := ⟨by decide +kernel, rfl⟩
theorem d_9_known_62 : zD prog_11_method_26_code 62 (.bipush 10) 2 64 := ⟨by decide +kernel, rfl⟩
theorem d_9_known_64 : zD prog_11_method_26_code 64 (.iadd) 1 65 := ⟨by decide +kernel, rfl⟩
theorem d_9_known_65 : zD prog_11_method_26_code 65 (.if_icmp .ge 12) 3 68 := ⟨by decide +kernel, rfl⟩
theorem d_9_known_68 : zD prog_11_method_26_code 68 (.aload_n 0) 1 69 := ⟨by decide +kernel, rfl⟩
theorem d_9_known_69 : zD prog_11_method_26_code 69 (.getfield 43) 3 72 := ⟨by decide +kernel, rfl⟩
theorem d_9_known_72 : zD prog_11_method_26_code 72 (.iload_n 3) 1 73 := ⟨by decide +kernel, rfl⟩
theorem d_9_known_73 : zD prog_11_method_26_code 73 (.iaload) 1 74 := ⟨by decide +kernel, rfl⟩
theorem d_9_known_74 : zD prog_11_method_26_code 74 (.iload_n 1) 1 75 := ⟨by decide +kernel, rfl⟩
theorem d_9_known_75 : zD prog_11_method_26_code 75 (.isub) 1 76 := ⟨by decide +kernel, rfl⟩
theorem d_9_known_76 : zD prog_11_method_26_code 76 (.ireturn) 1 77 := ⟨by decide +kernel, rfl⟩
theorem d_9_known_77 : zD prog_11_method_26_code 77 (.iinc 3 1) 3 80 := ⟨by decide +kernel, rfl⟩
theorem d_9_known_80 : zD prog_11_method_26_code 80 (.goto (-59)) 3 83 := ⟨by decide +kernel, rfl⟩
theorem d_9_known_83 : zD prog_11_method_26_code 83 (.aload_n 0) 1 84 := ⟨by decide +kernel, rfl⟩
theorem d_9_known_84 : zD prog_11_method_26_code 84 (.iconst 4) 1 85 := ⟨by decide +kernel, rfl⟩
theorem d_9_known_85 : zD prog_11_method_26_code 85 (.iload_n 2) 1 86 := ⟨by decide +kernel, rfl⟩
theorem d_9_known_86 : zD prog_11_method_26_code 86 (.invokevirtual 283) 3 89 := ⟨by decide +kernel, rfl⟩
theorem d_9_known_89 : zD prog_11_method_26_code 89 (.iconst (-1)) 1 90 := ⟨by decide +kernel, rfl⟩
theorem d_9_known_90 : zD prog_11_method_26_code 90 (.ireturn) 1 91 := ⟨by decide +kernel, rfl⟩
theorem d_9_tellRight_0 : zD prog_11_method_28_code 0 (.aload_n 0) 1 1 := ⟨by decide +kernel, rfl⟩
theorem d_9_tellRight_1 : zD prog_11_method_28_code 1 (.bipush 10) 2 3 := ⟨by decide +kernel, rfl⟩
theorem d_9_tellRight_3 : zD prog_11_method_28_code 3 (.invokevirtual 286) 3 6 := ⟨by decide +kernel, rfl⟩
theorem d_9_tellRight_6 : zD prog_11_method_28_code 6 (.istore_n 1) 1 7 := ⟨by decide +kernel, rfl⟩
theorem d_9_tellRight_7 : zD prog_11_method_28_code 7 (.aload_n 0) 1 8 := ⟨by decide +kernel, rfl⟩
theorem d_9_tellRight_8 : zD prog_11_method_28_code 8 (.getfield 206) 3 11 := ⟨by decide +kernel, rfl⟩
theorem d_9_tellRight_11 : zD prog_11_method_28_code 11 (.istore_n 2) 1 12 := ⟨by decide +kernel, rfl⟩
theorem d_9_tellRight_12 : zD prog_11_method_28_code 12 (.aload_n 0) 1 13 := ⟨by decide +kernel, rfl⟩
theorem d_9_tellRight_13 : zD prog_11_method_28_code 13 (.iconst 0) 1 14 := ⟨by decide +kernel, rfl⟩
theorem d_9_tellRight_14 : zD prog_11_method_28_code 14 (.invokevirtual 286) 3 17 := ⟨by decide +kernel, rfl⟩
theorem d_9_tellRight_17 : zD prog_11_method_28_code 17 (.istore_n 3) 1 18 := ⟨by decide +kernel, rfl⟩
theorem d_9_tellRight_18 : zD prog_11_method_28_code 18 (.aload_n 0) 1 19 := ⟨by decide +kernel, rfl⟩
theorem d_9_tellRight_19 : zD prog_11_method_28_code 19 (.getfield 203) 3 22 := ⟨by decide +kernel, rfl⟩
theorem d_9_tellRight_22 : zD prog_11_method_28_code 22 (.ifCond .ne 15) 3 25 := ⟨by decide +kernel, rfl⟩
theorem d_9_tellRight_25 : zD prog_11_method_28_code 25 (.iload_n 1) 1 26 := ⟨by decide +kernel, rfl⟩
theorem d_9_tellRight_26 : zD prog_11_method_28_code 26 (.ifCond .lt 11) 3 29 := ⟨by decide +kernel, rfl⟩
theorem d_9_tellRight_29 : zD prog_11_method_28_code 29 (.iload_n 3) 1 30 := ⟨by decide +kernel, rfl⟩
theorem d_9_tellRight_30 : zD prog_11_method_28_code 30 (.ifCond .lt 7) 3 33 := ⟨by decide +kernel, rfl⟩
theorem d_9_tellRight_33 : zD prog_11_method_28_code 33 (.iconst 1) 1 34 := ⟨by decide +kernel, rfl⟩
theorem d_9_tellRight_34 : zD prog_11_method_28_code 34 (.goto 4) 3 37 := ⟨by decide +kernel, rfl⟩
theorem d_9_tellRight_37 : zD prog_11_method_28_code 37 (.iconst 0) 1 38 := ⟨by decide +kernel, rfl⟩
theorem d_9_tellRight_38 : zD prog_11_method_28_code 38 (.istore 4) 2 40 := ⟨by decide +kernel, rfl⟩
theorem d_9_tellRight_40 : zD prog_11_method_28_code 40 (.iload 4) 2 42 := ⟨by decide +kernel, rfl⟩
theorem d_9_tellRight_42 : zD prog_11_method_28_code 42 (.ifCond .eq 30) 3 45 := ⟨by decide +kernel, rfl⟩
theorem d_9_tellRight_45 : zD prog_11_method_28_code 45 (.aload_n 0) 1 46 := ⟨by decide +kernel, rfl⟩
theorem d_9_tellRight_46 : zD prog_11_method_28_code 46 (.getfield 52) 3 49 := ⟨by decide +kernel, rfl⟩
theorem d_9_tellRight_49 : zD prog_11_method_28_code 49 (.iconst 5) 1 50 := ⟨by decide +kernel, rfl⟩
theorem d_9_tellRight_50 : zD prog_11_method_28_code 50 (.aload_n 0) 1 51 := ⟨by decide +kernel, rfl⟩
theorem d_9_tellRight_51 : zD prog_11_method_28_code 51 (.getfield 236) 3 54 := ⟨by decide +kernel, rfl⟩
theorem d_9_tellRight_54 : zD prog_11_method_28_code 54 (.imul) 1 55 := ⟨by decide +kernel, rfl⟩
theorem d_9_tellRight_55 : zD prog_11_method_28_code 55 (.iload_n 3) 1 56 := ⟨by decide +kernel, rfl⟩
theorem d_9_tellRight_56 : zD prog_11_method_28_code 56 (.iadd) 1 57 := ⟨by decide +kernel, rfl⟩
theorem d_9_tellRight_57 : zD prog_11_method_28_code 57 (.iaload) 1 58 := ⟨by decide +kernel, rfl⟩
theorem d_9_tellRight_58 : zD prog_11_method_28_code 58 (.iload_n 1) 1 59 := ⟨by decide +kernel, rfl⟩
theorem d_9_tellRight_59 : zD prog_11_method_28_code 59 (.ishr) 1 60 := ⟨by decide +kernel, rfl⟩
theorem d_9_tellRight_60 : zD prog_11_method_28_code 60 (.iconst 1) 1 61 := ⟨by decide +kernel, rfl⟩
theorem d_9_tellRight_61 : zD prog_11_method_28_code 61 (.iand) 1 62 := ⟨by decide +kernel, rfl⟩
theorem d_9_tellRight_62 : zD prog_11_method_28_code 62 (.iconst 1) 1 63 := ⟨by decide +kernel, rfl⟩
theorem d_9_tellRight_63 : zD prog_11_method_28_code 63 (.if_icmp .ne 9) 3 66 := ⟨by decide +kernel, rfl⟩
theorem d_9_tellRight_66 : zD prog_11_method_28_code 66 (.aload_n 0) 1 67 := ⟨by decide +kernel, rfl⟩
theorem d_9_tellRight_67 : zD prog_11_method_28_code 67 (.iconst 3) 1 68 := ⟨by decide +kernel, rfl⟩
theorem d_9_tellRight_68 : zD prog_11_method_28_code 68 (.iload_n 2) 1 69 := ⟨by decide +kernel, rfl⟩
theorem d_9_tellRight_69 : zD prog_11_method_28_code 69 (.invokevirtual 283) 3 72 := ⟨by decide +kernel, rfl⟩
theorem d_9_tellRight_72 : zD prog_11_method_28_code 72 (.aload_n 0) 1 73 := ⟨by decide +kernel, rfl⟩
theorem d_9_tellRight_73 : zD prog_11_method_28_code 73 (.iconst 4) 1 74 := ⟨by decide +kernel, rfl⟩
theorem d_9_tellRight_74 : zD prog_11_method_28_code 74 (.invokevirtual 277) 3 77 := ⟨by decide +kernel, rfl⟩
theorem d_9_tellRight_77 : zD prog_11_method_28_code 77 (.aload_n 0) 1 78 := ⟨by decide +kernel, rfl⟩
theorem d_9_tellRight_78 : zD prog_11_method_28_code 78 (.getfield 203) 3 81 := ⟨by decide +kernel, rfl⟩
theorem d_9_tellRight_81 : zD prog_11_method_28_code 81 (.ifCond .le 4) 3 84 := ⟨by decide +kernel, rfl⟩
theorem d_9_tellRight_84 : zD prog_11_method_28_code 84 (.return_) 1 85 := ⟨by decide +kernel, rfl⟩
theorem d_9_tellRight_85 : zD prog_11_method_28_code 85 (.aload_n 0) 1 86 := ⟨by decide +kernel, rfl⟩
theorem d_9_tellRight_86 : zD prog_11_method_28_code 86 (.getfield 64) 3 89 := ⟨by decide +kernel, rfl⟩
theorem d_9_tellRight_89 : zD prog_11_method_28_code 89 (.aload_n 0) 1 90 := ⟨by decide +kernel, rfl⟩
theorem d_9_tellRight_90 : zD prog_11_method_28_code 90 (.getfield 236) 3 93 := ⟨by decide +kernel, rfl⟩
theorem d_9_tellRight_93 : zD prog_11_method_28_code 93 (.dup2) 1 94 := ⟨by decide +kernel, rfl⟩
theorem d_9_tellRight_94 : zD prog_11_method_28_code 94 (.iaload) 1 95 := ⟨by decide +kernel, rfl⟩
theorem d_9_tellRight_95 : zD prog_11_method_28_code 95 (.iconst 1) 1 96 := ⟨by decide +kernel, rfl⟩
theorem d_9_tellRight_96 : zD prog_11_method_28_code 96 (.iadd) 1 97 := ⟨by decide +kernel, rfl⟩
theorem d_9_tellRight_97 : zD prog_11_method_28_code 97 (.iastore) 1 98 := ⟨by decide +kernel, rfl⟩
theorem d_9_tellRight_98 : zD prog_11_method_28_code 98 (.iload 4) 2 100 := ⟨by decide +kernel, rfl⟩
theorem d_9_tellRight_100 : zD prog_11_method_28_code 100 (.ifCond .eq 22) 3 103 := ⟨by decide +kernel, rfl⟩
theorem d_9_tellRight_103 : zD prog_11_method_28_code 103 (.aload_n 0) 1 104 := ⟨by decide +kernel, rfl⟩
theorem d_9_tellRight_104 : zD prog_11_method_28_code 104 (.getfield 52) 3 107 := ⟨by decide +kernel, rfl⟩
theorem d_9_tellRight_107 : zD prog_11_method_28_code 107 (.iconst 5) 1 108 := ⟨by decide +kernel, rfl⟩
theorem d_9_tellRight_108 : zD prog_11_method_28_code 108 (.aload_n 0) 1 109 := ⟨by decide +kernel, rfl⟩
theorem d_9_tellRight_109 : zD prog_11_method_28_code 109 (.getfield 236) 3 112 := ⟨by decide +kernel, rfl⟩
theorem d_9_tellRight_112 : zD prog_11_method_28_code 112 (.imul) 1 113 := ⟨by decide +kernel, rfl⟩
theorem d_9_tellRight_113 : zD prog_11_method_28_code 113 (.iload_n 3) 1 114 := ⟨by decide +kernel, rfl⟩
theorem d_9_tellRight_114 : zD prog_11_method_28_code 114 (.iadd) 1 115 := ⟨by decide +kernel, rfl⟩
theorem d_9_tellRight_115 : zD prog_11_method_28_code 115 (.dup2) 1 116 := ⟨by decide +kernel, rfl⟩
theorem d_9_tellRight_116 : zD prog_11_method_28_code 116 (.iaload) 1 117 := ⟨by decide +kernel, rfl⟩
theorem d_9_tellRight_117 : zD prog_11_method_28_code 117 (.iconst 1) 1 118 := ⟨by decide +kernel, rfl⟩
theorem d_9_tellRight_118 : zD prog_11_method_28_code 118 (.iload_n 1) 1 119 := ⟨by decide +kernel, rfl⟩
theorem d_9_tellRight_119 : zD prog_11_method_28_code 119 (.ishl) 1 120 := ⟨by decide +kernel, rfl⟩
theorem d_9_tellRight_120 : zD prog_11_method_28_code 120 (.ior) 1 121 := ⟨by decide +kernel, rfl⟩
theorem d_9_tellRight_121 : zD prog_11_method_28_code 121 (.iastore) 1 122 := ⟨by decide +kernel, rfl⟩
theorem d_9_tellRight_122 : zD prog_11_method_28_code 122 (.return_) 1 123 := ⟨by decide +kernel, rfl⟩
theorem d_9_tellAway_0 : zD prog_11_method_29_code 0 (.aload_n 0) 1 1 := ⟨by decide +kernel, rfl⟩
theorem d_9_tellAway_1 : zD prog_11_method_29_code 1 (.bipush 10) 2 3 := ⟨by decide +kernel, rfl⟩
theorem d_9_tellAway_3 : zD prog_11_method_29_code 3 (.invokevirtual 286) 3 6 := ⟨by decide +kernel, rfl⟩
theorem d_9_tellAway_6 : zD prog_11_method_29_code 6 (.istore_n 1) 1 7 := ⟨by decide +kernel, rfl⟩
theorem d_9_tellAway_7 : zD prog_11_method_29_code 7 (.aload_n 0) 1 8 := ⟨by decide +kernel, rfl⟩
theorem d_9_tellAway_8 : zD prog_11_method_29_code 8 (.bipush 99) 2 10 := ⟨by decide +kernel, rfl⟩
theorem d_9_tellAway_10 : zD prog_11_method_29_code 10 (.invokevirtual 265) 3 13 := ⟨by decide +kernel, rfl⟩
theorem d_9_tellAway_13 : zD prog_11_method_29_code 13 (.istore_n 2) 1 14 := ⟨by decide +kernel, rfl⟩
theorem d_9_tellAway_14 : zD prog_11_method_29_code 14 (.aload_n 0) 1 15 := ⟨by decide +kernel, rfl⟩
theorem d_9_tellAway_15 : zD prog_11_method_29_code 15 (.iconst 4) 1 16 := ⟨by decide +kernel, rfl⟩
theorem d_9_tellAway_16 : zD prog_11_method_29_code 16 (.invokevirtual 277) 3 19 := ⟨by decide +kernel, rfl⟩
theorem d_9_tellAway_19 : zD prog_11_method_29_code 19 (.aload_n 0) 1 20 := ⟨by decide +kernel, rfl⟩
theorem d_9_tellAway_20 : zD prog_11_method_29_code 20 (.getfield 203) 3 23 := ⟨by decide +kernel, rfl⟩
theorem d_9_tellAway_23 : zD prog_11_method_29_code 23 (.ifCond .le 4) 3 26 := ⟨by decide +kernel, rfl⟩
theorem d_9_tellAway_26 : zD prog_11_method_29_code 26 (.return_) 1 27 := ⟨by decide +kernel, rfl⟩
theorem d_9_tellAway_27 : zD prog_11_method_29_code 27 (.aload_n 0) 1 28 := ⟨by decide +kernel, rfl⟩
theorem d_9_tellAway_28 : zD prog_11_method_29_code 28 (.getfield 67) 3 31 := ⟨by decide +kernel, rfl⟩
theorem d_9_tellAway_31 : zD prog_11_method_29_code 31 (.aload_n 0) 1 32 := ⟨by decide +kernel, rfl⟩
theorem d_9_tellAway_32 : zD prog_11_method_29_code 32 (.getfield 236) 3 35 := ⟨by decide +kernel, rfl⟩
theorem d_9_tellAway_35 : zD prog_11_method_29_code 35 (.dup2) 1 36 := ⟨by decide +kernel, rfl⟩
theorem d_9_tellAway_36 : zD prog_11_method_29_code 36 (.iaload) 1 37 := ⟨by decide +kernel, rfl⟩
theorem d_9_tellAway_37 : zD prog_11_method_29_code 37 (.iconst 1) 1 38 := ⟨by decide +kernel, rfl⟩
theorem d_9_tellAway_38 : zD prog_11_method_29_code 38 (.iadd) 1 39 := ⟨by decide +kernel, rfl⟩
theorem d_9_tellAway_39 : zD prog_11_method_29_code 39 (.iastore) 1 40 := ⟨by decide +kernel, rfl⟩
theorem d_9_tellAway_40 : zD prog_11_method_29_code 40 (.iload_n 1) 1 41 := ⟨by decide +kernel, rfl⟩
theorem d_9_tellAway_41 : zD prog_11_method_29_code 41 (.ifCond .lt 18) 3 44 := ⟨by decide +kernel, rfl⟩
theorem d_9_tellAway_44 : zD prog_11_method_29_code 44 (.aload_n 0) 1 45 := ⟨by decide +kernel, rfl⟩
theorem d_9_tellAway_45 : zD prog_11_method_29_code 45 (.getfield 61) 3 48 := ⟨by decide +kernel, rfl⟩
theorem d_9_tellAway_48 : zD prog_11_method_29_code 48 (.bipush 7) 2 50 := ⟨by decide +kernel, rfl⟩
theorem d_9_tellAway_50 : zD prog_11_method_29_code 50 (.aload_n 0) 1 51 := ⟨by decide +kernel, rfl⟩
theorem d_9_tellAway_51 : zD prog_11_method_29_code 51 (.getfield 236) 3 54 := ⟨by decide +kernel, rfl⟩
theorem d_9_tellAway_54 : zD prog_11_method_29_code 54 (.imul) 1 55 := ⟨by decide +kernel, rfl⟩
theorem d_9_tellAway_55 : zD prog_11_method_29_code 55 (.iload_n 1) 1 56 := ⟨by decide +kernel, rfl⟩
theorem d_9_tellAway_56 : zD prog_11_method_29_code 56 (.iadd) 1 57 := ⟨by decide +kernel, rfl⟩
theorem d_9_tellAway_57 : zD prog_11_method_29_code 57 (.iload_n 2) 1 58 := ⟨by decide +kernel, rfl⟩
theorem d_9_tellAway_58 : zD prog_11_method_29_code 58 (.iastore) 1 59 := ⟨by decide +kernel, rfl⟩
theorem d_9_tellAway_59 : zD prog_11_method_29_code 59 (.return_) 1 60 := ⟨by decide +kernel, rfl⟩
theorem d_9_emit_0 : zD prog_11_method_32_code 0 (.aload_n 0) 1 1 := ⟨by decide +kernel, rfl⟩
theorem d_9_emit_1 : zD prog_11_method_32_code 1 (.getfield 95) 3 4 := ⟨by decide +kernel, rfl⟩
theorem d_9_emit_4 : zD prog_11_method_32_code 4 (.aload_n 0) 1 5 := ⟨by decide +kernel, rfl⟩
theorem d_9_emit_5 : zD prog_11_method_32_code 5 (.getfield 245) 3 8 := ⟨by decide +kernel, rfl⟩
theorem d_9_emit_8 : zD prog_11_method_32_code 8 (.iload_n 1) 1 9 := ⟨by decide +kernel, rfl⟩
theorem d_9_emit_9 : zD prog_11_method_32_code 9 (.iastore) 1 10 := ⟨by decide +kernel, rfl⟩
theorem d_9_emit_10 : zD prog_11_method_32_code 10 (.aload_n 0) 1 11 := ⟨by decide +kernel, rfl⟩
theorem d_9_emit_11 : zD prog_11_method_32_code 11 (.getfield 98) 3 14 := ⟨by decide +kernel, rfl⟩
theorem d_9_emit_14 : zD prog_11_method_32_code 14 (.aload_n 0) 1 15 := ⟨by decide +kernel, rfl⟩
theorem d_9_emit_15 : zD prog_11_method_32_code 15 (.getfield 245) 3 18 := ⟨by decide +kernel, rfl⟩
theorem d_9_emit_18 : zD prog_11_method_32_code 18 (.iload_n 2) 1 19 := ⟨by decide +kernel, rfl⟩
theorem d_9_emit_19 : zD prog_11_method_32_code 19 (.iastore) 1 20 := ⟨by decide +kernel, rfl⟩
theorem d_9_emit_20 : zD prog_11_method_32_code 20 (.aload_n 0) 1 21 := ⟨by decide +kernel, rfl⟩
theorem d_9_emit_21 : zD prog_11_method_32_code 21 (.dup) 1 22 := ⟨by decide +kernel, rfl⟩
theorem d_9_emit_22 : zD prog_11_method_32_code 22 (.getfield 245) 3 25 := ⟨by decide +kernel, rfl⟩
theorem d_9_emit_25 : zD prog_11_method_32_code 25 (.iconst 1) 1 26 := ⟨by decide +kernel, rfl⟩
theorem d_9_emit_26 : zD prog_11_method_32_code 26 (.iadd) 1 27 := ⟨by decide +kernel, rfl⟩
theorem d_9_emit_27 : zD prog_11_method_32_code 27 (.putfield 245) 3 30 := ⟨by decide +kernel, rfl⟩
theorem d_9_emit_30 : zD prog_11_method_32_code 30 (.return_) 1 31 := ⟨by decide +kernel, rfl⟩
theorem d_9_unit_0 : zD prog_11_method_35_code 0 (.aload_n 0) 1 1 := ⟨by decide +kernel, rfl⟩
theorem d_9_unit_1 : zD prog_11_method_35_code 1 (.iconst 2) 1 2 := ⟨by decide +kernel, rfl⟩
theorem d_9_unit_2 : zD prog_11_method_35_code 2 (.invokevirtual 221) 3 5 := ⟨by decide +kernel, rfl⟩
theorem d_9_unit_5 : zD prog_11_method_35_code 5 (.ifCond .eq 24) 3 8 := ⟨by decide +kernel, rfl⟩
theorem d_9_unit_8 : zD prog_11_method_35_code 8 (.aload_n 0) 1 9 := ⟨by decide +kernel, rfl⟩
theorem d_9_unit_9 : zD prog_11_method_35_code 9 (.iconst 0) 1 10 := ⟨by decide +kernel, rfl⟩
theorem d_9_unit_10 : zD prog_11_method_35_code 10 (.aload_n 0) 1 11 := ⟨by decide +kernel, rfl⟩
theorem d_9_unit_11 : zD prog_11_method_35_code 11 (.getfield 27) 3 14 := ⟨by decide +kernel, rfl⟩
theorem d_9_unit_14 : zD prog_11_method_35_code 14 (.aload_n 0) 1 15 := ⟨by decide +kernel, rfl⟩
theorem d_9_unit_15 : zD prog_11_method_35_code 15 (.getfield 206) 3 18 := ⟨by decide +kernel, rfl⟩
theorem d_9_unit_18 : zD prog_11_method_35_code 18 (.iaload) 1 19 := ⟨by decide +kernel, rfl⟩
theorem d_9_unit_19 : zD prog_11_method_35_code 19 (.invokevirtual 298) 3 22 := ⟨by decide +kernel, rfl⟩
theorem d_9_unit_22 : zD prog_11_method_35_code 22 (.aload_n 0) 1 23 := ⟨by decide +kernel, rfl⟩
theorem d_9_unit_23 : zD prog_11_method_35_code 23 (.invokevirtual 224) 3 26 := ⟨by decide +kernel, rfl⟩
theorem d_9_unit_26 : zD prog_11_method_35_code 26 (.goto 67) 3 29 := ⟨by decide +kernel, rfl⟩
theorem d_9_unit_29 : zD prog_11_method_35_code 29 (.aload_n 0) 1 30 := ⟨by decide +kernel, rfl⟩
theorem d_9_unit_30 : zD prog_11_method_35_code 30 (.getfield 203) 3 33 := ⟨by decide +kernel, rfl⟩
theorem d_9_unit_33 : zD prog_11_method_35_code 33 (.ifCond .ne 55) 3 36 := ⟨by decide +kernel, rfl⟩
theorem d_9_unit_36 : zD prog_11_method_35_code 36 (.aload_n 0) 1 37 := ⟨by decide +kernel, rfl⟩
theorem d_9_unit_37 : zD prog_11_method_35_code 37 (.getfield 20) 3 40 := ⟨by decide +kernel, rfl⟩
theorem d_9_unit_40 : zD prog_11_method_35_code 40 (.aload_n 0) 1 41 := ⟨by decide +kernel, rfl⟩
theorem d_9_unit_41 : zD prog_11_method_35_code 41 (.getfield 206) 3 44 := ⟨by decide +kernel, rfl⟩
theorem d_9_unit_44 : zD prog_11_method_35_code 44 (.iaload) 1 45 := ⟨by decide +kernel, rfl⟩
theorem d_9_unit_45 : zD prog_11_method_35_code 45 (.bipush 32) 2 47 := ⟨by decide +kernel, rfl⟩
theorem d_9_unit_47 : zD prog_11_method_35_code 47 (.if_icmp .lt 41) 3 50 := ⟨by decide +kernel, rfl⟩
theorem d_9_unit_50 : zD prog_11_method_35_code 50 (.aload_n 0) 1 51 := ⟨by decide +kernel, rfl⟩
theorem d_9_unit_51 : zD prog_11_method_35_code 51 (.getfield 20) 3 54 := ⟨by decide +kernel, rfl⟩
theorem d_9_unit_54 : zD prog_11_method_35_code 54 (.aload_n 0) 1 55 := ⟨by decide +kernel, rfl⟩
theorem d_9_unit_55 : zD prog_11_method_35_code 55 (.getfield 206) 3 58 := ⟨by decide +kernel, rfl⟩
theorem d_9_unit_58 : zD prog_11_method_35_code 58 (.iaload) 1 59 := ⟨by decide +kernel, rfl⟩
theorem d_9_unit_59 : zD prog_11_method_35_code 59 (.bipush 40) 2 61 := ⟨by decide +kernel, rfl⟩
theorem d_9_unit_61 : zD prog_11_method_35_code 61 (.if_icmp .gt 27) 3 64 := ⟨by decide +kernel, rfl⟩
theorem d_9_unit_64 : zD prog_11_method_35_code 64 (.aload_n 0) 1 65 := ⟨by decide +kernel, rfl⟩
theorem d_9_unit_65 : zD prog_11_method_35_code 65 (.iconst 1) 1 66 := ⟨by decide +kernel, rfl⟩
theorem d_9_unit_66 : zD prog_11_method_35_code 66 (.aload_n 0) 1 67 := ⟨by decide +kernel, rfl⟩
theorem d_9_unit_67 : zD prog_11_method_35_code 67 (.getfield 20) 3 70 := ⟨by decide +kernel, rfl⟩
theorem d_9_unit_70 : zD prog_11_method_35_code 70 (.aload_n 0) 1 71 := ⟨by decide +kernel, rfl⟩
theorem d_9_unit_71 : zD prog_11_method_35_code 71 (.getfield 206) 3 74 := ⟨by decide +kernel, rfl⟩
theorem d_9_unit_74 : zD prog_11_method_35_code 74 (.iaload) 1 75 := ⟨by decide +kernel, rfl⟩
theorem d_9_unit_75 : zD prog_11_method_35_code 75 (.bipush 32) 2 77 := ⟨by decide +kernel, rfl⟩
theorem d_9_unit_77 : zD prog_11_method_35_code 77 (.isub) 1 78 := ⟨by decide +kernel, rfl⟩
theorem d_9_unit_78 : zD prog_11_method_35_code 78 (.invokevirtual 298) 3 81 := ⟨by decide +kernel, rfl⟩
theorem d_9_unit_81 : zD prog_11_method_35_code 81 (.aload_n 0) 1 82 := ⟨by decide +kernel, rfl⟩
theorem d_9_unit_82 : zD prog_11_method_35_code 82 (.invokevirtual 224) 3 85 := ⟨by decide +kernel, rfl⟩
theorem d_9_unit_85 : zD prog_11_method_35_code 85 (.goto 8) 3 88 := ⟨by decide +kernel, rfl⟩
theorem d_9_unit_88 : zD prog_11_method_35_code 88 (.aload_n 0) 1 89 := ⟨by decide +kernel, rfl⟩
theorem d_9_unit_89 : zD prog_11_method_35_code 89 (.iconst 1) 1 90 := ⟨by decide +kernel, rfl⟩
theorem d_9_unit_90 : zD prog_11_method_35_code 90 (.invokevirtual 218) 3 93 := ⟨by decide +kernel, rfl⟩
theorem d_9_unit_93 : zD prog_11_method_35_code 93 (.return_) 1 94 := ⟨by decide +kernel, rfl⟩
theorem d_9_comesOut_0 : zD prog_11_method_33_code 0 (.aload_n 0) 1 1 := ⟨by decide +kernel, rfl⟩
theorem d_9_comesOut_1 : zD prog_11_method_33_code 1 (.getfield 295) 3 4 := ⟨by decide +kernel, rfl⟩
theorem d_9_comesOut_4 : zD prog_11_method_33_code 4 (.ifCond .le 87) 3 7 := ⟨by decide +kernel, rfl⟩
theorem d_9_comesOut_7 : zD prog_11_method_33_code 7 (.aload_n 0) 1 8 := ⟨by decide +kernel, rfl⟩
theorem d_9_comesOut_8 : zD prog_11_method_33_code 8 (.getfield 101) 3 11 := ⟨by decide +kernel, rfl⟩
theorem d_9_comesOut_11 : zD prog_11_method_33_code 11 (.aload_n 0) 1 12 := ⟨by decide +kernel, rfl⟩
theorem d_9_comesOut_12 : zD prog_11_method_33_code 12 (.getfield 295) 3 15 := ⟨by decide +kernel, rfl⟩
theorem d_9_comesOut_15 : zD prog_11_method_33_code 15 (.iconst 1) 1 16 := ⟨by decide +kernel, rfl⟩
theorem d_9_comesOut_16 : zD prog_11_method_33_code 16 (.isub) 1 17 := ⟨by decide +kernel, rfl⟩
theorem d_9_comesOut_17 : zD prog_11_method_33_code 17 (.iaload) 1 18 := ⟨by decide +kernel, rfl⟩
theorem d_9_comesOut_18 : zD prog_11_method_33_code 18 (.istore_n 2) 1 19 := ⟨by decide +kernel, rfl⟩
theorem d_9_comesOut_19 : zD prog_11_method_33_code 19 (.iload_n 2) 1 20 := ⟨by decide +kernel, rfl⟩
theorem d_9_comesOut_20 : zD prog_11_method_33_code 20 (.bipush 6) 2 22 := ⟨by decide +kernel, rfl⟩
theorem d_9_comesOut_22 : zD prog_11_method_33_code 22 (.if_icmp .eq 19) 3 25 := ⟨by decide +kernel, rfl⟩
theorem d_9_comesOut_25 : zD prog_11_method_33_code 25 (.iload_n 1) 1 26 := ⟨by decide +kernel, rfl⟩
theorem d_9_comesOut_26 : zD prog_11_method_33_code 26 (.ifCond .eq 16) 3 29 := ⟨by decide +kernel, rfl⟩
theorem d_9_comesOut_29 : zD prog_11_method_33_code 29 (.iload_n 2) 1 30 := ⟨by decide +kernel, rfl⟩
theorem d_9_comesOut_30 : zD prog_11_method_33_code 30 (.bipush 8) 2 32 := ⟨by decide +kernel, rfl⟩
theorem d_9_comesOut_32 : zD prog_11_method_33_code 32 (.if_icmp .eq 9) 3 35 := ⟨by decide +kernel, rfl⟩
theorem d_9_comesOut_35 : zD prog_11_method_33_code 35 (.iload_n 2) 1 36 := ⟨by decide +kernel, rfl⟩
theorem d_9_comesOut_36 : zD prog_11_method_33_code 36 (.bipush 9) 2 38 := ⟨by decide +kernel, rfl⟩
theorem d_9_comesOut_38 : zD prog_11_method_33_code 38 (.if_icmp .ne 4) 3 41 := ⟨by decide +kernel, rfl⟩
theorem d_9_comesOut_41 : zD prog_11_method_33_code 41 (.return_) 1 42 := ⟨by decide +kernel, rfl⟩
theorem d_9_comesOut_42 : zD prog_11_method_33_code 42 (.aload_n 0) 1 43 := ⟨by decide +kernel, rfl⟩
theorem d_9_comesOut_43 : zD prog_11_method_33_code 43 (.dup) 1 44 := ⟨by decide +kernel, rfl⟩
theorem d_9_comesOut_44 : zD prog_11_method_33_code 44 (.getfield 295) 3 47 := ⟨by decide +kernel, rfl⟩
theorem d_9_comesOut_47 : zD prog_11_method_33_code 47 (.iconst 1) 1 48 := ⟨by decide +kernel, rfl⟩
theorem d_9_comesOut_48 : zD prog_11_method_33_code 48 (.isub) 1 49 := ⟨by decide +kernel, rfl⟩
theorem d_9_comesOut_49 : zD prog_11_method_33_code 49 (.putfield 295) 3 52 := ⟨by decide +kernel, rfl⟩
theorem d_9_comesOut_52 : zD prog_11_method_33_code 52 (.aload_n 0) 1 53 := ⟨by decide +kernel, rfl⟩
theorem d_9_comesOut_53 : zD prog_11_method_33_code 53 (.iload_n 2) 1 54 := ⟨by decide +kernel, rfl⟩
theorem d_9_comesOut_54 : zD prog_11_method_33_code 54 (.bipush 8) 2 56 := ⟨by decide +kernel, rfl⟩
theorem d_9_comesOut_56 : zD prog_11_method_33_code 56 (.if_icmp .ne 7) 3 59 := ⟨by decide +kernel, rfl⟩
theorem d_9_comesOut_59 : zD prog_11_method_33_code 59 (.iconst 2) 1 60 := ⟨by decide +kernel, rfl⟩
theorem d_9_comesOut_60 : zD prog_11_method_33_code 60 (.goto 24) 3 63 := ⟨by decide +kernel, rfl⟩
theorem d_9_comesOut_63 : zD prog_11_method_33_code 63 (.iload_n 2) 1 64 := ⟨by decide +kernel, rfl⟩
theorem d_9_comesOut_64 : zD prog_11_method_33_code 64 (.bipush 9) 2 66 := ⟨by decide +kernel, rfl⟩
theorem d_9_comesOut_66 : zD prog_11_method_33_code 66 (.if_icmp .ne 7) 3 69 := ⟨by decide +kernel, rfl⟩
theorem d_9_comesOut_69 : zD prog_11_method_33_code 69 (.iconst 3) 1 70 := ⟨by decide +kernel, rfl⟩
theorem d_9_comesOut_70 : zD prog_11_method_33_code 70 (.goto 14) 3 73 := ⟨by decide +kernel, rfl⟩
theorem d_9_comesOut_73 : zD prog_11_method_33_code 73 (.iload_n 2) 1 74 := ⟨by decide +kernel, rfl⟩
theorem d_9_comesOut_74 : zD prog_11_method_33_code 74 (.bipush 10) 2 76 := ⟨by decide +kernel, rfl⟩
theorem d_9_comesOut_76 : zD prog_11_method_33_code 76 (.if_icmp .ne 7) 3 79 := ⟨by decide +kernel, rfl⟩
theorem d_9_comesOut_79 : zD prog_11_method_33_code 79 (.iconst 4) 1 80 := ⟨by decide +kernel, rfl⟩
theorem d_9_comesOut_80 : zD prog_11_method_33_code 80 (.goto 4) 3 83 := ⟨by decide +kernel, rfl⟩
theorem d_9_comesOut_83 : zD prog_11_method_33_code 83 (.iconst 5) 1 84 := ⟨by decide +kernel, rfl⟩
theorem d_9_comesOut_84 : zD prog_11_method_33_code 84 (.iconst 0) 1 85 := ⟨by decide +kernel, rfl⟩
theorem d_9_comesOut_85 : zD prog_11_method_33_code 85 (.invokevirtual 298) 3 88 := ⟨by decide +kernel, rfl⟩
theorem d_9_comesOut_88 : zD prog_11_method_33_code 88 (.goto (-88)) 3 91 := ⟨by decide +kernel, rfl⟩
theorem d_9_comesOut_91 : zD prog_11_method_33_code 91 (.return_) 1 92 := ⟨by decide +kernel, rfl⟩
theorem d_9_expression_0 : zD prog_11_method_34_code 0 (.aload_n 0) 1 1 := ⟨by decide +kernel, rfl⟩
theorem d_9_expression_1 : zD prog_11_method_34_code 1 (.iconst 0) 1 2 := ⟨by decide +kernel, rfl⟩
theorem d_9_expression_2 : zD prog_11_method_34_code 2 (.putfield 295) 3 5 := ⟨by decide +kernel, rfl⟩
theorem d_9_expression_5 : zD prog_11_method_34_code 5 (.aload_n 0) 1 6 := ⟨by decide +kernel, rfl⟩
theorem d_9_expression_6 : zD prog_11_method_34_code 6 (.getfield 230) 3 9 := ⟨by decide +kernel, rfl⟩
theorem d_9_expression_9 : zD prog_11_method_34_code 9 (.istore_n 1) 1 10 := ⟨by decide +kernel, rfl⟩
theorem d_9_expression_10 : zD prog_11_method_34_code 10 (.iconst 1) 1 11 := ⟨by decide +kernel, rfl⟩
theorem d_9_expression_11 : zD prog_11_method_34_code 11 (.istore_n 2) 1 12 := ⟨by decide +kernel, rfl⟩
theorem d_9_expression_12 : zD prog_11_method_34_code 12 (.iload_n 2) 1 13 := ⟨by decide +kernel, rfl⟩
theorem d_9_expression_13 : zD prog_11_method_34_code 13 (.ifCond .eq 259) 3 16 := ⟨by decide +kernel, rfl⟩
theorem d_9_expression_16 : zD prog_11_method_34_code 16 (.aload_n 0) 1 17 := ⟨by decide +kernel, rfl⟩
theorem d_9_expression_17 : zD prog_11_method_34_code 17 (.getfield 203) 3 20 := ⟨by decide +kernel, rfl⟩
theorem d_9_expression_20 : zD prog_11_method_34_code 20 (.ifCond .ne 252) 3 23 := ⟨by decide +kernel, rfl⟩
theorem d_9_expression_23 : zD prog_11_method_34_code 23 (.aload_n 0) 1 24 := ⟨by decide +kernel, rfl⟩
theorem d_9_expression_24 : zD prog_11_method_34_code 24 (.bipush 6) 2 26 := ⟨by decide +kernel, rfl⟩
theorem d_9_expression_26 : zD prog_11_method_34_code 26 (.invokevirtual 221) 3 29 := ⟨by decide +kernel, rfl⟩
theorem d_9_expression_29 : zD prog_11_method_34_code 29 (.ifCond .eq 55) 3 32 := ⟨by decide +kernel, rfl⟩
theorem d_9_expression_32 : zD prog_11_method_34_code 32 (.aload_n 0) 1 33 := ⟨by decide +kernel, rfl⟩
theorem d_9_expression_33 : zD prog_11_method_34_code 33 (.getfield 230) 3 36 := ⟨by decide +kernel, rfl⟩
theorem d_9_expression_36 : zD prog_11_method_34_code 36 (.bipush 6) 2 38 := ⟨by decide +kernel, rfl⟩
theorem d_9_expression_38 : zD prog_11_method_34_code 38 (.if_icmp .ne 8) 3 41 := ⟨by decide +kernel, rfl⟩
theorem d_9_expression_41 : zD prog_11_method_34_code 41 (.aload_n 0) 1 42 := ⟨by decide +kernel, rfl⟩
theorem d_9_expression_42 : zD prog_11_method_34_code 42 (.iconst 2) 1 43 := ⟨by decide +kernel, rfl⟩
theorem d_9_expression_43 : zD prog_11_method_34_code 43 (.invokevirtual 218) 3 46 := ⟨by decide +kernel, rfl⟩
theorem d_9_expression_46 : zD prog_11_method_34_code 46 (.aload_n 0) 1 47 := ⟨by decide +kernel, rfl⟩
theorem d_9_expression_47 : zD prog_11_method_34_code 47 (.dup) 1 48 := ⟨by decide +kernel, rfl⟩
theorem d_9_expression_48 : zD prog_11_method_34_code 48 (.getfield 230) 3 51 := ⟨by decide +kernel, rfl⟩
theorem d_9_expression_51 : zD prog_11_method_34_code 51 (.iconst 1) 1 52 := ⟨by decide +kernel, rfl⟩
theorem d_9_expression_52 : zD prog_11_method_34_code 52 (.iadd) 1 53 := ⟨by decide +kernel, rfl⟩
theorem d_9_expression_53 : zD prog_11_method_34_code 53 (.putfield 230) 3 56 := ⟨by decide +kernel, rfl⟩
theorem d_9_expression_56 : zD prog_11_method_34_code 56 (.aload_n 0) 1 57 := ⟨by decide +kernel, rfl⟩
theorem d_9_expression_57 : zD prog_11_method_34_code 57 (.invokevirtual 224) 3 60 := ⟨by decide +kernel, rfl⟩
theorem d_9_expression_60 : zD prog_11_method_34_code 60 (.aload_n 0) 1 61 := ⟨by decide +kernel, rfl⟩
theorem d_9_expression_61 : zD prog_11_method_34_code 61 (.getfield 101) 3 64 := ⟨by decide +kernel, rfl⟩
theorem d_9_expression_64 : zD prog_11_method_34_code 64 (.aload_n 0) 1 65 := ⟨by decide +kernel, rfl⟩
theorem d_9_expression_65 : zD prog_11_method_34_code 65 (.getfield 295) 3 68 := ⟨by decide +kernel, rfl⟩
theorem d_9_expression_68 : zD prog_11_method_34_code 68 (.bipush 6) 2 70 := ⟨by decide +kernel, rfl⟩
theorem d_9_expression_70 : zD prog_11_method_34_code 70 (.iastore) 1 71 := ⟨by decide +kernel, rfl⟩
theorem d_9_expression_71 : zD prog_11_method_34_code 71 (.aload_n 0) 1 72 := ⟨by decide +kernel, rfl⟩
theorem d_9_expression_72 : zD prog_11_method_34_code 72 (.dup) 1 73 := ⟨by decide +kernel, rfl⟩
theorem d_9_expression_73 : zD prog_11_method_34_code 73 (.getfield 295) 3 76 := ⟨by decide +kernel, rfl⟩
theorem d_9_expression_76 : zD prog_11_method_34_code 76 (.iconst 1) 1 77 := ⟨by decide +kernel, rfl⟩
theorem d_9_expression_77 : zD prog_11_method_34_code 77 (.iadd) 1 78 := ⟨by decide +kernel, rfl⟩
theorem d_9_expression_78 : zD prog_11_method_34_code 78 (.putfield 295) 3 81 := ⟨by decide +kernel, rfl⟩
theorem d_9_expression_81 : zD prog_11_method_34_code 81 (.goto (-58)) 3 84 := ⟨by decide +kernel, rfl⟩
theorem d_9_expression_84 : zD prog_11_method_34_code 84 (.aload_n 0) 1 85 := ⟨by decide +kernel, rfl⟩
theorem d_9_expression_85 : zD prog_11_method_34_code 85 (.invokevirtual 301) 3 88 := ⟨by decide +kernel, rfl⟩
theorem d_9_expression_88 : zD prog_11_method_34_code 88 (.aload_n 0) 1 89 := ⟨by decide +kernel, rfl⟩
theorem d_9_expression_89 : zD prog_11_method_34_code 89 (.getfield 203) 3 92 := ⟨by decide +kernel, rfl⟩
theorem d_9_expression_92 : zD prog_11_method_34_code 92 (.ifCond .le 4) 3 95 := ⟨by decide +kernel, rfl⟩
theorem d_9_expression_95 : zD prog_11_method_34_code 95 (.return_) 1 96 := ⟨by decide +kernel, rfl⟩
theorem d_9_expression_96 : zD prog_11_method_34_code 96 (.aload_n 0) 1 97 := ⟨by decide +kernel, rfl⟩
theorem d_9_expression_97 : zD prog_11_method_34_code 97 (.bipush 7) 2 99 := ⟨by decide +kernel, rfl⟩
theorem d_9_expression_99 : zD prog_11_method_34_code 99 (.invokevirtual 221) 3 102 := ⟨by decide +kernel, rfl⟩
theorem d_9_expression_102 : zD prog_11_method_34_code 102 (.ifCond .eq 43) 3 105 := ⟨by decide +kernel, rfl⟩
theorem d_9_expression_105 : zD prog_11_method_34_code 105 (.aload_n 0) 1 106 := ⟨by decide +kernel, rfl⟩
theorem d_9_expression_106 : zD prog_11_method_34_code 106 (.getfield 230) 3 109 := ⟨by decide +kernel, rfl⟩
theorem d_9_expression_109 : zD prog_11_method_34_code 109 (.iload_n 1) 1 110 := ⟨by decide +kernel, rfl⟩
theorem d_9_expression_110 : zD prog_11_method_34_code 110 (.if_icmp .le 35) 3 113 := ⟨by decide +kernel, rfl⟩
theorem d_9_expression_113 : zD prog_11_method_34_code 113 (.aload_n 0) 1 114 := ⟨by decide +kernel, rfl⟩
theorem d_9_expression_114 : zD prog_11_method_34_code 114 (.iconst 0) 1 115 := ⟨by decide +kernel, rfl⟩
theorem d_9_expression_115 : zD prog_11_method_34_code 115 (.invokevirtual 304) 3 118 := ⟨by decide +kernel, rfl⟩
theorem d_9_expression_118 : zD prog_11_method_34_code 118 (.aload_n 0) 1 119 := ⟨by decide +kernel, rfl⟩
theorem d_9_expression_119 : zD prog_11_method_34_code 119 (.dup) 1 120 := ⟨by decide +kernel, rfl⟩
theorem d_9_expression_120 : zD prog_11_method_34_code 120 (.getfield 295) 3 123 := ⟨by decide +kernel, rfl⟩
theorem d_9_expression_123 : zD prog_11_method_34_code 123 (.iconst 1) 1 124 := ⟨by decide +kernel, rfl⟩
theorem d_9_expression_124 : zD prog_11_method_34_code 124 (.isub) 1 125 := ⟨by decide +kernel, rfl⟩
theorem d_9_expression_125 : zD prog_11_method_34_code 125 (.putfield 295) 3 128 := ⟨by decide +kernel, rfl⟩
theorem d_9_expression_128 : zD prog_11_method_34_code 128 (.aload_n 0) 1 129 := ⟨by decide +kernel, rfl⟩
theorem d_9_expression_129 : zD prog_11_method_34_code 129 (.dup) 1 130 := ⟨by decide +kernel, rfl⟩
theorem d_9_expression_130 : zD prog_11_method_34_code 130 (.getfield 230) 3 133 := ⟨by decide +kernel, rfl⟩
theorem d_9_expression_133 : zD prog_11_method_34_code 133 (.iconst 1) 1 134 := ⟨by decide +kernel, rfl⟩
theorem d_9_expression_134 : zD prog_11_method_34_code 134 (.isub) 1 135 := ⟨by decide +kernel, rfl⟩
theorem d_9_expression_135 : zD prog_11_method_34_code 135 (.putfield 230) 3 138 := ⟨by decide +kernel, rfl⟩
theorem d_9_expression_138 : zD prog_11_method_34_code 138 (.aload_n 0) 1 139 := ⟨by decide +kernel, rfl⟩
theorem d_9_expression_139 : zD prog_11_method_34_code 139 (.invokevirtual 224) 3 142 := ⟨by decide +kernel, rfl⟩
theorem d_9_expression_142 : zD prog_11_method_34_code 142 (.goto (-46)) 3 145 := ⟨by decide +kernel, rfl⟩
theorem d_9_expression_145 : zD prog_11_method_34_code 145 (.aload_n 0) 1 146 := ⟨by decide +kernel, rfl⟩
theorem d_9_expression_146 : zD prog_11_method_34_code 146 (.bipush 8) 2 148 := ⟨by decide +kernel, rfl⟩
theorem d_9_expression_148 : zD prog_11_method_34_code 148 (.invokevirtual 221) 3 151 := ⟨by decide +kernel, rfl⟩
theorem d_9_expression_151 : zD prog_11_method_34_code 151 (.ifCond .ne 30) 3 154 := ⟨by decide +kernel, rfl⟩
theorem d_9_expression_154 : zD prog_11_method_34_code 154 (.aload_n 0) 1 155 := ⟨by decide +kernel, rfl⟩
theorem d_9_expression_155 : zD prog_11_method_34_code 155 (.bipush 9) 2 157 := ⟨by decide +kernel, rfl⟩
theorem d_9_expression_157 : zD prog_11_method_34_code 157 (.invokevirtual 221) 3 160 := ⟨by decide +kernel, rfl⟩
theorem d_9_expression_160 : zD prog_11_method_34_code 160 (.ifCond .ne 21) 3 163 := ⟨by decide +kernel, rfl⟩
theorem d_9_expression_163 : zD prog_11_method_34_code 163 (.aload_n 0) 1 164 := ⟨by decide +kernel, rfl⟩
theorem d_9_expression_164 : zD prog_11_method_34_code 164 (.bipush 10) 2 166 := ⟨by decide +kernel, rfl⟩
theorem d_9_expression_166 : zD prog_11_method_34_code 166 (.invokevirtual 221) 3 169 := ⟨by decide +kernel, rfl⟩
theorem d_9_expression_169 : zD prog_11_method_34_code 169 (.ifCond .ne 12) 3 172 := ⟨by decide +kernel, rfl⟩
theorem d_9_expression_172 : zD prog_11_method_34_code 172 (.aload_n 0) 1 173 := ⟨by decide +kernel, rfl⟩
theorem d_9_expression_173 : zD prog_11_method_34_code 173 (.bipush 15) 2 175 := ⟨by decide +kernel, rfl⟩
theorem d_9_expression_175 : zD prog_11_method_34_code 175 (.invokevirtual 221) 3 178 := ⟨by decide +kernel, rfl⟩
theorem d_9_expression_178 : zD prog_11_method_34_code 178 (.ifCond .eq 7) 3 181 := ⟨by decide +kernel, rfl⟩
theorem d_9_expression_181 : zD prog_11_method_34_code 181 (.iconst 1) 1 182 := ⟨by decide +kernel, rfl⟩
theorem d_9_expression_182 : zD prog_11_method_34_code 182 (.goto 4) 3 185 := ⟨by decide +kernel, rfl⟩
theorem d_9_expression_185 : zD prog_11_method_34_code 185 (.iconst 0) 1 186 := ⟨by decide +kernel, rfl⟩
theorem d_9_expression_186 : zD prog_11_method_34_code 186 (.istore_n 2) 1 187 := ⟨by decide +kernel, rfl⟩
theorem d_9_expression_187 : zD prog_11_method_34_code 187 (.iload_n 2) 1 188 := ⟨by decide +kernel, rfl⟩
theorem d_9_expression_188 : zD prog_11_method_34_code 188 (.ifCond .ne 22) 3 191 := ⟨by decide +kernel, rfl⟩
theorem d_9_expression_191 : zD prog_11_method_34_code 191 (.aload_n 0) 1 192 := ⟨by decide +kernel, rfl⟩
theorem d_9_expression_192 : zD prog_11_method_34_code 192 (.getfield 230) 3 195 := ⟨by decide +kernel, rfl⟩
theorem d_9_expression_195 : zD prog_11_method_34_code 195 (.iload_n 1) 1 196 := ⟨by decide +kernel, rfl⟩
theorem d_9_expression_196 : zD prog_11_method_34_code 196 (.if_icmp .le 8) 3 199 := ⟨by decide +kernel, rfl⟩
theorem d_9_expression_199 : zD prog_11_method_34_code 199 (.aload_n 0) 1 200 := ⟨by decide +kernel, rfl⟩
theorem d_9_expression_200 : zD prog_11_method_34_code 200 (.iconst 1) 1 201 := ⟨by decide +kernel, rfl⟩
theorem d_9_expression_201 : zD prog_11_method_34_code 201 (.invokevirtual 218) 3 204 := ⟨by decide +kernel, rfl⟩
theorem d_9_expression_204 : zD prog_11_method_34_code 204 (.aload_n 0) 1 205 := ⟨by decide +kernel, rfl⟩
theorem d_9_expression_205 : zD prog_11_method_34_code 205 (.iconst 0) 1 206 := ⟨by decide +kernel, rfl⟩
theorem d_9_expression_206 : zD prog_11_method_34_code 206 (.invokevirtual 304) 3 209 := ⟨by decide +kernel, rfl⟩
theorem d_9_expression_209 : zD prog_11_method_34_code 209 (.return_) 1 210 := ⟨by decide +kernel, rfl⟩
theorem d_9_expression_210 : zD prog_11_method_34_code 210 (.aload_n 0) 1 211 := ⟨by decide +kernel, rfl⟩
theorem d_9_expression_211 : zD prog_11_method_34_code 211 (.aload_n 0) 1 212 := ⟨by decide +kernel, rfl⟩
theorem d_9_expression_212 : zD prog_11_method_34_code 212 (.bipush 10) 2 214 := ⟨by decide +kernel, rfl⟩
theorem d_9_expression_214 : zD prog_11_method_34_code 214 (.invokevirtual 221) 3 217 := ⟨by decide +kernel, rfl⟩
theorem d_9_expression_217 : zD prog_11_method_34_code 217 (.ifCond .ne 12) 3 220 := ⟨by decide +kernel, rfl⟩
theorem d_9_expression_220 : zD prog_11_method_34_code 220 (.aload_n 0) 1 221 := ⟨by decide +kernel, rfl⟩
theorem d_9_expression_221 : zD prog_11_method_34_code 221 (.bipush 15) 2 223 := ⟨by decide +kernel, rfl⟩
theorem d_9_expression_223 : zD prog_11_method_34_code 223 (.invokevirtual 221) 3 226 := ⟨by decide +kernel, rfl⟩
theorem d_9_expression_226 : zD prog_11_method_34_code 226 (.ifCond .eq 7) 3 229 := ⟨by decide +kernel, rfl⟩
theorem d_9_expression_229 : zD prog_11_method_34_code 229 (.iconst 1) 1 230 := ⟨by decide +kernel, rfl⟩
theorem d_9_expression_230 : zD prog_11_method_34_code 230 (.goto 4) 3 233 := ⟨by decide +kernel, rfl⟩
theorem d_9_expression_233 : zD prog_11_method_34_code 233 (.iconst 0) 1 234 := ⟨by decide +kernel, rfl⟩
theorem d_9_expression_234 : zD prog_11_method_34_code 234 (.invokevirtual 304) 3 237 := ⟨by decide +kernel, rfl⟩
theorem d_9_expression_237 : zD prog_11_method_34_code 237 (.aload_n 0) 1 238 := ⟨by decide +kernel, rfl⟩
theorem d_9_expression_238 : zD prog_11_method_34_code 238 (.getfield 101) 3 241 := ⟨by decide +kernel, rfl⟩
theorem d_9_expression_241 : zD prog_11_method_34_code 241 (.aload_n 0) 1 242 := ⟨by decide +kernel, rfl⟩
theorem d_9_expression_242 : zD prog_11_method_34_code 242 (.getfield 295) 3 245 := ⟨by decide +kernel, rfl⟩
theorem d_9_expression_245 : zD prog_11_method_34_code 245 (.aload_n 0) 1 246 := ⟨by decide +kernel, rfl⟩
theorem d_9_expression_246 : zD prog_11_method_34_code 246 (.getfield 20) 3 249 := ⟨by decide +kernel, rfl⟩
theorem d_9_expression_249 : zD prog_11_method_34_code 249 (.aload_n 0) 1 250 := ⟨by decide +kernel, rfl⟩
theorem d_9_expression_250 : zD prog_11_method_34_code 250 (.getfield 206) 3 253 := ⟨by decide +kernel, rfl⟩
theorem d_9_expression_253 : zD prog_11_method_34_code 253 (.iaload) 1 254 := ⟨by decide +kernel, rfl⟩
theorem d_9_expression_254 : zD prog_11_method_34_code 254 (.iastore) 1 255 := ⟨by decide +kernel, rfl⟩
theorem d_9_expression_255 : zD prog_11_method_34_code 255 (.aload_n 0) 1 256 := ⟨by decide +kernel, rfl⟩
theorem d_9_expression_256 : zD prog_11_method_34_code 256 (.dup) 1 257 := ⟨by decide +kernel, rfl⟩
theorem d_9_expression_257 : zD prog_11_method_34_code 257 (.getfield 295) 3 260 := ⟨by decide +kernel, rfl⟩
theorem d_9_expression_260 : zD prog_11_method_34_code 260 (.iconst 1) 1 261 := ⟨by decide +kernel, rfl⟩
theorem d_9_expression_261 : zD prog_11_method_34_code 261 (.iadd) 1 262 := ⟨by decide +kernel, rfl⟩
theorem d_9_expression_262 : zD prog_11_method_34_code 262 (.putfield 295) 3 265 := ⟨by decide +kernel, rfl⟩
theorem d_9_expression_265 : zD prog_11_method_34_code 265 (.aload_n 0) 1 266 := ⟨by decide +kernel, rfl⟩
theorem d_9_expression_266 : zD prog_11_method_34_code 266 (.invokevirtual 224) 3 269 := ⟨by decide +kernel, rfl⟩
theorem d_9_expression_269 : zD prog_11_method_34_code 269 (.goto (-257)) 3 272 := ⟨by decide +kernel, rfl⟩
theorem d_9_expression_272 : zD prog_11_method_34_code 272 (.return_) 1 273 := ⟨by decide +kernel, rfl⟩
def f8_restore (a1 : Int32) (μ : zMem) : Option (Int32 × zMem) :=
  (if a1 < 0 then some ((0 : Int32), μ) else (if a1 < (3 : Int32) then (if (f8_has (μ.1 8 0 11) a1) = 0 then some ((0 : Int32), μ) else if z_in a1 3 = true then z_let (f5_copyFrom 0 (43 + a1.toNatClampNeg) μ) (fun qm6 => z_let (f3_clear qm6) (fun qm8 => some ((1 : Int32), qm8))) else none) else some ((0 : Int32), μ)))
theorem s8_restore {P : zP} {μ : zMem} {a1 : Int32} {r : Int32} {μ' : zMem} (h : f8_restore a1 μ = some (r, μ')) : z_Sp P y_8_restore M_8_restore 2 [zA 8 0, zI a1] μ (some (zI r)) μ' := by
  refine z_Sp.of (plainFor_of_name (by decide)) rfl (l0 := [some (zA 8 0), some (zI a1)]) rfl (Nat.le_of_ble_eq_true rfl) ?_
  unfold f8_restore at h
  refine zr_iload_n (i := 1) d_8_restore_0 rfl rfl ?_
  refine zr_if_lt (tgt := 20) d_8_restore_1 rfl (fun hc1 => ?_) (fun hc1 => ?_)
  · replace h := z_ip h hc1
    refine zr_iconst (v := (0 : Int32)) d_8_restore_20 rfl ?_
    obtain ⟨rfl, rfl⟩ := Prod.mk.inj (Option.some.inj h)
    exact ze_z d_8_restore_21 rfl rfl
  · replace h := z_im h hc1
    refine zr_iload_n (i := 1) d_8_restore_4 rfl rfl ?_
    refine zr_iconst (v := (3 : Int32)) d_8_restore_5 rfl ?_
    refine zr_icmp_ge (tgt := 20) d_8_restore_6 rfl (fun hc2 => ?_) (fun hc2 => ?_)
    · replace h := z_ip h hc2
      refine zr_aload_n (i := 0) d_8_restore_9 rfl rfl ?_
      refine zr_geti d_8_restore_10 fw_8_62 (by decide) ?_
      refine zr_iload_n (i := 1) d_8_restore_13 rfl rfl ?_
      refine zr_callSi (av := [zI (μ.1 8 0 11), zI a1]) (st := []) d_8_restore_14 mw_8_has ml_8_159 is_8_has rfl rfl (Nat.le_of_ble_eq_true rfl) fit_1_2_2 (s8_has rfl) ?_
      refine zr_if_ne (tgt := 22) d_8_restore_17 rfl (fun hc4 => ?_) (fun hc4 => ?_)
      · replace h := z_ip h hc4
        refine zr_iconst (v := (0 : Int32)) d_8_restore_20 rfl ?_
        obtain ⟨rfl, rfl⟩ := Prod.mk.inj (Option.some.inj h)
        exact ze_z d_8_restore_21 rfl rfl
      · replace h := z_im h hc4
        refine zr_aload_n (i := 0) d_8_restore_22 rfl rfl ?_
        refine zr_gets (i' := 0) d_8_restore_23 fw_8_34 rfl ?_
        refine zr_aload_n (i := 0) d_8_restore_26 rfl rfl ?_
        refine zr_gets (i' := 0) d_8_restore_27 fw_8_58 rfl ?_
        refine zr_iload_n (i := 1) d_8_restore_30 rfl rfl ?_
        obtain ⟨hb5, h⟩ := z_gd h
        refine zr_aald d_8_restore_31 sa_37 rfl hb5 rfl ?_
        obtain ⟨qm6, hq7, h⟩ := z_lt h
        refine zr_callVv (av := [zA 5 (43 + a1.toNatClampNeg)]) (st := []) d_8_restore_32 mw_5_copyFrom ml_8_210 im_5_copyFrom se_5_copyFrom rfl rfl (Nat.le_of_ble_eq_true rfl) fit_1_2_2 rfl rfl rfl (s5_copyFrom hq7.symm) ?_
        refine zr_aload_n (i := 0) d_8_restore_35 rfl rfl ?_
        refine zr_gets (i' := 0) d_8_restore_36 fw_8_54 rfl ?_
        obtain ⟨qm8, hq9, h⟩ := z_lt h
        refine zr_callVv (av := []) (st := []) d_8_restore_39 mw_3_clear ml_8_102 im_3_clear se_3_clear rfl rfl (Nat.le_of_ble_eq_true rfl) fit_1_1_2 rfl rfl rfl (s3_clear hq9.symm) ?_
        refine zr_iconst (v := (1 : Int32)) d_8_restore_42 rfl ?_
        obtain ⟨rfl, rfl⟩ := Prod.mk.inj (Option.some.inj h)
        exact ze_z d_8_restore_43 rfl rfl
    · replace h := z_im h hc2
      refine zr_iconst (v := (0 : Int32)) d_8_restore_20 rfl ?_
      obtain ⟨rfl, rfl⟩ := Prod.mk.inj (Option.some.inj h)
      exact ze_z d_8_restore_21 rfl rfl
def f8_allGot_L1 (μ : zMem) : (Int32 × Int32) → Option ((Int32 × Int32) ⊕ (Int32)) := (z_u2 fun x2 x3 => 
  (if x3 < (μ.1 6 (μ.2.2 8 0 3) 1) then if z_in x3 7 = true then z_let (x2 + (μ.1 23 0 x3.toNatClampNeg)) fun v6 => some (.inl (v6, (x3 + (1 : Int32)))) else none else some (.inr x2)))
def f8_allGot  (μ : zMem) : Option (Int32) :=
  (z_it (f8_allGot_L1 μ) z_fu ((0 : Int32), (0 : Int32))).bind (fun e8 => some e8)
theorem s8_allGot_L1 {P : zP} {ro : Option zV} {μo : zMem} (μ : zMem) (x2 : Int32) (x3 : Int32) (K : (Int32 × Int32) ⊕ (Int32)) (h : f8_allGot_L1 μ (x2, x3) = some K) (hI : ∀ (y0 : Int32) (y1 : Int32), K = .inl (y0, y1) → z_RQ P M_8_allGot (z_rm 1) (z_mq P ro μo) 0 0 4 [some (zA 8 0), some (zI y0), some (zI y1)] [] μ) (hE : ∀ (z0 : Int32), K = .inr z0 → z_RQ P M_8_allGot (z_rm 1) (z_mq P ro μo) 0 0 33 [none, some (zI z0), none] [] μ)  : z_RQ P M_8_allGot (z_rm 1) (z_mq P ro μo) 0 0 4 [some (zA 8 0), some (zI x2), some (zI x3)] [] μ := by
  unfold f8_allGot_L1 at h
  replace h := z_h2 h
  refine zr_iload_n (i := 2) d_8_allGot_4 rfl rfl ?_
  refine zr_aload_n (i := 0) d_8_allGot_5 rfl rfl ?_
  refine zr_getd d_8_allGot_6 fw_8_27 ?_
  refine zr_geti d_8_allGot_9 fw_8_224 (by decide) ?_
  refine zr_icmp_ge (tgt := 33) d_8_allGot_12 rfl (fun hc4 => ?_) (fun hc4 => ?_)
  · replace h := z_ip h hc4
    refine zr_iload_n (i := 1) d_8_allGot_15 rfl rfl ?_
    refine zr_aload_n (i := 0) d_8_allGot_16 rfl rfl ?_
    refine zr_gets (i' := 0) d_8_allGot_17 fw_8_34 rfl ?_
    refine zr_gets (i' := 0) d_8_allGot_20 fw_8_143 rfl ?_
    refine zr_iload_n (i := 2) d_8_allGot_23 rfl rfl ?_
    obtain ⟨hb5, h⟩ := z_gd h
    refine zr_iald d_8_allGot_24 sa_23 rfl hb5 ?_
    refine zr_iadd d_8_allGot_25 ?_
    obtain ⟨v6, hv7, h⟩ := z_lt h
    refine zr_nm hv7 ?_
    refine zr_istore_n (i := 1) (l' := [some (zA 8 0), some (zI v6), some (zI x3)]) d_8_allGot_26 rfl (by decide) rfl ?_
    refine zr_iinc (v := (x3 + (1 : Int32))) (l' := [some (zA 8 0), some (zI v6), some (zI (x3 + (1 : Int32)))]) d_8_allGot_27 (by decide) rfl rfl rfl ?_
    refine zr_goto (tgt := 4) d_8_allGot_30 rfl ?_
    obtain rfl := Option.some.inj h
    exact zr_wk2 (hI v6 (x3 + (1 : Int32)) rfl) ⟨rfl, ⟨rfl, ⟨rfl, trivial⟩⟩⟩
  · replace h := z_im h hc4
    obtain rfl := Option.some.inj h
    exact zr_wk2 (hE x2 rfl) ⟨rfl, trivial⟩
theorem s8_allGot {P : zP} {μ : zMem} {r : Int32} (h : f8_allGot μ = some r) : z_Sp P y_8_allGot M_8_allGot 1 [zA 8 0] μ (some (zI r)) μ := by
  refine z_Sp.of (plainFor_of_name (by decide)) rfl (l0 := [some (zA 8 0), none, none]) rfl (Nat.le_of_ble_eq_true rfl) ?_
  unfold f8_allGot at h
  refine zr_iconst (v := (0 : Int32)) d_8_allGot_0 rfl ?_
  refine zr_istore_n (i := 1) (l' := [some (zA 8 0), some (zI (0 : Int32)), none]) d_8_allGot_1 rfl (by decide) rfl ?_
  refine zr_iconst (v := (0 : Int32)) d_8_allGot_2 rfl ?_
  refine zr_istore_n (i := 2) (l' := [some (zA 8 0), some (zI (0 : Int32)), some (zI (0 : Int32))]) d_8_allGot_3 rfl (by decide) rfl ?_
  obtain ⟨e8, hl9, h⟩ := z_bd h
  refine zr_wk (l' := [some (zA 8 0), some (zI (0 : Int32)), some (zI (0 : Int32))]) ⟨rfl, ⟨rfl, ⟨rfl, trivial⟩⟩⟩ ?_
  refine z_loop (Hd := (z_u2 fun y0 y1 => z_RQ P M_8_allGot (z_rm 1) (z_mq P (some (zI r)) μ) 0 0 4 [some (zA 8 0), some (zI y0), some (zI y1)] [] μ)) (Ex := (fun z0 => z_RQ P M_8_allGot (z_rm 1) (z_mq P (some (zI r)) μ) 0 0 33 [none, some (zI z0), none] [] μ)) (fun ⟨x2, x3⟩ K h hI hE => s8_allGot_L1 μ x2 x3 K h (fun y0 y1 e => hI (y0, y1) e) (fun z0 e => hE z0 e) ) _ _ _ hl9 ?_
  refine zr_iload_n (i := 1) d_8_allGot_33 rfl rfl ?_
  obtain rfl := Option.some.inj h
  exact ze_i d_8_allGot_34 rfl
def f8_allRent_L1 (μ : zMem) : (Int32 × Int32) → Option ((Int32 × Int32) ⊕ (Int32)) := (z_u2 fun x2 x3 => 
  (if x3 < (μ.1 6 (μ.2.2 8 0 3) 0) then if z_in x3 (z_len 26 (2 * (μ.2.2 8 0 3))) = true then z_let (x2 + (μ.1 26 (2 * (μ.2.2 8 0 3)) x3.toNatClampNeg)) fun v6 => some (.inl (v6, (x3 + (1 : Int32)))) else none else some (.inr x2)))
def f8_allRent  (μ : zMem) : Option (Int32) :=
  (z_it (f8_allRent_L1 μ) z_fu ((0 : Int32), (0 : Int32))).bind (fun e8 => some e8)
theorem s8_allRent_L1 {P : zP} {ro : Option zV} {μo : zMem} (μ : zMem) (x2 : Int32) (x3 : Int32) (K : (Int32 × Int32) ⊕ (Int32)) (h : f8_allRent_L1 μ (x2, x3) = some K) (hI : ∀ (y0 : Int32) (y1 : Int32), K = .inl (y0, y1) → z_RQ P M_8_allRent (z_rm 1) (z_mq P ro μo) 0 0 4 [some (zA 8 0), some (zI y0), some (zI y1)] [] μ) (hE : ∀ (z0 : Int32), K = .inr z0 → z_RQ P M_8_allRent (z_rm 1) (z_mq P ro μo) 0 0 33 [none, some (zI z0), none] [] μ)  : z_RQ P M_8_allRent (z_rm 1) (z_mq P ro μo) 0 0 4 [some (zA 8 0), some (zI x2), some (zI x3)] [] μ := by
  unfold f8_allRent_L1 at h
  replace h := z_h2 h
  refine zr_iload_n (i := 2) d_8_allRent_4 rfl rfl ?_
  refine zr_aload_n (i := 0) d_8_allRent_5 rfl rfl ?_
  refine zr_getd d_8_allRent_6 fw_8_27 ?_
  refine zr_geti d_8_allRent_9 fw_8_156 (by decide) ?_
  refine zr_icmp_ge (tgt := 33) d_8_allRent_12 rfl (fun hc4 => ?_) (fun hc4 => ?_)
  · replace h := z_ip h hc4
    refine zr_iload_n (i := 1) d_8_allRent_15 rfl rfl ?_
    refine zr_aload_n (i := 0) d_8_allRent_16 rfl rfl ?_
    refine zr_getd d_8_allRent_17 fw_8_27 ?_
    refine zr_gets (i' := (2 * (μ.2.2 8 0 3))) d_8_allRent_20 fw_8_113 rfl ?_
    refine zr_iload_n (i := 2) d_8_allRent_23 rfl rfl ?_
    obtain ⟨hb5, h⟩ := z_gd h
    refine zr_iald d_8_allRent_24 sa_26 rfl hb5 ?_
    refine zr_iadd d_8_allRent_25 ?_
    obtain ⟨v6, hv7, h⟩ := z_lt h
    refine zr_nm hv7 ?_
    refine zr_istore_n (i := 1) (l' := [some (zA 8 0), some (zI v6), some (zI x3)]) d_8_allRent_26 rfl (by decide) rfl ?_
    refine zr_iinc (v := (x3 + (1 : Int32))) (l' := [some (zA 8 0), some (zI v6), some (zI (x3 + (1 : Int32)))]) d_8_allRent_27 (by decide) rfl rfl rfl ?_
    refine zr_goto (tgt := 4) d_8_allRent_30 rfl ?_
    obtain rfl := Option.some.inj h
    exact zr_wk2 (hI v6 (x3 + (1 : Int32)) rfl) ⟨rfl, ⟨rfl, ⟨rfl, trivial⟩⟩⟩
  · replace h := z_im h hc4
    obtain rfl := Option.some.inj h
    exact zr_wk2 (hE x2 rfl) ⟨rfl, trivial⟩
theorem s8_allRent {P : zP} {μ : zMem} {r : Int32} (h : f8_allRent μ = some r) : z_Sp P y_8_allRent M_8_allRent 1 [zA 8 0] μ (some (zI r)) μ := by
  refine z_Sp.of (plainFor_of_name (by decide)) rfl (l0 := [some (zA 8 0), none, none]) rfl (Nat.le_of_ble_eq_true rfl) ?_
  unfold f8_allRent at h
  refine zr_iconst (v := (0 : Int32)) d_8_allRent_0 rfl ?_
  refine zr_istore_n (i := 1) (l' := [some (zA 8 0), some (zI (0 : Int32)), none]) d_8_allRent_1 rfl (by decide) rfl ?_
  refine zr_iconst (v := (0 : Int32)) d_8_allRent_2 rfl ?_
  refine zr_istore_n (i := 2) (l' := [some (zA 8 0), some (zI (0 : Int32)), some (zI (0 : Int32))]) d_8_allRent_3 rfl (by decide) rfl ?_
  obtain ⟨e8, hl9, h⟩ := z_bd h
  refine zr_wk (l' := [some (zA 8 0), some (zI (0 : Int32)), some (zI (0 : Int32))]) ⟨rfl, ⟨rfl, ⟨rfl, trivial⟩⟩⟩ ?_
  refine z_loop (Hd := (z_u2 fun y0 y1 => z_RQ P M_8_allRent (z_rm 1) (z_mq P (some (zI r)) μ) 0 0 4 [some (zA 8 0), some (zI y0), some (zI y1)] [] μ)) (Ex := (fun z0 => z_RQ P M_8_allRent (z_rm 1) (z_mq P (some (zI r)) μ) 0 0 33 [none, some (zI z0), none] [] μ)) (fun ⟨x2, x3⟩ K h hI hE => s8_allRent_L1 μ x2 x3 K h (fun y0 y1 e => hI (y0, y1) e) (fun z0 e => hE z0 e) ) _ _ _ hl9 ?_
  refine zr_iload_n (i := 1) d_8_allRent_33 rfl rfl ?_
  obtain rfl := Option.some.inj h
  exact ze_i d_8_allRent_34 rfl
def f8_allGone_L1 (μ : zMem) : (Int32 × Int32) → Option ((Int32 × Int32) ⊕ (Int32)) := (z_u2 fun x2 x3 => 
  (if x3 < (μ.1 6 (μ.2.2 8 0 3) 1) then if z_in x3 7 = true then z_let (x2 + (μ.1 22 0 x3.toNatClampNeg)) fun v6 => some (.inl (v6, (x3 + (1 : Int32)))) else none else some (.inr x2)))
def f8_allGone  (μ : zMem) : Option (Int32) :=
  (z_it (f8_allGone_L1 μ) z_fu ((0 : Int32), (0 : Int32))).bind (fun e8 => some e8)
theorem s8_allGone_L1 {P : zP} {ro : Option zV} {μo : zMem} (μ : zMem) (x2 : Int32) (x3 : Int32) (K : (Int32 × Int32) ⊕ (Int32)) (h : f8_allGone_L1 μ (x2, x3) = some K) (hI : ∀ (y0 : Int32) (y1 : Int32), K = .inl (y0, y1) → z_RQ P M_8_allGone (z_rm 1) (z_mq P ro μo) 0 0 4 [some (zA 8 0), some (zI y0), some (zI y1)] [] μ) (hE : ∀ (z0 : Int32), K = .inr z0 → z_RQ P M_8_allGone (z_rm 1) (z_mq P ro μo) 0 0 33 [none, some (zI z0), none] [] μ)  : z_RQ P M_8_allGone (z_rm 1) (z_mq P ro μo) 0 0 4 [some (zA 8 0), some (zI x2), some (zI x3)] [] μ := by
  unfold f8_allGone_L1 at h
  replace h := z_h2 h
  refine zr_iload_n (i := 2) d_8_allGone_4 rfl rfl ?_
  refine zr_aload_n (i := 0) d_8_allGone_5 rfl rfl ?_
  refine zr_getd d_8_allGone_6 fw_8_27 ?_
  refine zr_geti d_8_allGone_9 fw_8_224 (by decide) ?_
  refine zr_icmp_ge (tgt := 33) d_8_allGone_12 rfl (fun hc4 => ?_) (fun hc4 => ?_)
  · replace h := z_ip h hc4
    refine zr_iload_n (i := 1) d_8_allGone_15 rfl rfl ?_
    refine zr_aload_n (i := 0) d_8_allGone_16 rfl rfl ?_
    refine zr_gets (i' := 0) d_8_allGone_17 fw_8_34 rfl ?_
    refine zr_gets (i' := 0) d_8_allGone_20 fw_8_140 rfl ?_
    refine zr_iload_n (i := 2) d_8_allGone_23 rfl rfl ?_
    obtain ⟨hb5, h⟩ := z_gd h
    refine zr_iald d_8_allGone_24 sa_22 rfl hb5 ?_
    refine zr_iadd d_8_allGone_25 ?_
    obtain ⟨v6, hv7, h⟩ := z_lt h
    refine zr_nm hv7 ?_
    refine zr_istore_n (i := 1) (l' := [some (zA 8 0), some (zI v6), some (zI x3)]) d_8_allGone_26 rfl (by decide) rfl ?_
    refine zr_iinc (v := (x3 + (1 : Int32))) (l' := [some (zA 8 0), some (zI v6), some (zI (x3 + (1 : Int32)))]) d_8_allGone_27 (by decide) rfl rfl rfl ?_
    refine zr_goto (tgt := 4) d_8_allGone_30 rfl ?_
    obtain rfl := Option.some.inj h
    exact zr_wk2 (hI v6 (x3 + (1 : Int32)) rfl) ⟨rfl, ⟨rfl, ⟨rfl, trivial⟩⟩⟩
  · replace h := z_im h hc4
    obtain rfl := Option.some.inj h
    exact zr_wk2 (hE x2 rfl) ⟨rfl, trivial⟩
theorem s8_allGone {P : zP} {μ : zMem} {r : Int32} (h : f8_allGone μ = some r) : z_Sp P y_8_allGone M_8_allGone 1 [zA 8 0] μ (some (zI r)) μ := by
  refine z_Sp.of (plainFor_of_name (by decide)) rfl (l0 := [some (zA 8 0), none, none]) rfl (Nat.le_of_ble_eq_true rfl) ?_
  unfold f8_allGone at h
  refine zr_iconst (v := (0 : Int32)) d_8_allGone_0 rfl ?_
  refine zr_istore_n (i := 1) (l' := [some (zA 8 0), some (zI (0 : Int32)), none]) d_8_allGone_1 rfl (by decide) rfl ?_
  refine zr_iconst (v := (0 : Int32)) d_8_allGone_2 rfl ?_
  refine zr_istore_n (i := 2) (l' := [some (zA 8 0), some (zI (0 : Int32)), some (zI (0 : Int32))]) d_8_allGone_3 rfl (by decide) rfl ?_
  obtain ⟨e8, hl9, h⟩ := z_bd h
  refine zr_wk (l' := [some (zA 8 0), some (zI (0 : Int32)), some (zI (0 : Int32))]) ⟨rfl, ⟨rfl, ⟨rfl, trivial⟩⟩⟩ ?_
  refine z_loop (Hd := (z_u2 fun y0 y1 => z_RQ P M_8_allGone (z_rm 1) (z_mq P (some (zI r)) μ) 0 0 4 [some (zA 8 0), some (zI y0), some (zI y1)] [] μ)) (Ex := (fun z0 => z_RQ P M_8_allGone (z_rm 1) (z_mq P (some (zI r)) μ) 0 0 33 [none, some (zI z0), none] [] μ)) (fun ⟨x2, x3⟩ K h hI hE => s8_allGone_L1 μ x2 x3 K h (fun y0 y1 e => hI (y0, y1) e) (fun z0 e => hE z0 e) ) _ _ _ hl9 ?_
  refine zr_iload_n (i := 1) d_8_allGone_33 rfl rfl ?_
  obtain rfl := Option.some.inj h
  exact ze_i d_8_allGone_34 rfl
def f8_allRents_L3  : (Int32 × Int32 × zMem) → Option ((Int32 × Int32 × zMem) ⊕ (Int32 × zMem)) := (z_u3 fun x4 x5 xm6 => 
  (if x5 < (xm6.1 6 (xm6.2.2 8 0 3) 0) then (f1_rentsOf 0 (xm6.2.2 8 0 3) 0 x5 xm6).bind (z_u2 fun q8 qm9 => some (.inl ((x4 + q8), (x5 + (1 : Int32)), qm9))) else some (.inr (x4, xm6))))
def f8_allRents  (μ : zMem) : Option (Int32 × zMem) :=
  (f1_look 0 (μ.2.2 8 0 3) 0 μ).bind (fun qm1 => (z_it (f8_allRents_L3) z_fu ((0 : Int32), (0 : Int32), qm1)).bind (z_u2 fun e11 e12 => some (e11, e12)))
theorem s8_allRents_L3 {P : zP} {ro : Option zV} {μo : zMem}  (x4 : Int32) (x5 : Int32) (xm6 : zMem) (K : (Int32 × Int32 × zMem) ⊕ (Int32 × zMem)) (h : f8_allRents_L3  (x4, x5, xm6) = some K) (hI : ∀ (y0 : Int32) (y1 : Int32) (y2 : zMem), K = .inl (y0, y1, y2) → z_RQ P M_8_allRents (z_rm 5) (z_mq P ro μo) 0 0 19 [some (zA 8 0), some (zI y0), some (zI y1)] [] y2) (hE : ∀ (z0 : Int32) (z1 : zMem), K = .inr (z0, z1) → z_RQ P M_8_allRents (z_rm 5) (z_mq P ro μo) 0 0 55 [none, some (zI z0), none] [] z1)  : z_RQ P M_8_allRents (z_rm 5) (z_mq P ro μo) 0 0 19 [some (zA 8 0), some (zI x4), some (zI x5)] [] xm6 := by
  unfold f8_allRents_L3 at h
  replace h := z_h3 h
  refine zr_iload_n (i := 2) d_8_allRents_19 rfl rfl ?_
  refine zr_aload_n (i := 0) d_8_allRents_20 rfl rfl ?_
  refine zr_getd d_8_allRents_21 fw_8_27 ?_
  refine zr_geti d_8_allRents_24 fw_8_156 (by decide) ?_
  refine zr_icmp_ge (tgt := 55) d_8_allRents_27 rfl (fun hc7 => ?_) (fun hc7 => ?_)
  · replace h := z_ip h hc7
    refine zr_iload_n (i := 1) d_8_allRents_30 rfl rfl ?_
    refine zr_aload_n (i := 0) d_8_allRents_31 rfl rfl ?_
    refine zr_gets (i' := 0) d_8_allRents_32 fw_8_68 rfl ?_
    refine zr_aload_n (i := 0) d_8_allRents_35 rfl rfl ?_
    refine zr_getd d_8_allRents_36 fw_8_27 ?_
    refine zr_aload_n (i := 0) d_8_allRents_39 rfl rfl ?_
    refine zr_gets (i' := 0) d_8_allRents_40 fw_8_34 rfl ?_
    refine zr_iload_n (i := 2) d_8_allRents_43 rfl rfl ?_
    obtain ⟨⟨q8, qm9⟩, hq10, h⟩ := z_bd h
    replace h := z_h2 h
    refine zr_callVi (av := [zA 6 (xm6.2.2 8 0 3), zA 5 0, zI x5]) (st := [zI x4]) d_8_allRents_44 mw_1_rentsOf ml_8_127 im_1_rentsOf se_1_rentsOf rfl rfl (Nat.le_of_ble_eq_true rfl) fit_4_5_5 rfl rfl rfl (s1_rentsOf hq10) ?_
    refine zr_iadd d_8_allRents_47 ?_
    refine zr_istore_n (i := 1) (l' := [some (zA 8 0), some (zI (x4 + q8)), some (zI x5)]) d_8_allRents_48 rfl (by decide) rfl ?_
    refine zr_iinc (v := (x5 + (1 : Int32))) (l' := [some (zA 8 0), some (zI (x4 + q8)), some (zI (x5 + (1 : Int32)))]) d_8_allRents_49 (by decide) rfl rfl rfl ?_
    refine zr_goto (tgt := 19) d_8_allRents_52 rfl ?_
    obtain rfl := Option.some.inj h
    exact zr_wk2 (hI (x4 + q8) (x5 + (1 : Int32)) qm9 rfl) ⟨rfl, ⟨rfl, ⟨rfl, trivial⟩⟩⟩
  · replace h := z_im h hc7
    obtain rfl := Option.some.inj h
    exact zr_wk2 (hE x4 xm6 rfl) ⟨rfl, trivial⟩
theorem s8_allRents {P : zP} {μ : zMem} {r : Int32} {μ' : zMem} (h : f8_allRents μ = some (r, μ')) : z_Sp P y_8_allRents M_8_allRents 5 [zA 8 0] μ (some (zI r)) μ' := by
  refine z_Sp.of (plainFor_of_name (by decide)) rfl (l0 := [some (zA 8 0), none, none]) rfl (Nat.le_of_ble_eq_true rfl) ?_
  unfold f8_allRents at h
  refine zr_aload_n (i := 0) d_8_allRents_0 rfl rfl ?_
  refine zr_gets (i' := 0) d_8_allRents_1 fw_8_68 rfl ?_
  refine zr_aload_n (i := 0) d_8_allRents_4 rfl rfl ?_
  refine zr_getd d_8_allRents_5 fw_8_27 ?_
  refine zr_aload_n (i := 0) d_8_allRents_8 rfl rfl ?_
  refine zr_gets (i' := 0) d_8_allRents_9 fw_8_34 rfl ?_
  obtain ⟨qm1, hq2, h⟩ := z_bd h
  refine zr_callVv (av := [zA 6 (μ.2.2 8 0 3), zA 5 0]) (st := []) d_8_allRents_12 mw_1_look ml_8_123 im_1_look se_1_look rfl rfl (Nat.le_of_ble_eq_true rfl) fit_4_5_5 rfl rfl rfl (s1_look hq2) ?_
  refine zr_iconst (v := (0 : Int32)) d_8_allRents_15 rfl ?_
  refine zr_istore_n (i := 1) (l' := [some (zA 8 0), some (zI (0 : Int32)), none]) d_8_allRents_16 rfl (by decide) rfl ?_
  refine zr_iconst (v := (0 : Int32)) d_8_allRents_17 rfl ?_
  refine zr_istore_n (i := 2) (l' := [some (zA 8 0), some (zI (0 : Int32)), some (zI (0 : Int32))]) d_8_allRents_18 rfl (by decide) rfl ?_
  obtain ⟨⟨e11, e12⟩, hl13, h⟩ := z_bd h
  replace h := z_h2 h
  refine zr_wk (l' := [some (zA 8 0), some (zI (0 : Int32)), some (zI (0 : Int32))]) ⟨rfl, ⟨rfl, ⟨rfl, trivial⟩⟩⟩ ?_
  refine z_loop (Hd := (z_u3 fun y0 y1 y2 => z_RQ P M_8_allRents (z_rm 5) (z_mq P (some (zI r)) μ') 0 0 19 [some (zA 8 0), some (zI y0), some (zI y1)] [] y2)) (Ex := (z_u2 fun z0 z1 => z_RQ P M_8_allRents (z_rm 5) (z_mq P (some (zI r)) μ') 0 0 55 [none, some (zI z0), none] [] z1)) (fun ⟨x4, x5, xm6⟩ K h hI hE => s8_allRents_L3  x4 x5 xm6 K h (fun y0 y1 y2 e => hI (y0, y1, y2) e) (fun z0 z1 e => hE (z0, z1) e) ) _ _ _ hl13 ?_
  refine zr_iload_n (i := 1) d_8_allRents_55 rfl rfl ?_
  obtain ⟨rfl, rfl⟩ := Prod.mk.inj (Option.some.inj h)
  exact ze_i d_8_allRents_56 rfl
def f8_whoHasNoRight_L4 (μ : zMem) : (Int32 × Int32) → Option ((Int32 × Int32) ⊕ (Int32)) := (z_u2 fun x5 x6 => 
  (if x6 < (μ.1 6 (μ.2.2 8 0 3) 0) then if z_in x6 5 = true then z_let (x5 &&& ((μ.1 25 0 x6.toNatClampNeg) ^^^ (-1 : Int32))) fun v9 => some (.inl (v9, (x6 + (1 : Int32)))) else none else some (.inr x5)))
def f8_whoHasNoRight  (μ : zMem) : Option (Int32) :=
  z_let (f8_everybody (μ.1 6 (μ.2.2 8 0 3) 1)) fun v2 => (z_it (f8_whoHasNoRight_L4 μ) z_fu (v2, (0 : Int32))).bind (fun e11 => some e11)
theorem s8_whoHasNoRight_L4 {P : zP} {ro : Option zV} {μo : zMem} (μ : zMem) (x5 : Int32) (x6 : Int32) (K : (Int32 × Int32) ⊕ (Int32)) (h : f8_whoHasNoRight_L4 μ (x5, x6) = some K) (hI : ∀ (y0 : Int32) (y1 : Int32), K = .inl (y0, y1) → z_RQ P M_8_whoHasNoRight (z_rm 2) (z_mq P ro μo) 0 0 13 [some (zA 8 0), some (zI y0), some (zI y1)] [] μ) (hE : ∀ (z0 : Int32), K = .inr z0 → z_RQ P M_8_whoHasNoRight (z_rm 2) (z_mq P ro μo) 0 0 44 [none, some (zI z0), none] [] μ)  : z_RQ P M_8_whoHasNoRight (z_rm 2) (z_mq P ro μo) 0 0 13 [some (zA 8 0), some (zI x5), some (zI x6)] [] μ := by
  unfold f8_whoHasNoRight_L4 at h
  replace h := z_h2 h
  refine zr_iload_n (i := 2) d_8_whoHasNoRight_13 rfl rfl ?_
  refine zr_aload_n (i := 0) d_8_whoHasNoRight_14 rfl rfl ?_
  refine zr_getd d_8_whoHasNoRight_15 fw_8_27 ?_
  refine zr_geti d_8_whoHasNoRight_18 fw_8_156 (by decide) ?_
  refine zr_icmp_ge (tgt := 44) d_8_whoHasNoRight_21 rfl (fun hc7 => ?_) (fun hc7 => ?_)
  · replace h := z_ip h hc7
    refine zr_iload_n (i := 1) d_8_whoHasNoRight_24 rfl rfl ?_
    refine zr_aload_n (i := 0) d_8_whoHasNoRight_25 rfl rfl ?_
    refine zr_gets (i' := 0) d_8_whoHasNoRight_26 fw_8_34 rfl ?_
    refine zr_gets (i' := 0) d_8_whoHasNoRight_29 fw_8_120 rfl ?_
    refine zr_iload_n (i := 2) d_8_whoHasNoRight_32 rfl rfl ?_
    obtain ⟨hb8, h⟩ := z_gd h
    refine zr_iald d_8_whoHasNoRight_33 sa_25 rfl hb8 ?_
    refine zr_iconst (v := (-1 : Int32)) d_8_whoHasNoRight_34 rfl ?_
    refine zr_ixor d_8_whoHasNoRight_35 ?_
    refine zr_iand d_8_whoHasNoRight_36 ?_
    obtain ⟨v9, hv10, h⟩ := z_lt h
    refine zr_nm hv10 ?_
    refine zr_istore_n (i := 1) (l' := [some (zA 8 0), some (zI v9), some (zI x6)]) d_8_whoHasNoRight_37 rfl (by decide) rfl ?_
    refine zr_iinc (v := (x6 + (1 : Int32))) (l' := [some (zA 8 0), some (zI v9), some (zI (x6 + (1 : Int32)))]) d_8_whoHasNoRight_38 (by decide) rfl rfl rfl ?_
    refine zr_goto (tgt := 13) d_8_whoHasNoRight_41 rfl ?_
    obtain rfl := Option.some.inj h
    exact zr_wk2 (hI v9 (x6 + (1 : Int32)) rfl) ⟨rfl, ⟨rfl, ⟨rfl, trivial⟩⟩⟩
  · replace h := z_im h hc7
    obtain rfl := Option.some.inj h
    exact zr_wk2 (hE x5 rfl) ⟨rfl, trivial⟩
theorem s8_whoHasNoRight {P : zP} {μ : zMem} {r : Int32} (h : f8_whoHasNoRight μ = some r) : z_Sp P y_8_whoHasNoRight M_8_whoHasNoRight 2 [zA 8 0] μ (some (zI r)) μ := by
  refine z_Sp.of (plainFor_of_name (by decide)) rfl (l0 := [some (zA 8 0), none, none]) rfl (Nat.le_of_ble_eq_true rfl) ?_
  unfold f8_whoHasNoRight at h
  refine zr_aload_n (i := 0) d_8_whoHasNoRight_0 rfl rfl ?_
  refine zr_getd d_8_whoHasNoRight_1 fw_8_27 ?_
  refine zr_geti d_8_whoHasNoRight_4 fw_8_224 (by decide) ?_
  refine zr_callSi (av := [zI (μ.1 6 (μ.2.2 8 0 3) 1)]) (st := []) d_8_whoHasNoRight_7 mw_8_everybody ml_8_320 is_8_everybody rfl rfl (Nat.le_of_ble_eq_true rfl) fit_1_1_2 (s8_everybody rfl) ?_
  obtain ⟨v2, hv3, h⟩ := z_lt h
  refine zr_nm hv3 ?_
  refine zr_istore_n (i := 1) (l' := [some (zA 8 0), some (zI v2), none]) d_8_whoHasNoRight_10 rfl (by decide) rfl ?_
  refine zr_iconst (v := (0 : Int32)) d_8_whoHasNoRight_11 rfl ?_
  refine zr_istore_n (i := 2) (l' := [some (zA 8 0), some (zI v2), some (zI (0 : Int32))]) d_8_whoHasNoRight_12 rfl (by decide) rfl ?_
  obtain ⟨e11, hl12, h⟩ := z_bd h
  refine zr_wk (l' := [some (zA 8 0), some (zI v2), some (zI (0 : Int32))]) ⟨rfl, ⟨rfl, ⟨rfl, trivial⟩⟩⟩ ?_
  refine z_loop (Hd := (z_u2 fun y0 y1 => z_RQ P M_8_whoHasNoRight (z_rm 2) (z_mq P (some (zI r)) μ) 0 0 13 [some (zA 8 0), some (zI y0), some (zI y1)] [] μ)) (Ex := (fun z0 => z_RQ P M_8_whoHasNoRight (z_rm 2) (z_mq P (some (zI r)) μ) 0 0 44 [none, some (zI z0), none] [] μ)) (fun ⟨x5, x6⟩ K h hI hE => s8_whoHasNoRight_L4 μ x5 x6 K h (fun y0 y1 e => hI (y0, y1) e) (fun z0 e => hE z0 e) ) _ _ _ hl12 ?_
  refine zr_iload_n (i := 1) d_8_whoHasNoRight_44 rfl rfl ?_
  obtain rfl := Option.some.inj h
  exact ze_i d_8_whoHasNoRight_45 rfl
def f8_count (a1 : Int32) (μ : zMem) : Option (Int32 × zMem) :=
  (if a1 = (0 : Int32) then some ((μ.1 6 (μ.2.2 8 0 3) 0), μ) else (if a1 = (1 : Int32) then some ((μ.1 6 (μ.2.2 8 0 3) 1), μ) else (if a1 = (2 : Int32) then some ((μ.1 5 0 0), μ) else (if a1 = (3 : Int32) then some ((f5_whoStands 0 (μ.2.2 8 0 3) (a1 - (3 : Int32)) μ), μ) else (if a1 = (4 : Int32) then some ((f5_whoStands 0 (μ.2.2 8 0 3) (a1 - (3 : Int32)) μ), μ) else (if a1 = (5 : Int32) then some ((f5_whoStands 0 (μ.2.2 8 0 3) (a1 - (3 : Int32)) μ), μ) else (if a1 = (6 : Int32) then (f5_allLandlords 0 (μ.2.2 8 0 3) μ).bind (fun q11 => some (q11, μ)) else (if a1 = (7 : Int32) then (f8_allGot μ).bind (fun q14 => some (q14, μ)) else (if a1 = (8 : Int32) then some ((μ.1 8 0 1), μ) else (if a1 = (9 : Int32) then some ((μ.1 3 0 2), μ) else (if a1 = (10 : Int32) then some ((μ.1 2 0 2), μ) else (if a1 = (11 : Int32) then some ((fj6_bitCount_0f7a4 (μ.1 8 0 11)), μ) else (if a1 = (12 : Int32) then (f8_allRights μ).bind (fun q22 => some (q22, μ)) else (if a1 = (13 : Int32) then (f8_allRent μ).bind (fun q25 => some (q25, μ)) else (if a1 = (14 : Int32) then (f8_allGone μ).bind (fun q28 => some (q28, μ)) else (if a1 = (15 : Int32) then (f8_allRents μ).bind (z_u2 fun q31 qm32 => some (q31, qm32)) else (if a1 = (16 : Int32) then (f8_whoHasNoRight μ).bind (fun q35 => some (q35, μ)) else some ((-1 : Int32), μ))))))))))))))))))
theorem s8_count {P : zP} {μ : zMem} {a1 : Int32} {r : Int32} {μ' : zMem} (h : f8_count a1 μ = some (r, μ')) : z_Sp P y_8_count M_8_count 6 [zA 8 0, zI a1] μ (some (zI r)) μ' := by
  refine z_Sp.of (plainFor_of_name (by decide)) rfl (l0 := [some (zA 8 0), some (zI a1)]) rfl (Nat.le_of_ble_eq_true rfl) ?_
  unfold f8_count at h
  refine zr_iload_n (i := 1) d_8_count_0 rfl rfl ?_
  by_cases hs1 : a1 = (0 : Int32)
  · replace h := z_ip h hs1
    refine zr_tbl (off := 83) (tgt := 84) hs1 d_8_count_1 (by decide) (by decide) rfl rfl ?_
    refine zr_aload_n (i := 0) d_8_count_84 rfl rfl ?_
    refine zr_getd d_8_count_85 fw_8_27 ?_
    refine zr_geti d_8_count_88 fw_8_156 (by decide) ?_
    obtain ⟨rfl, rfl⟩ := Prod.mk.inj (Option.some.inj h)
    exact ze_i d_8_count_91 rfl
  · replace h := z_im h hs1
    by_cases hs2 : a1 = (1 : Int32)
    · replace h := z_ip h hs2
      refine zr_tbl (off := 91) (tgt := 92) hs2 d_8_count_1 (by decide) (by decide) rfl rfl ?_
      refine zr_aload_n (i := 0) d_8_count_92 rfl rfl ?_
      refine zr_getd d_8_count_93 fw_8_27 ?_
      refine zr_geti d_8_count_96 fw_8_224 (by decide) ?_
      obtain ⟨rfl, rfl⟩ := Prod.mk.inj (Option.some.inj h)
      exact ze_i d_8_count_99 rfl
    · replace h := z_im h hs2
      by_cases hs3 : a1 = (2 : Int32)
      · replace h := z_ip h hs3
        refine zr_tbl (off := 99) (tgt := 100) hs3 d_8_count_1 (by decide) (by decide) rfl rfl ?_
        refine zr_aload_n (i := 0) d_8_count_100 rfl rfl ?_
        refine zr_gets (i' := 0) d_8_count_101 fw_8_34 rfl ?_
        refine zr_geti d_8_count_104 fw_8_200 (by decide) ?_
        obtain ⟨rfl, rfl⟩ := Prod.mk.inj (Option.some.inj h)
        exact ze_i d_8_count_107 rfl
      · replace h := z_im h hs3
        by_cases hs4 : a1 = (3 : Int32)
        · replace h := z_ip h hs4
          refine zr_tbl (off := 107) (tgt := 108) hs4 d_8_count_1 (by decide) (by decide) rfl rfl ?_
          refine zr_aload_n (i := 0) d_8_count_108 rfl rfl ?_
          refine zr_gets (i' := 0) d_8_count_109 fw_8_34 rfl ?_
          refine zr_aload_n (i := 0) d_8_count_112 rfl rfl ?_
          refine zr_getd d_8_count_113 fw_8_27 ?_
          refine zr_iload_n (i := 1) d_8_count_116 rfl rfl ?_
          refine zr_iconst (v := (3 : Int32)) d_8_count_117 rfl ?_
          refine zr_isub d_8_count_118 ?_
          refine zr_callVi (av := [zA 6 (μ.2.2 8 0 3), zI (a1 - (3 : Int32))]) (st := []) d_8_count_119 mw_5_whoStands ml_8_270 im_5_whoStands se_5_whoStands rfl rfl (Nat.le_of_ble_eq_true rfl) fit_2_3_6 rfl rfl rfl (s5_whoStands rfl) ?_
          obtain ⟨rfl, rfl⟩ := Prod.mk.inj (Option.some.inj h)
          exact ze_i d_8_count_122 rfl
        · replace h := z_im h hs4
          by_cases hs6 : a1 = (4 : Int32)
          · replace h := z_ip h hs6
            refine zr_tbl (off := 107) (tgt := 108) hs6 d_8_count_1 (by decide) (by decide) rfl rfl ?_
            refine zr_aload_n (i := 0) d_8_count_108 rfl rfl ?_
            refine zr_gets (i' := 0) d_8_count_109 fw_8_34 rfl ?_
            refine zr_aload_n (i := 0) d_8_count_112 rfl rfl ?_
            refine zr_getd d_8_count_113 fw_8_27 ?_
            refine zr_iload_n (i := 1) d_8_count_116 rfl rfl ?_
            refine zr_iconst (v := (3 : Int32)) d_8_count_117 rfl ?_
            refine zr_isub d_8_count_118 ?_
            refine zr_callVi (av := [zA 6 (μ.2.2 8 0 3), zI (a1 - (3 : Int32))]) (st := []) d_8_count_119 mw_5_whoStands ml_8_270 im_5_whoStands se_5_whoStands rfl rfl (Nat.le_of_ble_eq_true rfl) fit_2_3_6 rfl rfl rfl (s5_whoStands rfl) ?_
            obtain ⟨rfl, rfl⟩ := Prod.mk.inj (Option.some.inj h)
            exact ze_i d_8_count_122 rfl
          · replace h := z_im h hs6
            by_cases hs8 : a1 = (5 : Int32)
            · replace h := z_ip h hs8
              refine zr_tbl (off := 107) (tgt := 108) hs8 d_8_count_1 (by decide) (by decide) rfl rfl ?_
              refine zr_aload_n (i := 0) d_8_count_108 rfl rfl ?_
              refine zr_gets (i' := 0) d_8_count_109 fw_8_34 rfl ?_
              refine zr_aload_n (i := 0) d_8_count_112 rfl rfl ?_
              refine zr_getd d_8_count_113 fw_8_27 ?_
              refine zr_iload_n (i := 1) d_8_count_116 rfl rfl ?_
              refine zr_iconst (v := (3 : Int32)) d_8_count_117 rfl ?_
              refine zr_isub d_8_count_118 ?_
              refine zr_callVi (av := [zA 6 (μ.2.2 8 0 3), zI (a1 - (3 : Int32))]) (st := []) d_8_count_119 mw_5_whoStands ml_8_270 im_5_whoStands se_5_whoStands rfl rfl (Nat.le_of_ble_eq_true rfl) fit_2_3_6 rfl rfl rfl (s5_whoStands rfl) ?_
              obtain ⟨rfl, rfl⟩ := Prod.mk.inj (Option.some.inj h)
              exact ze_i d_8_count_122 rfl
            · replace h := z_im h hs8
              by_cases hs10 : a1 = (6 : Int32)
              · replace h := z_ip h hs10
                refine zr_tbl (off := 122) (tgt := 123) hs10 d_8_count_1 (by decide) (by decide) rfl rfl ?_
                refine zr_aload_n (i := 0) d_8_count_123 rfl rfl ?_
                refine zr_gets (i' := 0) d_8_count_124 fw_8_34 rfl ?_
                refine zr_aload_n (i := 0) d_8_count_127 rfl rfl ?_
                refine zr_getd d_8_count_128 fw_8_27 ?_
                obtain ⟨q11, hq12, h⟩ := z_bd h
                refine zr_callVi (av := [zA 6 (μ.2.2 8 0 3)]) (st := []) d_8_count_131 mw_5_allLandlords ml_8_274 im_5_allLandlords se_5_allLandlords rfl rfl (Nat.le_of_ble_eq_true rfl) fit_4_5_6 rfl rfl rfl (s5_allLandlords hq12) ?_
                obtain ⟨rfl, rfl⟩ := Prod.mk.inj (Option.some.inj h)
                exact ze_i d_8_count_134 rfl
              · replace h := z_im h hs10
                by_cases hs13 : a1 = (7 : Int32)
                · replace h := z_ip h hs13
                  refine zr_tbl (off := 134) (tgt := 135) hs13 d_8_count_1 (by decide) (by decide) rfl rfl ?_
                  refine zr_aload_n (i := 0) d_8_count_135 rfl rfl ?_
                  obtain ⟨q14, hq15, h⟩ := z_bd h
                  refine zr_callVi (av := []) (st := []) d_8_count_136 mw_8_allGot ml_8_302 im_8_allGot se_8_allGot rfl rfl (Nat.le_of_ble_eq_true rfl) fit_1_3_6 rfl rfl rfl (s8_allGot hq15) ?_
                  obtain ⟨rfl, rfl⟩ := Prod.mk.inj (Option.some.inj h)
                  exact ze_i d_8_count_139 rfl
                · replace h := z_im h hs13
                  by_cases hs16 : a1 = (8 : Int32)
                  · replace h := z_ip h hs16
                    refine zr_tbl (off := 139) (tgt := 140) hs16 d_8_count_1 (by decide) (by decide) rfl rfl ?_
                    refine zr_aload_n (i := 0) d_8_count_140 rfl rfl ?_
                    refine zr_geti d_8_count_141 fw_8_13 (by decide) ?_
                    obtain ⟨rfl, rfl⟩ := Prod.mk.inj (Option.some.inj h)
                    exact ze_i d_8_count_144 rfl
                  · replace h := z_im h hs16
                    by_cases hs17 : a1 = (9 : Int32)
                    · replace h := z_ip h hs17
                      refine zr_tbl (off := 144) (tgt := 145) hs17 d_8_count_1 (by decide) (by decide) rfl rfl ?_
                      refine zr_aload_n (i := 0) d_8_count_145 rfl rfl ?_
                      refine zr_gets (i' := 0) d_8_count_146 fw_8_54 rfl ?_
                      refine zr_geti d_8_count_149 fw_8_305 (by decide) ?_
                      obtain ⟨rfl, rfl⟩ := Prod.mk.inj (Option.some.inj h)
                      exact ze_i d_8_count_152 rfl
                    · replace h := z_im h hs17
                      by_cases hs18 : a1 = (10 : Int32)
                      · replace h := z_ip h hs18
                        refine zr_tbl (off := 152) (tgt := 153) hs18 d_8_count_1 (by decide) (by decide) rfl rfl ?_
                        refine zr_aload_n (i := 0) d_8_count_153 rfl rfl ?_
                        refine zr_gets (i' := 0) d_8_count_154 fw_8_82 rfl ?_
                        refine zr_geti d_8_count_157 fw_8_281 (by decide) ?_
                        obtain ⟨rfl, rfl⟩ := Prod.mk.inj (Option.some.inj h)
                        exact ze_i d_8_count_160 rfl
                      · replace h := z_im h hs18
                        by_cases hs19 : a1 = (11 : Int32)
                        · replace h := z_ip h hs19
                          refine zr_tbl (off := 160) (tgt := 161) hs19 d_8_count_1 (by decide) (by decide) rfl rfl ?_
                          refine zr_aload_n (i := 0) d_8_count_161 rfl rfl ?_
                          refine zr_geti d_8_count_162 fw_8_62 (by decide) ?_
                          refine zr_callSi (av := [zI (μ.1 8 0 11)]) (st := []) d_8_count_165 mw_j6_bitCount_0f7a4 ml_8_241 is_j6_bitCount_0f7a4 rfl rfl (Nat.le_of_ble_eq_true rfl) fit_1_1_6 (sj6_bitCount_0f7a4 rfl) ?_
                          obtain ⟨rfl, rfl⟩ := Prod.mk.inj (Option.some.inj h)
                          exact ze_i d_8_count_168 rfl
                        · replace h := z_im h hs19
                          by_cases hs21 : a1 = (12 : Int32)
                          · replace h := z_ip h hs21
                            refine zr_tbl (off := 168) (tgt := 169) hs21 d_8_count_1 (by decide) (by decide) rfl rfl ?_
                            refine zr_aload_n (i := 0) d_8_count_169 rfl rfl ?_
                            obtain ⟨q22, hq23, h⟩ := z_bd h
                            refine zr_callVi (av := []) (st := []) d_8_count_170 mw_8_allRights ml_8_263 im_8_allRights se_8_allRights rfl rfl (Nat.le_of_ble_eq_true rfl) fit_2_3_6 rfl rfl rfl (s8_allRights hq23) ?_
                            obtain ⟨rfl, rfl⟩ := Prod.mk.inj (Option.some.inj h)
                            exact ze_i d_8_count_173 rfl
                          · replace h := z_im h hs21
                            by_cases hs24 : a1 = (13 : Int32)
                            · replace h := z_ip h hs24
                              refine zr_tbl (off := 173) (tgt := 174) hs24 d_8_count_1 (by decide) (by decide) rfl rfl ?_
                              refine zr_aload_n (i := 0) d_8_count_174 rfl rfl ?_
                              obtain ⟨q25, hq26, h⟩ := z_bd h
                              refine zr_callVi (av := []) (st := []) d_8_count_175 mw_8_allRent ml_8_308 im_8_allRent se_8_allRent rfl rfl (Nat.le_of_ble_eq_true rfl) fit_1_3_6 rfl rfl rfl (s8_allRent hq26) ?_
                              obtain ⟨rfl, rfl⟩ := Prod.mk.inj (Option.some.inj h)
                              exact ze_i d_8_count_178 rfl
                            · replace h := z_im h hs24
                              by_cases hs27 : a1 = (14 : Int32)
                              · replace h := z_ip h hs27
                                refine zr_tbl (off := 178) (tgt := 179) hs27 d_8_count_1 (by decide) (by decide) rfl rfl ?_
                                refine zr_aload_n (i := 0) d_8_count_179 rfl rfl ?_
                                obtain ⟨q28, hq29, h⟩ := z_bd h
                                refine zr_callVi (av := []) (st := []) d_8_count_180 mw_8_allGone ml_8_311 im_8_allGone se_8_allGone rfl rfl (Nat.le_of_ble_eq_true rfl) fit_1_3_6 rfl rfl rfl (s8_allGone hq29) ?_
                                obtain ⟨rfl, rfl⟩ := Prod.mk.inj (Option.some.inj h)
                                exact ze_i d_8_count_183 rfl
                              · replace h := z_im h hs27
                                by_cases hs30 : a1 = (15 : Int32)
                                · replace h := z_ip h hs30
                                  refine zr_tbl (off := 183) (tgt := 184) hs30 d_8_count_1 (by decide) (by decide) rfl rfl ?_
                                  refine zr_aload_n (i := 0) d_8_count_184 rfl rfl ?_
                                  obtain ⟨⟨q31, qm32⟩, hq33, h⟩ := z_bd h
                                  replace h := z_h2 h
                                  refine zr_callVi (av := []) (st := []) d_8_count_185 mw_8_allRents ml_8_314 im_8_allRents se_8_allRents rfl rfl (Nat.le_of_ble_eq_true rfl) fit_5_3_6 rfl rfl rfl (s8_allRents hq33) ?_
                                  obtain ⟨rfl, rfl⟩ := Prod.mk.inj (Option.some.inj h)
                                  exact ze_i d_8_count_188 rfl
                                · replace h := z_im h hs30
                                  by_cases hs34 : a1 = (16 : Int32)
                                  · replace h := z_ip h hs34
                                    refine zr_tbl (off := 188) (tgt := 189) hs34 d_8_count_1 (by decide) (by decide) rfl rfl ?_
                                    refine zr_aload_n (i := 0) d_8_count_189 rfl rfl ?_
                                    obtain ⟨q35, hq36, h⟩ := z_bd h
                                    refine zr_callVi (av := []) (st := []) d_8_count_190 mw_8_whoHasNoRight ml_8_317 im_8_whoHasNoRight se_8_whoHasNoRight rfl rfl (Nat.le_of_ble_eq_true rfl) fit_2_3_6 rfl rfl rfl (s8_whoHasNoRight hq36) ?_
                                    obtain ⟨rfl, rfl⟩ := Prod.mk.inj (Option.some.inj h)
                                    exact ze_i d_8_count_193 rfl
                                  · replace h := z_im h hs34
                                    have hs1t := z_ti hs1
                                    have hs2t := z_ti hs2
                                    have hs3t := z_ti hs3
                                    have hs4t := z_ti hs4
                                    have hs6t := z_ti hs6
                                    have hs8t := z_ti hs8
                                    have hs10t := z_ti hs10
                                    have hs13t := z_ti hs13
                                    have hs16t := z_ti hs16
                                    have hs17t := z_ti hs17
                                    have hs18t := z_ti hs18
                                    have hs19t := z_ti hs19
                                    have hs21t := z_ti hs21
                                    have hs24t := z_ti hs24
                                    have hs27t := z_ti hs27
                                    have hs30t := z_ti hs30
                                    have hs34t := z_ti hs34
                                    simp only [show ((0 : Int32)).toInt = 0 from rfl, show ((1 : Int32)).toInt = 1 from rfl, show ((2 : Int32)).toInt = 2 from rfl, show ((3 : Int32)).toInt = 3 from rfl, show ((4 : Int32)).toInt = 4 from rfl, show ((5 : Int32)).toInt = 5 from rfl, show ((6 : Int32)).toInt = 6 from rfl, show ((7 : Int32)).toInt = 7 from rfl, show ((8 : Int32)).toInt = 8 from rfl, show ((9 : Int32)).toInt = 9 from rfl, show ((10 : Int32)).toInt = 10 from rfl, show ((11 : Int32)).toInt = 11 from rfl, show ((12 : Int32)).toInt = 12 from rfl, show ((13 : Int32)).toInt = 13 from rfl, show ((14 : Int32)).toInt = 14 from rfl, show ((15 : Int32)).toInt = 15 from rfl, show ((16 : Int32)).toInt = 16 from rfl] at hs1t hs2t hs3t hs4t hs6t hs8t hs10t hs13t hs16t hs17t hs18t hs19t hs21t hs24t hs27t hs30t hs34t
                                    refine zr_tableOut (tgt := 194) d_8_count_1 (by omega) rfl ?_
                                    refine zr_iconst (v := (-1 : Int32)) d_8_count_194 rfl ?_
                                    obtain ⟨rfl, rfl⟩ := Prod.mk.inj (Option.some.inj h)
                                    exact ze_i d_8_count_195 rfl
def f9_plain_L12 (a1 : Int32) : (Int32 × zMem) → Option ((Int32 × zMem) ⊕ (zMem)) := (z_u2 fun x13 xm14 => 
  (if x13 < (5 : Int32) then if z_in (((5 : Int32) * a1) + x13) 10 = true then z_let (z_sI xm14 125 0 (((5 : Int32) * a1) + x13).toNatClampNeg (0 : Int32)) fun m16 => some (.inl ((x13 + (1 : Int32)), m16)) else none else some (.inr xm14)))
def f9_plain_L21 (a1 : Int32) : (Int32 × zMem) → Option ((Int32 × zMem) ⊕ (zMem)) := (z_u2 fun x22 xm23 => 
  (if x22 < (7 : Int32) then if z_in (((7 : Int32) * a1) + x22) 14 = true then z_let (z_sI xm23 128 0 (((7 : Int32) * a1) + x22).toNatClampNeg (-1 : Int32)) fun m25 => some (.inl ((x22 + (1 : Int32)), m25)) else none else some (.inr xm23)))
def f9_plain_L30 (a1 : Int32) : (Int32 × zMem) → Option ((Int32 × zMem) ⊕ (zMem)) := (z_u2 fun x31 xm32 => 
  (if x31 < (4 : Int32) then if z_in (((4 : Int32) * a1) + x31) 8 = true then z_let (z_sI xm32 132 0 (((4 : Int32) * a1) + x31).toNatClampNeg (0 : Int32)) fun m34 => z_let (z_sI m34 133 0 (((4 : Int32) * a1) + x31).toNatClampNeg (0 : Int32)) fun m37 => some (.inl ((x31 + (1 : Int32)), m37)) else none else some (.inr xm32)))
def f9_plain (a1 : Int32) (μ : zMem) : Option (zMem) :=
  if z_in a1 2 = true then z_let (z_sI μ 123 0 a1.toNatClampNeg (0 : Int32)) fun m1 => z_let (z_sI m1 126 0 a1.toNatClampNeg (0 : Int32)) fun m4 => z_let (z_sI m4 129 0 a1.toNatClampNeg (0 : Int32)) fun m6 => z_let (z_sI m6 130 0 a1.toNatClampNeg (0 : Int32)) fun m8 => z_let (z_sI m8 131 0 a1.toNatClampNeg (0 : Int32)) fun m10 => (z_it (f9_plain_L12 a1) z_fu ((0 : Int32), m10)).bind (fun e19 => (z_it (f9_plain_L21 a1) z_fu ((0 : Int32), e19)).bind (fun e28 => (z_it (f9_plain_L30 a1) z_fu ((0 : Int32), e28)).bind (fun e39 => some e39))) else none
theorem s9_plain_L12 {P : zP} {ro : Option zV} {μo : zMem} (a1 : Int32) (x13 : Int32) (xm14 : zMem) (K : (Int32 × zMem) ⊕ (zMem)) (h : f9_plain_L12 a1 (x13, xm14) = some K) (hI : ∀ (y0 : Int32) (y1 : zMem), K = .inl (y0, y1) → z_RQ P M_9_plain (z_rm 1) (z_mq P ro μo) 0 0 37 [some (zA 9 0), some (zI a1), some (zI y0)] [] y1) (hE : ∀ (z0 : zMem), K = .inr z0 → z_RQ P M_9_plain (z_rm 1) (z_mq P ro μo) 0 0 59 [some (zA 9 0), some (zI a1), none] [] z0)  : z_RQ P M_9_plain (z_rm 1) (z_mq P ro μo) 0 0 37 [some (zA 9 0), some (zI a1), some (zI x13)] [] xm14 := by
  unfold f9_plain_L12 at h
  replace h := z_h2 h
  refine zr_iload_n (i := 2) d_9_plain_37 rfl rfl ?_
  refine zr_iconst (v := (5 : Int32)) d_9_plain_38 rfl ?_
  refine zr_icmp_ge (tgt := 59) d_9_plain_39 rfl (fun hc15 => ?_) (fun hc15 => ?_)
  · replace h := z_ip h hc15
    refine zr_aload_n (i := 0) d_9_plain_42 rfl rfl ?_
    refine zr_gets (i' := 0) d_9_plain_43 fw_9_52 rfl ?_
    refine zr_iconst (v := (5 : Int32)) d_9_plain_46 rfl ?_
    refine zr_iload_n (i := 1) d_9_plain_47 rfl rfl ?_
    refine zr_imul d_9_plain_48 ?_
    refine zr_iload_n (i := 2) d_9_plain_49 rfl rfl ?_
    refine zr_iadd d_9_plain_50 ?_
    refine zr_iconst (v := (0 : Int32)) d_9_plain_51 rfl ?_
    obtain ⟨hb18, h⟩ := z_gd h
    obtain ⟨m16, hm17, h⟩ := z_lt h
    refine zr_iast d_9_plain_52 sa_125 rfl hb18 hm17 ?_
    refine zr_iinc (v := (x13 + (1 : Int32))) (l' := [some (zA 9 0), some (zI a1), some (zI (x13 + (1 : Int32)))]) d_9_plain_53 (by decide) rfl rfl rfl ?_
    refine zr_goto (tgt := 37) d_9_plain_56 rfl ?_
    obtain rfl := Option.some.inj h
    exact zr_wk2 (hI (x13 + (1 : Int32)) m16 rfl) ⟨rfl, ⟨rfl, ⟨rfl, trivial⟩⟩⟩
  · replace h := z_im h hc15
    obtain rfl := Option.some.inj h
    exact zr_wk2 (hE xm14 rfl) ⟨rfl, ⟨rfl, trivial⟩⟩
theorem s9_plain_L21 {P : zP} {ro : Option zV} {μo : zMem} (a1 : Int32) (x22 : Int32) (xm23 : zMem) (K : (Int32 × zMem) ⊕ (zMem)) (h : f9_plain_L21 a1 (x22, xm23) = some K) (hI : ∀ (y0 : Int32) (y1 : zMem), K = .inl (y0, y1) → z_RQ P M_9_plain (z_rm 1) (z_mq P ro μo) 0 0 61 [some (zA 9 0), some (zI a1), some (zI y0)] [] y1) (hE : ∀ (z0 : zMem), K = .inr z0 → z_RQ P M_9_plain (z_rm 1) (z_mq P ro μo) 0 0 85 [some (zA 9 0), some (zI a1), none] [] z0)  : z_RQ P M_9_plain (z_rm 1) (z_mq P ro μo) 0 0 61 [some (zA 9 0), some (zI a1), some (zI x22)] [] xm23 := by
  unfold f9_plain_L21 at h
  replace h := z_h2 h
  refine zr_iload_n (i := 2) d_9_plain_61 rfl rfl ?_
  refine zr_bipush (v := (7 : Int32)) d_9_plain_62 rfl ?_
  refine zr_icmp_ge (tgt := 85) d_9_plain_64 rfl (fun hc24 => ?_) (fun hc24 => ?_)
  · replace h := z_ip h hc24
    refine zr_aload_n (i := 0) d_9_plain_67 rfl rfl ?_
    refine zr_gets (i' := 0) d_9_plain_68 fw_9_61 rfl ?_
    refine zr_bipush (v := (7 : Int32)) d_9_plain_71 rfl ?_
    refine zr_iload_n (i := 1) d_9_plain_73 rfl rfl ?_
    refine zr_imul d_9_plain_74 ?_
    refine zr_iload_n (i := 2) d_9_plain_75 rfl rfl ?_
    refine zr_iadd d_9_plain_76 ?_
    refine zr_iconst (v := (-1 : Int32)) d_9_plain_77 rfl ?_
    obtain ⟨hb27, h⟩ := z_gd h
    obtain ⟨m25, hm26, h⟩ := z_lt h
    refine zr_iast d_9_plain_78 sa_128 rfl hb27 hm26 ?_
    refine zr_iinc (v := (x22 + (1 : Int32))) (l' := [some (zA 9 0), some (zI a1), some (zI (x22 + (1 : Int32)))]) d_9_plain_79 (by decide) rfl rfl rfl ?_
    refine zr_goto (tgt := 61) d_9_plain_82 rfl ?_
    obtain rfl := Option.some.inj h
    exact zr_wk2 (hI (x22 + (1 : Int32)) m25 rfl) ⟨rfl, ⟨rfl, ⟨rfl, trivial⟩⟩⟩
  · replace h := z_im h hc24
    obtain rfl := Option.some.inj h
    exact zr_wk2 (hE xm23 rfl) ⟨rfl, ⟨rfl, trivial⟩⟩
theorem s9_plain_L30 {P : zP} {ro : Option zV} {μo : zMem} (a1 : Int32) (x31 : Int32) (xm32 : zMem) (K : (Int32 × zMem) ⊕ (zMem)) (h : f9_plain_L30 a1 (x31, xm32) = some K) (hI : ∀ (y0 : Int32) (y1 : zMem), K = .inl (y0, y1) → z_RQ P M_9_plain (z_rm 1) (z_mq P ro μo) 0 0 87 [some (zA 9 0), some (zI a1), some (zI y0)] [] y1) (hE : ∀ (z0 : zMem), K = .inr z0 → z_RQ P M_9_plain (z_rm 1) (z_mq P ro μo) 0 0 120 [none, none, none] [] z0)  : z_RQ P M_9_plain (z_rm 1) (z_mq P ro μo) 0 0 87 [some (zA 9 0), some (zI a1), some (zI x31)] [] xm32 := by
  unfold f9_plain_L30 at h
  replace h := z_h2 h
  refine zr_iload_n (i := 2) d_9_plain_87 rfl rfl ?_
  refine zr_iconst (v := (4 : Int32)) d_9_plain_88 rfl ?_
  refine zr_icmp_ge (tgt := 120) d_9_plain_89 rfl (fun hc33 => ?_) (fun hc33 => ?_)
  · replace h := z_ip h hc33
    refine zr_aload_n (i := 0) d_9_plain_92 rfl rfl ?_
    refine zr_gets (i' := 0) d_9_plain_93 fw_9_73 rfl ?_
    refine zr_iconst (v := (4 : Int32)) d_9_plain_96 rfl ?_
    refine zr_iload_n (i := 1) d_9_plain_97 rfl rfl ?_
    refine zr_imul d_9_plain_98 ?_
    refine zr_iload_n (i := 2) d_9_plain_99 rfl rfl ?_
    refine zr_iadd d_9_plain_100 ?_
    refine zr_iconst (v := (0 : Int32)) d_9_plain_101 rfl ?_
    obtain ⟨hb36, h⟩ := z_gd h
    obtain ⟨m34, hm35, h⟩ := z_lt h
    refine zr_iast d_9_plain_102 sa_132 rfl hb36 hm35 ?_
    refine zr_aload_n (i := 0) d_9_plain_103 rfl rfl ?_
    refine zr_gets (i' := 0) d_9_plain_104 fw_9_76 rfl ?_
    refine zr_iconst (v := (4 : Int32)) d_9_plain_107 rfl ?_
    refine zr_iload_n (i := 1) d_9_plain_108 rfl rfl ?_
    refine zr_imul d_9_plain_109 ?_
    refine zr_iload_n (i := 2) d_9_plain_110 rfl rfl ?_
    refine zr_iadd d_9_plain_111 ?_
    refine zr_iconst (v := (0 : Int32)) d_9_plain_112 rfl ?_
    obtain ⟨m37, hm38, h⟩ := z_lt h
    refine zr_iast d_9_plain_113 sa_133 rfl hb36 hm38 ?_
    refine zr_iinc (v := (x31 + (1 : Int32))) (l' := [some (zA 9 0), some (zI a1), some (zI (x31 + (1 : Int32)))]) d_9_plain_114 (by decide) rfl rfl rfl ?_
    refine zr_goto (tgt := 87) d_9_plain_117 rfl ?_
    obtain rfl := Option.some.inj h
    exact zr_wk2 (hI (x31 + (1 : Int32)) m37 rfl) ⟨rfl, ⟨rfl, ⟨rfl, trivial⟩⟩⟩
  · replace h := z_im h hc33
    obtain rfl := Option.some.inj h
    exact zr_wk2 (hE xm32 rfl) trivial
theorem s9_plain {P : zP} {μ : zMem} {a1 : Int32} {μ' : zMem} (h : f9_plain a1 μ = some μ') : z_Sp P y_9_plain M_9_plain 1 [zA 9 0, zI a1] μ none μ' := by
  refine z_Sp.of (plainFor_of_name (by decide)) rfl (l0 := [some (zA 9 0), some (zI a1), none]) rfl (Nat.le_of_ble_eq_true rfl) ?_
  unfold f9_plain at h
  refine zr_aload_n (i := 0) d_9_plain_0 rfl rfl ?_
  refine zr_gets (i' := 0) d_9_plain_1 fw_9_46 rfl ?_
  refine zr_iload_n (i := 1) d_9_plain_4 rfl rfl ?_
  refine zr_iconst (v := (0 : Int32)) d_9_plain_5 rfl ?_
  obtain ⟨hb3, h⟩ := z_gd h
  obtain ⟨m1, hm2, h⟩ := z_lt h
  refine zr_iast d_9_plain_6 sa_123 rfl hb3 hm2 ?_
  refine zr_aload_n (i := 0) d_9_plain_7 rfl rfl ?_
  refine zr_gets (i' := 0) d_9_plain_8 fw_9_55 rfl ?_
  refine zr_iload_n (i := 1) d_9_plain_11 rfl rfl ?_
  refine zr_iconst (v := (0 : Int32)) d_9_plain_12 rfl ?_
  obtain ⟨m4, hm5, h⟩ := z_lt h
  refine zr_iast d_9_plain_13 sa_126 rfl hb3 hm5 ?_
  refine zr_aload_n (i := 0) d_9_plain_14 rfl rfl ?_
  refine zr_gets (i' := 0) d_9_plain_15 fw_9_64 rfl ?_
  refine zr_iload_n (i := 1) d_9_plain_18 rfl rfl ?_
  refine zr_iconst (v := (0 : Int32)) d_9_plain_19 rfl ?_
  obtain ⟨m6, hm7, h⟩ := z_lt h
  refine zr_iast d_9_plain_20 sa_129 rfl hb3 hm7 ?_
  refine zr_aload_n (i := 0) d_9_plain_21 rfl rfl ?_
  refine zr_gets (i' := 0) d_9_plain_22 fw_9_67 rfl ?_
  refine zr_iload_n (i := 1) d_9_plain_25 rfl rfl ?_
  refine zr_iconst (v := (0 : Int32)) d_9_plain_26 rfl ?_
  obtain ⟨m8, hm9, h⟩ := z_lt h
  refine zr_iast d_9_plain_27 sa_130 rfl hb3 hm9 ?_
  refine zr_aload_n (i := 0) d_9_plain_28 rfl rfl ?_
  refine zr_gets (i' := 0) d_9_plain_29 fw_9_70 rfl ?_
  refine zr_iload_n (i := 1) d_9_plain_32 rfl rfl ?_
  refine zr_iconst (v := (0 : Int32)) d_9_plain_33 rfl ?_
  obtain ⟨m10, hm11, h⟩ := z_lt h
  refine zr_iast d_9_plain_34 sa_131 rfl hb3 hm11 ?_
  refine zr_iconst (v := (0 : Int32)) d_9_plain_35 rfl ?_
  refine zr_istore_n (i := 2) (l' := [some (zA 9 0), some (zI a1), some (zI (0 : Int32))]) d_9_plain_36 rfl (by decide) rfl ?_
  obtain ⟨e19, hl20, h⟩ := z_bd h
  refine zr_wk (l' := [some (zA 9 0), some (zI a1), some (zI (0 : Int32))]) ⟨rfl, ⟨rfl, ⟨rfl, trivial⟩⟩⟩ ?_
  refine z_loop (Hd := (z_u2 fun y0 y1 => z_RQ P M_9_plain (z_rm 1) (z_mq P none μ') 0 0 37 [some (zA 9 0), some (zI a1), some (zI y0)] [] y1)) (Ex := (fun z0 => z_RQ P M_9_plain (z_rm 1) (z_mq P none μ') 0 0 59 [some (zA 9 0), some (zI a1), none] [] z0)) (fun ⟨x13, xm14⟩ K h hI hE => s9_plain_L12 a1 x13 xm14 K h (fun y0 y1 e => hI (y0, y1) e) (fun z0 e => hE z0 e) ) _ _ _ hl20 ?_
  refine zr_iconst (v := (0 : Int32)) d_9_plain_59 rfl ?_
  refine zr_istore_n (i := 2) (l' := [some (zA 9 0), some (zI a1), some (zI (0 : Int32))]) d_9_plain_60 rfl (by decide) rfl ?_
  obtain ⟨e28, hl29, h⟩ := z_bd h
  refine zr_wk (l' := [some (zA 9 0), some (zI a1), some (zI (0 : Int32))]) ⟨rfl, ⟨rfl, ⟨rfl, trivial⟩⟩⟩ ?_
  refine z_loop (Hd := (z_u2 fun y0 y1 => z_RQ P M_9_plain (z_rm 1) (z_mq P none μ') 0 0 61 [some (zA 9 0), some (zI a1), some (zI y0)] [] y1)) (Ex := (fun z0 => z_RQ P M_9_plain (z_rm 1) (z_mq P none μ') 0 0 85 [some (zA 9 0), some (zI a1), none] [] z0)) (fun ⟨x22, xm23⟩ K h hI hE => s9_plain_L21 a1 x22 xm23 K h (fun y0 y1 e => hI (y0, y1) e) (fun z0 e => hE z0 e) ) _ _ _ hl29 ?_
  refine zr_iconst (v := (0 : Int32)) d_9_plain_85 rfl ?_
  refine zr_istore_n (i := 2) (l' := [some (zA 9 0), some (zI a1), some (zI (0 : Int32))]) d_9_plain_86 rfl (by decide) rfl ?_
  obtain ⟨e39, hl40, h⟩ := z_bd h
  refine zr_wk (l' := [some (zA 9 0), some (zI a1), some (zI (0 : Int32))]) ⟨rfl, ⟨rfl, ⟨rfl, trivial⟩⟩⟩ ?_
  refine z_loop (Hd := (z_u2 fun y0 y1 => z_RQ P M_9_plain (z_rm 1) (z_mq P none μ') 0 0 87 [some (zA 9 0), some (zI a1), some (zI y0)] [] y1)) (Ex := (fun z0 => z_RQ P M_9_plain (z_rm 1) (z_mq P none μ') 0 0 120 [none, none, none] [] z0)) (fun ⟨x31, xm32⟩ K h hI hE => s9_plain_L30 a1 x31 xm32 K h (fun y0 y1 e => hI (y0, y1) e) (fun z0 e => hE z0 e) ) _ _ _ hl40 ?_
  obtain rfl := Option.some.inj h
  exact ze_v d_9_plain_120 rfl
def f9_appends (a0 : Int64) (a2 : Int32) : Int64 :=
  (if a2 = 0 then a0 else (((27 : Int64) * a0) + ((a2 - (97 : Int32)) + (1 : Int32)).toInt64))
theorem s9_appends {P : zP} {μ : zMem} {a0 : Int64} {a2 : Int32} {r : Int64} (h : f9_appends a0 a2 = r) : z_Sp P y_9_appends M_9_appends 1 [zL a0, zI a2] μ (some (zL r)) μ := by
  refine z_Sp.of (plainFor_of_name (by decide)) rfl (l0 := [some (zL a0), none, some (zI a2)]) rfl (Nat.le_of_ble_eq_true rfl) ?_
  unfold f9_appends at h
  refine zr_iload_n (i := 2) d_9_appends_0 rfl rfl ?_
  refine zr_if_ne (tgt := 8) d_9_appends_1 rfl (fun hc1 => ?_) (fun hc1 => ?_)
  · replace h := z_ip h hc1
    refine zr_lload_n (i := 0) d_9_appends_4 rfl rfl ?_
    refine zr_goto (tgt := 21) d_9_appends_5 rfl ?_
    obtain rfl := h
    exact ze_l d_9_appends_21 rfl
  · replace h := z_im h hc1
    refine zr_ldc2 (v := (27 : Int64)) d_9_appends_8 kc_9_175 ?_
    refine zr_lload_n (i := 0) d_9_appends_11 rfl rfl ?_
    refine zr_lmul d_9_appends_12 ?_
    refine zr_iload_n (i := 2) d_9_appends_13 rfl rfl ?_
    refine zr_bipush (v := (97 : Int32)) d_9_appends_14 rfl ?_
    refine zr_isub d_9_appends_16 ?_
    refine zr_iconst (v := (1 : Int32)) d_9_appends_17 rfl ?_
    refine zr_iadd d_9_appends_18 ?_
    refine zr_i2l d_9_appends_19 ?_
    refine zr_ladd d_9_appends_20 ?_
    obtain rfl := h
    exact ze_l d_9_appends_21 rfl
def f9_word (a0 : Int32) (a1 : Int32) (a2 : Int32) (a3 : Int32) (a4 : Int32) (a5 : Int32) (a6 : Int32) : Int64 :=
  (f9_appends (f9_appends (f9_appends (f9_appends (f9_appends (f9_appends (f9_appends (0 : Int64) a0) a1) a2) a3) a4) a5) a6)
theorem s9_word {P : zP} {μ : zMem} {a0 : Int32} {a1 : Int32} {a2 : Int32} {a3 : Int32} {a4 : Int32} {a5 : Int32} {a6 : Int32} {r : Int64} (h : f9_word a0 a1 a2 a3 a4 a5 a6 = r) : z_Sp P y_9_word M_9_word 2 [zI a0, zI a1, zI a2, zI a3, zI a4, zI a5, zI a6] μ (some (zL r)) μ := by
  refine z_Sp.of (plainFor_of_name (by decide)) rfl (l0 := [some (zI a0), some (zI a1), some (zI a2), some (zI a3), some (zI a4), some (zI a5), some (zI a6)]) rfl (Nat.le_of_ble_eq_true rfl) ?_
  unfold f9_word at h
  refine zr_lconst (v := (0 : Int64)) d_9_word_0 rfl ?_
  refine zr_iload_n (i := 0) d_9_word_1 rfl rfl ?_
  refine zr_callSl (av := [zL (0 : Int64), zI a0]) (st := []) d_9_word_2 mw_9_appends ml_9_177 is_9_appends rfl rfl (Nat.le_of_ble_eq_true rfl) fit_1_3_2 (s9_appends rfl) ?_
  refine zr_iload_n (i := 1) d_9_word_5 rfl rfl ?_
  refine zr_callSl (av := [zL (f9_appends (0 : Int64) a0), zI a1]) (st := []) d_9_word_6 mw_9_appends ml_9_177 is_9_appends rfl rfl (Nat.le_of_ble_eq_true rfl) fit_1_3_2 (s9_appends rfl) ?_
  refine zr_iload_n (i := 2) d_9_word_9 rfl rfl ?_
  refine zr_callSl (av := [zL (f9_appends (f9_appends (0 : Int64) a0) a1), zI a2]) (st := []) d_9_word_10 mw_9_appends ml_9_177 is_9_appends rfl rfl (Nat.le_of_ble_eq_true rfl) fit_1_3_2 (s9_appends rfl) ?_
  refine zr_iload_n (i := 3) d_9_word_13 rfl rfl ?_
  refine zr_callSl (av := [zL (f9_appends (f9_appends (f9_appends (0 : Int64) a0) a1) a2), zI a3]) (st := []) d_9_word_14 mw_9_appends ml_9_177 is_9_appends rfl rfl (Nat.le_of_ble_eq_true rfl) fit_1_3_2 (s9_appends rfl) ?_
  refine zr_iload d_9_word_17 rfl ?_
  refine zr_callSl (av := [zL (f9_appends (f9_appends (f9_appends (f9_appends (0 : Int64) a0) a1) a2) a3), zI a4]) (st := []) d_9_word_19 mw_9_appends ml_9_177 is_9_appends rfl rfl (Nat.le_of_ble_eq_true rfl) fit_1_3_2 (s9_appends rfl) ?_
  refine zr_iload d_9_word_22 rfl ?_
  refine zr_callSl (av := [zL (f9_appends (f9_appends (f9_appends (f9_appends (f9_appends (0 : Int64) a0) a1) a2) a3) a4), zI a5]) (st := []) d_9_word_24 mw_9_appends ml_9_177 is_9_appends rfl rfl (Nat.le_of_ble_eq_true rfl) fit_1_3_2 (s9_appends rfl) ?_
  refine zr_iload d_9_word_27 rfl ?_
  refine zr_callSl (av := [zL (f9_appends (f9_appends (f9_appends (f9_appends (f9_appends (f9_appends (0 : Int64) a0) a1) a2) a3) a4) a5), zI a6]) (st := []) d_9_word_29 mw_9_appends ml_9_177 is_9_appends rfl rfl (Nat.le_of_ble_eq_true rfl) fit_1_3_2 (s9_appends rfl) ?_
  obtain rfl := h
  exact ze_l d_9_word_32 rfl
def f9_begins_L1  : (Int32 × zMem) → Option ((Int32 × zMem) ⊕ (zMem)) := (z_u2 fun x2 xm3 => 
  (if x2 < (34 : Int32) then if z_in x2 34 = true then z_let (z_sI xm3 149 0 x2.toNatClampNeg (0 : Int32)) fun m5 => some (.inl ((x2 + (1 : Int32)), m5)) else none else some (.inr xm3)))
def f9_begins_L10  : (Int32 × zMem) → Option ((Int32 × zMem) ⊕ (zMem)) := (z_u2 fun x11 xm12 => 
  if z_in (xm12.1 9 0 18) 2 = true then (if x11 < (xm12.1 126 0 (xm12.1 9 0 18).toNatClampNeg) then if z_in (((7 : Int32) * (xm12.1 9 0 18)) + x11) 14 = true then z_let (xm12.1 128 0 (((7 : Int32) * (xm12.1 9 0 18)) + x11).toNatClampNeg) fun v16 => ((if v16 < 0 then some (0 : Int32) else some (1 : Int32)) : Option (Int32)).bind (fun j21 => if z_in x11 34 = true then z_let (z_sI xm12 149 0 x11.toNatClampNeg j21) fun m22 => ((if v16 < 0 then some (0 : Int32) else some v16) : Option (Int32)).bind (fun j28 => if z_in ((7 : Int32) + x11) 34 = true then z_let (z_sI m22 149 0 ((7 : Int32) + x11).toNatClampNeg j28) fun m29 => some (.inl ((x11 + (1 : Int32)), m29)) else none) else none) else none else some (.inr xm12)) else none)
def f9_begins_L34  : (Int32 × zMem) → Option ((Int32 × zMem) ⊕ (zMem)) := (z_u2 fun x35 xm36 => 
  if z_in (xm36.1 9 0 18) 2 = true then (if x35 < (xm36.1 123 0 (xm36.1 9 0 18).toNatClampNeg) then if z_in (((5 : Int32) * (xm36.1 9 0 18)) + x35) 10 = true then if z_in ((28 : Int32) + x35) 34 = true then z_let (z_sI xm36 149 0 ((28 : Int32) + x35).toNatClampNeg (xm36.1 125 0 (((5 : Int32) * (xm36.1 9 0 18)) + x35).toNatClampNeg)) fun m40 => some (.inl ((x35 + (1 : Int32)), m40)) else none else none else some (.inr xm36)) else none)
def f9_begins  (μ : zMem) : Option (zMem) :=
  (z_it (f9_begins_L1) z_fu ((0 : Int32), μ)).bind (fun e8 => (z_it (f9_begins_L10) z_fu ((0 : Int32), e8)).bind (fun e32 => (z_it (f9_begins_L34) z_fu ((0 : Int32), e32)).bind (fun e43 => if z_in (e43.1 9 0 18) 2 = true then z_let (z_sI e43 9 0 50 (e43.1 131 0 (e43.1 9 0 18).toNatClampNeg)) fun m46 => z_let (z_sI m46 9 0 51 (0 : Int32)) fun m48 => some m48 else none)))
theorem s9_begins_L1 {P : zP} {ro : Option zV} {μo : zMem}  (x2 : Int32) (xm3 : zMem) (K : (Int32 × zMem) ⊕ (zMem)) (h : f9_begins_L1  (x2, xm3) = some K) (hI : ∀ (y0 : Int32) (y1 : zMem), K = .inl (y0, y1) → z_RQ P M_9_begins (z_rm 1) (z_mq P ro μo) 0 0 2 [some (zA 9 0), some (zI y0), none] [] y1) (hE : ∀ (z0 : zMem), K = .inr z0 → z_RQ P M_9_begins (z_rm 1) (z_mq P ro μo) 0 0 21 [some (zA 9 0), none, none] [] z0)  : z_RQ P M_9_begins (z_rm 1) (z_mq P ro μo) 0 0 2 [some (zA 9 0), some (zI x2), none] [] xm3 := by
  unfold f9_begins_L1 at h
  replace h := z_h2 h
  refine zr_iload_n (i := 1) d_9_begins_2 rfl rfl ?_
  refine zr_bipush (v := (34 : Int32)) d_9_begins_3 rfl ?_
  refine zr_icmp_ge (tgt := 21) d_9_begins_5 rfl (fun hc4 => ?_) (fun hc4 => ?_)
  · replace h := z_ip h hc4
    refine zr_aload_n (i := 0) d_9_begins_8 rfl rfl ?_
    refine zr_gets (i' := 0) d_9_begins_9 fw_9_113 rfl ?_
    refine zr_iload_n (i := 1) d_9_begins_12 rfl rfl ?_
    refine zr_iconst (v := (0 : Int32)) d_9_begins_13 rfl ?_
    obtain ⟨hb7, h⟩ := z_gd h
    obtain ⟨m5, hm6, h⟩ := z_lt h
    refine zr_iast d_9_begins_14 sa_149 rfl hb7 hm6 ?_
    refine zr_iinc (v := (x2 + (1 : Int32))) (l' := [some (zA 9 0), some (zI (x2 + (1 : Int32))), none]) d_9_begins_15 (by decide) rfl rfl rfl ?_
    refine zr_goto (tgt := 2) d_9_begins_18 rfl ?_
    obtain rfl := Option.some.inj h
    exact zr_wk2 (hI (x2 + (1 : Int32)) m5 rfl) ⟨rfl, ⟨rfl, trivial⟩⟩
  · replace h := z_im h hc4
    obtain rfl := Option.some.inj h
    exact zr_wk2 (hE xm3 rfl) ⟨rfl, trivial⟩
theorem s9_begins_L10 {P : zP} {ro : Option zV} {μo : zMem}  (x11 : Int32) (xm12 : zMem) (K : (Int32 × zMem) ⊕ (zMem)) (h : f9_begins_L10  (x11, xm12) = some K) (hI : ∀ (y0 : Int32) (y1 : zMem), K = .inl (y0, y1) → z_RQ P M_9_begins (z_rm 1) (z_mq P ro μo) 0 0 23 [some (zA 9 0), some (zI y0), none] [] y1) (hE : ∀ (z0 : zMem), K = .inr z0 → z_RQ P M_9_begins (z_rm 1) (z_mq P ro μo) 0 0 90 [some (zA 9 0), none, none] [] z0)  : z_RQ P M_9_begins (z_rm 1) (z_mq P ro μo) 0 0 23 [some (zA 9 0), some (zI x11), none] [] xm12 := by
  unfold f9_begins_L10 at h
  replace h := z_h2 h
  refine zr_iload_n (i := 1) d_9_begins_23 rfl rfl ?_
  refine zr_aload_n (i := 0) d_9_begins_24 rfl rfl ?_
  refine zr_gets (i' := 0) d_9_begins_25 fw_9_55 rfl ?_
  refine zr_aload_n (i := 0) d_9_begins_28 rfl rfl ?_
  refine zr_geti d_9_begins_29 fw_9_233 (by decide) ?_
  obtain ⟨hb13, h⟩ := z_gd h
  refine zr_iald d_9_begins_32 sa_126 rfl hb13 ?_
  refine zr_icmp_ge (tgt := 90) d_9_begins_33 rfl (fun hc14 => ?_) (fun hc14 => ?_)
  · replace h := z_ip h hc14
    refine zr_aload_n (i := 0) d_9_begins_36 rfl rfl ?_
    refine zr_gets (i' := 0) d_9_begins_37 fw_9_61 rfl ?_
    refine zr_bipush (v := (7 : Int32)) d_9_begins_40 rfl ?_
    refine zr_aload_n (i := 0) d_9_begins_42 rfl rfl ?_
    refine zr_geti d_9_begins_43 fw_9_233 (by decide) ?_
    refine zr_imul d_9_begins_46 ?_
    refine zr_iload_n (i := 1) d_9_begins_47 rfl rfl ?_
    refine zr_iadd d_9_begins_48 ?_
    obtain ⟨hb15, h⟩ := z_gd h
    refine zr_iald d_9_begins_49 sa_128 rfl hb15 ?_
    obtain ⟨v16, hv17, h⟩ := z_lt h
    refine zr_nm hv17 ?_
    refine zr_istore_n (i := 2) (l' := [some (zA 9 0), some (zI x11), some (zI v16)]) d_9_begins_50 rfl (by decide) rfl ?_
    refine zr_aload_n (i := 0) d_9_begins_51 rfl rfl ?_
    refine zr_gets (i' := 0) d_9_begins_52 fw_9_113 rfl ?_
    refine zr_iload_n (i := 1) d_9_begins_55 rfl rfl ?_
    refine zr_iload_n (i := 2) d_9_begins_56 rfl rfl ?_
    obtain ⟨j21, hT18, h⟩ := z_bd h
    have hJ19 : z_RQ P M_9_begins (z_rm 1) (z_mq P ro μo) 0 0 65 [some (zA 9 0), some (zI x11), some (zI v16)] [zI j21, zI x11, zA 149 0] xm12 := by
      obtain ⟨hb24, h⟩ := z_gd h
      obtain ⟨m22, hm23, h⟩ := z_lt h
      refine zr_iast d_9_begins_65 sa_149 rfl hb24 hm23 ?_
      refine zr_aload_n (i := 0) d_9_begins_66 rfl rfl ?_
      refine zr_gets (i' := 0) d_9_begins_67 fw_9_113 rfl ?_
      refine zr_bipush (v := (7 : Int32)) d_9_begins_70 rfl ?_
      refine zr_iload_n (i := 1) d_9_begins_72 rfl rfl ?_
      refine zr_iadd d_9_begins_73 ?_
      refine zr_iload_n (i := 2) d_9_begins_74 rfl rfl ?_
      obtain ⟨j28, hT25, h⟩ := z_bd h
      have hJ26 : z_RQ P M_9_begins (z_rm 1) (z_mq P ro μo) 0 0 83 [some (zA 9 0), some (zI x11), none] [zI j28, zI ((7 : Int32) + x11), zA 149 0] m22 := by
        obtain ⟨hb31, h⟩ := z_gd h
        obtain ⟨m29, hm30, h⟩ := z_lt h
        refine zr_iast d_9_begins_83 sa_149 rfl hb31 hm30 ?_
        refine zr_iinc (v := (x11 + (1 : Int32))) (l' := [some (zA 9 0), some (zI (x11 + (1 : Int32))), none]) d_9_begins_84 (by decide) rfl rfl rfl ?_
        refine zr_goto (tgt := 23) d_9_begins_87 rfl ?_
        obtain rfl := Option.some.inj h
        exact zr_wk2 (hI (x11 + (1 : Int32)) m29 rfl) ⟨rfl, ⟨rfl, trivial⟩⟩
      refine zr_if_ge (tgt := 82) d_9_begins_75 rfl (fun hc27 => ?_) (fun hc27 => ?_)
      · replace hT25 := z_ip hT25 hc27
        refine zr_iconst (v := (0 : Int32)) d_9_begins_78 rfl ?_
        refine zr_goto (tgt := 83) d_9_begins_79 rfl ?_
        obtain rfl := Option.some.inj hT25
        exact zr_wk2 hJ26 ⟨rfl, ⟨rfl, trivial⟩⟩
      · replace hT25 := z_im hT25 hc27
        refine zr_iload_n (i := 2) d_9_begins_82 rfl rfl ?_
        obtain rfl := Option.some.inj hT25
        exact zr_wk2 hJ26 ⟨rfl, ⟨rfl, trivial⟩⟩
    refine zr_if_ge (tgt := 64) d_9_begins_57 rfl (fun hc20 => ?_) (fun hc20 => ?_)
    · replace hT18 := z_ip hT18 hc20
      refine zr_iconst (v := (0 : Int32)) d_9_begins_60 rfl ?_
      refine zr_goto (tgt := 65) d_9_begins_61 rfl ?_
      obtain rfl := Option.some.inj hT18
      exact zr_wk2 hJ19 ⟨rfl, ⟨rfl, ⟨rfl, trivial⟩⟩⟩
    · replace hT18 := z_im hT18 hc20
      refine zr_iconst (v := (1 : Int32)) d_9_begins_64 rfl ?_
      obtain rfl := Option.some.inj hT18
      exact zr_wk2 hJ19 ⟨rfl, ⟨rfl, ⟨rfl, trivial⟩⟩⟩
  · replace h := z_im h hc14
    obtain rfl := Option.some.inj h
    exact zr_wk2 (hE xm12 rfl) ⟨rfl, trivial⟩
theorem s9_begins_L34 {P : zP} {ro : Option zV} {μo : zMem}  (x35 : Int32) (xm36 : zMem) (K : (Int32 × zMem) ⊕ (zMem)) (h : f9_begins_L34  (x35, xm36) = some K) (hI : ∀ (y0 : Int32) (y1 : zMem), K = .inl (y0, y1) → z_RQ P M_9_begins (z_rm 1) (z_mq P ro μo) 0 0 92 [some (zA 9 0), some (zI y0), none] [] y1) (hE : ∀ (z0 : zMem), K = .inr z0 → z_RQ P M_9_begins (z_rm 1) (z_mq P ro μo) 0 0 133 [some (zA 9 0), none, none] [] z0)  : z_RQ P M_9_begins (z_rm 1) (z_mq P ro μo) 0 0 92 [some (zA 9 0), some (zI x35), none] [] xm36 := by
  unfold f9_begins_L34 at h
  replace h := z_h2 h
  refine zr_iload_n (i := 1) d_9_begins_92 rfl rfl ?_
  refine zr_aload_n (i := 0) d_9_begins_93 rfl rfl ?_
  refine zr_gets (i' := 0) d_9_begins_94 fw_9_46 rfl ?_
  refine zr_aload_n (i := 0) d_9_begins_97 rfl rfl ?_
  refine zr_geti d_9_begins_98 fw_9_233 (by decide) ?_
  obtain ⟨hb37, h⟩ := z_gd h
  refine zr_iald d_9_begins_101 sa_123 rfl hb37 ?_
  refine zr_icmp_ge (tgt := 133) d_9_begins_102 rfl (fun hc38 => ?_) (fun hc38 => ?_)
  · replace h := z_ip h hc38
    refine zr_aload_n (i := 0) d_9_begins_105 rfl rfl ?_
    refine zr_gets (i' := 0) d_9_begins_106 fw_9_113 rfl ?_
    refine zr_bipush (v := (28 : Int32)) d_9_begins_109 rfl ?_
    refine zr_iload_n (i := 1) d_9_begins_111 rfl rfl ?_
    refine zr_iadd d_9_begins_112 ?_
    refine zr_aload_n (i := 0) d_9_begins_113 rfl rfl ?_
    refine zr_gets (i' := 0) d_9_begins_114 fw_9_52 rfl ?_
    refine zr_iconst (v := (5 : Int32)) d_9_begins_117 rfl ?_
    refine zr_aload_n (i := 0) d_9_begins_118 rfl rfl ?_
    refine zr_geti d_9_begins_119 fw_9_233 (by decide) ?_
    refine zr_imul d_9_begins_122 ?_
    refine zr_iload_n (i := 1) d_9_begins_123 rfl rfl ?_
    refine zr_iadd d_9_begins_124 ?_
    obtain ⟨hb39, h⟩ := z_gd h
    refine zr_iald d_9_begins_125 sa_125 rfl hb39 ?_
    obtain ⟨hb42, h⟩ := z_gd h
    obtain ⟨m40, hm41, h⟩ := z_lt h
    refine zr_iast d_9_begins_126 sa_149 rfl hb42 hm41 ?_
    refine zr_iinc (v := (x35 + (1 : Int32))) (l' := [some (zA 9 0), some (zI (x35 + (1 : Int32))), none]) d_9_begins_127 (by decide) rfl rfl rfl ?_
    refine zr_goto (tgt := 92) d_9_begins_130 rfl ?_
    obtain rfl := Option.some.inj h
    exact zr_wk2 (hI (x35 + (1 : Int32)) m40 rfl) ⟨rfl, ⟨rfl, trivial⟩⟩
  · replace h := z_im h hc38
    obtain rfl := Option.some.inj h
    exact zr_wk2 (hE xm36 rfl) ⟨rfl, trivial⟩
theorem s9_begins {P : zP} {μ : zMem} {μ' : zMem} (h : f9_begins μ = some μ') : z_Sp P y_9_begins M_9_begins 1 [zA 9 0] μ none μ' := by
  refine z_Sp.of (plainFor_of_name (by decide)) rfl (l0 := [some (zA 9 0), none, none]) rfl (Nat.le_of_ble_eq_true rfl) ?_
  unfold f9_begins at h
  refine zr_iconst (v := (0 : Int32)) d_9_begins_0 rfl ?_
  refine zr_istore_n (i := 1) (l' := [some (zA 9 0), some (zI (0 : Int32)), none]) d_9_begins_1 rfl (by decide) rfl ?_
  obtain ⟨e8, hl9, h⟩ := z_bd h
  refine zr_wk (l' := [some (zA 9 0), some (zI (0 : Int32)), none]) ⟨rfl, ⟨rfl, trivial⟩⟩ ?_
  refine z_loop (Hd := (z_u2 fun y0 y1 => z_RQ P M_9_begins (z_rm 1) (z_mq P none μ') 0 0 2 [some (zA 9 0), some (zI y0), none] [] y1)) (Ex := (fun z0 => z_RQ P M_9_begins (z_rm 1) (z_mq P none μ') 0 0 21 [some (zA 9 0), none, none] [] z0)) (fun ⟨x2, xm3⟩ K h hI hE => s9_begins_L1  x2 xm3 K h (fun y0 y1 e => hI (y0, y1) e) (fun z0 e => hE z0 e) ) _ _ _ hl9 ?_
  refine zr_iconst (v := (0 : Int32)) d_9_begins_21 rfl ?_
  refine zr_istore_n (i := 1) (l' := [some (zA 9 0), some (zI (0 : Int32)), none]) d_9_begins_22 rfl (by decide) rfl ?_
  obtain ⟨e32, hl33, h⟩ := z_bd h
  refine zr_wk (l' := [some (zA 9 0), some (zI (0 : Int32)), none]) ⟨rfl, ⟨rfl, trivial⟩⟩ ?_
  refine z_loop (Hd := (z_u2 fun y0 y1 => z_RQ P M_9_begins (z_rm 1) (z_mq P none μ') 0 0 23 [some (zA 9 0), some (zI y0), none] [] y1)) (Ex := (fun z0 => z_RQ P M_9_begins (z_rm 1) (z_mq P none μ') 0 0 90 [some (zA 9 0), none, none] [] z0)) (fun ⟨x11, xm12⟩ K h hI hE => s9_begins_L10  x11 xm12 K h (fun y0 y1 e => hI (y0, y1) e) (fun z0 e => hE z0 e) ) _ _ _ hl33 ?_
  refine zr_iconst (v := (0 : Int32)) d_9_begins_90 rfl ?_
  refine zr_istore_n (i := 1) (l' := [some (zA 9 0), some (zI (0 : Int32)), none]) d_9_begins_91 rfl (by decide) rfl ?_
  obtain ⟨e43, hl44, h⟩ := z_bd h
  refine zr_wk (l' := [some (zA 9 0), some (zI (0 : Int32)), none]) ⟨rfl, ⟨rfl, trivial⟩⟩ ?_
  refine z_loop (Hd := (z_u2 fun y0 y1 => z_RQ P M_9_begins (z_rm 1) (z_mq P none μ') 0 0 92 [some (zA 9 0), some (zI y0), none] [] y1)) (Ex := (fun z0 => z_RQ P M_9_begins (z_rm 1) (z_mq P none μ') 0 0 133 [some (zA 9 0), none, none] [] z0)) (fun ⟨x35, xm36⟩ K h hI hE => s9_begins_L34  x35 xm36 K h (fun y0 y1 e => hI (y0, y1) e) (fun z0 e => hE z0 e) ) _ _ _ hl44 ?_
  refine zr_aload_n (i := 0) d_9_begins_133 rfl rfl ?_
  refine zr_aload_n (i := 0) d_9_begins_134 rfl rfl ?_
  refine zr_gets (i' := 0) d_9_begins_135 fw_9_70 rfl ?_
  refine zr_aload_n (i := 0) d_9_begins_138 rfl rfl ?_
  refine zr_geti d_9_begins_139 fw_9_233 (by decide) ?_
  obtain ⟨hb45, h⟩ := z_gd h
  refine zr_iald d_9_begins_142 sa_131 rfl hb45 ?_
  obtain ⟨m46, hm47, h⟩ := z_lt h
  refine zr_puti d_9_begins_143 fw_9_319 pw_9_50 hm47 ?_
  refine zr_aload_n (i := 0) d_9_begins_146 rfl rfl ?_
  refine zr_iconst (v := (0 : Int32)) d_9_begins_147 rfl ?_
  obtain ⟨m48, hm49, h⟩ := z_lt h
  refine zr_putb d_9_begins_148 fw_9_322 pw_9_51 rfl rfl hm49 ?_
  obtain rfl := Option.some.inj h
  exact ze_v d_9_begins_151 rfl
def f9_keepsRow_L1  : (Int32 × zMem) → Option ((Int32 × zMem) ⊕ (zMem)) := (z_u2 fun x2 xm3 => 
  (if x2 < (34 : Int32) then if z_in x2 34 = true then z_let (z_sI xm3 148 0 x2.toNatClampNeg (xm3.1 149 0 x2.toNatClampNeg)) fun m6 => some (.inl ((x2 + (1 : Int32)), m6)) else none else some (.inr xm3)))
def f9_keepsRow  (μ : zMem) : Option (zMem) :=
  (z_it (f9_keepsRow_L1) z_fu ((0 : Int32), μ)).bind (fun e8 => some e8)
theorem s9_keepsRow_L1 {P : zP} {ro : Option zV} {μo : zMem}  (x2 : Int32) (xm3 : zMem) (K : (Int32 × zMem) ⊕ (zMem)) (h : f9_keepsRow_L1  (x2, xm3) = some K) (hI : ∀ (y0 : Int32) (y1 : zMem), K = .inl (y0, y1) → z_RQ P M_9_keepsRow (z_rm 1) (z_mq P ro μo) 0 0 2 [some (zA 9 0), some (zI y0)] [] y1) (hE : ∀ (z0 : zMem), K = .inr z0 → z_RQ P M_9_keepsRow (z_rm 1) (z_mq P ro μo) 0 0 26 [none, none] [] z0)  : z_RQ P M_9_keepsRow (z_rm 1) (z_mq P ro μo) 0 0 2 [some (zA 9 0), some (zI x2)] [] xm3 := by
  unfold f9_keepsRow_L1 at h
  replace h := z_h2 h
  refine zr_iload_n (i := 1) d_9_keepsRow_2 rfl rfl ?_
  refine zr_bipush (v := (34 : Int32)) d_9_keepsRow_3 rfl ?_
  refine zr_icmp_ge (tgt := 26) d_9_keepsRow_5 rfl (fun hc4 => ?_) (fun hc4 => ?_)
  · replace h := z_ip h hc4
    refine zr_aload_n (i := 0) d_9_keepsRow_8 rfl rfl ?_
    refine zr_gets (i' := 0) d_9_keepsRow_9 fw_9_110 rfl ?_
    refine zr_iload_n (i := 1) d_9_keepsRow_12 rfl rfl ?_
    refine zr_aload_n (i := 0) d_9_keepsRow_13 rfl rfl ?_
    refine zr_gets (i' := 0) d_9_keepsRow_14 fw_9_113 rfl ?_
    refine zr_iload_n (i := 1) d_9_keepsRow_17 rfl rfl ?_
    obtain ⟨hb5, h⟩ := z_gd h
    refine zr_iald d_9_keepsRow_18 sa_149 rfl hb5 ?_
    obtain ⟨m6, hm7, h⟩ := z_lt h
    refine zr_iast d_9_keepsRow_19 sa_148 rfl hb5 hm7 ?_
    refine zr_iinc (v := (x2 + (1 : Int32))) (l' := [some (zA 9 0), some (zI (x2 + (1 : Int32)))]) d_9_keepsRow_20 (by decide) rfl rfl rfl ?_
    refine zr_goto (tgt := 2) d_9_keepsRow_23 rfl ?_
    obtain rfl := Option.some.inj h
    exact zr_wk2 (hI (x2 + (1 : Int32)) m6 rfl) ⟨rfl, ⟨rfl, trivial⟩⟩
  · replace h := z_im h hc4
    obtain rfl := Option.some.inj h
    exact zr_wk2 (hE xm3 rfl) trivial
theorem s9_keepsRow {P : zP} {μ : zMem} {μ' : zMem} (h : f9_keepsRow μ = some μ') : z_Sp P y_9_keepsRow M_9_keepsRow 1 [zA 9 0] μ none μ' := by
  refine z_Sp.of (plainFor_of_name (by decide)) rfl (l0 := [some (zA 9 0), none]) rfl (Nat.le_of_ble_eq_true rfl) ?_
  unfold f9_keepsRow at h
  refine zr_iconst (v := (0 : Int32)) d_9_keepsRow_0 rfl ?_
  refine zr_istore_n (i := 1) (l' := [some (zA 9 0), some (zI (0 : Int32))]) d_9_keepsRow_1 rfl (by decide) rfl ?_
  obtain ⟨e8, hl9, h⟩ := z_bd h
  refine zr_wk (l' := [some (zA 9 0), some (zI (0 : Int32))]) ⟨rfl, ⟨rfl, trivial⟩⟩ ?_
  refine z_loop (Hd := (z_u2 fun y0 y1 => z_RQ P M_9_keepsRow (z_rm 1) (z_mq P none μ') 0 0 2 [some (zA 9 0), some (zI y0)] [] y1)) (Ex := (fun z0 => z_RQ P M_9_keepsRow (z_rm 1) (z_mq P none μ') 0 0 26 [none, none] [] z0)) (fun ⟨x2, xm3⟩ K h hI hE => s9_keepsRow_L1  x2 xm3 K h (fun y0 y1 e => hI (y0, y1) e) (fun z0 e => hE z0 e) ) _ _ _ hl9 ?_
  obtain rfl := Option.some.inj h
  exact ze_v d_9_keepsRow_26 rfl
def f9_put_L1 (a1 : Int32) : (Int32 × zMem) → Option ((Int32 × zMem) ⊕ (zMem)) := (z_u2 fun x2 xm3 => 
  (if x2 < 0 then some (.inr xm3) else if z_in (xm3.1 9 0 2) 2000 = true then z_let (z_sI xm3 101 0 (xm3.1 9 0 2).toNatClampNeg (a1 >>> (x2 &&& 31)).toInt8.toInt32.toInt8.toInt32) fun m5 => z_let (z_sI m5 9 0 2 ((m5.1 9 0 2) + (1 : Int32))) fun m8 => some (.inl ((x2 + (-8 : Int32)), m8)) else none))
def f9_put (a1 : Int32) (μ : zMem) : Option (zMem) :=
  (z_it (f9_put_L1 a1) z_fu ((24 : Int32), μ)).bind (fun e10 => some e10)
theorem s9_put_L1 {P : zP} {ro : Option zV} {μo : zMem} (a1 : Int32) (x2 : Int32) (xm3 : zMem) (K : (Int32 × zMem) ⊕ (zMem)) (h : f9_put_L1 a1 (x2, xm3) = some K) (hI : ∀ (y0 : Int32) (y1 : zMem), K = .inl (y0, y1) → z_RQ P M_9_put (z_rm 1) (z_mq P ro μo) 0 0 3 [some (zA 9 0), some (zI a1), some (zI y0)] [] y1) (hE : ∀ (z0 : zMem), K = .inr z0 → z_RQ P M_9_put (z_rm 1) (z_mq P ro μo) 0 0 36 [none, none, none] [] z0)  : z_RQ P M_9_put (z_rm 1) (z_mq P ro μo) 0 0 3 [some (zA 9 0), some (zI a1), some (zI x2)] [] xm3 := by
  unfold f9_put_L1 at h
  replace h := z_h2 h
  refine zr_iload_n (i := 2) d_9_put_3 rfl rfl ?_
  refine zr_if_lt (tgt := 36) d_9_put_4 rfl (fun hc4 => ?_) (fun hc4 => ?_)
  · replace h := z_ip h hc4
    obtain rfl := Option.some.inj h
    exact zr_wk2 (hE xm3 rfl) trivial
  · replace h := z_im h hc4
    refine zr_aload_n (i := 0) d_9_put_7 rfl rfl ?_
    refine zr_gets (i' := 0) d_9_put_8 fw_9_13 rfl ?_
    refine zr_aload_n (i := 0) d_9_put_11 rfl rfl ?_
    refine zr_geti d_9_put_12 fw_9_166 (by decide) ?_
    refine zr_iload_n (i := 1) d_9_put_15 rfl rfl ?_
    refine zr_iload_n (i := 2) d_9_put_16 rfl rfl ?_
    refine zr_ishr d_9_put_17 ?_
    refine zr_i2b d_9_put_18 ?_
    obtain ⟨hb7, h⟩ := z_gd h
    obtain ⟨m5, hm6, h⟩ := z_lt h
    refine zr_bast d_9_put_19 sa_101 rfl hb7 hm6 ?_
    refine zr_aload_n (i := 0) d_9_put_20 rfl rfl ?_
    refine zr_dupa d_9_put_21 ?_
    refine zr_geti d_9_put_22 fw_9_166 (by decide) ?_
    refine zr_iconst (v := (1 : Int32)) d_9_put_25 rfl ?_
    refine zr_iadd d_9_put_26 ?_
    obtain ⟨m8, hm9, h⟩ := z_lt h
    refine zr_puti d_9_put_27 fw_9_166 pw_9_2 hm9 ?_
    refine zr_iinc (v := (x2 + (-8 : Int32))) (l' := [some (zA 9 0), some (zI a1), some (zI (x2 + (-8 : Int32)))]) d_9_put_30 (by decide) rfl (z_neg_8 _) rfl ?_
    refine zr_goto (tgt := 3) d_9_put_33 rfl ?_
    obtain rfl := Option.some.inj h
    exact zr_wk2 (hI (x2 + (-8 : Int32)) m8 rfl) ⟨rfl, ⟨rfl, ⟨rfl, trivial⟩⟩⟩
theorem s9_put {P : zP} {μ : zMem} {a1 : Int32} {μ' : zMem} (h : f9_put a1 μ = some μ') : z_Sp P y_9_put M_9_put 1 [zA 9 0, zI a1] μ none μ' := by
  refine z_Sp.of (plainFor_of_name (by decide)) rfl (l0 := [some (zA 9 0), some (zI a1), none]) rfl (Nat.le_of_ble_eq_true rfl) ?_
  unfold f9_put at h
  refine zr_bipush (v := (24 : Int32)) d_9_put_0 rfl ?_
  refine zr_istore_n (i := 2) (l' := [some (zA 9 0), some (zI a1), some (zI (24 : Int32))]) d_9_put_2 rfl (by decide) rfl ?_
  obtain ⟨e10, hl11, h⟩ := z_bd h
  refine zr_wk (l' := [some (zA 9 0), some (zI a1), some (zI (24 : Int32))]) ⟨rfl, ⟨rfl, ⟨rfl, trivial⟩⟩⟩ ?_
  refine z_loop (Hd := (z_u2 fun y0 y1 => z_RQ P M_9_put (z_rm 1) (z_mq P none μ') 0 0 3 [some (zA 9 0), some (zI a1), some (zI y0)] [] y1)) (Ex := (fun z0 => z_RQ P M_9_put (z_rm 1) (z_mq P none μ') 0 0 36 [none, none, none] [] z0)) (fun ⟨x2, xm3⟩ K h hI hE => s9_put_L1 a1 x2 xm3 K h (fun y0 y1 e => hI (y0, y1) e) (fun z0 e => hE z0 e) ) _ _ _ hl11 ?_
  obtain rfl := Option.some.inj h
  exact ze_v d_9_put_36 rfl
def f9_feed (a1 : Int32) (a2 : Int32) (a3 : Int32) (a4 : Int32) (a5 : Int32) (μ : zMem) : Option (Int32 × zMem) :=
  (if (2000 : Int32) < ((μ.1 9 0 2) + (20 : Int32)) then some ((-1 : Int32), μ) else (f9_put a1 μ).bind (fun qm2 => (f9_put a2 qm2).bind (fun qm4 => (f9_put a3 qm4).bind (fun qm6 => (f9_put a4 qm6).bind (fun qm8 => (f9_put a5 qm8).bind (fun qm10 => some ((qm10.1 9 0 2), qm10)))))))
theorem s9_feed {P : zP} {μ : zMem} {a1 : Int32} {a2 : Int32} {a3 : Int32} {a4 : Int32} {a5 : Int32} {r : Int32} {μ' : zMem} (h : f9_feed a1 a2 a3 a4 a5 μ = some (r, μ')) : z_Sp P y_9_feed M_9_feed 2 [zA 9 0, zI a1, zI a2, zI a3, zI a4, zI a5] μ (some (zI r)) μ' := by
  refine z_Sp.of (plainFor_of_name (by decide)) rfl (l0 := [some (zA 9 0), some (zI a1), some (zI a2), some (zI a3), some (zI a4), some (zI a5)]) rfl (Nat.le_of_ble_eq_true rfl) ?_
  unfold f9_feed at h
  refine zr_aload_n (i := 0) d_9_feed_0 rfl rfl ?_
  refine zr_geti d_9_feed_1 fw_9_166 (by decide) ?_
  refine zr_bipush (v := (20 : Int32)) d_9_feed_4 rfl ?_
  refine zr_iadd d_9_feed_6 ?_
  refine zr_sipush (v := (2000 : Int32)) d_9_feed_7 rfl ?_
  refine zr_icmp_le (tgt := 15) d_9_feed_10 rfl (fun hc1 => ?_) (fun hc1 => ?_)
  · replace h := z_ip h hc1
    refine zr_iconst (v := (-1 : Int32)) d_9_feed_13 rfl ?_
    obtain ⟨rfl, rfl⟩ := Prod.mk.inj (Option.some.inj h)
    exact ze_i d_9_feed_14 rfl
  · replace h := z_im h hc1
    refine zr_aload_n (i := 0) d_9_feed_15 rfl rfl ?_
    refine zr_iload_n (i := 1) d_9_feed_16 rfl rfl ?_
    obtain ⟨qm2, hq3, h⟩ := z_bd h
    refine zr_callVv (av := [zI a1]) (st := []) d_9_feed_17 mw_9_put ml_9_169 im_9_put se_9_put rfl rfl (Nat.le_of_ble_eq_true rfl) fit_1_3_2 rfl rfl rfl (s9_put hq3) ?_
    refine zr_aload_n (i := 0) d_9_feed_20 rfl rfl ?_
    refine zr_iload_n (i := 2) d_9_feed_21 rfl rfl ?_
    obtain ⟨qm4, hq5, h⟩ := z_bd h
    refine zr_callVv (av := [zI a2]) (st := []) d_9_feed_22 mw_9_put ml_9_169 im_9_put se_9_put rfl rfl (Nat.le_of_ble_eq_true rfl) fit_1_3_2 rfl rfl rfl (s9_put hq5) ?_
    refine zr_aload_n (i := 0) d_9_feed_25 rfl rfl ?_
    refine zr_iload_n (i := 3) d_9_feed_26 rfl rfl ?_
    obtain ⟨qm6, hq7, h⟩ := z_bd h
    refine zr_callVv (av := [zI a3]) (st := []) d_9_feed_27 mw_9_put ml_9_169 im_9_put se_9_put rfl rfl (Nat.le_of_ble_eq_true rfl) fit_1_3_2 rfl rfl rfl (s9_put hq7) ?_
    refine zr_aload_n (i := 0) d_9_feed_30 rfl rfl ?_
    refine zr_iload d_9_feed_31 rfl ?_
    obtain ⟨qm8, hq9, h⟩ := z_bd h
    refine zr_callVv (av := [zI a4]) (st := []) d_9_feed_33 mw_9_put ml_9_169 im_9_put se_9_put rfl rfl (Nat.le_of_ble_eq_true rfl) fit_1_3_2 rfl rfl rfl (s9_put hq9) ?_
    refine zr_aload_n (i := 0) d_9_feed_36 rfl rfl ?_
    refine zr_iload d_9_feed_37 rfl ?_
    obtain ⟨qm10, hq11, h⟩ := z_bd h
    refine zr_callVv (av := [zI a5]) (st := []) d_9_feed_39 mw_9_put ml_9_169 im_9_put se_9_put rfl rfl (Nat.le_of_ble_eq_true rfl) fit_1_3_2 rfl rfl rfl (s9_put hq11) ?_
    refine zr_aload_n (i := 0) d_9_feed_42 rfl rfl ?_
    refine zr_geti d_9_feed_43 fw_9_166 (by decide) ?_
    obtain ⟨rfl, rfl⟩ := Prod.mk.inj (Option.some.inj h)
    exact ze_i d_9_feed_46 rfl
def f9_back (a1 : Int32) (μ : zMem) : Int32 × zMem :=
  (if a1 < 0 then ((-1 : Int32), μ) else (if (μ.1 9 0 2) < a1 then ((-1 : Int32), μ) else z_let (z_sI μ 9 0 2 ((μ.1 9 0 2) - a1)) fun m3 => ((m3.1 9 0 2), m3)))
theorem s9_back {P : zP} {μ : zMem} {a1 : Int32} {r : Int32} {μ' : zMem} (h : f9_back a1 μ = (r, μ')) : z_Sp P y_9_back M_9_back 1 [zA 9 0, zI a1] μ (some (zI r)) μ' := by
  refine z_Sp.of (plainFor_of_name (by decide)) rfl (l0 := [some (zA 9 0), some (zI a1)]) rfl (Nat.le_of_ble_eq_true rfl) ?_
  unfold f9_back at h
  refine zr_iload_n (i := 1) d_9_back_0 rfl rfl ?_
  refine zr_if_lt (tgt := 12) d_9_back_1 rfl (fun hc1 => ?_) (fun hc1 => ?_)
  · replace h := z_ip h hc1
    refine zr_iconst (v := (-1 : Int32)) d_9_back_12 rfl ?_
    obtain ⟨rfl, rfl⟩ := Prod.mk.inj h
    exact ze_i d_9_back_13 rfl
  · replace h := z_im h hc1
    refine zr_iload_n (i := 1) d_9_back_4 rfl rfl ?_
    refine zr_aload_n (i := 0) d_9_back_5 rfl rfl ?_
    refine zr_geti d_9_back_6 fw_9_166 (by decide) ?_
    refine zr_icmp_le (tgt := 14) d_9_back_9 rfl (fun hc2 => ?_) (fun hc2 => ?_)
    · replace h := z_ip h hc2
      refine zr_iconst (v := (-1 : Int32)) d_9_back_12 rfl ?_
      obtain ⟨rfl, rfl⟩ := Prod.mk.inj h
      exact ze_i d_9_back_13 rfl
    · replace h := z_im h hc2
      refine zr_aload_n (i := 0) d_9_back_14 rfl rfl ?_
      refine zr_dupa d_9_back_15 ?_
      refine zr_geti d_9_back_16 fw_9_166 (by decide) ?_
      refine zr_iload_n (i := 1) d_9_back_19 rfl rfl ?_
      refine zr_isub d_9_back_20 ?_
      obtain ⟨m3, hm4, h⟩ := z_lt h
      refine zr_puti d_9_back_21 fw_9_166 pw_9_2 hm4 ?_
      refine zr_aload_n (i := 0) d_9_back_24 rfl rfl ?_
      refine zr_geti d_9_back_25 fw_9_166 (by decide) ?_
      obtain ⟨rfl, rfl⟩ := Prod.mk.inj h
      exact ze_i d_9_back_28 rfl
def f9_byteAt (a1 : Int32) (μ : zMem) : Option (Int32) :=
  (if a1 < (μ.1 9 0 4) then if z_in a1 2000 = true then some ((μ.1 103 0 a1.toNatClampNeg) &&& (255 : Int32)) else none else some (0 : Int32))
theorem s9_byteAt {P : zP} {μ : zMem} {a1 : Int32} {r : Int32} (h : f9_byteAt a1 μ = some r) : z_Sp P y_9_byteAt M_9_byteAt 1 [zA 9 0, zI a1] μ (some (zI r)) μ := by
  refine z_Sp.of (plainFor_of_name (by decide)) rfl (l0 := [some (zA 9 0), some (zI a1)]) rfl (Nat.le_of_ble_eq_true rfl) ?_
  unfold f9_byteAt at h
  refine zr_iload_n (i := 1) d_9_byteAt_0 rfl rfl ?_
  refine zr_aload_n (i := 0) d_9_byteAt_1 rfl rfl ?_
  refine zr_geti d_9_byteAt_2 fw_9_172 (by decide) ?_
  refine zr_icmp_ge (tgt := 21) d_9_byteAt_5 rfl (fun hc1 => ?_) (fun hc1 => ?_)
  · replace h := z_ip h hc1
    refine zr_aload_n (i := 0) d_9_byteAt_8 rfl rfl ?_
    refine zr_gets (i' := 0) d_9_byteAt_9 fw_9_17 rfl ?_
    refine zr_iload_n (i := 1) d_9_byteAt_12 rfl rfl ?_
    obtain ⟨hb2, h⟩ := z_gd h
    refine zr_bald d_9_byteAt_13 sa_103 rfl hb2 ?_
    refine zr_sipush (v := (255 : Int32)) d_9_byteAt_14 rfl ?_
    refine zr_iand d_9_byteAt_17 ?_
    refine zr_goto (tgt := 22) d_9_byteAt_18 rfl ?_
    obtain rfl := Option.some.inj h
    exact ze_i d_9_byteAt_22 rfl
  · replace h := z_im h hc1
    refine zr_iconst (v := (0 : Int32)) d_9_byteAt_21 rfl ?_
    obtain rfl := Option.some.inj h
    exact ze_i d_9_byteAt_22 rfl
def f9_isDigit (a0 : Int32) : Int32 :=
  (if a0 < (48 : Int32) then (0 : Int32) else (if (57 : Int32) < a0 then (0 : Int32) else (1 : Int32)))
theorem s9_isDigit {P : zP} {μ : zMem} {a0 : Int32} {r : Int32} (h : f9_isDigit a0 = r) : z_Sp P y_9_isDigit M_9_isDigit 1 [zI a0] μ (some (zI r)) μ := by
  refine z_Sp.of (plainFor_of_name (by decide)) rfl (l0 := [some (zI a0)]) rfl (Nat.le_of_ble_eq_true rfl) ?_
  unfold f9_isDigit at h
  refine zr_iload_n (i := 0) d_9_isDigit_0 rfl rfl ?_
  refine zr_bipush (v := (48 : Int32)) d_9_isDigit_1 rfl ?_
  refine zr_icmp_lt (tgt := 16) d_9_isDigit_3 rfl (fun hc1 => ?_) (fun hc1 => ?_)
  · replace h := z_ip h hc1
    refine zr_iconst (v := (0 : Int32)) d_9_isDigit_16 rfl ?_
    obtain rfl := h
    exact ze_z d_9_isDigit_17 rfl rfl
  · replace h := z_im h hc1
    refine zr_iload_n (i := 0) d_9_isDigit_6 rfl rfl ?_
    refine zr_bipush (v := (57 : Int32)) d_9_isDigit_7 rfl ?_
    refine zr_icmp_gt (tgt := 16) d_9_isDigit_9 rfl (fun hc2 => ?_) (fun hc2 => ?_)
    · replace h := z_ip h hc2
      refine zr_iconst (v := (0 : Int32)) d_9_isDigit_16 rfl ?_
      obtain rfl := h
      exact ze_z d_9_isDigit_17 rfl rfl
    · replace h := z_im h hc2
      refine zr_iconst (v := (1 : Int32)) d_9_isDigit_12 rfl ?_
      refine zr_goto (tgt := 17) d_9_isDigit_13 rfl ?_
      obtain rfl := h
      exact ze_z d_9_isDigit_17 rfl rfl
def f9_isLetter (a0 : Int32) : Int32 :=
  (if a0 < (97 : Int32) then (0 : Int32) else (if (122 : Int32) < a0 then (0 : Int32) else (1 : Int32)))
theorem s9_isLetter {P : zP} {μ : zMem} {a0 : Int32} {r : Int32} (h : f9_isLetter a0 = r) : z_Sp P y_9_isLetter M_9_isLetter 1 [zI a0] μ (some (zI r)) μ := by
  refine z_Sp.of (plainFor_of_name (by decide)) rfl (l0 := [some (zI a0)]) rfl (Nat.le_of_ble_eq_true rfl) ?_
  unfold f9_isLetter at h
  refine zr_iload_n (i := 0) d_9_isLetter_0 rfl rfl ?_
  refine zr_bipush (v := (97 : Int32)) d_9_isLetter_1 rfl ?_
  refine zr_icmp_lt (tgt := 16) d_9_isLetter_3 rfl (fun hc1 => ?_) (fun hc1 => ?_)
  · replace h := z_ip h hc1
    refine zr_iconst (v := (0 : Int32)) d_9_isLetter_16 rfl ?_
    obtain rfl := h
    exact ze_z d_9_isLetter_17 rfl rfl
  · replace h := z_im h hc1
    refine zr_iload_n (i := 0) d_9_isLetter_6 rfl rfl ?_
    refine zr_bipush (v := (122 : Int32)) d_9_isLetter_7 rfl ?_
    refine zr_icmp_gt (tgt := 16) d_9_isLetter_9 rfl (fun hc2 => ?_) (fun hc2 => ?_)
    · replace h := z_ip h hc2
      refine zr_iconst (v := (0 : Int32)) d_9_isLetter_16 rfl ?_
      obtain rfl := h
      exact ze_z d_9_isLetter_17 rfl rfl
    · replace h := z_im h hc2
      refine zr_iconst (v := (1 : Int32)) d_9_isLetter_12 rfl ?_
      refine zr_goto (tgt := 17) d_9_isLetter_13 rfl ?_
      obtain rfl := h
      exact ze_z d_9_isLetter_17 rfl rfl
def f9_token (a1 : Int32) (a2 : Int32) (a3 : Int32) (a4 : Int64) (μ : zMem) : Option (zMem) :=
  if z_in (μ.1 9 0 10) 403 = true then z_let (z_sI μ 105 0 (μ.1 9 0 10).toNatClampNeg a1) fun m1 => if z_in (m1.1 9 0 10) 403 = true then z_let (z_sI m1 106 0 (m1.1 9 0 10).toNatClampNeg a2) fun m4 => if z_in (m4.1 9 0 10) 403 = true then z_let (z_sI m4 107 0 (m4.1 9 0 10).toNatClampNeg a3) fun m7 => if z_in (m7.1 9 0 10) 403 = true then z_let (z_sL m7 108 0 (m7.1 9 0 10).toNatClampNeg a4) fun m10 => z_let (z_sI m10 9 0 10 ((m10.1 9 0 10) + (1 : Int32))) fun m13 => some m13 else none else none else none else none
theorem s9_token {P : zP} {μ : zMem} {a1 : Int32} {a2 : Int32} {a3 : Int32} {a4 : Int64} {μ' : zMem} (h : f9_token a1 a2 a3 a4 μ = some μ') : z_Sp P y_9_token M_9_token 1 [zA 9 0, zI a1, zI a2, zI a3, zL a4] μ none μ' := by
  refine z_Sp.of (plainFor_of_name (by decide)) rfl (l0 := [some (zA 9 0), some (zI a1), some (zI a2), some (zI a3), some (zL a4), none]) rfl (Nat.le_of_ble_eq_true rfl) ?_
  unfold f9_token at h
  refine zr_aload_n (i := 0) d_9_token_0 rfl rfl ?_
  refine zr_gets (i' := 0) d_9_token_1 fw_9_20 rfl ?_
  refine zr_aload_n (i := 0) d_9_token_4 rfl rfl ?_
  refine zr_geti d_9_token_5 fw_9_181 (by decide) ?_
  refine zr_iload_n (i := 1) d_9_token_8 rfl rfl ?_
  obtain ⟨hb3, h⟩ := z_gd h
  obtain ⟨m1, hm2, h⟩ := z_lt h
  refine zr_iast d_9_token_9 sa_105 rfl hb3 hm2 ?_
  refine zr_aload_n (i := 0) d_9_token_10 rfl rfl ?_
  refine zr_gets (i' := 0) d_9_token_11 fw_9_24 rfl ?_
  refine zr_aload_n (i := 0) d_9_token_14 rfl rfl ?_
  refine zr_geti d_9_token_15 fw_9_181 (by decide) ?_
  refine zr_iload_n (i := 2) d_9_token_18 rfl rfl ?_
  obtain ⟨hb6, h⟩ := z_gd h
  obtain ⟨m4, hm5, h⟩ := z_lt h
  refine zr_iast d_9_token_19 sa_106 rfl hb6 hm5 ?_
  refine zr_aload_n (i := 0) d_9_token_20 rfl rfl ?_
  refine zr_gets (i' := 0) d_9_token_21 fw_9_27 rfl ?_
  refine zr_aload_n (i := 0) d_9_token_24 rfl rfl ?_
  refine zr_geti d_9_token_25 fw_9_181 (by decide) ?_
  refine zr_iload_n (i := 3) d_9_token_28 rfl rfl ?_
  obtain ⟨hb9, h⟩ := z_gd h
  obtain ⟨m7, hm8, h⟩ := z_lt h
  refine zr_iast d_9_token_29 sa_107 rfl hb9 hm8 ?_
  refine zr_aload_n (i := 0) d_9_token_30 rfl rfl ?_
  refine zr_gets (i' := 0) d_9_token_31 fw_9_30 rfl ?_
  refine zr_aload_n (i := 0) d_9_token_34 rfl rfl ?_
  refine zr_geti d_9_token_35 fw_9_181 (by decide) ?_
  refine zr_lload d_9_token_38 rfl ?_
  obtain ⟨hb12, h⟩ := z_gd h
  obtain ⟨m10, hm11, h⟩ := z_lt h
  refine zr_last d_9_token_40 sa_108 rfl hb12 hm11 ?_
  refine zr_aload_n (i := 0) d_9_token_41 rfl rfl ?_
  refine zr_dupa d_9_token_42 ?_
  refine zr_geti d_9_token_43 fw_9_181 (by decide) ?_
  refine zr_iconst (v := (1 : Int32)) d_9_token_46 rfl ?_
  refine zr_iadd d_9_token_47 ?_
  obtain ⟨m13, hm14, h⟩ := z_lt h
  refine zr_puti d_9_token_48 fw_9_181 pw_9_10 hm14 ?_
  obtain rfl := Option.some.inj h
  exact ze_v d_9_token_51 rfl
def f9_sign (a1 : Int32) (a2 : Int32) (a3 : Int32) (μ : zMem) : Option (Int32 × zMem) :=
  ((if a2 = (59 : Int32) then some (4 : Int32) else (if a2 = (61 : Int32) then some (5 : Int32) else (if a2 = (40 : Int32) then some (6 : Int32) else (if a2 = (41 : Int32) then some (7 : Int32) else some (3 : Int32))))) : Option (Int32)).bind (fun j7 => ((if a2 = (43 : Int32) then some (8 : Int32) else some j7) : Option (Int32)).bind (fun j11 => ((if a2 = (45 : Int32) then some (9 : Int32) else some j11) : Option (Int32)).bind (fun j15 => ((if a2 = (42 : Int32) then some (10 : Int32) else some j15) : Option (Int32)).bind (fun j19 => ((if a2 = (47 : Int32) then some (15 : Int32) else some j19) : Option (Int32)).bind (fun j23 => ((if a2 = (60 : Int32) then some (13 : Int32) else some j23) : Option (Int32)).bind (fun j27 => (f9_token j27 a1 (0 : Int32) (0 : Int64) μ).bind (fun qm28 => some ((1 : Int32), qm28))))))))
theorem s9_sign {P : zP} {μ : zMem} {a1 : Int32} {a2 : Int32} {a3 : Int32} {r : Int32} {μ' : zMem} (h : f9_sign a1 a2 a3 μ = some (r, μ')) : z_Sp P y_9_sign M_9_sign 2 [zA 9 0, zI a1, zI a2, zI a3] μ (some (zI r)) μ' := by
  refine z_Sp.of (plainFor_of_name (by decide)) rfl (l0 := [some (zA 9 0), some (zI a1), some (zI a2), some (zI a3), none]) rfl (Nat.le_of_ble_eq_true rfl) ?_
  unfold f9_sign at h
  refine zr_iload_n (i := 2) d_9_sign_0 rfl rfl ?_
  refine zr_bipush (v := (59 : Int32)) d_9_sign_1 rfl ?_
  obtain ⟨j7, hT1, h⟩ := z_bd h
  have hJ2 : z_RQ P M_9_sign (z_rm 2) (z_mq P (some (zI r)) μ') 0 0 43 [some (zA 9 0), some (zI a1), some (zI a2), none, none] [zI j7] μ := by
    refine zr_istore (i := 4) (l' := [some (zA 9 0), some (zI a1), some (zI a2), none, some (zI j7)]) d_9_sign_43 (by decide) rfl ?_
    refine zr_iload_n (i := 2) d_9_sign_45 rfl rfl ?_
    refine zr_bipush (v := (43 : Int32)) d_9_sign_46 rfl ?_
    obtain ⟨j11, hT8, h⟩ := z_bd h
    have hJ9 : z_RQ P M_9_sign (z_rm 2) (z_mq P (some (zI r)) μ') 0 0 55 [some (zA 9 0), some (zI a1), some (zI a2), none, some (zI j11)] [] μ := by
      refine zr_iload_n (i := 2) d_9_sign_55 rfl rfl ?_
      refine zr_bipush (v := (45 : Int32)) d_9_sign_56 rfl ?_
      obtain ⟨j15, hT12, h⟩ := z_bd h
      have hJ13 : z_RQ P M_9_sign (z_rm 2) (z_mq P (some (zI r)) μ') 0 0 65 [some (zA 9 0), some (zI a1), some (zI a2), none, some (zI j15)] [] μ := by
        refine zr_iload_n (i := 2) d_9_sign_65 rfl rfl ?_
        refine zr_bipush (v := (42 : Int32)) d_9_sign_66 rfl ?_
        obtain ⟨j19, hT16, h⟩ := z_bd h
        have hJ17 : z_RQ P M_9_sign (z_rm 2) (z_mq P (some (zI r)) μ') 0 0 75 [some (zA 9 0), some (zI a1), some (zI a2), none, some (zI j19)] [] μ := by
          refine zr_iload_n (i := 2) d_9_sign_75 rfl rfl ?_
          refine zr_bipush (v := (47 : Int32)) d_9_sign_76 rfl ?_
          obtain ⟨j23, hT20, h⟩ := z_bd h
          have hJ21 : z_RQ P M_9_sign (z_rm 2) (z_mq P (some (zI r)) μ') 0 0 85 [some (zA 9 0), some (zI a1), some (zI a2), none, some (zI j23)] [] μ := by
            refine zr_iload_n (i := 2) d_9_sign_85 rfl rfl ?_
            refine zr_bipush (v := (60 : Int32)) d_9_sign_86 rfl ?_
            obtain ⟨j27, hT24, h⟩ := z_bd h
            have hJ25 : z_RQ P M_9_sign (z_rm 2) (z_mq P (some (zI r)) μ') 0 0 95 [some (zA 9 0), some (zI a1), none, none, some (zI j27)] [] μ := by
              refine zr_aload_n (i := 0) d_9_sign_95 rfl rfl ?_
              refine zr_iload d_9_sign_96 rfl ?_
              refine zr_iload_n (i := 1) d_9_sign_98 rfl rfl ?_
              refine zr_iconst (v := (0 : Int32)) d_9_sign_99 rfl ?_
              refine zr_lconst (v := (0 : Int64)) d_9_sign_100 rfl ?_
              obtain ⟨qm28, hq29, h⟩ := z_bd h
              refine zr_callVv (av := [zI j27, zI a1, zI (0 : Int32), zL (0 : Int64)]) (st := []) d_9_sign_101 mw_9_token ml_9_188 im_9_token se_9_token rfl rfl (Nat.le_of_ble_eq_true rfl) fit_1_6_2 rfl rfl rfl (s9_token hq29) ?_
              refine zr_iconst (v := (1 : Int32)) d_9_sign_104 rfl ?_
              obtain ⟨rfl, rfl⟩ := Prod.mk.inj (Option.some.inj h)
              exact ze_i d_9_sign_105 rfl
            refine zr_icmp_ne (tgt := 95) d_9_sign_88 rfl (fun hc26 => ?_) (fun hc26 => ?_)
            · replace hT24 := z_ip hT24 hc26
              refine zr_bipush (v := (13 : Int32)) d_9_sign_91 rfl ?_
              refine zr_istore (i := 4) (l' := [some (zA 9 0), some (zI a1), some (zI a2), none, some (zI (13 : Int32))]) d_9_sign_93 (by decide) rfl ?_
              obtain rfl := Option.some.inj hT24
              exact zr_wk2 hJ25 ⟨rfl, ⟨rfl, ⟨rfl, trivial⟩⟩⟩
            · replace hT24 := z_im hT24 hc26
              obtain rfl := Option.some.inj hT24
              exact zr_wk2 hJ25 ⟨rfl, ⟨rfl, ⟨rfl, trivial⟩⟩⟩
          refine zr_icmp_ne (tgt := 85) d_9_sign_78 rfl (fun hc22 => ?_) (fun hc22 => ?_)
          · replace hT20 := z_ip hT20 hc22
            refine zr_bipush (v := (15 : Int32)) d_9_sign_81 rfl ?_
            refine zr_istore (i := 4) (l' := [some (zA 9 0), some (zI a1), some (zI a2), none, some (zI (15 : Int32))]) d_9_sign_83 (by decide) rfl ?_
            obtain rfl := Option.some.inj hT20
            exact zr_wk2 hJ21 ⟨rfl, ⟨rfl, ⟨rfl, ⟨rfl, trivial⟩⟩⟩⟩
          · replace hT20 := z_im hT20 hc22
            obtain rfl := Option.some.inj hT20
            exact zr_wk2 hJ21 ⟨rfl, ⟨rfl, ⟨rfl, ⟨rfl, trivial⟩⟩⟩⟩
        refine zr_icmp_ne (tgt := 75) d_9_sign_68 rfl (fun hc18 => ?_) (fun hc18 => ?_)
        · replace hT16 := z_ip hT16 hc18
          refine zr_bipush (v := (10 : Int32)) d_9_sign_71 rfl ?_
          refine zr_istore (i := 4) (l' := [some (zA 9 0), some (zI a1), some (zI a2), none, some (zI (10 : Int32))]) d_9_sign_73 (by decide) rfl ?_
          obtain rfl := Option.some.inj hT16
          exact zr_wk2 hJ17 ⟨rfl, ⟨rfl, ⟨rfl, ⟨rfl, trivial⟩⟩⟩⟩
        · replace hT16 := z_im hT16 hc18
          obtain rfl := Option.some.inj hT16
          exact zr_wk2 hJ17 ⟨rfl, ⟨rfl, ⟨rfl, ⟨rfl, trivial⟩⟩⟩⟩
      refine zr_icmp_ne (tgt := 65) d_9_sign_58 rfl (fun hc14 => ?_) (fun hc14 => ?_)
      · replace hT12 := z_ip hT12 hc14
        refine zr_bipush (v := (9 : Int32)) d_9_sign_61 rfl ?_
        refine zr_istore (i := 4) (l' := [some (zA 9 0), some (zI a1), some (zI a2), none, some (zI (9 : Int32))]) d_9_sign_63 (by decide) rfl ?_
        obtain rfl := Option.some.inj hT12
        exact zr_wk2 hJ13 ⟨rfl, ⟨rfl, ⟨rfl, ⟨rfl, trivial⟩⟩⟩⟩
      · replace hT12 := z_im hT12 hc14
        obtain rfl := Option.some.inj hT12
        exact zr_wk2 hJ13 ⟨rfl, ⟨rfl, ⟨rfl, ⟨rfl, trivial⟩⟩⟩⟩
    refine zr_icmp_ne (tgt := 55) d_9_sign_48 rfl (fun hc10 => ?_) (fun hc10 => ?_)
    · replace hT8 := z_ip hT8 hc10
      refine zr_bipush (v := (8 : Int32)) d_9_sign_51 rfl ?_
      refine zr_istore (i := 4) (l' := [some (zA 9 0), some (zI a1), some (zI a2), none, some (zI (8 : Int32))]) d_9_sign_53 (by decide) rfl ?_
      obtain rfl := Option.some.inj hT8
      exact zr_wk2 hJ9 ⟨rfl, ⟨rfl, ⟨rfl, ⟨rfl, trivial⟩⟩⟩⟩
    · replace hT8 := z_im hT8 hc10
      obtain rfl := Option.some.inj hT8
      exact zr_wk2 hJ9 ⟨rfl, ⟨rfl, ⟨rfl, ⟨rfl, trivial⟩⟩⟩⟩
  refine zr_icmp_ne (tgt := 10) d_9_sign_3 rfl (fun hc3 => ?_) (fun hc3 => ?_)
  · replace hT1 := z_ip hT1 hc3
    refine zr_iconst (v := (4 : Int32)) d_9_sign_6 rfl ?_
    refine zr_goto (tgt := 43) d_9_sign_7 rfl ?_
    obtain rfl := Option.some.inj hT1
    exact zr_wk2 hJ2 ⟨rfl, ⟨rfl, ⟨rfl, trivial⟩⟩⟩
  · replace hT1 := z_im hT1 hc3
    refine zr_iload_n (i := 2) d_9_sign_10 rfl rfl ?_
    refine zr_bipush (v := (61 : Int32)) d_9_sign_11 rfl ?_
    refine zr_icmp_ne (tgt := 20) d_9_sign_13 rfl (fun hc4 => ?_) (fun hc4 => ?_)
    · replace hT1 := z_ip hT1 hc4
      refine zr_iconst (v := (5 : Int32)) d_9_sign_16 rfl ?_
      refine zr_goto (tgt := 43) d_9_sign_17 rfl ?_
      obtain rfl := Option.some.inj hT1
      exact zr_wk2 hJ2 ⟨rfl, ⟨rfl, ⟨rfl, trivial⟩⟩⟩
    · replace hT1 := z_im hT1 hc4
      refine zr_iload_n (i := 2) d_9_sign_20 rfl rfl ?_
      refine zr_bipush (v := (40 : Int32)) d_9_sign_21 rfl ?_
      refine zr_icmp_ne (tgt := 31) d_9_sign_23 rfl (fun hc5 => ?_) (fun hc5 => ?_)
      · replace hT1 := z_ip hT1 hc5
        refine zr_bipush (v := (6 : Int32)) d_9_sign_26 rfl ?_
        refine zr_goto (tgt := 43) d_9_sign_28 rfl ?_
        obtain rfl := Option.some.inj hT1
        exact zr_wk2 hJ2 ⟨rfl, ⟨rfl, ⟨rfl, trivial⟩⟩⟩
      · replace hT1 := z_im hT1 hc5
        refine zr_iload_n (i := 2) d_9_sign_31 rfl rfl ?_
        refine zr_bipush (v := (41 : Int32)) d_9_sign_32 rfl ?_
        refine zr_icmp_ne (tgt := 42) d_9_sign_34 rfl (fun hc6 => ?_) (fun hc6 => ?_)
        · replace hT1 := z_ip hT1 hc6
          refine zr_bipush (v := (7 : Int32)) d_9_sign_37 rfl ?_
          refine zr_goto (tgt := 43) d_9_sign_39 rfl ?_
          obtain rfl := Option.some.inj hT1
          exact zr_wk2 hJ2 ⟨rfl, ⟨rfl, ⟨rfl, trivial⟩⟩⟩
        · replace hT1 := z_im hT1 hc6
          refine zr_iconst (v := (3 : Int32)) d_9_sign_42 rfl ?_
          obtain rfl := Option.some.inj hT1
          exact zr_wk2 hJ2 ⟨rfl, ⟨rfl, ⟨rfl, trivial⟩⟩⟩
def f9_cut_L25 (x4 : Int32) (xm5 : zMem) : (Int32 × Int32) → Option ((Int32 × Int32) ⊕ (Int32 × Int32)) := (z_u2 fun x26 x27 => 
  (f9_byteAt (x4 + x26) xm5).bind (fun q28 => (if (f9_isDigit q28) = 0 then some (.inr (x26, x27)) else ((if x26 < (4 : Int32) then (f9_byteAt (x4 + x26) xm5).bind (fun q35 => z_let ((((10 : Int32) * x27) + q35) - (48 : Int32)) fun v37 => some v37) else some x27) : Option (Int32)).bind (fun j39 => some (.inl ((x26 + (1 : Int32)), j39))))))
def f9_cut_L49 (x4 : Int32) (xm5 : zMem) : (Int32 × Int64) → Option ((Int32 × Int64) ⊕ (Int32 × Int64)) := (z_u2 fun x50 x51 => 
  (f9_byteAt (x4 + x50) xm5).bind (fun q52 => (if (f9_isLetter q52) = 0 then some (.inr (x50, x51)) else ((if x50 < (8 : Int32) then (f9_byteAt (x4 + x50) xm5).bind (fun q59 => some (f9_appends x51 q59)) else some x51) : Option (Int64)).bind (fun j62 => some (.inl ((x50 + (1 : Int32)), j62))))))
def f9_cut_L73 (xm5 : zMem) (e64 : Int64) : (Int32 × Int32) → Option ((Int32 × Int32) ⊕ (Int32)) := (z_u2 fun x74 x75 => 
  (if x75 < (21 : Int32) then if z_in x75 21 = true then ((if (lg_cmp (xm5.2.1 109 0 x75.toNatClampNeg) e64) = 0 then some ((20 : Int32) + x75) else some x74) : Option (Int32)).bind (fun j81 => some (.inl (j81, (x75 + (1 : Int32))))) else none else some (.inr x74)))
def f9_cut_L3  : (Int32 × zMem) → Option ((Int32 × zMem) ⊕ ((zMem) ⊕ (zMem))) := (z_u2 fun x4 xm5 => 
  (if (400 : Int32) < (xm5.1 9 0 10) then some (.inr (.inl xm5)) else (f9_byteAt x4 xm5).bind (fun q7 => (if x4 < (xm5.1 9 0 4) then ((if q7 = (9 : Int32) then some ((x4 + (1 : Int32)), xm5) else (if q7 = (10 : Int32) then some ((x4 + (1 : Int32)), xm5) else (if q7 = (13 : Int32) then some ((x4 + (1 : Int32)), xm5) else (if q7 = (32 : Int32) then some ((x4 + (1 : Int32)), xm5) else (if (f9_isLetter q7) = 0 then (if (f9_isDigit q7) = 0 then (f9_byteAt (x4 + (1 : Int32)) xm5).bind (fun q20 => (f9_sign x4 q7 q20 xm5).bind (z_u2 fun q22 qm23 => some ((x4 + q22), qm23))) else (z_it (f9_cut_L25 x4 xm5) z_fu ((0 : Int32), (0 : Int32))).bind (z_u2 fun e40 e41 => ((if (4 : Int32) < e40 then some (3 : Int32) else some (2 : Int32)) : Option (Int32)).bind (fun j46 => (f9_token j46 x4 e41 (0 : Int64) xm5).bind (fun qm47 => some ((x4 + e40), qm47))))) else (z_it (f9_cut_L49 x4 xm5) z_fu ((0 : Int32), (0 : Int64))).bind (z_u2 fun e63 e64 => ((if (8 : Int32) < e63 then some (3 : Int32) else some (1 : Int32)) : Option (Int32)).bind (fun j69 => ((if (8 : Int32) < e63 then some j69 else (z_it (f9_cut_L73 xm5 e64) z_fu (j69, (0 : Int32))).bind (fun e82 => some e82)) : Option (Int32)).bind (fun j84 => (f9_token j84 x4 (0 : Int32) e64 xm5).bind (fun qm85 => some ((x4 + e63), qm85)))))))))) : Option (Int32 × zMem)).bind (z_u2 fun j87 jm88 => some (.inl (j87, jm88))) else (f9_token (0 : Int32) (xm5.1 9 0 4) (0 : Int32) (0 : Int64) xm5).bind (fun qm89 => some (.inr (.inr qm89)))))))
def f9_cut  (μ : zMem) : Option (zMem) :=
  z_let (z_sI μ 9 0 10 (0 : Int32)) fun m1 => (z_it (f9_cut_L3) z_fu ((0 : Int32), m1)).bind (Sum.elim (fun e91 => some e91) (fun qr93 => some qr93))
theorem s9_cut_L25 {P : zP} {ro : Option zV} {μo : zMem} (x4 : Int32) (xm5 : zMem) (x26 : Int32) (x27 : Int32) (K : (Int32 × Int32) ⊕ (Int32 × Int32)) (h : f9_cut_L25 x4 xm5 (x26, x27) = some K) (hI : ∀ (y0 : Int32) (y1 : Int32), K = .inl (y0, y1) → z_RQ P M_9_cut (z_rm 3) (z_mq P ro μo) 0 0 208 [some (zA 9 0), some (zI x4), none, some (zI y0), some (zI y1), none, none, none] [] xm5) (hE : ∀ (z0 : Int32) (z1 : Int32), K = .inr (z0, z1) → z_RQ P M_9_cut (z_rm 3) (z_mq P ro μo) 0 0 250 [some (zA 9 0), some (zI x4), none, some (zI z0), some (zI z1), none, none, none] [] xm5)  : z_RQ P M_9_cut (z_rm 3) (z_mq P ro μo) 0 0 208 [some (zA 9 0), some (zI x4), none, some (zI x26), some (zI x27), none, none, none] [] xm5 := by
  unfold f9_cut_L25 at h
  replace h := z_h2 h
  refine zr_aload_n (i := 0) d_9_cut_208 rfl rfl ?_
  refine zr_iload_n (i := 1) d_9_cut_209 rfl rfl ?_
  refine zr_iload_n (i := 3) d_9_cut_210 rfl rfl ?_
  refine zr_iadd d_9_cut_211 ?_
  obtain ⟨q28, hq29, h⟩ := z_bd h
  refine zr_callVi (av := [zI (x4 + x26)]) (st := []) d_9_cut_212 mw_9_byteAt ml_9_184 im_9_byteAt se_9_byteAt rfl rfl (Nat.le_of_ble_eq_true rfl) fit_1_2_3 rfl rfl rfl (s9_byteAt hq29) ?_
  refine zr_callSi (av := [zI q28]) (st := []) d_9_cut_215 mw_9_isDigit ml_9_196 is_9_isDigit rfl rfl (Nat.le_of_ble_eq_true rfl) fit_1_1_3 (s9_isDigit rfl) ?_
  refine zr_if_eq (tgt := 250) d_9_cut_218 rfl (fun hc31 => ?_) (fun hc31 => ?_)
  · replace h := z_ip h hc31
    obtain rfl := Option.some.inj h
    exact zr_wk2 (hE x26 x27 rfl) ⟨rfl, ⟨rfl, ⟨rfl, ⟨rfl, trivial⟩⟩⟩⟩
  · replace h := z_im h hc31
    refine zr_iload_n (i := 3) d_9_cut_221 rfl rfl ?_
    refine zr_iconst (v := (4 : Int32)) d_9_cut_222 rfl ?_
    obtain ⟨j39, hT32, h⟩ := z_bd h
    have hJ33 : z_RQ P M_9_cut (z_rm 3) (z_mq P ro μo) 0 0 244 [some (zA 9 0), some (zI x4), none, some (zI x26), some (zI j39), none, none, none] [] xm5 := by
      refine zr_iinc (v := (x26 + (1 : Int32))) (l' := [some (zA 9 0), some (zI x4), none, some (zI (x26 + (1 : Int32))), some (zI j39), none, none, none]) d_9_cut_244 (by decide) rfl rfl rfl ?_
      refine zr_goto (tgt := 208) d_9_cut_247 rfl ?_
      obtain rfl := Option.some.inj h
      exact zr_wk2 (hI (x26 + (1 : Int32)) j39 rfl) ⟨rfl, ⟨rfl, ⟨rfl, ⟨rfl, trivial⟩⟩⟩⟩
    refine zr_icmp_ge (tgt := 244) d_9_cut_223 rfl (fun hc34 => ?_) (fun hc34 => ?_)
    · replace hT32 := z_ip hT32 hc34
      refine zr_bipush (v := (10 : Int32)) d_9_cut_226 rfl ?_
      refine zr_iload d_9_cut_228 rfl ?_
      refine zr_imul d_9_cut_230 ?_
      refine zr_aload_n (i := 0) d_9_cut_231 rfl rfl ?_
      refine zr_iload_n (i := 1) d_9_cut_232 rfl rfl ?_
      refine zr_iload_n (i := 3) d_9_cut_233 rfl rfl ?_
      refine zr_iadd d_9_cut_234 ?_
      obtain ⟨q35, hq36, hT32⟩ := z_bd hT32
      refine zr_callVi (av := [zI (x4 + x26)]) (st := [zI ((10 : Int32) * x27)]) d_9_cut_235 mw_9_byteAt ml_9_184 im_9_byteAt se_9_byteAt rfl rfl (Nat.le_of_ble_eq_true rfl) fit_1_2_3 rfl rfl rfl (s9_byteAt hq36) ?_
      refine zr_iadd d_9_cut_238 ?_
      refine zr_bipush (v := (48 : Int32)) d_9_cut_239 rfl ?_
      refine zr_isub d_9_cut_241 ?_
      obtain ⟨v37, hv38, hT32⟩ := z_lt hT32
      refine zr_nm hv38 ?_
      refine zr_istore (i := 4) (l' := [some (zA 9 0), some (zI x4), none, some (zI x26), some (zI v37), none, none, none]) d_9_cut_242 (by decide) rfl ?_
      obtain rfl := Option.some.inj hT32
      exact zr_wk2 hJ33 ⟨rfl, ⟨rfl, ⟨rfl, ⟨rfl, trivial⟩⟩⟩⟩
    · replace hT32 := z_im hT32 hc34
      obtain rfl := Option.some.inj hT32
      exact zr_wk2 hJ33 ⟨rfl, ⟨rfl, ⟨rfl, ⟨rfl, trivial⟩⟩⟩⟩
theorem s9_cut_L49 {P : zP} {ro : Option zV} {μo : zMem} (x4 : Int32) (xm5 : zMem) (x50 : Int32) (x51 : Int64) (K : (Int32 × Int64) ⊕ (Int32 × Int64)) (h : f9_cut_L49 x4 xm5 (x50, x51) = some K) (hI : ∀ (y0 : Int32) (y1 : Int64), K = .inl (y0, y1) → z_RQ P M_9_cut (z_rm 3) (z_mq P ro μo) 0 0 85 [some (zA 9 0), some (zI x4), none, some (zI y0), some (zL y1), none, none, none] [] xm5) (hE : ∀ (z0 : Int32) (z1 : Int64), K = .inr (z0, z1) → z_RQ P M_9_cut (z_rm 3) (z_mq P ro μo) 0 0 124 [some (zA 9 0), some (zI x4), none, some (zI z0), some (zL z1), none, none, none] [] xm5)  : z_RQ P M_9_cut (z_rm 3) (z_mq P ro μo) 0 0 85 [some (zA 9 0), some (zI x4), none, some (zI x50), some (zL x51), none, none, none] [] xm5 := by
  unfold f9_cut_L49 at h
  replace h := z_h2 h
  refine zr_aload_n (i := 0) d_9_cut_85 rfl rfl ?_
  refine zr_iload_n (i := 1) d_9_cut_86 rfl rfl ?_
  refine zr_iload_n (i := 3) d_9_cut_87 rfl rfl ?_
  refine zr_iadd d_9_cut_88 ?_
  obtain ⟨q52, hq53, h⟩ := z_bd h
  refine zr_callVi (av := [zI (x4 + x50)]) (st := []) d_9_cut_89 mw_9_byteAt ml_9_184 im_9_byteAt se_9_byteAt rfl rfl (Nat.le_of_ble_eq_true rfl) fit_1_2_3 rfl rfl rfl (s9_byteAt hq53) ?_
  refine zr_callSi (av := [zI q52]) (st := []) d_9_cut_92 mw_9_isLetter ml_9_192 is_9_isLetter rfl rfl (Nat.le_of_ble_eq_true rfl) fit_1_1_3 (s9_isLetter rfl) ?_
  refine zr_if_eq (tgt := 124) d_9_cut_95 rfl (fun hc55 => ?_) (fun hc55 => ?_)
  · replace h := z_ip h hc55
    obtain rfl := Option.some.inj h
    exact zr_wk2 (hE x50 x51 rfl) ⟨rfl, ⟨rfl, ⟨rfl, ⟨rfl, trivial⟩⟩⟩⟩
  · replace h := z_im h hc55
    refine zr_iload_n (i := 3) d_9_cut_98 rfl rfl ?_
    refine zr_bipush (v := (8 : Int32)) d_9_cut_99 rfl ?_
    obtain ⟨j62, hT56, h⟩ := z_bd h
    have hJ57 : z_RQ P M_9_cut (z_rm 3) (z_mq P ro μo) 0 0 118 [some (zA 9 0), some (zI x4), none, some (zI x50), some (zL j62), none, none, none] [] xm5 := by
      refine zr_iinc (v := (x50 + (1 : Int32))) (l' := [some (zA 9 0), some (zI x4), none, some (zI (x50 + (1 : Int32))), some (zL j62), none, none, none]) d_9_cut_118 (by decide) rfl rfl rfl ?_
      refine zr_goto (tgt := 85) d_9_cut_121 rfl ?_
      obtain rfl := Option.some.inj h
      exact zr_wk2 (hI (x50 + (1 : Int32)) j62 rfl) ⟨rfl, ⟨rfl, ⟨rfl, ⟨rfl, trivial⟩⟩⟩⟩
    refine zr_icmp_ge (tgt := 118) d_9_cut_101 rfl (fun hc58 => ?_) (fun hc58 => ?_)
    · replace hT56 := z_ip hT56 hc58
      refine zr_lload d_9_cut_104 rfl ?_
      refine zr_aload_n (i := 0) d_9_cut_106 rfl rfl ?_
      refine zr_iload_n (i := 1) d_9_cut_107 rfl rfl ?_
      refine zr_iload_n (i := 3) d_9_cut_108 rfl rfl ?_
      refine zr_iadd d_9_cut_109 ?_
      obtain ⟨q59, hq60, hT56⟩ := z_bd hT56
      refine zr_callVi (av := [zI (x4 + x50)]) (st := [zL x51]) d_9_cut_110 mw_9_byteAt ml_9_184 im_9_byteAt se_9_byteAt rfl rfl (Nat.le_of_ble_eq_true rfl) fit_1_2_3 rfl rfl rfl (s9_byteAt hq60) ?_
      refine zr_callSl (av := [zL x51, zI q59]) (st := []) d_9_cut_113 mw_9_appends ml_9_177 is_9_appends rfl rfl (Nat.le_of_ble_eq_true rfl) fit_1_3_3 (s9_appends rfl) ?_
      refine zr_lstore (i := 4) (l' := [some (zA 9 0), some (zI x4), none, some (zI x50), some (zL (f9_appends x51 q59)), none, none, none]) d_9_cut_116 (by decide) rfl ?_
      obtain rfl := Option.some.inj hT56
      exact zr_wk2 hJ57 ⟨rfl, ⟨rfl, ⟨rfl, ⟨rfl, trivial⟩⟩⟩⟩
    · replace hT56 := z_im hT56 hc58
      obtain rfl := Option.some.inj hT56
      exact zr_wk2 hJ57 ⟨rfl, ⟨rfl, ⟨rfl, ⟨rfl, trivial⟩⟩⟩⟩
theorem s9_cut_L73 {P : zP} {ro : Option zV} {μo : zMem} (x4 : Int32) (xm5 : zMem) (e63 : Int32) (e64 : Int64) (x74 : Int32) (x75 : Int32) (K : (Int32 × Int32) ⊕ (Int32)) (h : f9_cut_L73 xm5 e64 (x74, x75) = some K) (hI : ∀ (y0 : Int32) (y1 : Int32), K = .inl (y0, y1) → z_RQ P M_9_cut (z_rm 3) (z_mq P ro μo) 0 0 146 [some (zA 9 0), some (zI x4), none, some (zI e63), some (zL e64), none, some (zI y0), some (zI y1)] [] xm5) (hE : ∀ (z0 : Int32), K = .inr z0 → z_RQ P M_9_cut (z_rm 3) (z_mq P ro μo) 0 0 179 [some (zA 9 0), some (zI x4), none, some (zI e63), some (zL e64), none, some (zI z0), none] [] xm5)  : z_RQ P M_9_cut (z_rm 3) (z_mq P ro μo) 0 0 146 [some (zA 9 0), some (zI x4), none, some (zI e63), some (zL e64), none, some (zI x74), some (zI x75)] [] xm5 := by
  unfold f9_cut_L73 at h
  replace h := z_h2 h
  refine zr_iload d_9_cut_146 rfl ?_
  refine zr_bipush (v := (21 : Int32)) d_9_cut_148 rfl ?_
  refine zr_icmp_ge (tgt := 179) d_9_cut_150 rfl (fun hc76 => ?_) (fun hc76 => ?_)
  · replace h := z_ip h hc76
    refine zr_aload_n (i := 0) d_9_cut_153 rfl rfl ?_
    refine zr_gets (i' := 0) d_9_cut_154 fw_9_34 rfl ?_
    refine zr_iload d_9_cut_157 rfl ?_
    obtain ⟨hb77, h⟩ := z_gd h
    refine zr_lald d_9_cut_159 sa_109 rfl hb77 ?_
    refine zr_lload d_9_cut_160 rfl ?_
    refine zr_lcmp d_9_cut_162 ?_
    obtain ⟨j81, hT78, h⟩ := z_bd h
    have hJ79 : z_RQ P M_9_cut (z_rm 3) (z_mq P ro μo) 0 0 173 [some (zA 9 0), some (zI x4), none, some (zI e63), some (zL e64), none, some (zI j81), some (zI x75)] [] xm5 := by
      refine zr_iinc (v := (x75 + (1 : Int32))) (l' := [some (zA 9 0), some (zI x4), none, some (zI e63), some (zL e64), none, some (zI j81), some (zI (x75 + (1 : Int32)))]) d_9_cut_173 (by decide) rfl rfl rfl ?_
      refine zr_goto (tgt := 146) d_9_cut_176 rfl ?_
      obtain rfl := Option.some.inj h
      exact zr_wk2 (hI j81 (x75 + (1 : Int32)) rfl) ⟨rfl, ⟨rfl, ⟨rfl, ⟨rfl, ⟨rfl, ⟨rfl, trivial⟩⟩⟩⟩⟩⟩
    refine zr_if_ne (tgt := 173) d_9_cut_163 rfl (fun hc80 => ?_) (fun hc80 => ?_)
    · replace hT78 := z_ip hT78 hc80
      refine zr_bipush (v := (20 : Int32)) d_9_cut_166 rfl ?_
      refine zr_iload d_9_cut_168 rfl ?_
      refine zr_iadd d_9_cut_170 ?_
      refine zr_istore (i := 6) (l' := [some (zA 9 0), some (zI x4), none, some (zI e63), some (zL e64), none, some (zI ((20 : Int32) + x75)), some (zI x75)]) d_9_cut_171 (by decide) rfl ?_
      obtain rfl := Option.some.inj hT78
      exact zr_wk2 hJ79 ⟨rfl, ⟨rfl, ⟨rfl, ⟨rfl, ⟨rfl, ⟨rfl, trivial⟩⟩⟩⟩⟩⟩
    · replace hT78 := z_im hT78 hc80
      obtain rfl := Option.some.inj hT78
      exact zr_wk2 hJ79 ⟨rfl, ⟨rfl, ⟨rfl, ⟨rfl, ⟨rfl, ⟨rfl, trivial⟩⟩⟩⟩⟩⟩
  · replace h := z_im h hc76
    obtain rfl := Option.some.inj h
    exact zr_wk2 (hE x74 rfl) ⟨rfl, ⟨rfl, ⟨rfl, ⟨rfl, ⟨rfl, trivial⟩⟩⟩⟩⟩
theorem s9_cut_L3 {P : zP} {ro : Option zV} {μo : zMem}  (x4 : Int32) (xm5 : zMem) (K : (Int32 × zMem) ⊕ ((zMem) ⊕ (zMem))) (h : f9_cut_L3  (x4, xm5) = some K) (hI : ∀ (y0 : Int32) (y1 : zMem), K = .inl (y0, y1) → z_RQ P M_9_cut (z_rm 3) (z_mq P ro μo) 0 0 7 [some (zA 9 0), some (zI y0), none, none, none, none, none, none] [] y1) (hE : ∀ (z0 : zMem), K = .inr (.inl z0) → z_RQ P M_9_cut (z_rm 3) (z_mq P ro μo) 0 0 294 [none, none, none, none, none, none, none, none] [] z0) (hR : ∀ (qm : zMem), K = .inr (.inr qm) → ro = none ∧ μo = qm) : z_RQ P M_9_cut (z_rm 3) (z_mq P ro μo) 0 0 7 [some (zA 9 0), some (zI x4), none, none, none, none, none, none] [] xm5 := by
  unfold f9_cut_L3 at h
  replace h := z_h2 h
  refine zr_aload_n (i := 0) d_9_cut_7 rfl rfl ?_
  refine zr_geti d_9_cut_8 fw_9_181 (by decide) ?_
  refine zr_sipush (v := (400 : Int32)) d_9_cut_11 rfl ?_
  refine zr_icmp_gt (tgt := 294) d_9_cut_14 rfl (fun hc6 => ?_) (fun hc6 => ?_)
  · replace h := z_ip h hc6
    obtain rfl := Option.some.inj h
    exact zr_wk2 (hE xm5 rfl) trivial
  · replace h := z_im h hc6
    refine zr_aload_n (i := 0) d_9_cut_17 rfl rfl ?_
    refine zr_iload_n (i := 1) d_9_cut_18 rfl rfl ?_
    obtain ⟨q7, hq8, h⟩ := z_bd h
    refine zr_callVi (av := [zI x4]) (st := []) d_9_cut_19 mw_9_byteAt ml_9_184 im_9_byteAt se_9_byteAt rfl rfl (Nat.le_of_ble_eq_true rfl) fit_1_2_3 rfl rfl rfl (s9_byteAt hq8) ?_
    refine zr_istore_n (i := 2) (l' := [some (zA 9 0), some (zI x4), some (zI q7), none, none, none, none, none]) d_9_cut_22 rfl (by decide) rfl ?_
    refine zr_iload_n (i := 1) d_9_cut_23 rfl rfl ?_
    refine zr_aload_n (i := 0) d_9_cut_24 rfl rfl ?_
    refine zr_geti d_9_cut_25 fw_9_172 (by decide) ?_
    refine zr_icmp_lt (tgt := 43) d_9_cut_28 rfl (fun hc9 => ?_) (fun hc9 => ?_)
    · replace h := z_ip h hc9
      refine zr_iload_n (i := 2) d_9_cut_43 rfl rfl ?_
      refine zr_bipush (v := (9 : Int32)) d_9_cut_44 rfl ?_
      obtain ⟨⟨j87, jm88⟩, hT10, h⟩ := z_bd h
      replace h := z_h2 h
      have hJ11 : z_RQ P M_9_cut (z_rm 3) (z_mq P ro μo) 0 0 291 [some (zA 9 0), some (zI j87), none, none, none, none, none, none] [] jm88 := by
        refine zr_goto (tgt := 7) d_9_cut_291 rfl ?_
        obtain rfl := Option.some.inj h
        exact zr_wk2 (hI j87 jm88 rfl) ⟨rfl, ⟨rfl, trivial⟩⟩
      refine zr_icmp_eq (tgt := 67) d_9_cut_46 rfl (fun hc12 => ?_) (fun hc12 => ?_)
      · replace hT10 := z_ip hT10 hc12
        refine zr_iinc (v := (x4 + (1 : Int32))) (l' := [some (zA 9 0), some (zI (x4 + (1 : Int32))), some (zI q7), none, none, none, none, none]) d_9_cut_67 (by decide) rfl rfl rfl ?_
        refine zr_goto (tgt := 291) d_9_cut_70 rfl ?_
        obtain ⟨rfl, rfl⟩ := z_i2 (Option.some.inj hT10)
        exact zr_wk2 hJ11 ⟨rfl, ⟨rfl, trivial⟩⟩
      · replace hT10 := z_im hT10 hc12
        refine zr_iload_n (i := 2) d_9_cut_49 rfl rfl ?_
        refine zr_bipush (v := (10 : Int32)) d_9_cut_50 rfl ?_
        refine zr_icmp_eq (tgt := 67) d_9_cut_52 rfl (fun hc13 => ?_) (fun hc13 => ?_)
        · replace hT10 := z_ip hT10 hc13
          refine zr_iinc (v := (x4 + (1 : Int32))) (l' := [some (zA 9 0), some (zI (x4 + (1 : Int32))), some (zI q7), none, none, none, none, none]) d_9_cut_67 (by decide) rfl rfl rfl ?_
          refine zr_goto (tgt := 291) d_9_cut_70 rfl ?_
          obtain ⟨rfl, rfl⟩ := z_i2 (Option.some.inj hT10)
          exact zr_wk2 hJ11 ⟨rfl, ⟨rfl, trivial⟩⟩
        · replace hT10 := z_im hT10 hc13
          refine zr_iload_n (i := 2) d_9_cut_55 rfl rfl ?_
          refine zr_bipush (v := (13 : Int32)) d_9_cut_56 rfl ?_
          refine zr_icmp_eq (tgt := 67) d_9_cut_58 rfl (fun hc14 => ?_) (fun hc14 => ?_)
          · replace hT10 := z_ip hT10 hc14
            refine zr_iinc (v := (x4 + (1 : Int32))) (l' := [some (zA 9 0), some (zI (x4 + (1 : Int32))), some (zI q7), none, none, none, none, none]) d_9_cut_67 (by decide) rfl rfl rfl ?_
            refine zr_goto (tgt := 291) d_9_cut_70 rfl ?_
            obtain ⟨rfl, rfl⟩ := z_i2 (Option.some.inj hT10)
            exact zr_wk2 hJ11 ⟨rfl, ⟨rfl, trivial⟩⟩
          · replace hT10 := z_im hT10 hc14
            refine zr_iload_n (i := 2) d_9_cut_61 rfl rfl ?_
            refine zr_bipush (v := (32 : Int32)) d_9_cut_62 rfl ?_
            refine zr_icmp_ne (tgt := 73) d_9_cut_64 rfl (fun hc15 => ?_) (fun hc15 => ?_)
            · replace hT10 := z_ip hT10 hc15
              refine zr_iinc (v := (x4 + (1 : Int32))) (l' := [some (zA 9 0), some (zI (x4 + (1 : Int32))), some (zI q7), none, none, none, none, none]) d_9_cut_67 (by decide) rfl rfl rfl ?_
              refine zr_goto (tgt := 291) d_9_cut_70 rfl ?_
              obtain ⟨rfl, rfl⟩ := z_i2 (Option.some.inj hT10)
              exact zr_wk2 hJ11 ⟨rfl, ⟨rfl, trivial⟩⟩
            · replace hT10 := z_im hT10 hc15
              refine zr_iload_n (i := 2) d_9_cut_73 rfl rfl ?_
              refine zr_callSi (av := [zI q7]) (st := []) d_9_cut_74 mw_9_isLetter ml_9_192 is_9_isLetter rfl rfl (Nat.le_of_ble_eq_true rfl) fit_1_1_3 (s9_isLetter rfl) ?_
              refine zr_if_eq (tgt := 196) d_9_cut_77 rfl (fun hc17 => ?_) (fun hc17 => ?_)
              · replace hT10 := z_ip hT10 hc17
                refine zr_iload_n (i := 2) d_9_cut_196 rfl rfl ?_
                refine zr_callSi (av := [zI q7]) (st := []) d_9_cut_197 mw_9_isDigit ml_9_196 is_9_isDigit rfl rfl (Nat.le_of_ble_eq_true rfl) fit_1_1_3 (s9_isDigit rfl) ?_
                refine zr_if_eq (tgt := 275) d_9_cut_200 rfl (fun hc19 => ?_) (fun hc19 => ?_)
                · replace hT10 := z_ip hT10 hc19
                  refine zr_iload_n (i := 1) d_9_cut_275 rfl rfl ?_
                  refine zr_aload_n (i := 0) d_9_cut_276 rfl rfl ?_
                  refine zr_iload_n (i := 1) d_9_cut_277 rfl rfl ?_
                  refine zr_iload_n (i := 2) d_9_cut_278 rfl rfl ?_
                  refine zr_aload_n (i := 0) d_9_cut_279 rfl rfl ?_
                  refine zr_iload_n (i := 1) d_9_cut_280 rfl rfl ?_
                  refine zr_iconst (v := (1 : Int32)) d_9_cut_281 rfl ?_
                  refine zr_iadd d_9_cut_282 ?_
                  obtain ⟨q20, hq21, hT10⟩ := z_bd hT10
                  refine zr_callVi (av := [zI (x4 + (1 : Int32))]) (st := [zI q7, zI x4, zA 9 0, zI x4]) d_9_cut_283 mw_9_byteAt ml_9_184 im_9_byteAt se_9_byteAt rfl rfl (Nat.le_of_ble_eq_true rfl) fit_1_2_3 rfl rfl rfl (s9_byteAt hq21) ?_
                  obtain ⟨⟨q22, qm23⟩, hq24, hT10⟩ := z_bd hT10
                  replace hT10 := z_h2 hT10
                  refine zr_callVi (av := [zI x4, zI q7, zI q20]) (st := [zI x4]) d_9_cut_286 mw_9_sign ml_9_199 im_9_sign se_9_sign rfl rfl (Nat.le_of_ble_eq_true rfl) fit_2_5_3 rfl rfl rfl (s9_sign hq24) ?_
                  refine zr_iadd d_9_cut_289 ?_
                  refine zr_istore_n (i := 1) (l' := [some (zA 9 0), some (zI (x4 + q22)), some (zI q7), none, none, none, none, none]) d_9_cut_290 rfl (by decide) rfl ?_
                  obtain ⟨rfl, rfl⟩ := z_i2 (Option.some.inj hT10)
                  exact zr_wk2 hJ11 ⟨rfl, ⟨rfl, trivial⟩⟩
                · replace hT10 := z_im hT10 hc19
                  refine zr_iconst (v := (0 : Int32)) d_9_cut_203 rfl ?_
                  refine zr_istore_n (i := 3) (l' := [some (zA 9 0), some (zI x4), some (zI q7), some (zI (0 : Int32)), none, none, none, none]) d_9_cut_204 rfl (by decide) rfl ?_
                  refine zr_iconst (v := (0 : Int32)) d_9_cut_205 rfl ?_
                  refine zr_istore (i := 4) (l' := [some (zA 9 0), some (zI x4), some (zI q7), some (zI (0 : Int32)), some (zI (0 : Int32)), none, none, none]) d_9_cut_206 (by decide) rfl ?_
                  obtain ⟨⟨e40, e41⟩, hl42, hT10⟩ := z_bd hT10
                  replace hT10 := z_h2 hT10
                  refine zr_wk (l' := [some (zA 9 0), some (zI x4), none, some (zI (0 : Int32)), some (zI (0 : Int32)), none, none, none]) ⟨rfl, ⟨rfl, ⟨rfl, ⟨rfl, trivial⟩⟩⟩⟩ ?_
                  refine z_loop (Hd := (z_u2 fun y0 y1 => z_RQ P M_9_cut (z_rm 3) (z_mq P ro μo) 0 0 208 [some (zA 9 0), some (zI x4), none, some (zI y0), some (zI y1), none, none, none] [] xm5)) (Ex := (z_u2 fun z0 z1 => z_RQ P M_9_cut (z_rm 3) (z_mq P ro μo) 0 0 250 [some (zA 9 0), some (zI x4), none, some (zI z0), some (zI z1), none, none, none] [] xm5)) (fun ⟨x26, x27⟩ K h hI hE => s9_cut_L25 x4 xm5 x26 x27 K h (fun y0 y1 e => hI (y0, y1) e) (fun z0 z1 e => hE (z0, z1) e) ) _ _ _ hl42 ?_
                  refine zr_aload_n (i := 0) d_9_cut_250 rfl rfl ?_
                  refine zr_iload_n (i := 3) d_9_cut_251 rfl rfl ?_
                  refine zr_iconst (v := (4 : Int32)) d_9_cut_252 rfl ?_
                  obtain ⟨j46, hT43, hT10⟩ := z_bd hT10
                  have hJ44 : z_RQ P M_9_cut (z_rm 3) (z_mq P ro μo) 0 0 261 [some (zA 9 0), some (zI x4), none, some (zI e40), some (zI e41), none, none, none] [zI j46, zA 9 0] xm5 := by
                    refine zr_iload_n (i := 1) d_9_cut_261 rfl rfl ?_
                    refine zr_iload d_9_cut_262 rfl ?_
                    refine zr_lconst (v := (0 : Int64)) d_9_cut_264 rfl ?_
                    obtain ⟨qm47, hq48, hT10⟩ := z_bd hT10
                    refine zr_callVv (av := [zI j46, zI x4, zI e41, zL (0 : Int64)]) (st := []) d_9_cut_265 mw_9_token ml_9_188 im_9_token se_9_token rfl rfl (Nat.le_of_ble_eq_true rfl) fit_1_6_3 rfl rfl rfl (s9_token hq48) ?_
                    refine zr_iload_n (i := 1) d_9_cut_268 rfl rfl ?_
                    refine zr_iload_n (i := 3) d_9_cut_269 rfl rfl ?_
                    refine zr_iadd d_9_cut_270 ?_
                    refine zr_istore_n (i := 1) (l' := [some (zA 9 0), some (zI (x4 + e40)), none, some (zI e40), some (zI e41), none, none, none]) d_9_cut_271 rfl (by decide) rfl ?_
                    refine zr_goto (tgt := 291) d_9_cut_272 rfl ?_
                    obtain ⟨rfl, rfl⟩ := z_i2 (Option.some.inj hT10)
                    exact zr_wk2 hJ11 ⟨rfl, ⟨rfl, trivial⟩⟩
                  refine zr_icmp_le (tgt := 260) d_9_cut_253 rfl (fun hc45 => ?_) (fun hc45 => ?_)
                  · replace hT43 := z_ip hT43 hc45
                    refine zr_iconst (v := (3 : Int32)) d_9_cut_256 rfl ?_
                    refine zr_goto (tgt := 261) d_9_cut_257 rfl ?_
                    obtain rfl := Option.some.inj hT43
                    exact zr_wk2 hJ44 ⟨rfl, ⟨rfl, ⟨rfl, ⟨rfl, trivial⟩⟩⟩⟩
                  · replace hT43 := z_im hT43 hc45
                    refine zr_iconst (v := (2 : Int32)) d_9_cut_260 rfl ?_
                    obtain rfl := Option.some.inj hT43
                    exact zr_wk2 hJ44 ⟨rfl, ⟨rfl, ⟨rfl, ⟨rfl, trivial⟩⟩⟩⟩
              · replace hT10 := z_im hT10 hc17
                refine zr_iconst (v := (0 : Int32)) d_9_cut_80 rfl ?_
                refine zr_istore_n (i := 3) (l' := [some (zA 9 0), some (zI x4), some (zI q7), some (zI (0 : Int32)), none, none, none, none]) d_9_cut_81 rfl (by decide) rfl ?_
                refine zr_lconst (v := (0 : Int64)) d_9_cut_82 rfl ?_
                refine zr_lstore (i := 4) (l' := [some (zA 9 0), some (zI x4), some (zI q7), some (zI (0 : Int32)), some (zL (0 : Int64)), none, none, none]) d_9_cut_83 (by decide) rfl ?_
                obtain ⟨⟨e63, e64⟩, hl65, hT10⟩ := z_bd hT10
                replace hT10 := z_h2 hT10
                refine zr_wk (l' := [some (zA 9 0), some (zI x4), none, some (zI (0 : Int32)), some (zL (0 : Int64)), none, none, none]) ⟨rfl, ⟨rfl, ⟨rfl, ⟨rfl, trivial⟩⟩⟩⟩ ?_
                refine z_loop (Hd := (z_u2 fun y0 y1 => z_RQ P M_9_cut (z_rm 3) (z_mq P ro μo) 0 0 85 [some (zA 9 0), some (zI x4), none, some (zI y0), some (zL y1), none, none, none] [] xm5)) (Ex := (z_u2 fun z0 z1 => z_RQ P M_9_cut (z_rm 3) (z_mq P ro μo) 0 0 124 [some (zA 9 0), some (zI x4), none, some (zI z0), some (zL z1), none, none, none] [] xm5)) (fun ⟨x50, x51⟩ K h hI hE => s9_cut_L49 x4 xm5 x50 x51 K h (fun y0 y1 e => hI (y0, y1) e) (fun z0 z1 e => hE (z0, z1) e) ) _ _ _ hl65 ?_
                refine zr_iload_n (i := 3) d_9_cut_124 rfl rfl ?_
                refine zr_bipush (v := (8 : Int32)) d_9_cut_125 rfl ?_
                obtain ⟨j69, hT66, hT10⟩ := z_bd hT10
                have hJ67 : z_RQ P M_9_cut (z_rm 3) (z_mq P ro μo) 0 0 135 [some (zA 9 0), some (zI x4), none, some (zI e63), some (zL e64), none, none, none] [zI j69] xm5 := by
                  refine zr_istore (i := 6) (l' := [some (zA 9 0), some (zI x4), none, some (zI e63), some (zL e64), none, some (zI j69), none]) d_9_cut_135 (by decide) rfl ?_
                  refine zr_iload_n (i := 3) d_9_cut_137 rfl rfl ?_
                  refine zr_bipush (v := (8 : Int32)) d_9_cut_138 rfl ?_
                  obtain ⟨j84, hT70, hT10⟩ := z_bd hT10
                  have hJ71 : z_RQ P M_9_cut (z_rm 3) (z_mq P ro μo) 0 0 179 [some (zA 9 0), some (zI x4), none, some (zI e63), some (zL e64), none, some (zI j84), none] [] xm5 := by
                    refine zr_aload_n (i := 0) d_9_cut_179 rfl rfl ?_
                    refine zr_iload d_9_cut_180 rfl ?_
                    refine zr_iload_n (i := 1) d_9_cut_182 rfl rfl ?_
                    refine zr_iconst (v := (0 : Int32)) d_9_cut_183 rfl ?_
                    refine zr_lload d_9_cut_184 rfl ?_
                    obtain ⟨qm85, hq86, hT10⟩ := z_bd hT10
                    refine zr_callVv (av := [zI j84, zI x4, zI (0 : Int32), zL e64]) (st := []) d_9_cut_186 mw_9_token ml_9_188 im_9_token se_9_token rfl rfl (Nat.le_of_ble_eq_true rfl) fit_1_6_3 rfl rfl rfl (s9_token hq86) ?_
                    refine zr_iload_n (i := 1) d_9_cut_189 rfl rfl ?_
                    refine zr_iload_n (i := 3) d_9_cut_190 rfl rfl ?_
                    refine zr_iadd d_9_cut_191 ?_
                    refine zr_istore_n (i := 1) (l' := [some (zA 9 0), some (zI (x4 + e63)), none, some (zI e63), some (zL e64), none, some (zI j84), none]) d_9_cut_192 rfl (by decide) rfl ?_
                    refine zr_goto (tgt := 291) d_9_cut_193 rfl ?_
                    obtain ⟨rfl, rfl⟩ := z_i2 (Option.some.inj hT10)
                    exact zr_wk2 hJ11 ⟨rfl, ⟨rfl, trivial⟩⟩
                  refine zr_icmp_gt (tgt := 179) d_9_cut_140 rfl (fun hc72 => ?_) (fun hc72 => ?_)
                  · replace hT70 := z_ip hT70 hc72
                    obtain rfl := Option.some.inj hT70
                    exact zr_wk2 hJ71 ⟨rfl, ⟨rfl, ⟨rfl, ⟨rfl, ⟨rfl, trivial⟩⟩⟩⟩⟩
                  · replace hT70 := z_im hT70 hc72
                    refine zr_iconst (v := (0 : Int32)) d_9_cut_143 rfl ?_
                    refine zr_istore (i := 7) (l' := [some (zA 9 0), some (zI x4), none, some (zI e63), some (zL e64), none, some (zI j69), some (zI (0 : Int32))]) d_9_cut_144 (by decide) rfl ?_
                    obtain ⟨e82, hl83, hT70⟩ := z_bd hT70
                    refine zr_wk (l' := [some (zA 9 0), some (zI x4), none, some (zI e63), some (zL e64), none, some (zI j69), some (zI (0 : Int32))]) ⟨rfl, ⟨rfl, ⟨rfl, ⟨rfl, ⟨rfl, ⟨rfl, trivial⟩⟩⟩⟩⟩⟩ ?_
                    refine z_loop (Hd := (z_u2 fun y0 y1 => z_RQ P M_9_cut (z_rm 3) (z_mq P ro μo) 0 0 146 [some (zA 9 0), some (zI x4), none, some (zI e63), some (zL e64), none, some (zI y0), some (zI y1)] [] xm5)) (Ex := (fun z0 => z_RQ P M_9_cut (z_rm 3) (z_mq P ro μo) 0 0 179 [some (zA 9 0), some (zI x4), none, some (zI e63), some (zL e64), none, some (zI z0), none] [] xm5)) (fun ⟨x74, x75⟩ K h hI hE => s9_cut_L73 x4 xm5 e63 e64 x74 x75 K h (fun y0 y1 e => hI (y0, y1) e) (fun z0 e => hE z0 e) ) _ _ _ hl83 ?_
                    obtain rfl := Option.some.inj hT70
                    exact zr_wk2 hJ71 ⟨rfl, ⟨rfl, ⟨rfl, ⟨rfl, ⟨rfl, trivial⟩⟩⟩⟩⟩
                refine zr_icmp_le (tgt := 134) d_9_cut_127 rfl (fun hc68 => ?_) (fun hc68 => ?_)
                · replace hT66 := z_ip hT66 hc68
                  refine zr_iconst (v := (3 : Int32)) d_9_cut_130 rfl ?_
                  refine zr_goto (tgt := 135) d_9_cut_131 rfl ?_
                  obtain rfl := Option.some.inj hT66
                  exact zr_wk2 hJ67 ⟨rfl, ⟨rfl, ⟨rfl, ⟨rfl, trivial⟩⟩⟩⟩
                · replace hT66 := z_im hT66 hc68
                  refine zr_iconst (v := (1 : Int32)) d_9_cut_134 rfl ?_
                  obtain rfl := Option.some.inj hT66
                  exact zr_wk2 hJ67 ⟨rfl, ⟨rfl, ⟨rfl, ⟨rfl, trivial⟩⟩⟩⟩
    · replace h := z_im h hc9
      refine zr_aload_n (i := 0) d_9_cut_31 rfl rfl ?_
      refine zr_iconst (v := (0 : Int32)) d_9_cut_32 rfl ?_
      refine zr_aload_n (i := 0) d_9_cut_33 rfl rfl ?_
      refine zr_geti d_9_cut_34 fw_9_172 (by decide) ?_
      refine zr_iconst (v := (0 : Int32)) d_9_cut_37 rfl ?_
      refine zr_lconst (v := (0 : Int64)) d_9_cut_38 rfl ?_
      obtain ⟨qm89, hq90, h⟩ := z_bd h
      refine zr_callVv (av := [zI (0 : Int32), zI (xm5.1 9 0 4), zI (0 : Int32), zL (0 : Int64)]) (st := []) d_9_cut_39 mw_9_token ml_9_188 im_9_token se_9_token rfl rfl (Nat.le_of_ble_eq_true rfl) fit_1_6_3 rfl rfl rfl (s9_token hq90) ?_
      obtain rfl := Option.some.inj h
      obtain ⟨rfl, rfl⟩ := hR qm89 rfl
      exact ze_v d_9_cut_42 rfl
theorem s9_cut {P : zP} {μ : zMem} {μ' : zMem} (h : f9_cut μ = some μ') : z_Sp P y_9_cut M_9_cut 3 [zA 9 0] μ none μ' := by
  refine z_Sp.of (plainFor_of_name (by decide)) rfl (l0 := [some (zA 9 0), none, none, none, none, none, none, none]) rfl (Nat.le_of_ble_eq_true rfl) ?_
  unfold f9_cut at h
  refine zr_aload_n (i := 0) d_9_cut_0 rfl rfl ?_
  refine zr_iconst (v := (0 : Int32)) d_9_cut_1 rfl ?_
  obtain ⟨m1, hm2, h⟩ := z_lt h
  refine zr_puti d_9_cut_2 fw_9_181 pw_9_10 hm2 ?_
  refine zr_iconst (v := (0 : Int32)) d_9_cut_5 rfl ?_
  refine zr_istore_n (i := 1) (l' := [some (zA 9 0), some (zI (0 : Int32)), none, none, none, none, none, none]) d_9_cut_6 rfl (by decide) rfl ?_
  rcases z_bs h with ⟨e91, hl92, h⟩ | ⟨qr93, hl92, h⟩
  · refine zr_wk (l' := [some (zA 9 0), some (zI (0 : Int32)), none, none, none, none, none, none]) ⟨rfl, ⟨rfl, trivial⟩⟩ ?_
    refine z_loop (Hd := (z_u2 fun y0 y1 => z_RQ P M_9_cut (z_rm 3) (z_mq P none μ') 0 0 7 [some (zA 9 0), some (zI y0), none, none, none, none, none, none] [] y1)) (Ex := (Sum.elim (fun z0 => z_RQ P M_9_cut (z_rm 3) (z_mq P none μ') 0 0 294 [none, none, none, none, none, none, none, none] [] z0) (fun qm => none = none ∧ μ' = qm))) (fun ⟨x4, xm5⟩ K h hI hE => s9_cut_L3  x4 xm5 K h (fun y0 y1 e => hI (y0, y1) e) (fun z0 e => hE (.inl z0) e) (fun qm e => hE (.inr qm) e)) _ _ _ hl92 ?_
    obtain rfl := Option.some.inj h
    exact ze_v d_9_cut_294 rfl
  · refine zr_wk (l' := [some (zA 9 0), some (zI (0 : Int32)), none, none, none, none, none, none]) ⟨rfl, ⟨rfl, trivial⟩⟩ ?_
    refine z_loop (Hd := (z_u2 fun y0 y1 => z_RQ P M_9_cut (z_rm 3) (z_mq P none μ') 0 0 7 [some (zA 9 0), some (zI y0), none, none, none, none, none, none] [] y1)) (Ex := (Sum.elim (fun z0 => z_RQ P M_9_cut (z_rm 3) (z_mq P none μ') 0 0 294 [none, none, none, none, none, none, none, none] [] z0) (fun qm => none = none ∧ μ' = qm))) (fun ⟨x4, xm5⟩ K h hI hE => s9_cut_L3  x4 xm5 K h (fun y0 y1 e => hI (y0, y1) e) (fun z0 e => hE (.inl z0) e) (fun qm e => hE (.inr qm) e)) _ _ _ hl92 ?_
    obtain rfl := Option.some.inj h
    exact ⟨rfl, rfl⟩
def f9_is (a1 : Int32) (μ : zMem) : Option (Int32) :=
  (if (μ.1 9 0 13) = 0 then if z_in (μ.1 9 0 11) 403 = true then (if (μ.1 105 0 (μ.1 9 0 11).toNatClampNeg) = a1 then some (1 : Int32) else some (0 : Int32)) else none else some (0 : Int32))
theorem s9_is {P : zP} {μ : zMem} {a1 : Int32} {r : Int32} (h : f9_is a1 μ = some r) : z_Sp P y_9_is M_9_is 1 [zA 9 0, zI a1] μ (some (zI r)) μ := by
  refine z_Sp.of (plainFor_of_name (by decide)) rfl (l0 := [some (zA 9 0), some (zI a1)]) rfl (Nat.le_of_ble_eq_true rfl) ?_
  unfold f9_is at h
  refine zr_aload_n (i := 0) d_9_is_0 rfl rfl ?_
  refine zr_geti d_9_is_1 fw_9_203 (by decide) ?_
  refine zr_if_ne (tgt := 24) d_9_is_4 rfl (fun hc1 => ?_) (fun hc1 => ?_)
  · replace h := z_ip h hc1
    refine zr_aload_n (i := 0) d_9_is_7 rfl rfl ?_
    refine zr_gets (i' := 0) d_9_is_8 fw_9_20 rfl ?_
    refine zr_aload_n (i := 0) d_9_is_11 rfl rfl ?_
    refine zr_geti d_9_is_12 fw_9_206 (by decide) ?_
    obtain ⟨hb2, h⟩ := z_gd h
    refine zr_iald d_9_is_15 sa_105 rfl hb2 ?_
    refine zr_iload_n (i := 1) d_9_is_16 rfl rfl ?_
    refine zr_icmp_ne (tgt := 24) d_9_is_17 rfl (fun hc3 => ?_) (fun hc3 => ?_)
    · replace h := z_ip h hc3
      refine zr_iconst (v := (1 : Int32)) d_9_is_20 rfl ?_
      refine zr_goto (tgt := 25) d_9_is_21 rfl ?_
      obtain rfl := Option.some.inj h
      exact ze_z d_9_is_25 rfl rfl
    · replace h := z_im h hc3
      refine zr_iconst (v := (0 : Int32)) d_9_is_24 rfl ?_
      obtain rfl := Option.some.inj h
      exact ze_z d_9_is_25 rfl rfl
  · replace h := z_im h hc1
    refine zr_iconst (v := (0 : Int32)) d_9_is_24 rfl ?_
    obtain rfl := Option.some.inj h
    exact ze_z d_9_is_25 rfl rfl
def f9_fail (a1 : Int32) (μ : zMem) : Option (zMem) :=
  (if 0 < (μ.1 9 0 13) then some μ else z_let (z_sI μ 9 0 13 a1) fun m2 => if z_in (m2.1 9 0 11) 403 = true then z_let (z_sI m2 9 0 14 (m2.1 106 0 (m2.1 9 0 11).toNatClampNeg)) fun m5 => some m5 else none)
theorem s9_fail {P : zP} {μ : zMem} {a1 : Int32} {μ' : zMem} (h : f9_fail a1 μ = some μ') : z_Sp P y_9_fail M_9_fail 1 [zA 9 0, zI a1] μ none μ' := by
  refine z_Sp.of (plainFor_of_name (by decide)) rfl (l0 := [some (zA 9 0), some (zI a1)]) rfl (Nat.le_of_ble_eq_true rfl) ?_
  unfold f9_fail at h
  refine zr_aload_n (i := 0) d_9_fail_0 rfl rfl ?_
  refine zr_geti d_9_fail_1 fw_9_203 (by decide) ?_
  refine zr_if_le (tgt := 8) d_9_fail_4 rfl (fun hc1 => ?_) (fun hc1 => ?_)
  · replace h := z_ip h hc1
    obtain rfl := Option.some.inj h
    exact ze_v d_9_fail_7 rfl
  · replace h := z_im h hc1
    refine zr_aload_n (i := 0) d_9_fail_8 rfl rfl ?_
    refine zr_iload_n (i := 1) d_9_fail_9 rfl rfl ?_
    obtain ⟨m2, hm3, h⟩ := z_lt h
    refine zr_puti d_9_fail_10 fw_9_203 pw_9_13 hm3 ?_
    refine zr_aload_n (i := 0) d_9_fail_13 rfl rfl ?_
    refine zr_aload_n (i := 0) d_9_fail_14 rfl rfl ?_
    refine zr_gets (i' := 0) d_9_fail_15 fw_9_24 rfl ?_
    refine zr_aload_n (i := 0) d_9_fail_18 rfl rfl ?_
    refine zr_geti d_9_fail_19 fw_9_206 (by decide) ?_
    obtain ⟨hb4, h⟩ := z_gd h
    refine zr_iald d_9_fail_22 sa_106 rfl hb4 ?_
    obtain ⟨m5, hm6, h⟩ := z_lt h
    refine zr_puti d_9_fail_23 fw_9_209 pw_9_14 hm6 ?_
    obtain rfl := Option.some.inj h
    exact ze_v d_9_fail_26 rfl
def f9_wrong (a1 : Int32) (a2 : Int32) (μ : zMem) : Option (zMem) :=
  if z_in a2 403 = true then z_let (μ.1 106 0 a2.toNatClampNeg) fun v2 => (if 0 < (μ.1 9 0 13) then some μ else (if (μ.1 9 0 15) = 0 then z_let (z_sI μ 9 0 15 a1) fun m6 => z_let (z_sI m6 9 0 16 v2) fun m8 => some m8 else (if (μ.1 9 0 16) < v2 then some μ else (if v2 = (μ.1 9 0 16) then (if a1 < (μ.1 9 0 15) then z_let (z_sI μ 9 0 15 a1) fun m13 => z_let (z_sI m13 9 0 16 v2) fun m15 => some m15 else some μ) else z_let (z_sI μ 9 0 15 a1) fun m17 => z_let (z_sI m17 9 0 16 v2) fun m19 => some m19)))) else none
theorem s9_wrong {P : zP} {μ : zMem} {a1 : Int32} {a2 : Int32} {μ' : zMem} (h : f9_wrong a1 a2 μ = some μ') : z_Sp P y_9_wrong M_9_wrong 1 [zA 9 0, zI a1, zI a2] μ none μ' := by
  refine z_Sp.of (plainFor_of_name (by decide)) rfl (l0 := [some (zA 9 0), some (zI a1), some (zI a2), none]) rfl (Nat.le_of_ble_eq_true rfl) ?_
  unfold f9_wrong at h
  refine zr_aload_n (i := 0) d_9_wrong_0 rfl rfl ?_
  refine zr_gets (i' := 0) d_9_wrong_1 fw_9_24 rfl ?_
  refine zr_iload_n (i := 2) d_9_wrong_4 rfl rfl ?_
  obtain ⟨hb1, h⟩ := z_gd h
  refine zr_iald d_9_wrong_5 sa_106 rfl hb1 ?_
  obtain ⟨v2, hv3, h⟩ := z_lt h
  refine zr_nm hv3 ?_
  refine zr_istore_n (i := 3) (l' := [some (zA 9 0), some (zI a1), some (zI a2), some (zI v2)]) d_9_wrong_6 rfl (by decide) rfl ?_
  refine zr_aload_n (i := 0) d_9_wrong_7 rfl rfl ?_
  refine zr_geti d_9_wrong_8 fw_9_203 (by decide) ?_
  refine zr_if_gt (tgt := 45) d_9_wrong_11 rfl (fun hc4 => ?_) (fun hc4 => ?_)
  · replace h := z_ip h hc4
    obtain rfl := Option.some.inj h
    exact ze_v d_9_wrong_45 rfl
  · replace h := z_im h hc4
    refine zr_aload_n (i := 0) d_9_wrong_14 rfl rfl ?_
    refine zr_geti d_9_wrong_15 fw_9_212 (by decide) ?_
    refine zr_if_eq (tgt := 46) d_9_wrong_18 rfl (fun hc5 => ?_) (fun hc5 => ?_)
    · replace h := z_ip h hc5
      refine zr_aload_n (i := 0) d_9_wrong_46 rfl rfl ?_
      refine zr_iload_n (i := 1) d_9_wrong_47 rfl rfl ?_
      obtain ⟨m6, hm7, h⟩ := z_lt h
      refine zr_puti d_9_wrong_48 fw_9_212 pw_9_15 hm7 ?_
      refine zr_aload_n (i := 0) d_9_wrong_51 rfl rfl ?_
      refine zr_iload_n (i := 3) d_9_wrong_52 rfl rfl ?_
      obtain ⟨m8, hm9, h⟩ := z_lt h
      refine zr_puti d_9_wrong_53 fw_9_215 pw_9_16 hm9 ?_
      obtain rfl := Option.some.inj h
      exact ze_v d_9_wrong_56 rfl
    · replace h := z_im h hc5
      refine zr_iload_n (i := 3) d_9_wrong_21 rfl rfl ?_
      refine zr_aload_n (i := 0) d_9_wrong_22 rfl rfl ?_
      refine zr_geti d_9_wrong_23 fw_9_215 (by decide) ?_
      refine zr_icmp_gt (tgt := 45) d_9_wrong_26 rfl (fun hc10 => ?_) (fun hc10 => ?_)
      · replace h := z_ip h hc10
        obtain rfl := Option.some.inj h
        exact ze_v d_9_wrong_45 rfl
      · replace h := z_im h hc10
        refine zr_iload_n (i := 3) d_9_wrong_29 rfl rfl ?_
        refine zr_aload_n (i := 0) d_9_wrong_30 rfl rfl ?_
        refine zr_geti d_9_wrong_31 fw_9_215 (by decide) ?_
        refine zr_icmp_ne (tgt := 46) d_9_wrong_34 rfl (fun hc11 => ?_) (fun hc11 => ?_)
        · replace h := z_ip h hc11
          refine zr_iload_n (i := 1) d_9_wrong_37 rfl rfl ?_
          refine zr_aload_n (i := 0) d_9_wrong_38 rfl rfl ?_
          refine zr_geti d_9_wrong_39 fw_9_212 (by decide) ?_
          refine zr_icmp_lt (tgt := 46) d_9_wrong_42 rfl (fun hc12 => ?_) (fun hc12 => ?_)
          · replace h := z_ip h hc12
            refine zr_aload_n (i := 0) d_9_wrong_46 rfl rfl ?_
            refine zr_iload_n (i := 1) d_9_wrong_47 rfl rfl ?_
            obtain ⟨m13, hm14, h⟩ := z_lt h
            refine zr_puti d_9_wrong_48 fw_9_212 pw_9_15 hm14 ?_
            refine zr_aload_n (i := 0) d_9_wrong_51 rfl rfl ?_
            refine zr_iload_n (i := 3) d_9_wrong_52 rfl rfl ?_
            obtain ⟨m15, hm16, h⟩ := z_lt h
            refine zr_puti d_9_wrong_53 fw_9_215 pw_9_16 hm16 ?_
            obtain rfl := Option.some.inj h
            exact ze_v d_9_wrong_56 rfl
          · replace h := z_im h hc12
            obtain rfl := Option.some.inj h
            exact ze_v d_9_wrong_45 rfl
        · replace h := z_im h hc11
          refine zr_aload_n (i := 0) d_9_wrong_46 rfl rfl ?_
          refine zr_iload_n (i := 1) d_9_wrong_47 rfl rfl ?_
          obtain ⟨m17, hm18, h⟩ := z_lt h
          refine zr_puti d_9_wrong_48 fw_9_212 pw_9_15 hm18 ?_
          refine zr_aload_n (i := 0) d_9_wrong_51 rfl rfl ?_
          refine zr_iload_n (i := 3) d_9_wrong_52 rfl rfl ?_
          obtain ⟨m19, hm20, h⟩ := z_lt h
          refine zr_puti d_9_wrong_53 fw_9_215 pw_9_16 hm20 ?_
          obtain rfl := Option.some.inj h
          exact ze_v d_9_wrong_56 rfl
def f9_goesOn  (μ : zMem) : Option (zMem) :=
  (if (μ.1 9 0 11) = (400 : Int32) then (f9_fail (2 : Int32) μ).bind (fun qm2 => some qm2) else z_let (z_sI μ 9 0 11 ((μ.1 9 0 11) + (1 : Int32))) fun m4 => some m4)
theorem s9_goesOn {P : zP} {μ : zMem} {μ' : zMem} (h : f9_goesOn μ = some μ') : z_Sp P y_9_goesOn M_9_goesOn 2 [zA 9 0] μ none μ' := by
  refine z_Sp.of (plainFor_of_name (by decide)) rfl (l0 := [some (zA 9 0)]) rfl (Nat.le_of_ble_eq_true rfl) ?_
  unfold f9_goesOn at h
  refine zr_aload_n (i := 0) d_9_goesOn_0 rfl rfl ?_
  refine zr_geti d_9_goesOn_1 fw_9_206 (by decide) ?_
  refine zr_sipush (v := (400 : Int32)) d_9_goesOn_4 rfl ?_
  refine zr_icmp_ne (tgt := 18) d_9_goesOn_7 rfl (fun hc1 => ?_) (fun hc1 => ?_)
  · replace h := z_ip h hc1
    refine zr_aload_n (i := 0) d_9_goesOn_10 rfl rfl ?_
    refine zr_iconst (v := (2 : Int32)) d_9_goesOn_11 rfl ?_
    obtain ⟨qm2, hq3, h⟩ := z_bd h
    refine zr_callVv (av := [zI (2 : Int32)]) (st := []) d_9_goesOn_12 mw_9_fail ml_9_218 im_9_fail se_9_fail rfl rfl (Nat.le_of_ble_eq_true rfl) fit_1_2_2 rfl rfl rfl (s9_fail hq3) ?_
    refine zr_goto (tgt := 28) d_9_goesOn_15 rfl ?_
    obtain rfl := Option.some.inj h
    exact ze_v d_9_goesOn_28 rfl
  · replace h := z_im h hc1
    refine zr_aload_n (i := 0) d_9_goesOn_18 rfl rfl ?_
    refine zr_dupa d_9_goesOn_19 ?_
    refine zr_geti d_9_goesOn_20 fw_9_206 (by decide) ?_
    refine zr_iconst (v := (1 : Int32)) d_9_goesOn_23 rfl ?_
    refine zr_iadd d_9_goesOn_24 ?_
    obtain ⟨m4, hm5, h⟩ := z_lt h
    refine zr_puti d_9_goesOn_25 fw_9_206 pw_9_11 hm5 ?_
    obtain rfl := Option.some.inj h
    exact ze_v d_9_goesOn_28 rfl
def f9_must (a1 : Int32) (μ : zMem) : Option (zMem) :=
  (f9_is a1 μ).bind (fun q1 => (if q1 = 0 then (f9_fail (1 : Int32) μ).bind (fun qm4 => some qm4) else (f9_goesOn μ).bind (fun qm6 => some qm6)))
theorem s9_must {P : zP} {μ : zMem} {a1 : Int32} {μ' : zMem} (h : f9_must a1 μ = some μ') : z_Sp P y_9_must M_9_must 3 [zA 9 0, zI a1] μ none μ' := by
  refine z_Sp.of (plainFor_of_name (by decide)) rfl (l0 := [some (zA 9 0), some (zI a1)]) rfl (Nat.le_of_ble_eq_true rfl) ?_
  unfold f9_must at h
  refine zr_aload_n (i := 0) d_9_must_0 rfl rfl ?_
  refine zr_iload_n (i := 1) d_9_must_1 rfl rfl ?_
  obtain ⟨q1, hq2, h⟩ := z_bd h
  refine zr_callVi (av := [zI a1]) (st := []) d_9_must_2 mw_9_is ml_9_221 im_9_is se_9_is rfl rfl (Nat.le_of_ble_eq_true rfl) fit_1_2_3 rfl rfl rfl (s9_is hq2) ?_
  refine zr_if_eq (tgt := 15) d_9_must_5 rfl (fun hc3 => ?_) (fun hc3 => ?_)
  · replace h := z_ip h hc3
    refine zr_aload_n (i := 0) d_9_must_15 rfl rfl ?_
    refine zr_iconst (v := (1 : Int32)) d_9_must_16 rfl ?_
    obtain ⟨qm4, hq5, h⟩ := z_bd h
    refine zr_callVv (av := [zI (1 : Int32)]) (st := []) d_9_must_17 mw_9_fail ml_9_218 im_9_fail se_9_fail rfl rfl (Nat.le_of_ble_eq_true rfl) fit_1_2_3 rfl rfl rfl (s9_fail hq5) ?_
    obtain rfl := Option.some.inj h
    exact ze_v d_9_must_20 rfl
  · replace h := z_im h hc3
    refine zr_aload_n (i := 0) d_9_must_8 rfl rfl ?_
    obtain ⟨qm6, hq7, h⟩ := z_bd h
    refine zr_callVv (av := []) (st := []) d_9_must_9 mw_9_goesOn ml_9_224 im_9_goesOn se_9_goesOn rfl rfl (Nat.le_of_ble_eq_true rfl) fit_2_1_3 rfl rfl rfl (s9_goesOn hq7) ?_
    refine zr_goto (tgt := 20) d_9_must_12 rfl ?_
    obtain rfl := Option.some.inj h
    exact ze_v d_9_must_20 rfl
def f9_roomFor (a1 : Int32) (a2 : Int32) (μ : zMem) : Option (zMem) :=
  ((if a1 = a2 then (f9_fail (2 : Int32) μ).bind (fun qm4 => some qm4) else some μ) : Option (zMem)).bind (fun jm6 => (if (jm6.1 9 0 13) = 0 then (f9_goesOn jm6).bind (fun qm8 => some qm8) else some jm6))
theorem s9_roomFor {P : zP} {μ : zMem} {a1 : Int32} {a2 : Int32} {μ' : zMem} (h : f9_roomFor a1 a2 μ = some μ') : z_Sp P y_9_roomFor M_9_roomFor 3 [zA 9 0, zI a1, zI a2] μ none μ' := by
  refine z_Sp.of (plainFor_of_name (by decide)) rfl (l0 := [some (zA 9 0), some (zI a1), some (zI a2)]) rfl (Nat.le_of_ble_eq_true rfl) ?_
  unfold f9_roomFor at h
  refine zr_iload_n (i := 1) d_9_roomFor_0 rfl rfl ?_
  refine zr_iload_n (i := 2) d_9_roomFor_1 rfl rfl ?_
  obtain ⟨jm6, hT1, h⟩ := z_bd h
  have hJ2 : z_RQ P M_9_roomFor (z_rm 3) (z_mq P none μ') 0 0 10 [some (zA 9 0), none, none] [] jm6 := by
    refine zr_aload_n (i := 0) d_9_roomFor_10 rfl rfl ?_
    refine zr_geti d_9_roomFor_11 fw_9_203 (by decide) ?_
    refine zr_if_ne (tgt := 21) d_9_roomFor_14 rfl (fun hc7 => ?_) (fun hc7 => ?_)
    · replace h := z_ip h hc7
      refine zr_aload_n (i := 0) d_9_roomFor_17 rfl rfl ?_
      obtain ⟨qm8, hq9, h⟩ := z_bd h
      refine zr_callVv (av := []) (st := []) d_9_roomFor_18 mw_9_goesOn ml_9_224 im_9_goesOn se_9_goesOn rfl rfl (Nat.le_of_ble_eq_true rfl) fit_2_1_3 rfl rfl rfl (s9_goesOn hq9) ?_
      obtain rfl := Option.some.inj h
      exact ze_v d_9_roomFor_21 rfl
    · replace h := z_im h hc7
      obtain rfl := Option.some.inj h
      exact ze_v d_9_roomFor_21 rfl
  refine zr_icmp_ne (tgt := 10) d_9_roomFor_2 rfl (fun hc3 => ?_) (fun hc3 => ?_)
  · replace hT1 := z_ip hT1 hc3
    refine zr_aload_n (i := 0) d_9_roomFor_5 rfl rfl ?_
    refine zr_iconst (v := (2 : Int32)) d_9_roomFor_6 rfl ?_
    obtain ⟨qm4, hq5, hT1⟩ := z_bd hT1
    refine zr_callVv (av := [zI (2 : Int32)]) (st := []) d_9_roomFor_7 mw_9_fail ml_9_218 im_9_fail se_9_fail rfl rfl (Nat.le_of_ble_eq_true rfl) fit_1_2_3 rfl rfl rfl (s9_fail hq5) ?_
    obtain rfl := Option.some.inj hT1
    exact zr_wk2 hJ2 ⟨rfl, trivial⟩
  · replace hT1 := z_im hT1 hc3
    obtain rfl := Option.some.inj hT1
    exact zr_wk2 hJ2 ⟨rfl, trivial⟩
def f9_named_L3 (μ : zMem) : (Int32 × zMem) → Option ((Int32 × zMem) ⊕ (zMem)) := (z_u2 fun x4 xm5 => 
  (if x4 < (xm5.1 9 0 20) then (if (xm5.1 9 0 13) = 0 then if z_in x4 12 = true then if z_in (μ.1 9 0 11) 403 = true then ((if (lg_cmp (xm5.2.1 121 0 x4.toNatClampNeg) (xm5.2.1 108 0 (μ.1 9 0 11).toNatClampNeg)) = 0 then (f9_wrong (3 : Int32) (μ.1 9 0 11) xm5).bind (fun qm13 => some qm13) else some xm5) : Option (zMem)).bind (fun jm15 => some (.inl ((x4 + (1 : Int32)), jm15))) else none else none else some (.inr xm5)) else some (.inr xm5)))
def f9_named  (μ : zMem) : Option (Int32 × zMem) :=
  (f9_must (1 : Int32) μ).bind (fun qm1 => (z_it (f9_named_L3 μ) z_fu ((0 : Int32), qm1)).bind (fun e16 => some ((μ.1 9 0 11), e16)))
theorem s9_named_L3 {P : zP} {ro : Option zV} {μo : zMem} (μ : zMem) (x4 : Int32) (xm5 : zMem) (K : (Int32 × zMem) ⊕ (zMem)) (h : f9_named_L3 μ (x4, xm5) = some K) (hI : ∀ (y0 : Int32) (y1 : zMem), K = .inl (y0, y1) → z_RQ P M_9_named (z_rm 4) (z_mq P ro μo) 0 0 12 [some (zA 9 0), some (zI (μ.1 9 0 11)), some (zI y0)] [] y1) (hE : ∀ (z0 : zMem), K = .inr z0 → z_RQ P M_9_named (z_rm 4) (z_mq P ro μo) 0 0 55 [none, some (zI (μ.1 9 0 11)), none] [] z0)  : z_RQ P M_9_named (z_rm 4) (z_mq P ro μo) 0 0 12 [some (zA 9 0), some (zI (μ.1 9 0 11)), some (zI x4)] [] xm5 := by
  unfold f9_named_L3 at h
  replace h := z_h2 h
  refine zr_iload_n (i := 2) d_9_named_12 rfl rfl ?_
  refine zr_aload_n (i := 0) d_9_named_13 rfl rfl ?_
  refine zr_geti d_9_named_14 fw_9_239 (by decide) ?_
  refine zr_icmp_ge (tgt := 55) d_9_named_17 rfl (fun hc6 => ?_) (fun hc6 => ?_)
  · replace h := z_ip h hc6
    refine zr_aload_n (i := 0) d_9_named_20 rfl rfl ?_
    refine zr_geti d_9_named_21 fw_9_203 (by decide) ?_
    refine zr_if_ne (tgt := 55) d_9_named_24 rfl (fun hc7 => ?_) (fun hc7 => ?_)
    · replace h := z_ip h hc7
      refine zr_aload_n (i := 0) d_9_named_27 rfl rfl ?_
      refine zr_gets (i' := 0) d_9_named_28 fw_9_40 rfl ?_
      refine zr_iload_n (i := 2) d_9_named_31 rfl rfl ?_
      obtain ⟨hb8, h⟩ := z_gd h
      refine zr_lald d_9_named_32 sa_121 rfl hb8 ?_
      refine zr_aload_n (i := 0) d_9_named_33 rfl rfl ?_
      refine zr_gets (i' := 0) d_9_named_34 fw_9_30 rfl ?_
      refine zr_iload_n (i := 1) d_9_named_37 rfl rfl ?_
      obtain ⟨hb9, h⟩ := z_gd h
      refine zr_lald d_9_named_38 sa_108 rfl hb9 ?_
      refine zr_lcmp d_9_named_39 ?_
      obtain ⟨jm15, hT10, h⟩ := z_bd h
      have hJ11 : z_RQ P M_9_named (z_rm 4) (z_mq P ro μo) 0 0 49 [some (zA 9 0), some (zI (μ.1 9 0 11)), some (zI x4)] [] jm15 := by
        refine zr_iinc (v := (x4 + (1 : Int32))) (l' := [some (zA 9 0), some (zI (μ.1 9 0 11)), some (zI (x4 + (1 : Int32)))]) d_9_named_49 (by decide) rfl rfl rfl ?_
        refine zr_goto (tgt := 12) d_9_named_52 rfl ?_
        obtain rfl := Option.some.inj h
        exact zr_wk2 (hI (x4 + (1 : Int32)) jm15 rfl) ⟨rfl, ⟨rfl, ⟨rfl, trivial⟩⟩⟩
      refine zr_if_ne (tgt := 49) d_9_named_40 rfl (fun hc12 => ?_) (fun hc12 => ?_)
      · replace hT10 := z_ip hT10 hc12
        refine zr_aload_n (i := 0) d_9_named_43 rfl rfl ?_
        refine zr_iconst (v := (3 : Int32)) d_9_named_44 rfl ?_
        refine zr_iload_n (i := 1) d_9_named_45 rfl rfl ?_
        obtain ⟨qm13, hq14, hT10⟩ := z_bd hT10
        refine zr_callVv (av := [zI (3 : Int32), zI (μ.1 9 0 11)]) (st := []) d_9_named_46 mw_9_wrong ml_9_283 im_9_wrong se_9_wrong rfl rfl (Nat.le_of_ble_eq_true rfl) fit_1_4_4 rfl rfl rfl (s9_wrong hq14) ?_
        obtain rfl := Option.some.inj hT10
        exact zr_wk2 hJ11 ⟨rfl, ⟨rfl, ⟨rfl, trivial⟩⟩⟩
      · replace hT10 := z_im hT10 hc12
        obtain rfl := Option.some.inj hT10
        exact zr_wk2 hJ11 ⟨rfl, ⟨rfl, ⟨rfl, trivial⟩⟩⟩
    · replace h := z_im h hc7
      obtain rfl := Option.some.inj h
      exact zr_wk2 (hE xm5 rfl) ⟨rfl, trivial⟩
  · replace h := z_im h hc6
    obtain rfl := Option.some.inj h
    exact zr_wk2 (hE xm5 rfl) ⟨rfl, trivial⟩
theorem s9_named {P : zP} {μ : zMem} {r : Int32} {μ' : zMem} (h : f9_named μ = some (r, μ')) : z_Sp P y_9_named M_9_named 4 [zA 9 0] μ (some (zI r)) μ' := by
  refine z_Sp.of (plainFor_of_name (by decide)) rfl (l0 := [some (zA 9 0), none, none]) rfl (Nat.le_of_ble_eq_true rfl) ?_
  unfold f9_named at h
  refine zr_aload_n (i := 0) d_9_named_0 rfl rfl ?_
  refine zr_geti d_9_named_1 fw_9_206 (by decide) ?_
  refine zr_istore_n (i := 1) (l' := [some (zA 9 0), some (zI (μ.1 9 0 11)), none]) d_9_named_4 rfl (by decide) rfl ?_
  refine zr_aload_n (i := 0) d_9_named_5 rfl rfl ?_
  refine zr_iconst (v := (1 : Int32)) d_9_named_6 rfl ?_
  obtain ⟨qm1, hq2, h⟩ := z_bd h
  refine zr_callVv (av := [zI (1 : Int32)]) (st := []) d_9_named_7 mw_9_must ml_9_277 im_9_must se_9_must rfl rfl (Nat.le_of_ble_eq_true rfl) fit_3_2_4 rfl rfl rfl (s9_must hq2) ?_
  refine zr_iconst (v := (0 : Int32)) d_9_named_10 rfl ?_
  refine zr_istore_n (i := 2) (l' := [some (zA 9 0), some (zI (μ.1 9 0 11)), some (zI (0 : Int32))]) d_9_named_11 rfl (by decide) rfl ?_
  obtain ⟨e16, hl17, h⟩ := z_bd h
  refine zr_wk (l' := [some (zA 9 0), some (zI (μ.1 9 0 11)), some (zI (0 : Int32))]) ⟨rfl, ⟨rfl, ⟨rfl, trivial⟩⟩⟩ ?_
  refine z_loop (Hd := (z_u2 fun y0 y1 => z_RQ P M_9_named (z_rm 4) (z_mq P (some (zI r)) μ') 0 0 12 [some (zA 9 0), some (zI (μ.1 9 0 11)), some (zI y0)] [] y1)) (Ex := (fun z0 => z_RQ P M_9_named (z_rm 4) (z_mq P (some (zI r)) μ') 0 0 55 [none, some (zI (μ.1 9 0 11)), none] [] z0)) (fun ⟨x4, xm5⟩ K h hI hE => s9_named_L3 μ x4 xm5 K h (fun y0 y1 e => hI (y0, y1) e) (fun z0 e => hE z0 e) ) _ _ _ hl17 ?_
  refine zr_iload_n (i := 1) d_9_named_55 rfl rfl ?_
  obtain ⟨rfl, rfl⟩ := Prod.mk.inj (Option.some.inj h)
  exact ze_i d_9_named_56 rfl
def f9_bounded (a1 : Int32) (μ : zMem) : Option (Int32 × zMem) :=
  (if 0 < (μ.1 9 0 13) then (f9_fail (1 : Int32) μ).bind (fun qm2 => some ((0 : Int32), qm2)) else (f9_is (2 : Int32) μ).bind (fun q4 => (if q4 = 0 then (f9_fail (1 : Int32) μ).bind (fun qm7 => some ((0 : Int32), qm7)) else if z_in (μ.1 9 0 11) 403 = true then z_let (μ.1 107 0 (μ.1 9 0 11).toNatClampNeg) fun v10 => ((if a1 < v10 then (f9_wrong (5 : Int32) (μ.1 9 0 11) μ).bind (fun qm15 => some qm15) else some μ) : Option (zMem)).bind (fun jm17 => (f9_goesOn jm17).bind (fun qm18 => some (v10, qm18))) else none)))
theorem s9_bounded {P : zP} {μ : zMem} {a1 : Int32} {r : Int32} {μ' : zMem} (h : f9_bounded a1 μ = some (r, μ')) : z_Sp P y_9_bounded M_9_bounded 3 [zA 9 0, zI a1] μ (some (zI r)) μ' := by
  refine z_Sp.of (plainFor_of_name (by decide)) rfl (l0 := [some (zA 9 0), some (zI a1), none]) rfl (Nat.le_of_ble_eq_true rfl) ?_
  unfold f9_bounded at h
  refine zr_aload_n (i := 0) d_9_bounded_0 rfl rfl ?_
  refine zr_geti d_9_bounded_1 fw_9_203 (by decide) ?_
  refine zr_if_gt (tgt := 15) d_9_bounded_4 rfl (fun hc1 => ?_) (fun hc1 => ?_)
  · replace h := z_ip h hc1
    refine zr_aload_n (i := 0) d_9_bounded_15 rfl rfl ?_
    refine zr_iconst (v := (1 : Int32)) d_9_bounded_16 rfl ?_
    obtain ⟨qm2, hq3, h⟩ := z_bd h
    refine zr_callVv (av := [zI (1 : Int32)]) (st := []) d_9_bounded_17 mw_9_fail ml_9_218 im_9_fail se_9_fail rfl rfl (Nat.le_of_ble_eq_true rfl) fit_1_2_3 rfl rfl rfl (s9_fail hq3) ?_
    refine zr_iconst (v := (0 : Int32)) d_9_bounded_20 rfl ?_
    obtain ⟨rfl, rfl⟩ := Prod.mk.inj (Option.some.inj h)
    exact ze_i d_9_bounded_21 rfl
  · replace h := z_im h hc1
    refine zr_aload_n (i := 0) d_9_bounded_7 rfl rfl ?_
    refine zr_iconst (v := (2 : Int32)) d_9_bounded_8 rfl ?_
    obtain ⟨q4, hq5, h⟩ := z_bd h
    refine zr_callVi (av := [zI (2 : Int32)]) (st := []) d_9_bounded_9 mw_9_is ml_9_221 im_9_is se_9_is rfl rfl (Nat.le_of_ble_eq_true rfl) fit_1_2_3 rfl rfl rfl (s9_is hq5) ?_
    refine zr_if_ne (tgt := 22) d_9_bounded_12 rfl (fun hc6 => ?_) (fun hc6 => ?_)
    · replace h := z_ip h hc6
      refine zr_aload_n (i := 0) d_9_bounded_15 rfl rfl ?_
      refine zr_iconst (v := (1 : Int32)) d_9_bounded_16 rfl ?_
      obtain ⟨qm7, hq8, h⟩ := z_bd h
      refine zr_callVv (av := [zI (1 : Int32)]) (st := []) d_9_bounded_17 mw_9_fail ml_9_218 im_9_fail se_9_fail rfl rfl (Nat.le_of_ble_eq_true rfl) fit_1_2_3 rfl rfl rfl (s9_fail hq8) ?_
      refine zr_iconst (v := (0 : Int32)) d_9_bounded_20 rfl ?_
      obtain ⟨rfl, rfl⟩ := Prod.mk.inj (Option.some.inj h)
      exact ze_i d_9_bounded_21 rfl
    · replace h := z_im h hc6
      refine zr_aload_n (i := 0) d_9_bounded_22 rfl rfl ?_
      refine zr_gets (i' := 0) d_9_bounded_23 fw_9_27 rfl ?_
      refine zr_aload_n (i := 0) d_9_bounded_26 rfl rfl ?_
      refine zr_geti d_9_bounded_27 fw_9_206 (by decide) ?_
      obtain ⟨hb9, h⟩ := z_gd h
      refine zr_iald d_9_bounded_30 sa_107 rfl hb9 ?_
      obtain ⟨v10, hv11, h⟩ := z_lt h
      refine zr_nm hv11 ?_
      refine zr_istore_n (i := 2) (l' := [some (zA 9 0), some (zI a1), some (zI v10)]) d_9_bounded_31 rfl (by decide) rfl ?_
      refine zr_iload_n (i := 2) d_9_bounded_32 rfl rfl ?_
      refine zr_iload_n (i := 1) d_9_bounded_33 rfl rfl ?_
      obtain ⟨jm17, hT12, h⟩ := z_bd h
      have hJ13 : z_RQ P M_9_bounded (z_rm 3) (z_mq P (some (zI r)) μ') 0 0 46 [some (zA 9 0), none, some (zI v10)] [] jm17 := by
        refine zr_aload_n (i := 0) d_9_bounded_46 rfl rfl ?_
        obtain ⟨qm18, hq19, h⟩ := z_bd h
        refine zr_callVv (av := []) (st := []) d_9_bounded_47 mw_9_goesOn ml_9_224 im_9_goesOn se_9_goesOn rfl rfl (Nat.le_of_ble_eq_true rfl) fit_2_1_3 rfl rfl rfl (s9_goesOn hq19) ?_
        refine zr_iload_n (i := 2) d_9_bounded_50 rfl rfl ?_
        obtain ⟨rfl, rfl⟩ := Prod.mk.inj (Option.some.inj h)
        exact ze_i d_9_bounded_51 rfl
      refine zr_icmp_le (tgt := 46) d_9_bounded_34 rfl (fun hc14 => ?_) (fun hc14 => ?_)
      · replace hT12 := z_ip hT12 hc14
        refine zr_aload_n (i := 0) d_9_bounded_37 rfl rfl ?_
        refine zr_iconst (v := (5 : Int32)) d_9_bounded_38 rfl ?_
        refine zr_aload_n (i := 0) d_9_bounded_39 rfl rfl ?_
        refine zr_geti d_9_bounded_40 fw_9_206 (by decide) ?_
        obtain ⟨qm15, hq16, hT12⟩ := z_bd hT12
        refine zr_callVv (av := [zI (5 : Int32), zI (μ.1 9 0 11)]) (st := []) d_9_bounded_43 mw_9_wrong ml_9_283 im_9_wrong se_9_wrong rfl rfl (Nat.le_of_ble_eq_true rfl) fit_1_4_3 rfl rfl rfl (s9_wrong hq16) ?_
        obtain rfl := Option.some.inj hT12
        exact zr_wk2 hJ13 ⟨rfl, ⟨rfl, trivial⟩⟩
      · replace hT12 := z_im hT12 hc14
        obtain rfl := Option.some.inj hT12
        exact zr_wk2 hJ13 ⟨rfl, ⟨rfl, trivial⟩⟩
def f9_endsName (a1 : Int32) (a2 : Int32) (μ : zMem) : Option (zMem) :=
  (f9_must (4 : Int32) μ).bind (fun qm1 => (if 0 < (qm1.1 9 0 13) then some qm1 else if z_in a1 403 = true then if z_in (qm1.1 9 0 20) 12 = true then z_let (z_sL qm1 121 0 (qm1.1 9 0 20).toNatClampNeg (qm1.2.1 108 0 a1.toNatClampNeg)) fun m5 => if z_in (m5.1 9 0 20) 12 = true then z_let (z_sI m5 122 0 (m5.1 9 0 20).toNatClampNeg a2) fun m8 => z_let (z_sI m8 9 0 20 ((m8.1 9 0 20) + (1 : Int32))) fun m11 => some m11 else none else none else none))
theorem s9_endsName {P : zP} {μ : zMem} {a1 : Int32} {a2 : Int32} {μ' : zMem} (h : f9_endsName a1 a2 μ = some μ') : z_Sp P y_9_endsName M_9_endsName 4 [zA 9 0, zI a1, zI a2] μ none μ' := by
  refine z_Sp.of (plainFor_of_name (by decide)) rfl (l0 := [some (zA 9 0), some (zI a1), some (zI a2)]) rfl (Nat.le_of_ble_eq_true rfl) ?_
  unfold f9_endsName at h
  refine zr_aload_n (i := 0) d_9_endsName_0 rfl rfl ?_
  refine zr_iconst (v := (4 : Int32)) d_9_endsName_1 rfl ?_
  obtain ⟨qm1, hq2, h⟩ := z_bd h
  refine zr_callVv (av := [zI (4 : Int32)]) (st := []) d_9_endsName_2 mw_9_must ml_9_277 im_9_must se_9_must rfl rfl (Nat.le_of_ble_eq_true rfl) fit_3_2_4 rfl rfl rfl (s9_must hq2) ?_
  refine zr_aload_n (i := 0) d_9_endsName_5 rfl rfl ?_
  refine zr_geti d_9_endsName_6 fw_9_203 (by decide) ?_
  refine zr_if_le (tgt := 13) d_9_endsName_9 rfl (fun hc3 => ?_) (fun hc3 => ?_)
  · replace h := z_ip h hc3
    obtain rfl := Option.some.inj h
    exact ze_v d_9_endsName_12 rfl
  · replace h := z_im h hc3
    refine zr_aload_n (i := 0) d_9_endsName_13 rfl rfl ?_
    refine zr_gets (i' := 0) d_9_endsName_14 fw_9_40 rfl ?_
    refine zr_aload_n (i := 0) d_9_endsName_17 rfl rfl ?_
    refine zr_geti d_9_endsName_18 fw_9_239 (by decide) ?_
    refine zr_aload_n (i := 0) d_9_endsName_21 rfl rfl ?_
    refine zr_gets (i' := 0) d_9_endsName_22 fw_9_30 rfl ?_
    refine zr_iload_n (i := 1) d_9_endsName_25 rfl rfl ?_
    obtain ⟨hb4, h⟩ := z_gd h
    refine zr_lald d_9_endsName_26 sa_108 rfl hb4 ?_
    obtain ⟨hb7, h⟩ := z_gd h
    obtain ⟨m5, hm6, h⟩ := z_lt h
    refine zr_last d_9_endsName_27 sa_121 rfl hb7 hm6 ?_
    refine zr_aload_n (i := 0) d_9_endsName_28 rfl rfl ?_
    refine zr_gets (i' := 0) d_9_endsName_29 fw_9_43 rfl ?_
    refine zr_aload_n (i := 0) d_9_endsName_32 rfl rfl ?_
    refine zr_geti d_9_endsName_33 fw_9_239 (by decide) ?_
    refine zr_iload_n (i := 2) d_9_endsName_36 rfl rfl ?_
    obtain ⟨hb10, h⟩ := z_gd h
    obtain ⟨m8, hm9, h⟩ := z_lt h
    refine zr_iast d_9_endsName_37 sa_122 rfl hb10 hm9 ?_
    refine zr_aload_n (i := 0) d_9_endsName_38 rfl rfl ?_
    refine zr_dupa d_9_endsName_39 ?_
    refine zr_geti d_9_endsName_40 fw_9_239 (by decide) ?_
    refine zr_iconst (v := (1 : Int32)) d_9_endsName_43 rfl ?_
    refine zr_iadd d_9_endsName_44 ?_
    obtain ⟨m11, hm12, h⟩ := z_lt h
    refine zr_puti d_9_endsName_45 fw_9_239 pw_9_20 hm12 ?_
    obtain rfl := Option.some.inj h
    exact ze_v d_9_endsName_48 rfl
def f9_known_L4 (a1 : Int32) (μ : zMem) (qm1 : zMem) : (Int32) → Option ((Int32) ⊕ ((Unit) ⊕ (Int32 × zMem))) := (fun x5 => 
  (if x5 < (qm1.1 9 0 20) then if z_in x5 12 = true then if z_in (μ.1 9 0 11) 403 = true then (if (lg_cmp (qm1.2.1 121 0 x5.toNatClampNeg) (qm1.2.1 108 0 (μ.1 9 0 11).toNatClampNeg)) = 0 then (if (qm1.1 122 0 x5.toNatClampNeg) < a1 then some (.inl (x5 + (1 : Int32))) else (if (qm1.1 122 0 x5.toNatClampNeg) < (a1 + (10 : Int32)) then some (.inr (.inr (((qm1.1 122 0 x5.toNatClampNeg) - a1), qm1))) else some (.inl (x5 + (1 : Int32))))) else some (.inl (x5 + (1 : Int32)))) else none else none else some (.inr (.inl ()))))
def f9_known (a1 : Int32) (μ : zMem) : Option (Int32 × zMem) :=
  (f9_must (1 : Int32) μ).bind (fun qm1 => (if 0 < (qm1.1 9 0 13) then some ((-1 : Int32), qm1) else (z_it (f9_known_L4 a1 μ qm1) z_fu (0 : Int32)).bind (Sum.elim (fun (_ : Unit) => (f9_wrong (4 : Int32) (μ.1 9 0 11) qm1).bind (fun qm13 => some ((-1 : Int32), qm13))) (z_u2 fun qr15 qr16 => some (qr15, qr16)))))
theorem s9_known_L4 {P : zP} {ro : Option zV} {μo : zMem} (a1 : Int32) (μ : zMem) (qm1 : zMem) (x5 : Int32) (K : (Int32) ⊕ ((Unit) ⊕ (Int32 × zMem))) (h : f9_known_L4 a1 μ qm1 x5 = some K) (hI : ∀ (y0 : Int32), K = .inl y0 → z_RQ P M_9_known (z_rm 4) (z_mq P ro μo) 0 0 21 [some (zA 9 0), some (zI a1), some (zI (μ.1 9 0 11)), some (zI y0)] [] qm1) (hE : K = .inr (.inl ()) → z_RQ P M_9_known (z_rm 4) (z_mq P ro μo) 0 0 83 [some (zA 9 0), none, some (zI (μ.1 9 0 11)), none] [] qm1) (hR : ∀ (qr : Int32) (qm : zMem), K = .inr (.inr (qr, qm)) → ro = some (zI qr) ∧ μo = qm) : z_RQ P M_9_known (z_rm 4) (z_mq P ro μo) 0 0 21 [some (zA 9 0), some (zI a1), some (zI (μ.1 9 0 11)), some (zI x5)] [] qm1 := by
  unfold f9_known_L4 at h
  refine zr_iload_n (i := 3) d_9_known_21 rfl rfl ?_
  refine zr_aload_n (i := 0) d_9_known_22 rfl rfl ?_
  refine zr_geti d_9_known_23 fw_9_239 (by decide) ?_
  refine zr_icmp_ge (tgt := 83) d_9_known_26 rfl (fun hc6 => ?_) (fun hc6 => ?_)
  · replace h := z_ip h hc6
    refine zr_aload_n (i := 0) d_9_known_29 rfl rfl ?_
    refine zr_gets (i' := 0) d_9_known_30 fw_9_40 rfl ?_
    refine zr_iload_n (i := 3) d_9_known_33 rfl rfl ?_
    obtain ⟨hb7, h⟩ := z_gd h
    refine zr_lald d_9_known_34 sa_121 rfl hb7 ?_
    refine zr_aload_n (i := 0) d_9_known_35 rfl rfl ?_
    refine zr_gets (i' := 0) d_9_known_36 fw_9_30 rfl ?_
    refine zr_iload_n (i := 2) d_9_known_39 rfl rfl ?_
    obtain ⟨hb8, h⟩ := z_gd h
    refine zr_lald d_9_known_40 sa_108 rfl hb8 ?_
    refine zr_lcmp d_9_known_41 ?_
    refine zr_if_ne (tgt := 77) d_9_known_42 rfl (fun hc9 => ?_) (fun hc9 => ?_)
    · replace h := z_ip h hc9
      refine zr_aload_n (i := 0) d_9_known_45 rfl rfl ?_
      refine zr_gets (i' := 0) d_9_known_46 fw_9_43 rfl ?_
      refine zr_iload_n (i := 3) d_9_known_49 rfl rfl ?_
      refine zr_iald d_9_known_50 sa_122 rfl hb7 ?_
      refine zr_iload_n (i := 1) d_9_known_51 rfl rfl ?_
      refine zr_icmp_lt (tgt := 77) d_9_known_52 rfl (fun hc10 => ?_) (fun hc10 => ?_)
      · replace h := z_ip h hc10
        refine zr_iinc (v := (x5 + (1 : Int32))) (l' := [some (zA 9 0), some (zI a1), some (zI (μ.1 9 0 11)), some (zI (x5 + (1 : Int32)))]) d_9_known_77 (by decide) rfl rfl rfl ?_
        refine zr_goto (tgt := 21) d_9_known_80 rfl ?_
        obtain rfl := Option.some.inj h
        exact zr_wk2 (hI (x5 + (1 : Int32)) rfl) ⟨rfl, ⟨rfl, ⟨rfl, ⟨rfl, trivial⟩⟩⟩⟩
      · replace h := z_im h hc10
        refine zr_aload_n (i := 0) d_9_known_55 rfl rfl ?_
        refine zr_gets (i' := 0) d_9_known_56 fw_9_43 rfl ?_
        refine zr_iload_n (i := 3) d_9_known_59 rfl rfl ?_
        refine zr_iald d_9_known_60 sa_122 rfl hb7 ?_
        refine zr_iload_n (i := 1) d_9_known_61 rfl rfl ?_
        refine zr_bipush (v := (10 : Int32)) d_9_known_62 rfl ?_
        refine zr_iadd d_9_known_64 ?_
        refine zr_icmp_ge (tgt := 77) d_9_known_65 rfl (fun hc11 => ?_) (fun hc11 => ?_)
        · replace h := z_ip h hc11
          refine zr_aload_n (i := 0) d_9_known_68 rfl rfl ?_
          refine zr_gets (i' := 0) d_9_known_69 fw_9_43 rfl ?_
          refine zr_iload_n (i := 3) d_9_known_72 rfl rfl ?_
          refine zr_iald d_9_known_73 sa_122 rfl hb7 ?_
          refine zr_iload_n (i := 1) d_9_known_74 rfl rfl ?_
          refine zr_isub d_9_known_75 ?_
          obtain rfl := Option.some.inj h
          obtain ⟨rfl, rfl⟩ := hR ((qm1.1 122 0 x5.toNatClampNeg) - a1) qm1 rfl
          exact ze_i d_9_known_76 rfl
        · replace h := z_im h hc11
          refine zr_iinc (v := (x5 + (1 : Int32))) (l' := [some (zA 9 0), some (zI a1), some (zI (μ.1 9 0 11)), some (zI (x5 + (1 : Int32)))]) d_9_known_77 (by decide) rfl rfl rfl ?_
          refine zr_goto (tgt := 21) d_9_known_80 rfl ?_
          obtain rfl := Option.some.inj h
          exact zr_wk2 (hI (x5 + (1 : Int32)) rfl) ⟨rfl, ⟨rfl, ⟨rfl, ⟨rfl, trivial⟩⟩⟩⟩
    · replace h := z_im h hc9
      refine zr_iinc (v := (x5 + (1 : Int32))) (l' := [some (zA 9 0), some (zI a1), some (zI (μ.1 9 0 11)), some (zI (x5 + (1 : Int32)))]) d_9_known_77 (by decide) rfl rfl rfl ?_
      refine zr_goto (tgt := 21) d_9_known_80 rfl ?_
      obtain rfl := Option.some.inj h
      exact zr_wk2 (hI (x5 + (1 : Int32)) rfl) ⟨rfl, ⟨rfl, ⟨rfl, ⟨rfl, trivial⟩⟩⟩⟩
  · replace h := z_im h hc6
    obtain rfl := Option.some.inj h
    exact zr_wk2 (hE  rfl) ⟨rfl, ⟨rfl, trivial⟩⟩
theorem s9_known {P : zP} {μ : zMem} {a1 : Int32} {r : Int32} {μ' : zMem} (h : f9_known a1 μ = some (r, μ')) : z_Sp P y_9_known M_9_known 4 [zA 9 0, zI a1] μ (some (zI r)) μ' := by
  refine z_Sp.of (plainFor_of_name (by decide)) rfl (l0 := [some (zA 9 0), some (zI a1), none, none]) rfl (Nat.le_of_ble_eq_true rfl) ?_
  unfold f9_known at h
  refine zr_aload_n (i := 0) d_9_known_0 rfl rfl ?_
  refine zr_geti d_9_known_1 fw_9_206 (by decide) ?_
  refine zr_istore_n (i := 2) (l' := [some (zA 9 0), some (zI a1), some (zI (μ.1 9 0 11)), none]) d_9_known_4 rfl (by decide) rfl ?_
  refine zr_aload_n (i := 0) d_9_known_5 rfl rfl ?_
  refine zr_iconst (v := (1 : Int32)) d_9_known_6 rfl ?_
  obtain ⟨qm1, hq2, h⟩ := z_bd h
  refine zr_callVv (av := [zI (1 : Int32)]) (st := []) d_9_known_7 mw_9_must ml_9_277 im_9_must se_9_must rfl rfl (Nat.le_of_ble_eq_true rfl) fit_3_2_4 rfl rfl rfl (s9_must hq2) ?_
  refine zr_aload_n (i := 0) d_9_known_10 rfl rfl ?_
  refine zr_geti d_9_known_11 fw_9_203 (by decide) ?_
  refine zr_if_le (tgt := 19) d_9_known_14 rfl (fun hc3 => ?_) (fun hc3 => ?_)
  · replace h := z_ip h hc3
    refine zr_iconst (v := (-1 : Int32)) d_9_known_17 rfl ?_
    obtain ⟨rfl, rfl⟩ := Prod.mk.inj (Option.some.inj h)
    exact ze_i d_9_known_18 rfl
  · replace h := z_im h hc3
    refine zr_iconst (v := (0 : Int32)) d_9_known_19 rfl ?_
    refine zr_istore_n (i := 3) (l' := [some (zA 9 0), some (zI a1), some (zI (μ.1 9 0 11)), some (zI (0 : Int32))]) d_9_known_20 rfl (by decide) rfl ?_
    rcases z_bs h with ⟨⟨⟩, hl12, h⟩ | ⟨⟨qr15, qr16⟩, hl12, h⟩
    · refine zr_wk (l' := [some (zA 9 0), some (zI a1), some (zI (μ.1 9 0 11)), some (zI (0 : Int32))]) ⟨rfl, ⟨rfl, ⟨rfl, ⟨rfl, trivial⟩⟩⟩⟩ ?_
      refine z_loop (Hd := (fun y0 => z_RQ P M_9_known (z_rm 4) (z_mq P (some (zI r)) μ') 0 0 21 [some (zA 9 0), some (zI a1), some (zI (μ.1 9 0 11)), some (zI y0)] [] qm1)) (Ex := (Sum.elim (fun (_ : Unit) => z_RQ P M_9_known (z_rm 4) (z_mq P (some (zI r)) μ') 0 0 83 [some (zA 9 0), none, some (zI (μ.1 9 0 11)), none] [] qm1) (z_u2 fun qr qm => (some (zI r)) = some (zI qr) ∧ μ' = qm))) (fun x5 K h hI hE => s9_known_L4 a1 μ qm1 x5 K h (fun y0 e => hI y0 e) (fun  e => hE (.inl ()) e) (fun qr qm e => hE (.inr (qr, qm)) e)) _ _ _ hl12 ?_
      refine zr_aload_n (i := 0) d_9_known_83 rfl rfl ?_
      refine zr_iconst (v := (4 : Int32)) d_9_known_84 rfl ?_
      refine zr_iload_n (i := 2) d_9_known_85 rfl rfl ?_
      obtain ⟨qm13, hq14, h⟩ := z_bd h
      refine zr_callVv (av := [zI (4 : Int32), zI (μ.1 9 0 11)]) (st := []) d_9_known_86 mw_9_wrong ml_9_283 im_9_wrong se_9_wrong rfl rfl (Nat.le_of_ble_eq_true rfl) fit_1_4_4 rfl rfl rfl (s9_wrong hq14) ?_
      refine zr_iconst (v := (-1 : Int32)) d_9_known_89 rfl ?_
      obtain ⟨rfl, rfl⟩ := Prod.mk.inj (Option.some.inj h)
      exact ze_i d_9_known_90 rfl
    · replace h := z_h2 h
      refine zr_wk (l' := [some (zA 9 0), some (zI a1), some (zI (μ.1 9 0 11)), some (zI (0 : Int32))]) ⟨rfl, ⟨rfl, ⟨rfl, ⟨rfl, trivial⟩⟩⟩⟩ ?_
      refine z_loop (Hd := (fun y0 => z_RQ P M_9_known (z_rm 4) (z_mq P (some (zI r)) μ') 0 0 21 [some (zA 9 0), some (zI a1), some (zI (μ.1 9 0 11)), some (zI y0)] [] qm1)) (Ex := (Sum.elim (fun (_ : Unit) => z_RQ P M_9_known (z_rm 4) (z_mq P (some (zI r)) μ') 0 0 83 [some (zA 9 0), none, some (zI (μ.1 9 0 11)), none] [] qm1) (z_u2 fun qr qm => (some (zI r)) = some (zI qr) ∧ μ' = qm))) (fun x5 K h hI hE => s9_known_L4 a1 μ qm1 x5 K h (fun y0 e => hI y0 e) (fun  e => hE (.inl ()) e) (fun qr qm e => hE (.inr (qr, qm)) e)) _ _ _ hl12 ?_
      obtain ⟨rfl, rfl⟩ := Prod.mk.inj (Option.some.inj h)
      exact ⟨rfl, rfl⟩
def f9_tellRight  (μ : zMem) : Option (zMem) :=
  (f9_known (10 : Int32) μ).bind (z_u2 fun q1 qm2 => (f9_known (0 : Int32) qm2).bind (z_u2 fun q4 qm5 => ((if (qm5.1 9 0 13) = 0 then (if q1 < 0 then some (0 : Int32) else (if q4 < 0 then some (0 : Int32) else some (1 : Int32))) else some (0 : Int32)) : Option (Int32)).bind (fun j12 => ((if j12 = 0 then some qm5 else if z_in (((5 : Int32) * (qm5.1 9 0 19)) + q4) 10 = true then (if (((qm5.1 125 0 (((5 : Int32) * (qm5.1 9 0 19)) + q4).toNatClampNeg) >>> (q1 &&& 31)) &&& (1 : Int32)) = (1 : Int32) then (f9_wrong (3 : Int32) (qm2.1 9 0 11) qm5).bind (fun qm18 => some qm18) else some qm5) else none) : Option (zMem)).bind (fun jm20 => (f9_must (4 : Int32) jm20).bind (fun qm21 => (if 0 < (qm21.1 9 0 13) then some qm21 else if z_in (qm21.1 9 0 19) 2 = true then z_let (z_sI qm21 129 0 (qm21.1 9 0 19).toNatClampNeg ((qm21.1 129 0 (qm21.1 9 0 19).toNatClampNeg) + (1 : Int32))) fun m25 => (if j12 = 0 then some m25 else if z_in (((5 : Int32) * (m25.1 9 0 19)) + q4) 10 = true then z_let (z_sI m25 125 0 (((5 : Int32) * (m25.1 9 0 19)) + q4).toNatClampNeg ((m25.1 125 0 (((5 : Int32) * (m25.1 9 0 19)) + q4).toNatClampNeg) ||| ((1 : Int32) <<< (q1 &&& 31)))) fun m29 => some m29 else none) else none))))))
theorem s9_tellRight {P : zP} {μ : zMem} {μ' : zMem} (h : f9_tellRight μ = some μ') : z_Sp P y_9_tellRight M_9_tellRight 5 [zA 9 0] μ none μ' := by
  refine z_Sp.of (plainFor_of_name (by decide)) rfl (l0 := [some (zA 9 0), none, none, none, none]) rfl (Nat.le_of_ble_eq_true rfl) ?_
  unfold f9_tellRight at h
  refine zr_aload_n (i := 0) d_9_tellRight_0 rfl rfl ?_
  refine zr_bipush (v := (10 : Int32)) d_9_tellRight_1 rfl ?_
  obtain ⟨⟨q1, qm2⟩, hq3, h⟩ := z_bd h
  replace h := z_h2 h
  refine zr_callVi (av := [zI (10 : Int32)]) (st := []) d_9_tellRight_3 mw_9_known ml_9_286 im_9_known se_9_known rfl rfl (Nat.le_of_ble_eq_true rfl) fit_4_4_5 rfl rfl rfl (s9_known hq3) ?_
  refine zr_istore_n (i := 1) (l' := [some (zA 9 0), some (zI q1), none, none, none]) d_9_tellRight_6 rfl (by decide) rfl ?_
  refine zr_aload_n (i := 0) d_9_tellRight_7 rfl rfl ?_
  refine zr_geti d_9_tellRight_8 fw_9_206 (by decide) ?_
  refine zr_istore_n (i := 2) (l' := [some (zA 9 0), some (zI q1), some (zI (qm2.1 9 0 11)), none, none]) d_9_tellRight_11 rfl (by decide) rfl ?_
  refine zr_aload_n (i := 0) d_9_tellRight_12 rfl rfl ?_
  refine zr_iconst (v := (0 : Int32)) d_9_tellRight_13 rfl ?_
  obtain ⟨⟨q4, qm5⟩, hq6, h⟩ := z_bd h
  replace h := z_h2 h
  refine zr_callVi (av := [zI (0 : Int32)]) (st := []) d_9_tellRight_14 mw_9_known ml_9_286 im_9_known se_9_known rfl rfl (Nat.le_of_ble_eq_true rfl) fit_4_4_5 rfl rfl rfl (s9_known hq6) ?_
  refine zr_istore_n (i := 3) (l' := [some (zA 9 0), some (zI q1), some (zI (qm2.1 9 0 11)), some (zI q4), none]) d_9_tellRight_17 rfl (by decide) rfl ?_
  refine zr_aload_n (i := 0) d_9_tellRight_18 rfl rfl ?_
  refine zr_geti d_9_tellRight_19 fw_9_203 (by decide) ?_
  obtain ⟨j12, hT7, h⟩ := z_bd h
  have hJ8 : z_RQ P M_9_tellRight (z_rm 5) (z_mq P none μ') 0 0 38 [some (zA 9 0), some (zI q1), some (zI (qm2.1 9 0 11)), some (zI q4), none] [zI j12] qm5 := by
    refine zr_istore (i := 4) (l' := [some (zA 9 0), some (zI q1), some (zI (qm2.1 9 0 11)), some (zI q4), some (zI j12)]) d_9_tellRight_38 (by decide) rfl ?_
    refine zr_iload d_9_tellRight_40 rfl ?_
    obtain ⟨jm20, hT13, h⟩ := z_bd h
    have hJ14 : z_RQ P M_9_tellRight (z_rm 5) (z_mq P none μ') 0 0 72 [some (zA 9 0), some (zI q1), none, some (zI q4), some (zI j12)] [] jm20 := by
      refine zr_aload_n (i := 0) d_9_tellRight_72 rfl rfl ?_
      refine zr_iconst (v := (4 : Int32)) d_9_tellRight_73 rfl ?_
      obtain ⟨qm21, hq22, h⟩ := z_bd h
      refine zr_callVv (av := [zI (4 : Int32)]) (st := []) d_9_tellRight_74 mw_9_must ml_9_277 im_9_must se_9_must rfl rfl (Nat.le_of_ble_eq_true rfl) fit_3_2_5 rfl rfl rfl (s9_must hq22) ?_
      refine zr_aload_n (i := 0) d_9_tellRight_77 rfl rfl ?_
      refine zr_geti d_9_tellRight_78 fw_9_203 (by decide) ?_
      refine zr_if_le (tgt := 85) d_9_tellRight_81 rfl (fun hc23 => ?_) (fun hc23 => ?_)
      · replace h := z_ip h hc23
        obtain rfl := Option.some.inj h
        exact ze_v d_9_tellRight_84 rfl
      · replace h := z_im h hc23
        refine zr_aload_n (i := 0) d_9_tellRight_85 rfl rfl ?_
        refine zr_gets (i' := 0) d_9_tellRight_86 fw_9_64 rfl ?_
        refine zr_aload_n (i := 0) d_9_tellRight_89 rfl rfl ?_
        refine zr_geti d_9_tellRight_90 fw_9_236 (by decide) ?_
        refine zr_dup2 d_9_tellRight_93 ?_
        obtain ⟨hb24, h⟩ := z_gd h
        refine zr_iald d_9_tellRight_94 sa_129 rfl hb24 ?_
        refine zr_iconst (v := (1 : Int32)) d_9_tellRight_95 rfl ?_
        refine zr_iadd d_9_tellRight_96 ?_
        obtain ⟨m25, hm26, h⟩ := z_lt h
        refine zr_iast d_9_tellRight_97 sa_129 rfl hb24 hm26 ?_
        refine zr_iload d_9_tellRight_98 rfl ?_
        refine zr_if_eq (tgt := 122) d_9_tellRight_100 rfl (fun hc27 => ?_) (fun hc27 => ?_)
        · replace h := z_ip h hc27
          obtain rfl := Option.some.inj h
          exact ze_v d_9_tellRight_122 rfl
        · replace h := z_im h hc27
          refine zr_aload_n (i := 0) d_9_tellRight_103 rfl rfl ?_
          refine zr_gets (i' := 0) d_9_tellRight_104 fw_9_52 rfl ?_
          refine zr_iconst (v := (5 : Int32)) d_9_tellRight_107 rfl ?_
          refine zr_aload_n (i := 0) d_9_tellRight_108 rfl rfl ?_
          refine zr_geti d_9_tellRight_109 fw_9_236 (by decide) ?_
          refine zr_imul d_9_tellRight_112 ?_
          refine zr_iload_n (i := 3) d_9_tellRight_113 rfl rfl ?_
          refine zr_iadd d_9_tellRight_114 ?_
          refine zr_dup2 d_9_tellRight_115 ?_
          obtain ⟨hb28, h⟩ := z_gd h
          refine zr_iald d_9_tellRight_116 sa_125 rfl hb28 ?_
          refine zr_iconst (v := (1 : Int32)) d_9_tellRight_117 rfl ?_
          refine zr_iload_n (i := 1) d_9_tellRight_118 rfl rfl ?_
          refine zr_ishl d_9_tellRight_119 ?_
          refine zr_ior d_9_tellRight_120 ?_
          obtain ⟨m29, hm30, h⟩ := z_lt h
          refine zr_iast d_9_tellRight_121 sa_125 rfl hb28 hm30 ?_
          obtain rfl := Option.some.inj h
          exact ze_v d_9_tellRight_122 rfl
    refine zr_if_eq (tgt := 72) d_9_tellRight_42 rfl (fun hc15 => ?_) (fun hc15 => ?_)
    · replace hT13 := z_ip hT13 hc15
      obtain rfl := Option.some.inj hT13
      exact zr_wk2 hJ14 ⟨rfl, ⟨rfl, ⟨rfl, ⟨rfl, trivial⟩⟩⟩⟩
    · replace hT13 := z_im hT13 hc15
      refine zr_aload_n (i := 0) d_9_tellRight_45 rfl rfl ?_
      refine zr_gets (i' := 0) d_9_tellRight_46 fw_9_52 rfl ?_
      refine zr_iconst (v := (5 : Int32)) d_9_tellRight_49 rfl ?_
      refine zr_aload_n (i := 0) d_9_tellRight_50 rfl rfl ?_
      refine zr_geti d_9_tellRight_51 fw_9_236 (by decide) ?_
      refine zr_imul d_9_tellRight_54 ?_
      refine zr_iload_n (i := 3) d_9_tellRight_55 rfl rfl ?_
      refine zr_iadd d_9_tellRight_56 ?_
      obtain ⟨hb16, hT13⟩ := z_gd hT13
      refine zr_iald d_9_tellRight_57 sa_125 rfl hb16 ?_
      refine zr_iload_n (i := 1) d_9_tellRight_58 rfl rfl ?_
      refine zr_ishr d_9_tellRight_59 ?_
      refine zr_iconst (v := (1 : Int32)) d_9_tellRight_60 rfl ?_
      refine zr_iand d_9_tellRight_61 ?_
      refine zr_iconst (v := (1 : Int32)) d_9_tellRight_62 rfl ?_
      refine zr_icmp_ne (tgt := 72) d_9_tellRight_63 rfl (fun hc17 => ?_) (fun hc17 => ?_)
      · replace hT13 := z_ip hT13 hc17
        refine zr_aload_n (i := 0) d_9_tellRight_66 rfl rfl ?_
        refine zr_iconst (v := (3 : Int32)) d_9_tellRight_67 rfl ?_
        refine zr_iload_n (i := 2) d_9_tellRight_68 rfl rfl ?_
        obtain ⟨qm18, hq19, hT13⟩ := z_bd hT13
        refine zr_callVv (av := [zI (3 : Int32), zI (qm2.1 9 0 11)]) (st := []) d_9_tellRight_69 mw_9_wrong ml_9_283 im_9_wrong se_9_wrong rfl rfl (Nat.le_of_ble_eq_true rfl) fit_1_4_5 rfl rfl rfl (s9_wrong hq19) ?_
        obtain rfl := Option.some.inj hT13
        exact zr_wk2 hJ14 ⟨rfl, ⟨rfl, ⟨rfl, ⟨rfl, trivial⟩⟩⟩⟩
      · replace hT13 := z_im hT13 hc17
        obtain rfl := Option.some.inj hT13
        exact zr_wk2 hJ14 ⟨rfl, ⟨rfl, ⟨rfl, ⟨rfl, trivial⟩⟩⟩⟩
  refine zr_if_ne (tgt := 37) d_9_tellRight_22 rfl (fun hc9 => ?_) (fun hc9 => ?_)
  · replace hT7 := z_ip hT7 hc9
    refine zr_iload_n (i := 1) d_9_tellRight_25 rfl rfl ?_
    refine zr_if_lt (tgt := 37) d_9_tellRight_26 rfl (fun hc10 => ?_) (fun hc10 => ?_)
    · replace hT7 := z_ip hT7 hc10
      refine zr_iconst (v := (0 : Int32)) d_9_tellRight_37 rfl ?_
      obtain rfl := Option.some.inj hT7
      exact zr_wk2 hJ8 ⟨rfl, ⟨rfl, ⟨rfl, ⟨rfl, trivial⟩⟩⟩⟩
    · replace hT7 := z_im hT7 hc10
      refine zr_iload_n (i := 3) d_9_tellRight_29 rfl rfl ?_
      refine zr_if_lt (tgt := 37) d_9_tellRight_30 rfl (fun hc11 => ?_) (fun hc11 => ?_)
      · replace hT7 := z_ip hT7 hc11
        refine zr_iconst (v := (0 : Int32)) d_9_tellRight_37 rfl ?_
        obtain rfl := Option.some.inj hT7
        exact zr_wk2 hJ8 ⟨rfl, ⟨rfl, ⟨rfl, ⟨rfl, trivial⟩⟩⟩⟩
      · replace hT7 := z_im hT7 hc11
        refine zr_iconst (v := (1 : Int32)) d_9_tellRight_33 rfl ?_
        refine zr_goto (tgt := 38) d_9_tellRight_34 rfl ?_
        obtain rfl := Option.some.inj hT7
        exact zr_wk2 hJ8 ⟨rfl, ⟨rfl, ⟨rfl, ⟨rfl, trivial⟩⟩⟩⟩
  · replace hT7 := z_im hT7 hc9
    refine zr_iconst (v := (0 : Int32)) d_9_tellRight_37 rfl ?_
    obtain rfl := Option.some.inj hT7
    exact zr_wk2 hJ8 ⟨rfl, ⟨rfl, ⟨rfl, ⟨rfl, trivial⟩⟩⟩⟩
def f9_tellAway  (μ : zMem) : Option (zMem) :=
  (f9_known (10 : Int32) μ).bind (z_u2 fun q1 qm2 => (f9_bounded (99 : Int32) qm2).bind (z_u2 fun q4 qm5 => (f9_must (4 : Int32) qm5).bind (fun qm7 => (if 0 < (qm7.1 9 0 13) then some qm7 else if z_in (qm7.1 9 0 19) 2 = true then z_let (z_sI qm7 130 0 (qm7.1 9 0 19).toNatClampNeg ((qm7.1 130 0 (qm7.1 9 0 19).toNatClampNeg) + (1 : Int32))) fun m11 => (if q1 < 0 then some m11 else if z_in (((7 : Int32) * (m11.1 9 0 19)) + q1) 14 = true then z_let (z_sI m11 128 0 (((7 : Int32) * (m11.1 9 0 19)) + q1).toNatClampNeg q4) fun m14 => some m14 else none) else none))))
theorem s9_tellAway {P : zP} {μ : zMem} {μ' : zMem} (h : f9_tellAway μ = some μ') : z_Sp P y_9_tellAway M_9_tellAway 5 [zA 9 0] μ none μ' := by
  refine z_Sp.of (plainFor_of_name (by decide)) rfl (l0 := [some (zA 9 0), none, none]) rfl (Nat.le_of_ble_eq_true rfl) ?_
  unfold f9_tellAway at h
  refine zr_aload_n (i := 0) d_9_tellAway_0 rfl rfl ?_
  refine zr_bipush (v := (10 : Int32)) d_9_tellAway_1 rfl ?_
  obtain ⟨⟨q1, qm2⟩, hq3, h⟩ := z_bd h
  replace h := z_h2 h
  refine zr_callVi (av := [zI (10 : Int32)]) (st := []) d_9_tellAway_3 mw_9_known ml_9_286 im_9_known se_9_known rfl rfl (Nat.le_of_ble_eq_true rfl) fit_4_4_5 rfl rfl rfl (s9_known hq3) ?_
  refine zr_istore_n (i := 1) (l' := [some (zA 9 0), some (zI q1), none]) d_9_tellAway_6 rfl (by decide) rfl ?_
  refine zr_aload_n (i := 0) d_9_tellAway_7 rfl rfl ?_
  refine zr_bipush (v := (99 : Int32)) d_9_tellAway_8 rfl ?_
  obtain ⟨⟨q4, qm5⟩, hq6, h⟩ := z_bd h
  replace h := z_h2 h
  refine zr_callVi (av := [zI (99 : Int32)]) (st := []) d_9_tellAway_10 mw_9_bounded ml_9_265 im_9_bounded se_9_bounded rfl rfl (Nat.le_of_ble_eq_true rfl) fit_3_3_5 rfl rfl rfl (s9_bounded hq6) ?_
  refine zr_istore_n (i := 2) (l' := [some (zA 9 0), some (zI q1), some (zI q4)]) d_9_tellAway_13 rfl (by decide) rfl ?_
  refine zr_aload_n (i := 0) d_9_tellAway_14 rfl rfl ?_
  refine zr_iconst (v := (4 : Int32)) d_9_tellAway_15 rfl ?_
  obtain ⟨qm7, hq8, h⟩ := z_bd h
  refine zr_callVv (av := [zI (4 : Int32)]) (st := []) d_9_tellAway_16 mw_9_must ml_9_277 im_9_must se_9_must rfl rfl (Nat.le_of_ble_eq_true rfl) fit_3_2_5 rfl rfl rfl (s9_must hq8) ?_
  refine zr_aload_n (i := 0) d_9_tellAway_19 rfl rfl ?_
  refine zr_geti d_9_tellAway_20 fw_9_203 (by decide) ?_
  refine zr_if_le (tgt := 27) d_9_tellAway_23 rfl (fun hc9 => ?_) (fun hc9 => ?_)
  · replace h := z_ip h hc9
    obtain rfl := Option.some.inj h
    exact ze_v d_9_tellAway_26 rfl
  · replace h := z_im h hc9
    refine zr_aload_n (i := 0) d_9_tellAway_27 rfl rfl ?_
    refine zr_gets (i' := 0) d_9_tellAway_28 fw_9_67 rfl ?_
    refine zr_aload_n (i := 0) d_9_tellAway_31 rfl rfl ?_
    refine zr_geti d_9_tellAway_32 fw_9_236 (by decide) ?_
    refine zr_dup2 d_9_tellAway_35 ?_
    obtain ⟨hb10, h⟩ := z_gd h
    refine zr_iald d_9_tellAway_36 sa_130 rfl hb10 ?_
    refine zr_iconst (v := (1 : Int32)) d_9_tellAway_37 rfl ?_
    refine zr_iadd d_9_tellAway_38 ?_
    obtain ⟨m11, hm12, h⟩ := z_lt h
    refine zr_iast d_9_tellAway_39 sa_130 rfl hb10 hm12 ?_
    refine zr_iload_n (i := 1) d_9_tellAway_40 rfl rfl ?_
    refine zr_if_lt (tgt := 59) d_9_tellAway_41 rfl (fun hc13 => ?_) (fun hc13 => ?_)
    · replace h := z_ip h hc13
      obtain rfl := Option.some.inj h
      exact ze_v d_9_tellAway_59 rfl
    · replace h := z_im h hc13
      refine zr_aload_n (i := 0) d_9_tellAway_44 rfl rfl ?_
      refine zr_gets (i' := 0) d_9_tellAway_45 fw_9_61 rfl ?_
      refine zr_bipush (v := (7 : Int32)) d_9_tellAway_48 rfl ?_
      refine zr_aload_n (i := 0) d_9_tellAway_50 rfl rfl ?_
      refine zr_geti d_9_tellAway_51 fw_9_236 (by decide) ?_
      refine zr_imul d_9_tellAway_54 ?_
      refine zr_iload_n (i := 1) d_9_tellAway_55 rfl rfl ?_
      refine zr_iadd d_9_tellAway_56 ?_
      refine zr_iload_n (i := 2) d_9_tellAway_57 rfl rfl ?_
      obtain ⟨hb16, h⟩ := z_gd h
      obtain ⟨m14, hm15, h⟩ := z_lt h
      refine zr_iast d_9_tellAway_58 sa_128 rfl hb16 hm15 ?_
      obtain rfl := Option.some.inj h
      exact ze_v d_9_tellAway_59 rfl
def f9_emit (a1 : Int32) (a2 : Int32) (μ : zMem) : Option (zMem) :=
  if z_in (μ.1 9 0 40) 840 = true then z_let (z_sI μ 141 0 (μ.1 9 0 40).toNatClampNeg a1) fun m1 => if z_in (m1.1 9 0 40) 840 = true then z_let (z_sI m1 142 0 (m1.1 9 0 40).toNatClampNeg a2) fun m4 => z_let (z_sI m4 9 0 40 ((m4.1 9 0 40) + (1 : Int32))) fun m7 => some m7 else none else none
theorem s9_emit {P : zP} {μ : zMem} {a1 : Int32} {a2 : Int32} {μ' : zMem} (h : f9_emit a1 a2 μ = some μ') : z_Sp P y_9_emit M_9_emit 1 [zA 9 0, zI a1, zI a2] μ none μ' := by
  refine z_Sp.of (plainFor_of_name (by decide)) rfl (l0 := [some (zA 9 0), some (zI a1), some (zI a2)]) rfl (Nat.le_of_ble_eq_true rfl) ?_
  unfold f9_emit at h
  refine zr_aload_n (i := 0) d_9_emit_0 rfl rfl ?_
  refine zr_gets (i' := 0) d_9_emit_1 fw_9_95 rfl ?_
  refine zr_aload_n (i := 0) d_9_emit_4 rfl rfl ?_
  refine zr_geti d_9_emit_5 fw_9_245 (by decide) ?_
  refine zr_iload_n (i := 1) d_9_emit_8 rfl rfl ?_
  obtain ⟨hb3, h⟩ := z_gd h
  obtain ⟨m1, hm2, h⟩ := z_lt h
  refine zr_iast d_9_emit_9 sa_141 rfl hb3 hm2 ?_
  refine zr_aload_n (i := 0) d_9_emit_10 rfl rfl ?_
  refine zr_gets (i' := 0) d_9_emit_11 fw_9_98 rfl ?_
  refine zr_aload_n (i := 0) d_9_emit_14 rfl rfl ?_
  refine zr_geti d_9_emit_15 fw_9_245 (by decide) ?_
  refine zr_iload_n (i := 2) d_9_emit_18 rfl rfl ?_
  obtain ⟨hb6, h⟩ := z_gd h
  obtain ⟨m4, hm5, h⟩ := z_lt h
  refine zr_iast d_9_emit_19 sa_142 rfl hb6 hm5 ?_
  refine zr_aload_n (i := 0) d_9_emit_20 rfl rfl ?_
  refine zr_dupa d_9_emit_21 ?_
  refine zr_geti d_9_emit_22 fw_9_245 (by decide) ?_
  refine zr_iconst (v := (1 : Int32)) d_9_emit_25 rfl ?_
  refine zr_iadd d_9_emit_26 ?_
  obtain ⟨m7, hm8, h⟩ := z_lt h
  refine zr_puti d_9_emit_27 fw_9_245 pw_9_40 hm8 ?_
  obtain rfl := Option.some.inj h
  exact ze_v d_9_emit_30 rfl
def f9_unit  (μ : zMem) : Option (zMem) :=
  (f9_is (2 : Int32) μ).bind (fun q1 => (if q1 = 0 then (if (μ.1 9 0 13) = 0 then if z_in (μ.1 9 0 11) 403 = true then (if (μ.1 105 0 (μ.1 9 0 11).toNatClampNeg) < (32 : Int32) then (f9_fail (1 : Int32) μ).bind (fun qm7 => some qm7) else (if (40 : Int32) < (μ.1 105 0 (μ.1 9 0 11).toNatClampNeg) then (f9_fail (1 : Int32) μ).bind (fun qm10 => some qm10) else (f9_emit (1 : Int32) ((μ.1 105 0 (μ.1 9 0 11).toNatClampNeg) - (32 : Int32)) μ).bind (fun qm12 => (f9_goesOn qm12).bind (fun qm14 => some qm14)))) else none else (f9_fail (1 : Int32) μ).bind (fun qm16 => some qm16)) else if z_in (μ.1 9 0 11) 403 = true then (f9_emit (0 : Int32) (μ.1 107 0 (μ.1 9 0 11).toNatClampNeg) μ).bind (fun qm19 => (f9_goesOn qm19).bind (fun qm21 => some qm21)) else none))
theorem s9_unit {P : zP} {μ : zMem} {μ' : zMem} (h : f9_unit μ = some μ') : z_Sp P y_9_unit M_9_unit 3 [zA 9 0] μ none μ' := by
  refine z_Sp.of (plainFor_of_name (by decide)) rfl (l0 := [some (zA 9 0)]) rfl (Nat.le_of_ble_eq_true rfl) ?_
  unfold f9_unit at h
  refine zr_aload_n (i := 0) d_9_unit_0 rfl rfl ?_
  refine zr_iconst (v := (2 : Int32)) d_9_unit_1 rfl ?_
  obtain ⟨q1, hq2, h⟩ := z_bd h
  refine zr_callVi (av := [zI (2 : Int32)]) (st := []) d_9_unit_2 mw_9_is ml_9_221 im_9_is se_9_is rfl rfl (Nat.le_of_ble_eq_true rfl) fit_1_2_3 rfl rfl rfl (s9_is hq2) ?_
  refine zr_if_eq (tgt := 29) d_9_unit_5 rfl (fun hc3 => ?_) (fun hc3 => ?_)
  · replace h := z_ip h hc3
    refine zr_aload_n (i := 0) d_9_unit_29 rfl rfl ?_
    refine zr_geti d_9_unit_30 fw_9_203 (by decide) ?_
    refine zr_if_ne (tgt := 88) d_9_unit_33 rfl (fun hc4 => ?_) (fun hc4 => ?_)
    · replace h := z_ip h hc4
      refine zr_aload_n (i := 0) d_9_unit_36 rfl rfl ?_
      refine zr_gets (i' := 0) d_9_unit_37 fw_9_20 rfl ?_
      refine zr_aload_n (i := 0) d_9_unit_40 rfl rfl ?_
      refine zr_geti d_9_unit_41 fw_9_206 (by decide) ?_
      obtain ⟨hb5, h⟩ := z_gd h
      refine zr_iald d_9_unit_44 sa_105 rfl hb5 ?_
      refine zr_bipush (v := (32 : Int32)) d_9_unit_45 rfl ?_
      refine zr_icmp_lt (tgt := 88) d_9_unit_47 rfl (fun hc6 => ?_) (fun hc6 => ?_)
      · replace h := z_ip h hc6
        refine zr_aload_n (i := 0) d_9_unit_88 rfl rfl ?_
        refine zr_iconst (v := (1 : Int32)) d_9_unit_89 rfl ?_
        obtain ⟨qm7, hq8, h⟩ := z_bd h
        refine zr_callVv (av := [zI (1 : Int32)]) (st := []) d_9_unit_90 mw_9_fail ml_9_218 im_9_fail se_9_fail rfl rfl (Nat.le_of_ble_eq_true rfl) fit_1_2_3 rfl rfl rfl (s9_fail hq8) ?_
        obtain rfl := Option.some.inj h
        exact ze_v d_9_unit_93 rfl
      · replace h := z_im h hc6
        refine zr_aload_n (i := 0) d_9_unit_50 rfl rfl ?_
        refine zr_gets (i' := 0) d_9_unit_51 fw_9_20 rfl ?_
        refine zr_aload_n (i := 0) d_9_unit_54 rfl rfl ?_
        refine zr_geti d_9_unit_55 fw_9_206 (by decide) ?_
        refine zr_iald d_9_unit_58 sa_105 rfl hb5 ?_
        refine zr_bipush (v := (40 : Int32)) d_9_unit_59 rfl ?_
        refine zr_icmp_gt (tgt := 88) d_9_unit_61 rfl (fun hc9 => ?_) (fun hc9 => ?_)
        · replace h := z_ip h hc9
          refine zr_aload_n (i := 0) d_9_unit_88 rfl rfl ?_
          refine zr_iconst (v := (1 : Int32)) d_9_unit_89 rfl ?_
          obtain ⟨qm10, hq11, h⟩ := z_bd h
          refine zr_callVv (av := [zI (1 : Int32)]) (st := []) d_9_unit_90 mw_9_fail ml_9_218 im_9_fail se_9_fail rfl rfl (Nat.le_of_ble_eq_true rfl) fit_1_2_3 rfl rfl rfl (s9_fail hq11) ?_
          obtain rfl := Option.some.inj h
          exact ze_v d_9_unit_93 rfl
        · replace h := z_im h hc9
          refine zr_aload_n (i := 0) d_9_unit_64 rfl rfl ?_
          refine zr_iconst (v := (1 : Int32)) d_9_unit_65 rfl ?_
          refine zr_aload_n (i := 0) d_9_unit_66 rfl rfl ?_
          refine zr_gets (i' := 0) d_9_unit_67 fw_9_20 rfl ?_
          refine zr_aload_n (i := 0) d_9_unit_70 rfl rfl ?_
          refine zr_geti d_9_unit_71 fw_9_206 (by decide) ?_
          refine zr_iald d_9_unit_74 sa_105 rfl hb5 ?_
          refine zr_bipush (v := (32 : Int32)) d_9_unit_75 rfl ?_
          refine zr_isub d_9_unit_77 ?_
          obtain ⟨qm12, hq13, h⟩ := z_bd h
          refine zr_callVv (av := [zI (1 : Int32), zI ((μ.1 105 0 (μ.1 9 0 11).toNatClampNeg) - (32 : Int32))]) (st := []) d_9_unit_78 mw_9_emit ml_9_298 im_9_emit se_9_emit rfl rfl (Nat.le_of_ble_eq_true rfl) fit_1_3_3 rfl rfl rfl (s9_emit hq13) ?_
          refine zr_aload_n (i := 0) d_9_unit_81 rfl rfl ?_
          obtain ⟨qm14, hq15, h⟩ := z_bd h
          refine zr_callVv (av := []) (st := []) d_9_unit_82 mw_9_goesOn ml_9_224 im_9_goesOn se_9_goesOn rfl rfl (Nat.le_of_ble_eq_true rfl) fit_2_1_3 rfl rfl rfl (s9_goesOn hq15) ?_
          refine zr_goto (tgt := 93) d_9_unit_85 rfl ?_
          obtain rfl := Option.some.inj h
          exact ze_v d_9_unit_93 rfl
    · replace h := z_im h hc4
      refine zr_aload_n (i := 0) d_9_unit_88 rfl rfl ?_
      refine zr_iconst (v := (1 : Int32)) d_9_unit_89 rfl ?_
      obtain ⟨qm16, hq17, h⟩ := z_bd h
      refine zr_callVv (av := [zI (1 : Int32)]) (st := []) d_9_unit_90 mw_9_fail ml_9_218 im_9_fail se_9_fail rfl rfl (Nat.le_of_ble_eq_true rfl) fit_1_2_3 rfl rfl rfl (s9_fail hq17) ?_
      obtain rfl := Option.some.inj h
      exact ze_v d_9_unit_93 rfl
  · replace h := z_im h hc3
    refine zr_aload_n (i := 0) d_9_unit_8 rfl rfl ?_
    refine zr_iconst (v := (0 : Int32)) d_9_unit_9 rfl ?_
    refine zr_aload_n (i := 0) d_9_unit_10 rfl rfl ?_
    refine zr_gets (i' := 0) d_9_unit_11 fw_9_27 rfl ?_
    refine zr_aload_n (i := 0) d_9_unit_14 rfl rfl ?_
    refine zr_geti d_9_unit_15 fw_9_206 (by decide) ?_
    obtain ⟨hb18, h⟩ := z_gd h
    refine zr_iald d_9_unit_18 sa_107 rfl hb18 ?_
    obtain ⟨qm19, hq20, h⟩ := z_bd h
    refine zr_callVv (av := [zI (0 : Int32), zI (μ.1 107 0 (μ.1 9 0 11).toNatClampNeg)]) (st := []) d_9_unit_19 mw_9_emit ml_9_298 im_9_emit se_9_emit rfl rfl (Nat.le_of_ble_eq_true rfl) fit_1_3_3 rfl rfl rfl (s9_emit hq20) ?_
    refine zr_aload_n (i := 0) d_9_unit_22 rfl rfl ?_
    obtain ⟨qm21, hq22, h⟩ := z_bd h
    refine zr_callVv (av := []) (st := []) d_9_unit_23 mw_9_goesOn ml_9_224 im_9_goesOn se_9_goesOn rfl rfl (Nat.le_of_ble_eq_true rfl) fit_2_1_3 rfl rfl rfl (s9_goesOn hq22) ?_
    refine zr_goto (tgt := 93) d_9_unit_26 rfl ?_
    obtain rfl := Option.some.inj h
    exact ze_v d_9_unit_93 rfl
def f9_comesOut_L1 (a1 : Int32) : (zMem) → Option ((zMem) ⊕ ((zMem) ⊕ (zMem))) := (fun xm2 => 
  (if 0 < (xm2.1 9 0 44) then if z_in ((xm2.1 9 0 44) - (1 : Int32)) 64 = true then z_let (xm2.1 143 0 ((xm2.1 9 0 44) - (1 : Int32)).toNatClampNeg) fun v5 => (if v5 = (6 : Int32) then some (.inr (.inr xm2)) else (if a1 = 0 then z_let (z_sI xm2 9 0 44 ((xm2.1 9 0 44) - (1 : Int32))) fun m9 => ((if v5 = (8 : Int32) then some (2 : Int32) else (if v5 = (9 : Int32) then some (3 : Int32) else (if v5 = (10 : Int32) then some (4 : Int32) else some (5 : Int32)))) : Option (Int32)).bind (fun j16 => (f9_emit j16 (0 : Int32) m9).bind (fun qm17 => some (.inl qm17))) else (if v5 = (8 : Int32) then some (.inr (.inr xm2)) else (if v5 = (9 : Int32) then some (.inr (.inr xm2)) else z_let (z_sI xm2 9 0 44 ((xm2.1 9 0 44) - (1 : Int32))) fun m21 => ((if v5 = (8 : Int32) then some (2 : Int32) else (if v5 = (9 : Int32) then some (3 : Int32) else (if v5 = (10 : Int32) then some (4 : Int32) else some (5 : Int32)))) : Option (Int32)).bind (fun j28 => (f9_emit j28 (0 : Int32) m21).bind (fun qm29 => some (.inl qm29))))))) else none else some (.inr (.inl xm2))))
def f9_comesOut (a1 : Int32) (μ : zMem) : Option (zMem) :=
  (z_it (f9_comesOut_L1 a1) z_fu μ).bind (Sum.elim (fun e31 => some e31) (fun qr33 => some qr33))
theorem s9_comesOut_L1 {P : zP} {ro : Option zV} {μo : zMem} (a1 : Int32) (xm2 : zMem) (K : (zMem) ⊕ ((zMem) ⊕ (zMem))) (h : f9_comesOut_L1 a1 xm2 = some K) (hI : ∀ (y0 : zMem), K = .inl y0 → z_RQ P M_9_comesOut (z_rm 2) (z_mq P ro μo) 0 0 0 [some (zA 9 0), some (zI a1), none] [] y0) (hE : ∀ (z0 : zMem), K = .inr (.inl z0) → z_RQ P M_9_comesOut (z_rm 2) (z_mq P ro μo) 0 0 91 [none, none, none] [] z0) (hR : ∀ (qm : zMem), K = .inr (.inr qm) → ro = none ∧ μo = qm) : z_RQ P M_9_comesOut (z_rm 2) (z_mq P ro μo) 0 0 0 [some (zA 9 0), some (zI a1), none] [] xm2 := by
  unfold f9_comesOut_L1 at h
  refine zr_aload_n (i := 0) d_9_comesOut_0 rfl rfl ?_
  refine zr_geti d_9_comesOut_1 fw_9_295 (by decide) ?_
  refine zr_if_le (tgt := 91) d_9_comesOut_4 rfl (fun hc3 => ?_) (fun hc3 => ?_)
  · replace h := z_ip h hc3
    refine zr_aload_n (i := 0) d_9_comesOut_7 rfl rfl ?_
    refine zr_gets (i' := 0) d_9_comesOut_8 fw_9_101 rfl ?_
    refine zr_aload_n (i := 0) d_9_comesOut_11 rfl rfl ?_
    refine zr_geti d_9_comesOut_12 fw_9_295 (by decide) ?_
    refine zr_iconst (v := (1 : Int32)) d_9_comesOut_15 rfl ?_
    refine zr_isub d_9_comesOut_16 ?_
    obtain ⟨hb4, h⟩ := z_gd h
    refine zr_iald d_9_comesOut_17 sa_143 rfl hb4 ?_
    obtain ⟨v5, hv6, h⟩ := z_lt h
    refine zr_nm hv6 ?_
    refine zr_istore_n (i := 2) (l' := [some (zA 9 0), some (zI a1), some (zI v5)]) d_9_comesOut_18 rfl (by decide) rfl ?_
    refine zr_iload_n (i := 2) d_9_comesOut_19 rfl rfl ?_
    refine zr_bipush (v := (6 : Int32)) d_9_comesOut_20 rfl ?_
    refine zr_icmp_eq (tgt := 41) d_9_comesOut_22 rfl (fun hc7 => ?_) (fun hc7 => ?_)
    · replace h := z_ip h hc7
      obtain rfl := Option.some.inj h
      obtain ⟨rfl, rfl⟩ := hR xm2 rfl
      exact ze_v d_9_comesOut_41 rfl
    · replace h := z_im h hc7
      refine zr_iload_n (i := 1) d_9_comesOut_25 rfl rfl ?_
      refine zr_if_eq (tgt := 42) d_9_comesOut_26 rfl (fun hc8 => ?_) (fun hc8 => ?_)
      · replace h := z_ip h hc8
        refine zr_aload_n (i := 0) d_9_comesOut_42 rfl rfl ?_
        refine zr_dupa d_9_comesOut_43 ?_
        refine zr_geti d_9_comesOut_44 fw_9_295 (by decide) ?_
        refine zr_iconst (v := (1 : Int32)) d_9_comesOut_47 rfl ?_
        refine zr_isub d_9_comesOut_48 ?_
        obtain ⟨m9, hm10, h⟩ := z_lt h
        refine zr_puti d_9_comesOut_49 fw_9_295 pw_9_44 hm10 ?_
        refine zr_aload_n (i := 0) d_9_comesOut_52 rfl rfl ?_
        refine zr_iload_n (i := 2) d_9_comesOut_53 rfl rfl ?_
        refine zr_bipush (v := (8 : Int32)) d_9_comesOut_54 rfl ?_
        obtain ⟨j16, hT11, h⟩ := z_bd h
        have hJ12 : z_RQ P M_9_comesOut (z_rm 2) (z_mq P ro μo) 0 0 84 [some (zA 9 0), some (zI a1), none] [zI j16, zA 9 0] m9 := by
          refine zr_iconst (v := (0 : Int32)) d_9_comesOut_84 rfl ?_
          obtain ⟨qm17, hq18, h⟩ := z_bd h
          refine zr_callVv (av := [zI j16, zI (0 : Int32)]) (st := []) d_9_comesOut_85 mw_9_emit ml_9_298 im_9_emit se_9_emit rfl rfl (Nat.le_of_ble_eq_true rfl) fit_1_3_2 rfl rfl rfl (s9_emit hq18) ?_
          refine zr_goto (tgt := 0) d_9_comesOut_88 rfl ?_
          obtain rfl := Option.some.inj h
          exact zr_wk2 (hI qm17 rfl) ⟨rfl, ⟨rfl, trivial⟩⟩
        refine zr_icmp_ne (tgt := 63) d_9_comesOut_56 rfl (fun hc13 => ?_) (fun hc13 => ?_)
        · replace hT11 := z_ip hT11 hc13
          refine zr_iconst (v := (2 : Int32)) d_9_comesOut_59 rfl ?_
          refine zr_goto (tgt := 84) d_9_comesOut_60 rfl ?_
          obtain rfl := Option.some.inj hT11
          exact zr_wk2 hJ12 ⟨rfl, ⟨rfl, trivial⟩⟩
        · replace hT11 := z_im hT11 hc13
          refine zr_iload_n (i := 2) d_9_comesOut_63 rfl rfl ?_
          refine zr_bipush (v := (9 : Int32)) d_9_comesOut_64 rfl ?_
          refine zr_icmp_ne (tgt := 73) d_9_comesOut_66 rfl (fun hc14 => ?_) (fun hc14 => ?_)
          · replace hT11 := z_ip hT11 hc14
            refine zr_iconst (v := (3 : Int32)) d_9_comesOut_69 rfl ?_
            refine zr_goto (tgt := 84) d_9_comesOut_70 rfl ?_
            obtain rfl := Option.some.inj hT11
            exact zr_wk2 hJ12 ⟨rfl, ⟨rfl, trivial⟩⟩
          · replace hT11 := z_im hT11 hc14
            refine zr_iload_n (i := 2) d_9_comesOut_73 rfl rfl ?_
            refine zr_bipush (v := (10 : Int32)) d_9_comesOut_74 rfl ?_
            refine zr_icmp_ne (tgt := 83) d_9_comesOut_76 rfl (fun hc15 => ?_) (fun hc15 => ?_)
            · replace hT11 := z_ip hT11 hc15
              refine zr_iconst (v := (4 : Int32)) d_9_comesOut_79 rfl ?_
              refine zr_goto (tgt := 84) d_9_comesOut_80 rfl ?_
              obtain rfl := Option.some.inj hT11
              exact zr_wk2 hJ12 ⟨rfl, ⟨rfl, trivial⟩⟩
            · replace hT11 := z_im hT11 hc15
              refine zr_iconst (v := (5 : Int32)) d_9_comesOut_83 rfl ?_
              obtain rfl := Option.some.inj hT11
              exact zr_wk2 hJ12 ⟨rfl, ⟨rfl, trivial⟩⟩
      · replace h := z_im h hc8
        refine zr_iload_n (i := 2) d_9_comesOut_29 rfl rfl ?_
        refine zr_bipush (v := (8 : Int32)) d_9_comesOut_30 rfl ?_
        refine zr_icmp_eq (tgt := 41) d_9_comesOut_32 rfl (fun hc19 => ?_) (fun hc19 => ?_)
        · replace h := z_ip h hc19
          obtain rfl := Option.some.inj h
          obtain ⟨rfl, rfl⟩ := hR xm2 rfl
          exact ze_v d_9_comesOut_41 rfl
        · replace h := z_im h hc19
          refine zr_iload_n (i := 2) d_9_comesOut_35 rfl rfl ?_
          refine zr_bipush (v := (9 : Int32)) d_9_comesOut_36 rfl ?_
          refine zr_icmp_ne (tgt := 42) d_9_comesOut_38 rfl (fun hc20 => ?_) (fun hc20 => ?_)
          · replace h := z_ip h hc20
            obtain rfl := Option.some.inj h
            obtain ⟨rfl, rfl⟩ := hR xm2 rfl
            exact ze_v d_9_comesOut_41 rfl
          · replace h := z_im h hc20
            refine zr_aload_n (i := 0) d_9_comesOut_42 rfl rfl ?_
            refine zr_dupa d_9_comesOut_43 ?_
            refine zr_geti d_9_comesOut_44 fw_9_295 (by decide) ?_
            refine zr_iconst (v := (1 : Int32)) d_9_comesOut_47 rfl ?_
            refine zr_isub d_9_comesOut_48 ?_
            obtain ⟨m21, hm22, h⟩ := z_lt h
            refine zr_puti d_9_comesOut_49 fw_9_295 pw_9_44 hm22 ?_
            refine zr_aload_n (i := 0) d_9_comesOut_52 rfl rfl ?_
            refine zr_iload_n (i := 2) d_9_comesOut_53 rfl rfl ?_
            refine zr_bipush (v := (8 : Int32)) d_9_comesOut_54 rfl ?_
            obtain ⟨j28, hT23, h⟩ := z_bd h
            have hJ24 : z_RQ P M_9_comesOut (z_rm 2) (z_mq P ro μo) 0 0 84 [some (zA 9 0), some (zI a1), none] [zI j28, zA 9 0] m21 := by
              refine zr_iconst (v := (0 : Int32)) d_9_comesOut_84 rfl ?_
              obtain ⟨qm29, hq30, h⟩ := z_bd h
              refine zr_callVv (av := [zI j28, zI (0 : Int32)]) (st := []) d_9_comesOut_85 mw_9_emit ml_9_298 im_9_emit se_9_emit rfl rfl (Nat.le_of_ble_eq_true rfl) fit_1_3_2 rfl rfl rfl (s9_emit hq30) ?_
              refine zr_goto (tgt := 0) d_9_comesOut_88 rfl ?_
              obtain rfl := Option.some.inj h
              exact zr_wk2 (hI qm29 rfl) ⟨rfl, ⟨rfl, trivial⟩⟩
            refine zr_icmp_ne (tgt := 63) d_9_comesOut_56 rfl (fun hc25 => ?_) (fun hc25 => ?_)
            · replace hT23 := z_ip hT23 hc25
              refine zr_iconst (v := (2 : Int32)) d_9_comesOut_59 rfl ?_
              refine zr_goto (tgt := 84) d_9_comesOut_60 rfl ?_
              obtain rfl := Option.some.inj hT23
              exact zr_wk2 hJ24 ⟨rfl, ⟨rfl, trivial⟩⟩
            · replace hT23 := z_im hT23 hc25
              refine zr_iload_n (i := 2) d_9_comesOut_63 rfl rfl ?_
              refine zr_bipush (v := (9 : Int32)) d_9_comesOut_64 rfl ?_
              refine zr_icmp_ne (tgt := 73) d_9_comesOut_66 rfl (fun hc26 => ?_) (fun hc26 => ?_)
              · replace hT23 := z_ip hT23 hc26
                refine zr_iconst (v := (3 : Int32)) d_9_comesOut_69 rfl ?_
                refine zr_goto (tgt := 84) d_9_comesOut_70 rfl ?_
                obtain rfl := Option.some.inj hT23
                exact zr_wk2 hJ24 ⟨rfl, ⟨rfl, trivial⟩⟩
              · replace hT23 := z_im hT23 hc26
                refine zr_iload_n (i := 2) d_9_comesOut_73 rfl rfl ?_
                refine zr_bipush (v := (10 : Int32)) d_9_comesOut_74 rfl ?_
                refine zr_icmp_ne (tgt := 83) d_9_comesOut_76 rfl (fun hc27 => ?_) (fun hc27 => ?_)
                · replace hT23 := z_ip hT23 hc27
                  refine zr_iconst (v := (4 : Int32)) d_9_comesOut_79 rfl ?_
                  refine zr_goto (tgt := 84) d_9_comesOut_80 rfl ?_
                  obtain rfl := Option.some.inj hT23
                  exact zr_wk2 hJ24 ⟨rfl, ⟨rfl, trivial⟩⟩
                · replace hT23 := z_im hT23 hc27
                  refine zr_iconst (v := (5 : Int32)) d_9_comesOut_83 rfl ?_
                  obtain rfl := Option.some.inj hT23
                  exact zr_wk2 hJ24 ⟨rfl, ⟨rfl, trivial⟩⟩
  · replace h := z_im h hc3
    obtain rfl := Option.some.inj h
    exact zr_wk2 (hE xm2 rfl) trivial
theorem s9_comesOut {P : zP} {μ : zMem} {a1 : Int32} {μ' : zMem} (h : f9_comesOut a1 μ = some μ') : z_Sp P y_9_comesOut M_9_comesOut 2 [zA 9 0, zI a1] μ none μ' := by
  refine z_Sp.of (plainFor_of_name (by decide)) rfl (l0 := [some (zA 9 0), some (zI a1), none]) rfl (Nat.le_of_ble_eq_true rfl) ?_
  unfold f9_comesOut at h
  rcases z_bs h with ⟨e31, hl32, h⟩ | ⟨qr33, hl32, h⟩
  · refine zr_wk (l' := [some (zA 9 0), some (zI a1), none]) ⟨rfl, ⟨rfl, trivial⟩⟩ ?_
    refine z_loop (Hd := (fun y0 => z_RQ P M_9_comesOut (z_rm 2) (z_mq P none μ') 0 0 0 [some (zA 9 0), some (zI a1), none] [] y0)) (Ex := (Sum.elim (fun z0 => z_RQ P M_9_comesOut (z_rm 2) (z_mq P none μ') 0 0 91 [none, none, none] [] z0) (fun qm => none = none ∧ μ' = qm))) (fun xm2 K h hI hE => s9_comesOut_L1 a1 xm2 K h (fun y0 e => hI y0 e) (fun z0 e => hE (.inl z0) e) (fun qm e => hE (.inr qm) e)) _ _ _ hl32 ?_
    obtain rfl := Option.some.inj h
    exact ze_v d_9_comesOut_91 rfl
  · refine zr_wk (l' := [some (zA 9 0), some (zI a1), none]) ⟨rfl, ⟨rfl, trivial⟩⟩ ?_
    refine z_loop (Hd := (fun y0 => z_RQ P M_9_comesOut (z_rm 2) (z_mq P none μ') 0 0 0 [some (zA 9 0), some (zI a1), none] [] y0)) (Ex := (Sum.elim (fun z0 => z_RQ P M_9_comesOut (z_rm 2) (z_mq P none μ') 0 0 91 [none, none, none] [] z0) (fun qm => none = none ∧ μ' = qm))) (fun xm2 K h hI hE => s9_comesOut_L1 a1 xm2 K h (fun y0 e => hI y0 e) (fun z0 e => hE (.inl z0) e) (fun qm e => hE (.inr qm) e)) _ _ _ hl32 ?_
    obtain rfl := Option.some.inj h
    exact ⟨rfl, rfl⟩
def f9_expression_L8  : (zMem) → Option ((zMem) ⊕ (zMem)) := (fun xm9 => 
  (f9_is (6 : Int32) xm9).bind (fun q10 => (if q10 = 0 then some (.inr xm9) else ((if (xm9.1 9 0 12) = (6 : Int32) then (f9_fail (2 : Int32) xm9).bind (fun qm16 => some qm16) else some xm9) : Option (zMem)).bind (fun jm18 => z_let (z_sI jm18 9 0 12 ((jm18.1 9 0 12) + (1 : Int32))) fun m19 => (f9_goesOn m19).bind (fun qm21 => if z_in (qm21.1 9 0 44) 64 = true then z_let (z_sI qm21 143 0 (qm21.1 9 0 44).toNatClampNeg (6 : Int32)) fun m23 => z_let (z_sI m23 9 0 44 ((m23.1 9 0 44) + (1 : Int32))) fun m26 => some (.inl m26) else none)))))
def f9_expression_L33 (m1 : zMem) : (zMem) → Option ((zMem) ⊕ (zMem)) := (fun xm34 => 
  (f9_is (7 : Int32) xm34).bind (fun q35 => (if q35 = 0 then some (.inr xm34) else (if (m1.1 9 0 12) < (xm34.1 9 0 12) then (f9_comesOut (0 : Int32) xm34).bind (fun qm39 => z_let (z_sI qm39 9 0 44 ((qm39.1 9 0 44) - (1 : Int32))) fun m41 => z_let (z_sI m41 9 0 12 ((m41.1 9 0 12) - (1 : Int32))) fun m43 => (f9_goesOn m43).bind (fun qm45 => some (.inl qm45))) else some (.inr xm34)))))
def f9_expression_L3 (m1 : zMem) : (Int32 × zMem) → Option ((Int32 × zMem) ⊕ ((zMem) ⊕ (zMem))) := (z_u2 fun x4 xm5 => 
  (if x4 = 0 then some (.inr (.inl xm5)) else (if (xm5.1 9 0 13) = 0 then (z_it (f9_expression_L8) z_fu xm5).bind (fun e28 => (f9_unit e28).bind (fun qm30 => (if 0 < (qm30.1 9 0 13) then some (.inr (.inr qm30)) else (z_it (f9_expression_L33 m1) z_fu qm30).bind (fun e47 => (f9_is (8 : Int32) e47).bind (fun q49 => ((if q49 = 0 then (f9_is (9 : Int32) e47).bind (fun q54 => (if q54 = 0 then (f9_is (10 : Int32) e47).bind (fun q57 => (if q57 = 0 then (f9_is (15 : Int32) e47).bind (fun q60 => (if q60 = 0 then some (0 : Int32) else some (1 : Int32))) else some (1 : Int32))) else some (1 : Int32))) else some (1 : Int32)) : Option (Int32)).bind (fun j63 => (if j63 = 0 then ((if (m1.1 9 0 12) < (e47.1 9 0 12) then (f9_fail (1 : Int32) e47).bind (fun qm68 => some qm68) else some e47) : Option (zMem)).bind (fun jm70 => (f9_comesOut (0 : Int32) jm70).bind (fun qm71 => some (.inr (.inr qm71)))) else (f9_is (10 : Int32) e47).bind (fun q73 => ((if q73 = 0 then (f9_is (15 : Int32) e47).bind (fun q78 => (if q78 = 0 then some (0 : Int32) else some (1 : Int32))) else some (1 : Int32)) : Option (Int32)).bind (fun j81 => (f9_comesOut j81 e47).bind (fun qm82 => if z_in (qm82.1 9 0 11) 403 = true then if z_in (qm82.1 9 0 44) 64 = true then z_let (z_sI qm82 143 0 (qm82.1 9 0 44).toNatClampNeg (qm82.1 105 0 (qm82.1 9 0 11).toNatClampNeg)) fun m85 => z_let (z_sI m85 9 0 44 ((m85.1 9 0 44) + (1 : Int32))) fun m88 => (f9_goesOn m88).bind (fun qm90 => some (.inl (j63, qm90))) else none else none)))))))))) else some (.inr (.inl xm5)))))
def f9_expression  (μ : zMem) : Option (zMem) :=
  z_let (z_sI μ 9 0 44 (0 : Int32)) fun m1 => (z_it (f9_expression_L3 m1) z_fu ((1 : Int32), m1)).bind (Sum.elim (fun e92 => some e92) (fun qr94 => some qr94))
theorem s9_expression_L8 {P : zP} {ro : Option zV} {μo : zMem} (m1 : zMem) (xm9 : zMem) (K : (zMem) ⊕ (zMem)) (h : f9_expression_L8  xm9 = some K) (hI : ∀ (y0 : zMem), K = .inl y0 → z_RQ P M_9_expression (z_rm 4) (z_mq P ro μo) 0 0 23 [some (zA 9 0), some (zI (m1.1 9 0 12)), none] [] y0) (hE : ∀ (z0 : zMem), K = .inr z0 → z_RQ P M_9_expression (z_rm 4) (z_mq P ro μo) 0 0 84 [some (zA 9 0), some (zI (m1.1 9 0 12)), none] [] z0)  : z_RQ P M_9_expression (z_rm 4) (z_mq P ro μo) 0 0 23 [some (zA 9 0), some (zI (m1.1 9 0 12)), none] [] xm9 := by
  unfold f9_expression_L8 at h
  refine zr_aload_n (i := 0) d_9_expression_23 rfl rfl ?_
  refine zr_bipush (v := (6 : Int32)) d_9_expression_24 rfl ?_
  obtain ⟨q10, hq11, h⟩ := z_bd h
  refine zr_callVi (av := [zI (6 : Int32)]) (st := []) d_9_expression_26 mw_9_is ml_9_221 im_9_is se_9_is rfl rfl (Nat.le_of_ble_eq_true rfl) fit_1_2_4 rfl rfl rfl (s9_is hq11) ?_
  refine zr_if_eq (tgt := 84) d_9_expression_29 rfl (fun hc12 => ?_) (fun hc12 => ?_)
  · replace h := z_ip h hc12
    obtain rfl := Option.some.inj h
    exact zr_wk2 (hE xm9 rfl) ⟨rfl, ⟨rfl, trivial⟩⟩
  · replace h := z_im h hc12
    refine zr_aload_n (i := 0) d_9_expression_32 rfl rfl ?_
    refine zr_geti d_9_expression_33 fw_9_230 (by decide) ?_
    refine zr_bipush (v := (6 : Int32)) d_9_expression_36 rfl ?_
    obtain ⟨jm18, hT13, h⟩ := z_bd h
    have hJ14 : z_RQ P M_9_expression (z_rm 4) (z_mq P ro μo) 0 0 46 [some (zA 9 0), some (zI (m1.1 9 0 12)), none] [] jm18 := by
      refine zr_aload_n (i := 0) d_9_expression_46 rfl rfl ?_
      refine zr_dupa d_9_expression_47 ?_
      refine zr_geti d_9_expression_48 fw_9_230 (by decide) ?_
      refine zr_iconst (v := (1 : Int32)) d_9_expression_51 rfl ?_
      refine zr_iadd d_9_expression_52 ?_
      obtain ⟨m19, hm20, h⟩ := z_lt h
      refine zr_puti d_9_expression_53 fw_9_230 pw_9_12 hm20 ?_
      refine zr_aload_n (i := 0) d_9_expression_56 rfl rfl ?_
      obtain ⟨qm21, hq22, h⟩ := z_bd h
      refine zr_callVv (av := []) (st := []) d_9_expression_57 mw_9_goesOn ml_9_224 im_9_goesOn se_9_goesOn rfl rfl (Nat.le_of_ble_eq_true rfl) fit_2_1_4 rfl rfl rfl (s9_goesOn hq22) ?_
      refine zr_aload_n (i := 0) d_9_expression_60 rfl rfl ?_
      refine zr_gets (i' := 0) d_9_expression_61 fw_9_101 rfl ?_
      refine zr_aload_n (i := 0) d_9_expression_64 rfl rfl ?_
      refine zr_geti d_9_expression_65 fw_9_295 (by decide) ?_
      refine zr_bipush (v := (6 : Int32)) d_9_expression_68 rfl ?_
      obtain ⟨hb25, h⟩ := z_gd h
      obtain ⟨m23, hm24, h⟩ := z_lt h
      refine zr_iast d_9_expression_70 sa_143 rfl hb25 hm24 ?_
      refine zr_aload_n (i := 0) d_9_expression_71 rfl rfl ?_
      refine zr_dupa d_9_expression_72 ?_
      refine zr_geti d_9_expression_73 fw_9_295 (by decide) ?_
      refine zr_iconst (v := (1 : Int32)) d_9_expression_76 rfl ?_
      refine zr_iadd d_9_expression_77 ?_
      obtain ⟨m26, hm27, h⟩ := z_lt h
      refine zr_puti d_9_expression_78 fw_9_295 pw_9_44 hm27 ?_
      refine zr_goto (tgt := 23) d_9_expression_81 rfl ?_
      obtain rfl := Option.some.inj h
      exact zr_wk2 (hI m26 rfl) ⟨rfl, ⟨rfl, trivial⟩⟩
    refine zr_icmp_ne (tgt := 46) d_9_expression_38 rfl (fun hc15 => ?_) (fun hc15 => ?_)
    · replace hT13 := z_ip hT13 hc15
      refine zr_aload_n (i := 0) d_9_expression_41 rfl rfl ?_
      refine zr_iconst (v := (2 : Int32)) d_9_expression_42 rfl ?_
      obtain ⟨qm16, hq17, hT13⟩ := z_bd hT13
      refine zr_callVv (av := [zI (2 : Int32)]) (st := []) d_9_expression_43 mw_9_fail ml_9_218 im_9_fail se_9_fail rfl rfl (Nat.le_of_ble_eq_true rfl) fit_1_2_4 rfl rfl rfl (s9_fail hq17) ?_
      obtain rfl := Option.some.inj hT13
      exact zr_wk2 hJ14 ⟨rfl, ⟨rfl, trivial⟩⟩
    · replace hT13 := z_im hT13 hc15
      obtain rfl := Option.some.inj hT13
      exact zr_wk2 hJ14 ⟨rfl, ⟨rfl, trivial⟩⟩
theorem s9_expression_L33 {P : zP} {ro : Option zV} {μo : zMem} (m1 : zMem) (xm34 : zMem) (K : (zMem) ⊕ (zMem)) (h : f9_expression_L33 m1 xm34 = some K) (hI : ∀ (y0 : zMem), K = .inl y0 → z_RQ P M_9_expression (z_rm 4) (z_mq P ro μo) 0 0 96 [some (zA 9 0), some (zI (m1.1 9 0 12)), none] [] y0) (hE : ∀ (z0 : zMem), K = .inr z0 → z_RQ P M_9_expression (z_rm 4) (z_mq P ro μo) 0 0 145 [some (zA 9 0), some (zI (m1.1 9 0 12)), none] [] z0)  : z_RQ P M_9_expression (z_rm 4) (z_mq P ro μo) 0 0 96 [some (zA 9 0), some (zI (m1.1 9 0 12)), none] [] xm34 := by
  unfold f9_expression_L33 at h
  refine zr_aload_n (i := 0) d_9_expression_96 rfl rfl ?_
  refine zr_bipush (v := (7 : Int32)) d_9_expression_97 rfl ?_
  obtain ⟨q35, hq36, h⟩ := z_bd h
  refine zr_callVi (av := [zI (7 : Int32)]) (st := []) d_9_expression_99 mw_9_is ml_9_221 im_9_is se_9_is rfl rfl (Nat.le_of_ble_eq_true rfl) fit_1_2_4 rfl rfl rfl (s9_is hq36) ?_
  refine zr_if_eq (tgt := 145) d_9_expression_102 rfl (fun hc37 => ?_) (fun hc37 => ?_)
  · replace h := z_ip h hc37
    obtain rfl := Option.some.inj h
    exact zr_wk2 (hE xm34 rfl) ⟨rfl, ⟨rfl, trivial⟩⟩
  · replace h := z_im h hc37
    refine zr_aload_n (i := 0) d_9_expression_105 rfl rfl ?_
    refine zr_geti d_9_expression_106 fw_9_230 (by decide) ?_
    refine zr_iload_n (i := 1) d_9_expression_109 rfl rfl ?_
    refine zr_icmp_le (tgt := 145) d_9_expression_110 rfl (fun hc38 => ?_) (fun hc38 => ?_)
    · replace h := z_ip h hc38
      refine zr_aload_n (i := 0) d_9_expression_113 rfl rfl ?_
      refine zr_iconst (v := (0 : Int32)) d_9_expression_114 rfl ?_
      obtain ⟨qm39, hq40, h⟩ := z_bd h
      refine zr_callVv (av := [zI (0 : Int32)]) (st := []) d_9_expression_115 mw_9_comesOut ml_9_304 im_9_comesOut se_9_comesOut rfl rfl (Nat.le_of_ble_eq_true rfl) fit_2_3_4 rfl rfl rfl (s9_comesOut hq40) ?_
      refine zr_aload_n (i := 0) d_9_expression_118 rfl rfl ?_
      refine zr_dupa d_9_expression_119 ?_
      refine zr_geti d_9_expression_120 fw_9_295 (by decide) ?_
      refine zr_iconst (v := (1 : Int32)) d_9_expression_123 rfl ?_
      refine zr_isub d_9_expression_124 ?_
      obtain ⟨m41, hm42, h⟩ := z_lt h
      refine zr_puti d_9_expression_125 fw_9_295 pw_9_44 hm42 ?_
      refine zr_aload_n (i := 0) d_9_expression_128 rfl rfl ?_
      refine zr_dupa d_9_expression_129 ?_
      refine zr_geti d_9_expression_130 fw_9_230 (by decide) ?_
      refine zr_iconst (v := (1 : Int32)) d_9_expression_133 rfl ?_
      refine zr_isub d_9_expression_134 ?_
      obtain ⟨m43, hm44, h⟩ := z_lt h
      refine zr_puti d_9_expression_135 fw_9_230 pw_9_12 hm44 ?_
      refine zr_aload_n (i := 0) d_9_expression_138 rfl rfl ?_
      obtain ⟨qm45, hq46, h⟩ := z_bd h
      refine zr_callVv (av := []) (st := []) d_9_expression_139 mw_9_goesOn ml_9_224 im_9_goesOn se_9_goesOn rfl rfl (Nat.le_of_ble_eq_true rfl) fit_2_1_4 rfl rfl rfl (s9_goesOn hq46) ?_
      refine zr_goto (tgt := 96) d_9_expression_142 rfl ?_
      obtain rfl := Option.some.inj h
      exact zr_wk2 (hI qm45 rfl) ⟨rfl, ⟨rfl, trivial⟩⟩
    · replace h := z_im h hc38
      obtain rfl := Option.some.inj h
      exact zr_wk2 (hE xm34 rfl) ⟨rfl, ⟨rfl, trivial⟩⟩
theorem s9_expression_L3 {P : zP} {ro : Option zV} {μo : zMem} (m1 : zMem) (x4 : Int32) (xm5 : zMem) (K : (Int32 × zMem) ⊕ ((zMem) ⊕ (zMem))) (h : f9_expression_L3 m1 (x4, xm5) = some K) (hI : ∀ (y0 : Int32) (y1 : zMem), K = .inl (y0, y1) → z_RQ P M_9_expression (z_rm 4) (z_mq P ro μo) 0 0 12 [some (zA 9 0), some (zI (m1.1 9 0 12)), some (zI y0)] [] y1) (hE : ∀ (z0 : zMem), K = .inr (.inl z0) → z_RQ P M_9_expression (z_rm 4) (z_mq P ro μo) 0 0 272 [none, none, none] [] z0) (hR : ∀ (qm : zMem), K = .inr (.inr qm) → ro = none ∧ μo = qm) : z_RQ P M_9_expression (z_rm 4) (z_mq P ro μo) 0 0 12 [some (zA 9 0), some (zI (m1.1 9 0 12)), some (zI x4)] [] xm5 := by
  unfold f9_expression_L3 at h
  replace h := z_h2 h
  refine zr_iload_n (i := 2) d_9_expression_12 rfl rfl ?_
  refine zr_if_eq (tgt := 272) d_9_expression_13 rfl (fun hc6 => ?_) (fun hc6 => ?_)
  · replace h := z_ip h hc6
    obtain rfl := Option.some.inj h
    exact zr_wk2 (hE xm5 rfl) trivial
  · replace h := z_im h hc6
    refine zr_aload_n (i := 0) d_9_expression_16 rfl rfl ?_
    refine zr_geti d_9_expression_17 fw_9_203 (by decide) ?_
    refine zr_if_ne (tgt := 272) d_9_expression_20 rfl (fun hc7 => ?_) (fun hc7 => ?_)
    · replace h := z_ip h hc7
      obtain ⟨e28, hl29, h⟩ := z_bd h
      refine zr_wk (l' := [some (zA 9 0), some (zI (m1.1 9 0 12)), none]) ⟨rfl, ⟨rfl, trivial⟩⟩ ?_
      refine z_loop (Hd := (fun y0 => z_RQ P M_9_expression (z_rm 4) (z_mq P ro μo) 0 0 23 [some (zA 9 0), some (zI (m1.1 9 0 12)), none] [] y0)) (Ex := (fun z0 => z_RQ P M_9_expression (z_rm 4) (z_mq P ro μo) 0 0 84 [some (zA 9 0), some (zI (m1.1 9 0 12)), none] [] z0)) (fun xm9 K h hI hE => s9_expression_L8 m1 xm9 K h (fun y0 e => hI y0 e) (fun z0 e => hE z0 e) ) _ _ _ hl29 ?_
      refine zr_aload_n (i := 0) d_9_expression_84 rfl rfl ?_
      obtain ⟨qm30, hq31, h⟩ := z_bd h
      refine zr_callVv (av := []) (st := []) d_9_expression_85 mw_9_unit ml_9_301 im_9_unit se_9_unit rfl rfl (Nat.le_of_ble_eq_true rfl) fit_3_1_4 rfl rfl rfl (s9_unit hq31) ?_
      refine zr_aload_n (i := 0) d_9_expression_88 rfl rfl ?_
      refine zr_geti d_9_expression_89 fw_9_203 (by decide) ?_
      refine zr_if_le (tgt := 96) d_9_expression_92 rfl (fun hc32 => ?_) (fun hc32 => ?_)
      · replace h := z_ip h hc32
        obtain rfl := Option.some.inj h
        obtain ⟨rfl, rfl⟩ := hR qm30 rfl
        exact ze_v d_9_expression_95 rfl
      · replace h := z_im h hc32
        obtain ⟨e47, hl48, h⟩ := z_bd h
        refine zr_wk (l' := [some (zA 9 0), some (zI (m1.1 9 0 12)), none]) ⟨rfl, ⟨rfl, trivial⟩⟩ ?_
        refine z_loop (Hd := (fun y0 => z_RQ P M_9_expression (z_rm 4) (z_mq P ro μo) 0 0 96 [some (zA 9 0), some (zI (m1.1 9 0 12)), none] [] y0)) (Ex := (fun z0 => z_RQ P M_9_expression (z_rm 4) (z_mq P ro μo) 0 0 145 [some (zA 9 0), some (zI (m1.1 9 0 12)), none] [] z0)) (fun xm34 K h hI hE => s9_expression_L33 m1 xm34 K h (fun y0 e => hI y0 e) (fun z0 e => hE z0 e) ) _ _ _ hl48 ?_
        refine zr_aload_n (i := 0) d_9_expression_145 rfl rfl ?_
        refine zr_bipush (v := (8 : Int32)) d_9_expression_146 rfl ?_
        obtain ⟨q49, hq50, h⟩ := z_bd h
        refine zr_callVi (av := [zI (8 : Int32)]) (st := []) d_9_expression_148 mw_9_is ml_9_221 im_9_is se_9_is rfl rfl (Nat.le_of_ble_eq_true rfl) fit_1_2_4 rfl rfl rfl (s9_is hq50) ?_
        obtain ⟨j63, hT51, h⟩ := z_bd h
        have hJ52 : z_RQ P M_9_expression (z_rm 4) (z_mq P ro μo) 0 0 186 [some (zA 9 0), some (zI (m1.1 9 0 12)), none] [zI j63] e47 := by
          refine zr_istore_n (i := 2) (l' := [some (zA 9 0), some (zI (m1.1 9 0 12)), some (zI j63)]) d_9_expression_186 rfl (by decide) rfl ?_
          refine zr_iload_n (i := 2) d_9_expression_187 rfl rfl ?_
          refine zr_if_ne (tgt := 210) d_9_expression_188 rfl (fun hc64 => ?_) (fun hc64 => ?_)
          · replace h := z_ip h hc64
            refine zr_aload_n (i := 0) d_9_expression_191 rfl rfl ?_
            refine zr_geti d_9_expression_192 fw_9_230 (by decide) ?_
            refine zr_iload_n (i := 1) d_9_expression_195 rfl rfl ?_
            obtain ⟨jm70, hT65, h⟩ := z_bd h
            have hJ66 : z_RQ P M_9_expression (z_rm 4) (z_mq P ro μo) 0 0 204 [some (zA 9 0), none, none] [] jm70 := by
              refine zr_aload_n (i := 0) d_9_expression_204 rfl rfl ?_
              refine zr_iconst (v := (0 : Int32)) d_9_expression_205 rfl ?_
              obtain ⟨qm71, hq72, h⟩ := z_bd h
              refine zr_callVv (av := [zI (0 : Int32)]) (st := []) d_9_expression_206 mw_9_comesOut ml_9_304 im_9_comesOut se_9_comesOut rfl rfl (Nat.le_of_ble_eq_true rfl) fit_2_3_4 rfl rfl rfl (s9_comesOut hq72) ?_
              obtain rfl := Option.some.inj h
              obtain ⟨rfl, rfl⟩ := hR qm71 rfl
              exact ze_v d_9_expression_209 rfl
            refine zr_icmp_le (tgt := 204) d_9_expression_196 rfl (fun hc67 => ?_) (fun hc67 => ?_)
            · replace hT65 := z_ip hT65 hc67
              refine zr_aload_n (i := 0) d_9_expression_199 rfl rfl ?_
              refine zr_iconst (v := (1 : Int32)) d_9_expression_200 rfl ?_
              obtain ⟨qm68, hq69, hT65⟩ := z_bd hT65
              refine zr_callVv (av := [zI (1 : Int32)]) (st := []) d_9_expression_201 mw_9_fail ml_9_218 im_9_fail se_9_fail rfl rfl (Nat.le_of_ble_eq_true rfl) fit_1_2_4 rfl rfl rfl (s9_fail hq69) ?_
              obtain rfl := Option.some.inj hT65
              exact zr_wk2 hJ66 ⟨rfl, trivial⟩
            · replace hT65 := z_im hT65 hc67
              obtain rfl := Option.some.inj hT65
              exact zr_wk2 hJ66 ⟨rfl, trivial⟩
          · replace h := z_im h hc64
            refine zr_aload_n (i := 0) d_9_expression_210 rfl rfl ?_
            refine zr_aload_n (i := 0) d_9_expression_211 rfl rfl ?_
            refine zr_bipush (v := (10 : Int32)) d_9_expression_212 rfl ?_
            obtain ⟨q73, hq74, h⟩ := z_bd h
            refine zr_callVi (av := [zI (10 : Int32)]) (st := [zA 9 0]) d_9_expression_214 mw_9_is ml_9_221 im_9_is se_9_is rfl rfl (Nat.le_of_ble_eq_true rfl) fit_1_2_4 rfl rfl rfl (s9_is hq74) ?_
            obtain ⟨j81, hT75, h⟩ := z_bd h
            have hJ76 : z_RQ P M_9_expression (z_rm 4) (z_mq P ro μo) 0 0 234 [some (zA 9 0), some (zI (m1.1 9 0 12)), some (zI j63)] [zI j81, zA 9 0] e47 := by
              obtain ⟨qm82, hq83, h⟩ := z_bd h
              refine zr_callVv (av := [zI j81]) (st := []) d_9_expression_234 mw_9_comesOut ml_9_304 im_9_comesOut se_9_comesOut rfl rfl (Nat.le_of_ble_eq_true rfl) fit_2_3_4 rfl rfl rfl (s9_comesOut hq83) ?_
              refine zr_aload_n (i := 0) d_9_expression_237 rfl rfl ?_
              refine zr_gets (i' := 0) d_9_expression_238 fw_9_101 rfl ?_
              refine zr_aload_n (i := 0) d_9_expression_241 rfl rfl ?_
              refine zr_geti d_9_expression_242 fw_9_295 (by decide) ?_
              refine zr_aload_n (i := 0) d_9_expression_245 rfl rfl ?_
              refine zr_gets (i' := 0) d_9_expression_246 fw_9_20 rfl ?_
              refine zr_aload_n (i := 0) d_9_expression_249 rfl rfl ?_
              refine zr_geti d_9_expression_250 fw_9_206 (by decide) ?_
              obtain ⟨hb84, h⟩ := z_gd h
              refine zr_iald d_9_expression_253 sa_105 rfl hb84 ?_
              obtain ⟨hb87, h⟩ := z_gd h
              obtain ⟨m85, hm86, h⟩ := z_lt h
              refine zr_iast d_9_expression_254 sa_143 rfl hb87 hm86 ?_
              refine zr_aload_n (i := 0) d_9_expression_255 rfl rfl ?_
              refine zr_dupa d_9_expression_256 ?_
              refine zr_geti d_9_expression_257 fw_9_295 (by decide) ?_
              refine zr_iconst (v := (1 : Int32)) d_9_expression_260 rfl ?_
              refine zr_iadd d_9_expression_261 ?_
              obtain ⟨m88, hm89, h⟩ := z_lt h
              refine zr_puti d_9_expression_262 fw_9_295 pw_9_44 hm89 ?_
              refine zr_aload_n (i := 0) d_9_expression_265 rfl rfl ?_
              obtain ⟨qm90, hq91, h⟩ := z_bd h
              refine zr_callVv (av := []) (st := []) d_9_expression_266 mw_9_goesOn ml_9_224 im_9_goesOn se_9_goesOn rfl rfl (Nat.le_of_ble_eq_true rfl) fit_2_1_4 rfl rfl rfl (s9_goesOn hq91) ?_
              refine zr_goto (tgt := 12) d_9_expression_269 rfl ?_
              obtain rfl := Option.some.inj h
              exact zr_wk2 (hI j63 qm90 rfl) ⟨rfl, ⟨rfl, ⟨rfl, trivial⟩⟩⟩
            refine zr_if_ne (tgt := 229) d_9_expression_217 rfl (fun hc77 => ?_) (fun hc77 => ?_)
            · replace hT75 := z_ip hT75 hc77
              refine zr_aload_n (i := 0) d_9_expression_220 rfl rfl ?_
              refine zr_bipush (v := (15 : Int32)) d_9_expression_221 rfl ?_
              obtain ⟨q78, hq79, hT75⟩ := z_bd hT75
              refine zr_callVi (av := [zI (15 : Int32)]) (st := [zA 9 0]) d_9_expression_223 mw_9_is ml_9_221 im_9_is se_9_is rfl rfl (Nat.le_of_ble_eq_true rfl) fit_1_2_4 rfl rfl rfl (s9_is hq79) ?_
              refine zr_if_eq (tgt := 233) d_9_expression_226 rfl (fun hc80 => ?_) (fun hc80 => ?_)
              · replace hT75 := z_ip hT75 hc80
                refine zr_iconst (v := (0 : Int32)) d_9_expression_233 rfl ?_
                obtain rfl := Option.some.inj hT75
                exact zr_wk2 hJ76 ⟨rfl, ⟨rfl, ⟨rfl, trivial⟩⟩⟩
              · replace hT75 := z_im hT75 hc80
                refine zr_iconst (v := (1 : Int32)) d_9_expression_229 rfl ?_
                refine zr_goto (tgt := 234) d_9_expression_230 rfl ?_
                obtain rfl := Option.some.inj hT75
                exact zr_wk2 hJ76 ⟨rfl, ⟨rfl, ⟨rfl, trivial⟩⟩⟩
            · replace hT75 := z_im hT75 hc77
              refine zr_iconst (v := (1 : Int32)) d_9_expression_229 rfl ?_
              refine zr_goto (tgt := 234) d_9_expression_230 rfl ?_
              obtain rfl := Option.some.inj hT75
              exact zr_wk2 hJ76 ⟨rfl, ⟨rfl, ⟨rfl, trivial⟩⟩⟩
        refine zr_if_ne (tgt := 181) d_9_expression_151 rfl (fun hc53 => ?_) (fun hc53 => ?_)
        · replace hT51 := z_ip hT51 hc53
          refine zr_aload_n (i := 0) d_9_expression_154 rfl rfl ?_
          refine zr_bipush (v := (9 : Int32)) d_9_expression_155 rfl ?_
          obtain ⟨q54, hq55, hT51⟩ := z_bd hT51
          refine zr_callVi (av := [zI (9 : Int32)]) (st := []) d_9_expression_157 mw_9_is ml_9_221 im_9_is se_9_is rfl rfl (Nat.le_of_ble_eq_true rfl) fit_1_2_4 rfl rfl rfl (s9_is hq55) ?_
          refine zr_if_ne (tgt := 181) d_9_expression_160 rfl (fun hc56 => ?_) (fun hc56 => ?_)
          · replace hT51 := z_ip hT51 hc56
            refine zr_aload_n (i := 0) d_9_expression_163 rfl rfl ?_
            refine zr_bipush (v := (10 : Int32)) d_9_expression_164 rfl ?_
            obtain ⟨q57, hq58, hT51⟩ := z_bd hT51
            refine zr_callVi (av := [zI (10 : Int32)]) (st := []) d_9_expression_166 mw_9_is ml_9_221 im_9_is se_9_is rfl rfl (Nat.le_of_ble_eq_true rfl) fit_1_2_4 rfl rfl rfl (s9_is hq58) ?_
            refine zr_if_ne (tgt := 181) d_9_expression_169 rfl (fun hc59 => ?_) (fun hc59 => ?_)
            · replace hT51 := z_ip hT51 hc59
              refine zr_aload_n (i := 0) d_9_expression_172 rfl rfl ?_
              refine zr_bipush (v := (15 : Int32)) d_9_expression_173 rfl ?_
              obtain ⟨q60, hq61, hT51⟩ := z_bd hT51
              refine zr_callVi (av := [zI (15 : Int32)]) (st := []) d_9_expression_175 mw_9_is ml_9_221 im_9_is se_9_is rfl rfl (Nat.le_of_ble_eq_true rfl) fit_1_2_4 rfl rfl rfl (s9_is hq61) ?_
              refine zr_if_eq (tgt := 185) d_9_expression_178 rfl (fun hc62 => ?_) (fun hc62 => ?_)
              · replace hT51 := z_ip hT51 hc62
                refine zr_iconst (v := (0 : Int32)) d_9_expression_185 rfl ?_
                obtain rfl := Option.some.inj hT51
                exact zr_wk2 hJ52 ⟨rfl, ⟨rfl, trivial⟩⟩
              · replace hT51 := z_im hT51 hc62
                refine zr_iconst (v := (1 : Int32)) d_9_expression_181 rfl ?_
                refine zr_goto (tgt := 186) d_9_expression_182 rfl ?_
                obtain rfl := Option.some.inj hT51
                exact zr_wk2 hJ52 ⟨rfl, ⟨rfl, trivial⟩⟩
            · replace hT51 := z_im hT51 hc59
              refine zr_iconst (v := (1 : Int32)) d_9_expression_181 rfl ?_
              refine zr_goto (tgt := 186) d_9_expression_182 rfl ?_
              obtain rfl := Option.some.inj hT51
              exact zr_wk2 hJ52 ⟨rfl, ⟨rfl, trivial⟩⟩
          · replace hT51 := z_im hT51 hc56
            refine zr_iconst (v := (1 : Int32)) d_9_expression_181 rfl ?_
            refine zr_goto (tgt := 186) d_9_expression_182 rfl ?_
            obtain rfl := Option.some.inj hT51
            exact zr_wk2 hJ52 ⟨rfl, ⟨rfl, trivial⟩⟩
        · replace hT51 := z_im hT51 hc53
          refine zr_iconst (v := (1 : Int32)) d_9_expression_181 rfl ?_
          refine zr_goto (tgt := 186) d_9_expression_182 rfl ?_
          obtain rfl := Option.some.inj hT51
          exact zr_wk2 hJ52 ⟨rfl, ⟨rfl, trivial⟩⟩
    · replace h := z_im h hc7
      obtain rfl := Option.some.inj h
      exact zr_wk2 (hE xm5 rfl) trivial
theorem s9_expression {P : zP} {μ : zMem} {μ' : zMem} (h : f9_expression μ = some μ') : z_Sp P y_9_expression M_9_expression 4 [zA 9 0] μ none μ' := by
  refine z_Sp.of (plainFor_of_name (by decide)) rfl (l0 := [some (zA 9 0), none, none]) rfl (Nat.le_of_ble_eq_true rfl) ?_
  unfold f9_expression at h
  refine zr_aload_n (i := 0) d_9_expression_0 rfl rfl ?_
  refine zr_iconst (v := (0 : Int32)) d_9_expression_1 rfl ?_
  obtain ⟨m1, hm2, h⟩ := z_lt h
  refine zr_puti d_9_expression_2 fw_9_295 pw_9_44 hm2 ?_
  refine zr_aload_n (i := 0) d_9_expression_5 rfl rfl ?_
  refine zr_geti d_9_expression_6 fw_9_230 (by decide) ?_
  refine zr_istore_n (i := 1) (l' := [some (zA 9 0), some (zI (m1.1 9 0 12)), none]) d_9_expression_9 rfl (by decide) rfl ?_
  refine zr_iconst (v := (1 : Int32)) d_9_expression_10 rfl ?_
  refine zr_istore_n (i := 2) (l' := [some (zA 9 0), some (zI (m1.1 9 0 12)), some (zI (1 : Int32))]) d_9_expression_11 rfl (by decide) rfl ?_
  rcases z_bs h with ⟨e92, hl93, h⟩ | ⟨qr94, hl93, h⟩
  · refine zr_wk (l' := [some (zA 9 0), some (zI (m1.1 9 0 12)), some (zI (1 : Int32))]) ⟨rfl, ⟨rfl, ⟨rfl, trivial⟩⟩⟩ ?_
    refine z_loop (Hd := (z_u2 fun y0 y1 => z_RQ P M_9_expression (z_rm 4) (z_mq P none μ') 0 0 12 [some (zA 9 0), some (zI (m1.1 9 0 12)), some (zI y0)] [] y1)) (Ex := (Sum.elim (fun z0 => z_RQ P M_9_expression (z_rm 4) (z_mq P none μ') 0 0 272 [none, none, none] [] z0) (fun qm => none = none ∧ μ' = qm))) (fun ⟨x4, xm5⟩ K h hI hE => s9_expression_L3 m1 x4 xm5 K h (fun y0 y1 e => hI (y0, y1) e) (fun z0 e => hE (.inl z0) e) (fun qm e => hE (.inr qm) e)) _ _ _ hl93 ?_
    obtain rfl := Option.some.inj h
    exact ze_v d_9_expression_272 rfl
  · refine zr_wk (l' := [some (zA 9 0), some (zI (m1.1 9 0 12)), some (zI (1 : Int32))]) ⟨rfl, ⟨rfl, ⟨rfl, trivial⟩⟩⟩ ?_
    refine z_loop (Hd := (z_u2 fun y0 y1 => z_RQ P M_9_expression (z_rm 4) (z_mq P none μ') 0 0 12 [some (zA 9 0), some (zI (m1.1 9 0 12)), some (zI y0)] [] y1)) (Ex := (Sum.elim (fun z0 => z_RQ P M_9_expression (z_rm 4) (z_mq P none μ') 0 0 272 [none, none, none] [] z0) (fun qm => none = none ∧ μ' = qm))) (fun ⟨x4, xm5⟩ K h hI hE => s9_expression_L3 m1 x4 xm5 K h (fun y0 y1 e => hI (y0, y1) e) (fun z0 e => hE (.inl z0) e) (fun qm e => hE (.inr qm) e)) _ _ _ hl93 ?_
    obtain rfl := Option.some.inj h
    exact ⟨rfl, rfl⟩
