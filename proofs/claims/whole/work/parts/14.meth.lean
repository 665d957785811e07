/-! 14.meth.lean.txt -/
def y_9_cut : MethodName := ⟨zR9, "cut", "()V"⟩
abbrev M_9_cut : zM := (zR9, prog_11_method_12_code, 8, (Option.none : Option Jvm.ClassFile.FieldType))
def y_9_is : MethodName := ⟨zR9, "is", "(I)Z"⟩
abbrev M_9_is : zM := (zR9, prog_11_method_14_code, 2, (Option.some Jvm.ClassFile.FieldType.boolean))
def y_9_fail : MethodName := ⟨zR9, "fail", "(I)V"⟩
abbrev M_9_fail : zM := (zR9, prog_11_method_15_code, 2, (Option.none : Option Jvm.ClassFile.FieldType))
def y_9_wrong : MethodName := ⟨zR9, "wrong", "(II)V"⟩
abbrev M_9_wrong : zM := (zR9, prog_11_method_16_code, 4, (Option.none : Option Jvm.ClassFile.FieldType))
def y_9_goesOn : MethodName := ⟨zR9, "goesOn", "()V"⟩
abbrev M_9_goesOn : zM := (zR9, prog_11_method_17_code, 1, (Option.none : Option Jvm.ClassFile.FieldType))
def y_9_must : MethodName := ⟨zR9, "must", "(I)V"⟩
abbrev M_9_must : zM := (zR9, prog_11_method_18_code, 2, (Option.none : Option Jvm.ClassFile.FieldType))
def y_9_roomFor : MethodName := ⟨zR9, "roomFor", "(II)V"⟩
abbrev M_9_roomFor : zM := (zR9, prog_11_method_22_code, 3, (Option.none : Option Jvm.ClassFile.FieldType))
def y_9_named : MethodName := ⟨zR9, "named", "()I"⟩
abbrev M_9_named : zM := (zR9, prog_11_method_24_code, 3, (Option.some Jvm.ClassFile.FieldType.int))
def y_9_bounded : MethodName := ⟨zR9, "bounded", "(I)I"⟩
abbrev M_9_bounded : zM := (zR9, prog_11_method_27_code, 3, (Option.some Jvm.ClassFile.FieldType.int))
def y_9_endsName : MethodName := ⟨zR9, "endsName", "(II)V"⟩
abbrev M_9_endsName : zM := (zR9, prog_11_method_25_code, 3, (Option.none : Option Jvm.ClassFile.FieldType))
def y_9_known : MethodName := ⟨zR9, "known", "(I)I"⟩
abbrev M_9_known : zM := (zR9, prog_11_method_26_code, 4, (Option.some Jvm.ClassFile.FieldType.int))
def y_9_tellRight : MethodName := ⟨zR9, "tellRight", "()V"⟩
abbrev M_9_tellRight : zM := (zR9, prog_11_method_28_code, 5, (Option.none : Option Jvm.ClassFile.FieldType))
def y_9_tellAway : MethodName := ⟨zR9, "tellAway", "()V"⟩
abbrev M_9_tellAway : zM := (zR9, prog_11_method_29_code, 3, (Option.none : Option Jvm.ClassFile.FieldType))
def y_9_emit : MethodName := ⟨zR9, "emit", "(II)V"⟩
abbrev M_9_emit : zM := (zR9, prog_11_method_32_code, 3, (Option.none : Option Jvm.ClassFile.FieldType))
def y_9_unit : MethodName := ⟨zR9, "unit", "()V"⟩
abbrev M_9_unit : zM := (zR9, prog_11_method_35_code, 1, (Option.none : Option Jvm.ClassFile.FieldType))
def y_9_comesOut : MethodName := ⟨zR9, "comesOut", "(Z)V"⟩
abbrev M_9_comesOut : zM := (zR9, prog_11_method_33_code, 3, (Option.none : Option Jvm.ClassFile.FieldType))
def y_9_expression : MethodName := ⟨zR9, "expression", "()V"⟩
abbrev M_9_expression : zM := (zR9, prog_11_method_34_code, 3, (Option.none : Option Jvm.ClassFile.FieldType))
def y_9_term : MethodName := ⟨zR9, "term", "()V"⟩
abbrev M_9_term : zM := (zR9, prog_11_method_31_code, 1, (Option.none : Option Jvm.ClassFile.FieldType))
def y_9_tellLaw : MethodName := ⟨zR9, "tellLaw", "(I)V"⟩
abbrev M_9_tellLaw : zM := (zR9, prog_11_method_30_code, 4, (Option.none : Option Jvm.ClassFile.FieldType))
def y_9_tellOne : MethodName := ⟨zR9, "tellOne", "()V"⟩
abbrev M_9_tellOne : zM := (zR9, prog_11_method_23_code, 2, (Option.none : Option Jvm.ClassFile.FieldType))
def y_9_read : MethodName := ⟨zR9, "read", "()I"⟩
abbrev M_9_read : zM := (zR9, prog_11_method_20_code, 2, (Option.some Jvm.ClassFile.FieldType.int))
def y_9_place : MethodName := ⟨zR9, "place", "()I"⟩
abbrev M_9_place : zM := (zR9, prog_11_method_21_code, 1, (Option.some Jvm.ClassFile.FieldType.int))
def y_9_termOf : MethodName := ⟨zR9, "termOf", "(II)I"⟩
abbrev M_9_termOf : zM := (zR9, prog_11_method_36_code, 8, (Option.some Jvm.ClassFile.FieldType.int))
theorem mw_9_byteAt : z_MW y_9_byteAt M_9_byteAt 1 := ⟨z_m1 (List.mem_of_getElem? (i := 10) rfl) rfl, z_m6 (List.mem_of_getElem? (i := 131) rfl) rfl, by decide, by decide, by decide +kernel⟩
theorem ml_9_184 : Cond.methodLink zR9 184 y_9_byteAt ∈ lw_gd := z_m6 (List.mem_of_getElem? (i := 128) rfl) rfl
theorem im_9_byteAt : Cond.instanceMethod y_9_byteAt ∈ lw_gd := z_m6 (List.mem_of_getElem? (i := 130) rfl) rfl
theorem se_9_byteAt : Cond.selects y_9_byteAt.cls y_9_byteAt y_9_byteAt ∈ lw_gd := z_s (q := (y_9_byteAt, _)) (List.mem_of_getElem? (i := 66) rfl)
theorem mw_9_isLetter : z_MW y_9_isLetter M_9_isLetter 1 := ⟨z_m1 (List.mem_of_getElem? (i := 10) rfl) rfl, z_m6 (List.mem_of_getElem? (i := 138) rfl) rfl, by decide, by decide, by decide +kernel⟩
theorem ml_9_192 : Cond.methodLink zR9 192 y_9_isLetter ∈ lw_gd := z_m6 (List.mem_of_getElem? (i := 136) rfl) rfl
theorem is_9_isLetter : Cond.static y_9_isLetter ∈ lw_gd := z_m6 (List.mem_of_getElem? (i := 137) rfl) rfl
theorem mw_9_isDigit : z_MW y_9_isDigit M_9_isDigit 1 := ⟨z_m1 (List.mem_of_getElem? (i := 10) rfl) rfl, z_m6 (List.mem_of_getElem? (i := 141) rfl) rfl, by decide, by decide, by decide +kernel⟩
theorem ml_9_196 : Cond.methodLink zR9 196 y_9_isDigit ∈ lw_gd := z_m6 (List.mem_of_getElem? (i := 139) rfl) rfl
theorem is_9_isDigit : Cond.static y_9_isDigit ∈ lw_gd := z_m6 (List.mem_of_getElem? (i := 140) rfl) rfl
theorem mw_9_sign : z_MW y_9_sign M_9_sign 3 := ⟨z_m1 (List.mem_of_getElem? (i := 10) rfl) rfl, z_m6 (List.mem_of_getElem? (i := 145) rfl) rfl, by decide, by decide, by decide +kernel⟩
theorem ml_9_199 : Cond.methodLink zR9 199 y_9_sign ∈ lw_gd := z_m6 (List.mem_of_getElem? (i := 142) rfl) rfl
theorem im_9_sign : Cond.instanceMethod y_9_sign ∈ lw_gd := z_m6 (List.mem_of_getElem? (i := 144) rfl) rfl
theorem se_9_sign : Cond.selects y_9_sign.cls y_9_sign y_9_sign ∈ lw_gd := z_s (q := (y_9_sign, _)) (List.mem_of_getElem? (i := 68) rfl)
theorem fit_1_6_3 : z_fit (z_rm 3) 0 0 1 6 := ⟨by decide, by decide, by decide, by decide⟩
theorem fw_9_34 : z_FW zR9 34 9 9 (2, 109, fun i => i) := ⟨_, _, rfl, rfl, rfl, by decide, z_m5 (List.mem_of_getElem? (i := 157) rfl) rfl⟩
theorem sa_109 : z_SA 109 3 := ⟨rfl, rfl, by decide⟩
theorem fw_9_203 : z_FW zR9 203 9 13 (0, 0, fun i => i) := ⟨_, _, rfl, rfl, rfl, by decide, z_m5 (List.mem_of_getElem? (i := 161) rfl) rfl⟩
theorem fw_9_206 : z_FW zR9 206 9 11 (0, 0, fun i => i) := ⟨_, _, rfl, rfl, rfl, by decide, z_m5 (List.mem_of_getElem? (i := 159) rfl) rfl⟩
theorem pw_9_13 : z_PW 9 13 (.int) := fun _ _ h1 h2 => by
  cases h1
  cases h2
  exact ⟨rfl, by decide +kernel⟩
theorem fw_9_209 : z_FW zR9 209 9 14 (0, 0, fun i => i) := ⟨_, _, rfl, rfl, rfl, by decide, z_m5 (List.mem_of_getElem? (i := 162) rfl) rfl⟩
theorem pw_9_14 : z_PW 9 14 (.int) := fun _ _ h1 h2 => by
  cases h1
  cases h2
  exact ⟨rfl, by decide +kernel⟩
theorem fw_9_212 : z_FW zR9 212 9 15 (0, 0, fun i => i) := ⟨_, _, rfl, rfl, rfl, by decide, z_m5 (List.mem_of_getElem? (i := 163) rfl) rfl⟩
theorem pw_9_15 : z_PW 9 15 (.int) := fun _ _ h1 h2 => by
  cases h1
  cases h2
  exact ⟨rfl, by decide +kernel⟩
theorem fw_9_215 : z_FW zR9 215 9 16 (0, 0, fun i => i) := ⟨_, _, rfl, rfl, rfl, by decide, z_m5 (List.mem_of_getElem? (i := 164) rfl) rfl⟩
theorem pw_9_16 : z_PW 9 16 (.int) := fun _ _ h1 h2 => by
  cases h1
  cases h2
  exact ⟨rfl, by decide +kernel⟩
theorem mw_9_fail : z_MW y_9_fail M_9_fail 1 := ⟨z_m1 (List.mem_of_getElem? (i := 10) rfl) rfl, z_m6 (List.mem_of_getElem? (i := 161) rfl) rfl, by decide, by decide, by decide +kernel⟩
theorem ml_9_218 : Cond.methodLink zR9 218 y_9_fail ∈ lw_gd := z_m6 (List.mem_of_getElem? (i := 158) rfl) rfl
theorem im_9_fail : Cond.instanceMethod y_9_fail ∈ lw_gd := z_m6 (List.mem_of_getElem? (i := 160) rfl) rfl
theorem se_9_fail : Cond.selects y_9_fail.cls y_9_fail y_9_fail ∈ lw_gd := z_s (q := (y_9_fail, _)) (List.mem_of_getElem? (i := 72) rfl)
theorem pw_9_11 : z_PW 9 11 (.int) := fun _ _ h1 h2 => by
  cases h1
  cases h2
  exact ⟨rfl, by decide +kernel⟩
theorem mw_9_is : z_MW y_9_is M_9_is 1 := ⟨z_m1 (List.mem_of_getElem? (i := 10) rfl) rfl, z_m6 (List.mem_of_getElem? (i := 149) rfl) rfl, by decide, by decide, by decide +kernel⟩
theorem ml_9_221 : Cond.methodLink zR9 221 y_9_is ∈ lw_gd := z_m6 (List.mem_of_getElem? (i := 146) rfl) rfl
theorem im_9_is : Cond.instanceMethod y_9_is ∈ lw_gd := z_m6 (List.mem_of_getElem? (i := 148) rfl) rfl
theorem se_9_is : Cond.selects y_9_is.cls y_9_is y_9_is ∈ lw_gd := z_s (q := (y_9_is, _)) (List.mem_of_getElem? (i := 69) rfl)
theorem mw_9_goesOn : z_MW y_9_goesOn M_9_goesOn 0 := ⟨z_m1 (List.mem_of_getElem? (i := 10) rfl) rfl, z_m6 (List.mem_of_getElem? (i := 165) rfl) rfl, by decide, by decide, by decide +kernel⟩
theorem ml_9_224 : Cond.methodLink zR9 224 y_9_goesOn ∈ lw_gd := z_m6 (List.mem_of_getElem? (i := 162) rfl) rfl
theorem im_9_goesOn : Cond.instanceMethod y_9_goesOn ∈ lw_gd := z_m6 (List.mem_of_getElem? (i := 164) rfl) rfl
theorem se_9_goesOn : Cond.selects y_9_goesOn.cls y_9_goesOn y_9_goesOn ∈ lw_gd := z_s (q := (y_9_goesOn, _)) (List.mem_of_getElem? (i := 73) rfl)
theorem mw_9_must : z_MW y_9_must M_9_must 1 := ⟨z_m1 (List.mem_of_getElem? (i := 10) rfl) rfl, z_m6 (List.mem_of_getElem? (i := 173) rfl) rfl, by decide, by decide, by decide +kernel⟩
theorem ml_9_277 : Cond.methodLink zR9 277 y_9_must ∈ lw_gd := z_m6 (List.mem_of_getElem? (i := 170) rfl) rfl
theorem im_9_must : Cond.instanceMethod y_9_must ∈ lw_gd := z_m6 (List.mem_of_getElem? (i := 172) rfl) rfl
theorem se_9_must : Cond.selects y_9_must.cls y_9_must y_9_must ∈ lw_gd := z_s (q := (y_9_must, _)) (List.mem_of_getElem? (i := 75) rfl)
theorem fw_9_239 : z_FW zR9 239 9 20 (0, 0, fun i => i) := ⟨_, _, rfl, rfl, rfl, by decide, z_m5 (List.mem_of_getElem? (i := 168) rfl) rfl⟩
theorem fw_9_40 : z_FW zR9 40 9 21 (2, 121, fun i => i) := ⟨_, _, rfl, rfl, rfl, by decide, z_m5 (List.mem_of_getElem? (i := 169) rfl) rfl⟩
theorem sa_121 : z_SA 121 3 := ⟨rfl, rfl, by decide⟩
theorem mw_9_wrong : z_MW y_9_wrong M_9_wrong 2 := ⟨z_m1 (List.mem_of_getElem? (i := 10) rfl) rfl, z_m6 (List.mem_of_getElem? (i := 177) rfl) rfl, by decide, by decide, by decide +kernel⟩
theorem fit_1_4_4 : z_fit (z_rm 4) 0 0 1 4 := ⟨by decide, by decide, by decide, by decide⟩
theorem ml_9_283 : Cond.methodLink zR9 283 y_9_wrong ∈ lw_gd := z_m6 (List.mem_of_getElem? (i := 174) rfl) rfl
theorem im_9_wrong : Cond.instanceMethod y_9_wrong ∈ lw_gd := z_m6 (List.mem_of_getElem? (i := 176) rfl) rfl
theorem se_9_wrong : Cond.selects y_9_wrong.cls y_9_wrong y_9_wrong ∈ lw_gd := z_s (q := (y_9_wrong, _)) (List.mem_of_getElem? (i := 76) rfl)
theorem fit_1_4_3 : z_fit (z_rm 3) 0 0 1 4 := ⟨by decide, by decide, by decide, by decide⟩
theorem fw_9_43 : z_FW zR9 43 9 22 (2, 122, fun i => i) := ⟨_, _, rfl, rfl, rfl, by decide, z_m5 (List.mem_of_getElem? (i := 170) rfl) rfl⟩
theorem sa_122 : z_SA 122 0 := ⟨rfl, rfl, by decide⟩
theorem pw_9_20 : z_PW 9 20 (.int) := fun _ _ h1 h2 => by
  cases h1
  cases h2
  exact ⟨rfl, by decide +kernel⟩
theorem mw_9_known : z_MW y_9_known M_9_known 1 := ⟨z_m1 (List.mem_of_getElem? (i := 10) rfl) rfl, z_m6 (List.mem_of_getElem? (i := 193) rfl) rfl, by decide, by decide, by decide +kernel⟩
theorem ml_9_286 : Cond.methodLink zR9 286 y_9_known ∈ lw_gd := z_m6 (List.mem_of_getElem? (i := 190) rfl) rfl
theorem im_9_known : Cond.instanceMethod y_9_known ∈ lw_gd := z_m6 (List.mem_of_getElem? (i := 192) rfl) rfl
theorem se_9_known : Cond.selects y_9_known.cls y_9_known y_9_known ∈ lw_gd := z_s (q := (y_9_known, _)) (List.mem_of_getElem? (i := 80) rfl)
theorem fw_9_236 : z_FW zR9 236 9 19 (0, 0, fun i => i) := ⟨_, _, rfl, rfl, rfl, by decide, z_m5 (List.mem_of_getElem? (i := 167) rfl) rfl⟩
theorem fit_1_4_5 : z_fit (z_rm 5) 0 0 1 4 := ⟨by decide, by decide, by decide, by decide⟩
theorem mw_9_bounded : z_MW y_9_bounded M_9_bounded 1 := ⟨z_m1 (List.mem_of_getElem? (i := 10) rfl) rfl, z_m6 (List.mem_of_getElem? (i := 181) rfl) rfl, by decide, by decide, by decide +kernel⟩
theorem fit_3_3_5 : z_fit (z_rm 5) 0 0 3 3 := ⟨by decide, by decide, by decide, by decide⟩
theorem ml_9_265 : Cond.methodLink zR9 265 y_9_bounded ∈ lw_gd := z_m6 (List.mem_of_getElem? (i := 178) rfl) rfl
theorem im_9_bounded : Cond.instanceMethod y_9_bounded ∈ lw_gd := z_m6 (List.mem_of_getElem? (i := 180) rfl) rfl
theorem se_9_bounded : Cond.selects y_9_bounded.cls y_9_bounded y_9_bounded ∈ lw_gd := z_s (q := (y_9_bounded, _)) (List.mem_of_getElem? (i := 77) rfl)
theorem fw_9_95 : z_FW zR9 95 9 41 (2, 141, fun i => i) := ⟨_, _, rfl, rfl, rfl, by decide, z_m5 (List.mem_of_getElem? (i := 189) rfl) rfl⟩
theorem fw_9_245 : z_FW zR9 245 9 40 (0, 0, fun i => i) := ⟨_, _, rfl, rfl, rfl, by decide, z_m5 (List.mem_of_getElem? (i := 188) rfl) rfl⟩
theorem sa_141 : z_SA 141 0 := ⟨rfl, rfl, by decide⟩
theorem fw_9_98 : z_FW zR9 98 9 42 (2, 142, fun i => i) := ⟨_, _, rfl, rfl, rfl, by decide, z_m5 (List.mem_of_getElem? (i := 190) rfl) rfl⟩
theorem sa_142 : z_SA 142 0 := ⟨rfl, rfl, by decide⟩
theorem pw_9_40 : z_PW 9 40 (.int) := fun _ _ h1 h2 => by
  cases h1
  cases h2
  exact ⟨rfl, by decide +kernel⟩
theorem mw_9_emit : z_MW y_9_emit M_9_emit 2 := ⟨z_m1 (List.mem_of_getElem? (i := 10) rfl) rfl, z_m6 (List.mem_of_getElem? (i := 213) rfl) rfl, by decide, by decide, by decide +kernel⟩
theorem ml_9_298 : Cond.methodLink zR9 298 y_9_emit ∈ lw_gd := z_m6 (List.mem_of_getElem? (i := 210) rfl) rfl
theorem im_9_emit : Cond.instanceMethod y_9_emit ∈ lw_gd := z_m6 (List.mem_of_getElem? (i := 212) rfl) rfl
theorem se_9_emit : Cond.selects y_9_emit.cls y_9_emit y_9_emit ∈ lw_gd := z_s (q := (y_9_emit, _)) (List.mem_of_getElem? (i := 85) rfl)
theorem fw_9_295 : z_FW zR9 295 9 44 (0, 0, fun i => i) := ⟨_, _, rfl, rfl, rfl, by decide, z_m5 (List.mem_of_getElem? (i := 192) rfl) rfl⟩
theorem fw_9_101 : z_FW zR9 101 9 43 (2, 143, fun i => i) := ⟨_, _, rfl, rfl, rfl, by decide, z_m5 (List.mem_of_getElem? (i := 191) rfl) rfl⟩
theorem sa_143 : z_SA 143 0 := ⟨rfl, rfl, by decide⟩
theorem pw_9_44 : z_PW 9 44 (.int) := fun _ _ h1 h2 => by
  cases h1
  cases h2
  exact ⟨rfl, by decide +kernel⟩
theorem fw_9_230 : z_FW zR9 230 9 12 (0, 0, fun i => i) := ⟨_, _, rfl, rfl, rfl, by decide, z_m5 (List.mem_of_getElem? (i := 160) rfl) rfl⟩
theorem pw_9_12 : z_PW 9 12 (.int) := fun _ _ h1 h2 => by
  cases h1
  cases h2
  exact ⟨rfl, by decide +kernel⟩
theorem mw_9_unit : z_MW y_9_unit M_9_unit 0 := ⟨z_m1 (List.mem_of_getElem? (i := 10) rfl) rfl, z_m6 (List.mem_of_getElem? (i := 209) rfl) rfl, by decide, by decide, by decide +kernel⟩
theorem ml_9_301 : Cond.methodLink zR9 301 y_9_unit ∈ lw_gd := z_m6 (List.mem_of_getElem? (i := 206) rfl) rfl
theorem im_9_unit : Cond.instanceMethod y_9_unit ∈ lw_gd := z_m6 (List.mem_of_getElem? (i := 208) rfl) rfl
theorem se_9_unit : Cond.selects y_9_unit.cls y_9_unit y_9_unit ∈ lw_gd := z_s (q := (y_9_unit, _)) (List.mem_of_getElem? (i := 84) rfl)
theorem mw_9_comesOut : z_MW y_9_comesOut M_9_comesOut 1 := ⟨z_m1 (List.mem_of_getElem? (i := 10) rfl) rfl, z_m6 (List.mem_of_getElem? (i := 217) rfl) rfl, by decide, by decide, by decide +kernel⟩
theorem ml_9_304 : Cond.methodLink zR9 304 y_9_comesOut ∈ lw_gd := z_m6 (List.mem_of_getElem? (i := 214) rfl) rfl
theorem im_9_comesOut : Cond.instanceMethod y_9_comesOut ∈ lw_gd := z_m6 (List.mem_of_getElem? (i := 216) rfl) rfl
theorem se_9_comesOut : Cond.selects y_9_comesOut.cls y_9_comesOut y_9_comesOut ∈ lw_gd := z_s (q := (y_9_comesOut, _)) (List.mem_of_getElem? (i := 86) rfl)
theorem fw_9_89 : z_FW zR9 89 9 38 (2, 138, fun i => i) := ⟨_, _, rfl, rfl, rfl, by decide, z_m5 (List.mem_of_getElem? (i := 186) rfl) rfl⟩
theorem fw_9_242 : z_FW zR9 242 9 34 (0, 0, fun i => i) := ⟨_, _, rfl, rfl, rfl, by decide, z_m5 (List.mem_of_getElem? (i := 182) rfl) rfl⟩
theorem sa_138 : z_SA 138 0 := ⟨rfl, rfl, by decide⟩
theorem mw_9_expression : z_MW y_9_expression M_9_expression 0 := ⟨z_m1 (List.mem_of_getElem? (i := 10) rfl) rfl, z_m6 (List.mem_of_getElem? (i := 205) rfl) rfl, by decide, by decide, by decide +kernel⟩
theorem ml_9_289 : Cond.methodLink zR9 289 y_9_expression ∈ lw_gd := z_m6 (List.mem_of_getElem? (i := 202) rfl) rfl
theorem im_9_expression : Cond.instanceMethod y_9_expression ∈ lw_gd := z_m6 (List.mem_of_getElem? (i := 204) rfl) rfl
theorem se_9_expression : Cond.selects y_9_expression.cls y_9_expression y_9_expression ∈ lw_gd := z_s (q := (y_9_expression, _)) (List.mem_of_getElem? (i := 83) rfl)
theorem fw_9_92 : z_FW zR9 92 9 39 (2, 139, fun i => i) := ⟨_, _, rfl, rfl, rfl, by decide, z_m5 (List.mem_of_getElem? (i := 187) rfl) rfl⟩
theorem sa_139 : z_SA 139 0 := ⟨rfl, rfl, by decide⟩
theorem pw_9_34 : z_PW 9 34 (.int) := fun _ _ h1 h2 => by
  cases h1
  cases h2
  exact ⟨rfl, by decide +kernel⟩
theorem fit_3_2_6 : z_fit (z_rm 6) 0 0 3 2 := ⟨by decide, by decide, by decide, by decide⟩
theorem fw_9_79 : z_FW zR9 79 9 35 (2, 135, fun i => i) := ⟨_, _, rfl, rfl, rfl, by decide, z_m5 (List.mem_of_getElem? (i := 183) rfl) rfl⟩
theorem sa_135 : z_SA 135 2 := ⟨rfl, rfl, by decide⟩
theorem fw_9_83 : z_FW zR9 83 9 36 (2, 136, fun i => i) := ⟨_, _, rfl, rfl, rfl, by decide, z_m5 (List.mem_of_getElem? (i := 184) rfl) rfl⟩
theorem sa_136 : z_SA 136 0 := ⟨rfl, rfl, by decide⟩
theorem fit_4_3_6 : z_fit (z_rm 6) 0 0 4 3 := ⟨by decide, by decide, by decide, by decide⟩
theorem fw_9_86 : z_FW zR9 86 9 37 (2, 137, fun i => i) := ⟨_, _, rfl, rfl, rfl, by decide, z_m5 (List.mem_of_getElem? (i := 185) rfl) rfl⟩
theorem sa_137 : z_SA 137 0 := ⟨rfl, rfl, by decide⟩
theorem mw_9_term : z_MW y_9_term M_9_term 0 := ⟨z_m1 (List.mem_of_getElem? (i := 10) rfl) rfl, z_m6 (List.mem_of_getElem? (i := 221) rfl) rfl, by decide, by decide, by decide +kernel⟩
theorem fit_5_1_6 : z_fit (z_rm 6) 0 0 5 1 := ⟨by decide, by decide, by decide, by decide⟩
theorem ml_9_292 : Cond.methodLink zR9 292 y_9_term ∈ lw_gd := z_m6 (List.mem_of_getElem? (i := 218) rfl) rfl
theorem im_9_term : Cond.instanceMethod y_9_term ∈ lw_gd := z_m6 (List.mem_of_getElem? (i := 220) rfl) rfl
theorem se_9_term : Cond.selects y_9_term.cls y_9_term y_9_term ∈ lw_gd := z_s (q := (y_9_term, _)) (List.mem_of_getElem? (i := 87) rfl)
theorem mw_9_roomFor : z_MW y_9_roomFor M_9_roomFor 2 := ⟨z_m1 (List.mem_of_getElem? (i := 10) rfl) rfl, z_m6 (List.mem_of_getElem? (i := 157) rfl) rfl, by decide, by decide, by decide +kernel⟩
theorem fit_3_3_7 : z_fit (z_rm 7) 0 0 3 3 := ⟨by decide, by decide, by decide, by decide⟩
theorem ml_9_257 : Cond.methodLink zR9 257 y_9_roomFor ∈ lw_gd := z_m6 (List.mem_of_getElem? (i := 154) rfl) rfl
theorem im_9_roomFor : Cond.instanceMethod y_9_roomFor ∈ lw_gd := z_m6 (List.mem_of_getElem? (i := 156) rfl) rfl
theorem se_9_roomFor : Cond.selects y_9_roomFor.cls y_9_roomFor y_9_roomFor ∈ lw_gd := z_s (q := (y_9_roomFor, _)) (List.mem_of_getElem? (i := 71) rfl)
theorem mw_9_named : z_MW y_9_named M_9_named 0 := ⟨z_m1 (List.mem_of_getElem? (i := 10) rfl) rfl, z_m6 (List.mem_of_getElem? (i := 169) rfl) rfl, by decide, by decide, by decide +kernel⟩
theorem fit_4_3_7 : z_fit (z_rm 7) 0 0 4 3 := ⟨by decide, by decide, by decide, by decide⟩
theorem ml_9_261 : Cond.methodLink zR9 261 y_9_named ∈ lw_gd := z_m6 (List.mem_of_getElem? (i := 166) rfl) rfl
theorem im_9_named : Cond.instanceMethod y_9_named ∈ lw_gd := z_m6 (List.mem_of_getElem? (i := 168) rfl) rfl
theorem se_9_named : Cond.selects y_9_named.cls y_9_named y_9_named ∈ lw_gd := z_s (q := (y_9_named, _)) (List.mem_of_getElem? (i := 74) rfl)
theorem fw_9_49 : z_FW zR9 49 9 24 (2, 124, fun i => i) := ⟨_, _, rfl, rfl, rfl, by decide, z_m5 (List.mem_of_getElem? (i := 172) rfl) rfl⟩
theorem sa_124 : z_SA 124 0 := ⟨rfl, rfl, by decide⟩
theorem mw_9_endsName : z_MW y_9_endsName M_9_endsName 2 := ⟨z_m1 (List.mem_of_getElem? (i := 10) rfl) rfl, z_m6 (List.mem_of_getElem? (i := 185) rfl) rfl, by decide, by decide, by decide +kernel⟩
theorem ml_9_268 : Cond.methodLink zR9 268 y_9_endsName ∈ lw_gd := z_m6 (List.mem_of_getElem? (i := 182) rfl) rfl
theorem im_9_endsName : Cond.instanceMethod y_9_endsName ∈ lw_gd := z_m6 (List.mem_of_getElem? (i := 184) rfl) rfl
theorem se_9_endsName : Cond.selects y_9_endsName.cls y_9_endsName y_9_endsName ∈ lw_gd := z_s (q := (y_9_endsName, _)) (List.mem_of_getElem? (i := 78) rfl)
theorem fw_9_58 : z_FW zR9 58 9 27 (2, 127, fun i => i) := ⟨_, _, rfl, rfl, rfl, by decide, z_m5 (List.mem_of_getElem? (i := 175) rfl) rfl⟩
theorem sa_127 : z_SA 127 0 := ⟨rfl, rfl, by decide⟩
theorem mw_9_tellRight : z_MW y_9_tellRight M_9_tellRight 0 := ⟨z_m1 (List.mem_of_getElem? (i := 10) rfl) rfl, z_m6 (List.mem_of_getElem? (i := 189) rfl) rfl, by decide, by decide, by decide +kernel⟩
theorem fit_5_5_7 : z_fit (z_rm 7) 0 0 5 5 := ⟨by decide, by decide, by decide, by decide⟩
theorem ml_9_271 : Cond.methodLink zR9 271 y_9_tellRight ∈ lw_gd := z_m6 (List.mem_of_getElem? (i := 186) rfl) rfl
theorem im_9_tellRight : Cond.instanceMethod y_9_tellRight ∈ lw_gd := z_m6 (List.mem_of_getElem? (i := 188) rfl) rfl
theorem se_9_tellRight : Cond.selects y_9_tellRight.cls y_9_tellRight y_9_tellRight ∈ lw_gd := z_s (q := (y_9_tellRight, _)) (List.mem_of_getElem? (i := 79) rfl)
theorem mw_9_tellAway : z_MW y_9_tellAway M_9_tellAway 0 := ⟨z_m1 (List.mem_of_getElem? (i := 10) rfl) rfl, z_m6 (List.mem_of_getElem? (i := 197) rfl) rfl, by decide, by decide, by decide +kernel⟩
theorem fit_5_3_7 : z_fit (z_rm 7) 0 0 5 3 := ⟨by decide, by decide, by decide, by decide⟩
theorem ml_9_274 : Cond.methodLink zR9 274 y_9_tellAway ∈ lw_gd := z_m6 (List.mem_of_getElem? (i := 194) rfl) rfl
theorem im_9_tellAway : Cond.instanceMethod y_9_tellAway ∈ lw_gd := z_m6 (List.mem_of_getElem? (i := 196) rfl) rfl
theorem se_9_tellAway : Cond.selects y_9_tellAway.cls y_9_tellAway y_9_tellAway ∈ lw_gd := z_s (q := (y_9_tellAway, _)) (List.mem_of_getElem? (i := 81) rfl)
theorem fit_2_1_7 : z_fit (z_rm 7) 0 0 2 1 := ⟨by decide, by decide, by decide, by decide⟩
theorem mw_9_tellLaw : z_MW y_9_tellLaw M_9_tellLaw 1 := ⟨z_m1 (List.mem_of_getElem? (i := 10) rfl) rfl, z_m6 (List.mem_of_getElem? (i := 201) rfl) rfl, by decide, by decide, by decide +kernel⟩
theorem fit_6_4_7 : z_fit (z_rm 7) 0 0 6 4 := ⟨by decide, by decide, by decide, by decide⟩
theorem ml_9_280 : Cond.methodLink zR9 280 y_9_tellLaw ∈ lw_gd := z_m6 (List.mem_of_getElem? (i := 198) rfl) rfl
theorem im_9_tellLaw : Cond.instanceMethod y_9_tellLaw ∈ lw_gd := z_m6 (List.mem_of_getElem? (i := 200) rfl) rfl
theorem se_9_tellLaw : Cond.selects y_9_tellLaw.cls y_9_tellLaw y_9_tellLaw ∈ lw_gd := z_s (q := (y_9_tellLaw, _)) (List.mem_of_getElem? (i := 82) rfl)
theorem fit_3_2_7 : z_fit (z_rm 7) 0 0 3 2 := ⟨by decide, by decide, by decide, by decide⟩
theorem pw_9_4 : z_PW 9 4 (.int) := fun _ _ h1 h2 => by
  cases h1
  cases h2
  exact ⟨rfl, by decide +kernel⟩
theorem mw_9_cut : z_MW y_9_cut M_9_cut 0 := ⟨z_m1 (List.mem_of_getElem? (i := 10) rfl) rfl, z_m6 (List.mem_of_getElem? (i := 127) rfl) rfl, by decide, by decide, by decide +kernel⟩
theorem fit_3_8_8 : z_fit (z_rm 8) 0 0 3 8 := ⟨by decide, by decide, by decide, by decide⟩
theorem ml_9_227 : Cond.methodLink zR9 227 y_9_cut ∈ lw_gd := z_m6 (List.mem_of_getElem? (i := 124) rfl) rfl
theorem im_9_cut : Cond.instanceMethod y_9_cut ∈ lw_gd := z_m6 (List.mem_of_getElem? (i := 126) rfl) rfl
theorem se_9_cut : Cond.selects y_9_cut.cls y_9_cut y_9_cut ∈ lw_gd := z_s (q := (y_9_cut, _)) (List.mem_of_getElem? (i := 65) rfl)
theorem pw_9_19 : z_PW 9 19 (.int) := fun _ _ h1 h2 => by
  cases h1
  cases h2
  exact ⟨rfl, by decide +kernel⟩
theorem mw_9_plain : z_MW y_9_plain M_9_plain 1 := ⟨z_m1 (List.mem_of_getElem? (i := 10) rfl) rfl, z_m5 (List.mem_of_getElem? (i := 133) rfl) rfl, by decide, by decide, by decide +kernel⟩
theorem fit_1_3_8 : z_fit (z_rm 8) 0 0 1 3 := ⟨by decide, by decide, by decide, by decide⟩
theorem ml_9_152 : Cond.methodLink zR9 152 y_9_plain ∈ lw_gd := z_m5 (List.mem_of_getElem? (i := 130) rfl) rfl
theorem im_9_plain : Cond.instanceMethod y_9_plain ∈ lw_gd := z_m5 (List.mem_of_getElem? (i := 132) rfl) rfl
theorem se_9_plain : Cond.selects y_9_plain.cls y_9_plain y_9_plain ∈ lw_gd := z_s (q := (y_9_plain, _)) (List.mem_of_getElem? (i := 61) rfl)
theorem mw_9_tellOne : z_MW y_9_tellOne M_9_tellOne 0 := ⟨z_m1 (List.mem_of_getElem? (i := 10) rfl) rfl, z_m6 (List.mem_of_getElem? (i := 153) rfl) rfl, by decide, by decide, by decide +kernel⟩
theorem fit_7_2_8 : z_fit (z_rm 8) 0 0 7 2 := ⟨by decide, by decide, by decide, by decide⟩
theorem ml_9_248 : Cond.methodLink zR9 248 y_9_tellOne ∈ lw_gd := z_m6 (List.mem_of_getElem? (i := 150) rfl) rfl
theorem im_9_tellOne : Cond.instanceMethod y_9_tellOne ∈ lw_gd := z_m6 (List.mem_of_getElem? (i := 152) rfl) rfl
theorem se_9_tellOne : Cond.selects y_9_tellOne.cls y_9_tellOne y_9_tellOne ∈ lw_gd := z_s (q := (y_9_tellOne, _)) (List.mem_of_getElem? (i := 70) rfl)
theorem fw_9_37 : z_FW zR9 37 9 17 (0, 0, fun i => i) := ⟨_, _, rfl, rfl, rfl, by decide, z_m5 (List.mem_of_getElem? (i := 165) rfl) rfl⟩
theorem pw_9_17 : z_PW 9 17 (.int) := fun _ _ h1 h2 => by
  cases h1
  cases h2
  exact ⟨rfl, by decide +kernel⟩
theorem pw_9_18 : z_PW 9 18 (.int) := fun _ _ h1 h2 => by
  cases h1
  cases h2
  exact ⟨rfl, by decide +kernel⟩
theorem mw_9_begins : z_MW y_9_begins M_9_begins 0 := ⟨z_m1 (List.mem_of_getElem? (i := 10) rfl) rfl, z_m5 (List.mem_of_getElem? (i := 144) rfl) rfl, by decide, by decide, by decide +kernel⟩
theorem ml_9_160 : Cond.methodLink zR9 160 y_9_begins ∈ lw_gd := z_m5 (List.mem_of_getElem? (i := 141) rfl) rfl
theorem im_9_begins : Cond.instanceMethod y_9_begins ∈ lw_gd := z_m5 (List.mem_of_getElem? (i := 143) rfl) rfl
theorem se_9_begins : Cond.selects y_9_begins.cls y_9_begins y_9_begins ∈ lw_gd := z_s (q := (y_9_begins, _)) (List.mem_of_getElem? (i := 62) rfl)
theorem mw_9_keepsRow : z_MW y_9_keepsRow M_9_keepsRow 0 := ⟨z_m1 (List.mem_of_getElem? (i := 10) rfl) rfl, z_m5 (List.mem_of_getElem? (i := 148) rfl) rfl, by decide, by decide, by decide +kernel⟩
theorem ml_9_163 : Cond.methodLink zR9 163 y_9_keepsRow ∈ lw_gd := z_m5 (List.mem_of_getElem? (i := 145) rfl) rfl
theorem im_9_keepsRow : Cond.instanceMethod y_9_keepsRow ∈ lw_gd := z_m5 (List.mem_of_getElem? (i := 147) rfl) rfl
theorem se_9_keepsRow : Cond.selects y_9_keepsRow.cls y_9_keepsRow y_9_keepsRow ∈ lw_gd := z_s (q := (y_9_keepsRow, _)) (List.mem_of_getElem? (i := 63) rfl)
theorem fw_9_251 : z_FW zR9 251 9 55 (0, 0, fun i => i) := ⟨_, _, rfl, rfl, rfl, by decide, z_m5 (List.mem_of_getElem? (i := 203) rfl) rfl⟩
theorem pw_9_55 : z_PW 9 55 (.int) := fun _ _ h1 h2 => by
  cases h1
  cases h2
  exact ⟨rfl, by decide +kernel⟩
theorem fw_9_254 : z_FW zR9 254 9 58 (0, 0, fun i => i) := ⟨_, _, rfl, rfl, rfl, by decide, z_m5 (List.mem_of_getElem? (i := 206) rfl) rfl⟩
theorem pw_9_58 : z_PW 9 58 (.int) := fun _ _ h1 h2 => by
  cases h1
  cases h2
  exact ⟨rfl, by decide +kernel⟩
theorem fw_9_146 : z_FW zR9 146 9 64 (2, 164, fun i => i) := ⟨_, _, rfl, rfl, rfl, by decide, z_m5 (List.mem_of_getElem? (i := 212) rfl) rfl⟩
theorem sa_164 : z_SA 164 2 := ⟨rfl, rfl, by decide⟩
theorem fw_9_107 : z_FW zR9 107 9 46 (2, 146, fun i => i) := ⟨_, _, rfl, rfl, rfl, by decide, z_m5 (List.mem_of_getElem? (i := 194) rfl) rfl⟩
theorem fw_9_104 : z_FW zR9 104 9 45 (2, 145, fun i => i) := ⟨_, _, rfl, rfl, rfl, by decide, z_m5 (List.mem_of_getElem? (i := 193) rfl) rfl⟩
theorem sa_145 : z_SA 145 0 := ⟨rfl, rfl, by decide⟩
theorem sa_146 : z_SA 146 0 := ⟨rfl, rfl, by decide⟩
theorem fw_9_308 : z_FW zR9 308 9 47 (1, 0, fun i => i) := ⟨_, _, rfl, rfl, rfl, by decide, z_m5 (List.mem_of_getElem? (i := 195) rfl) rfl⟩
theorem pw_9_47 : z_PW 9 47 (.boolean) := fun _ _ h1 h2 => by
  cases h1
  cases h2
  exact ⟨rfl, by decide +kernel⟩
theorem d_9_cut_0 : zD prog_11_method_12_code 0 (.aload_n 0) 1 1 := ⟨by decide +kernel, rfl⟩
theorem d_9_cut_1 : zD prog_11_method_12_code 1 (.iconst 0) 1 2 := ⟨by decide +kernel, rfl⟩
theorem d_9_cut_2 : zD prog_11_method_12_code 2 (.putfield 181) 3 5 := ⟨by decide +kernel, rfl⟩
theorem d_9_cut_5 : zD prog_11_method_12_code 5 (.iconst 0) 1 6 := ⟨by decide +kernel, rfl⟩
theorem d_9_cut_6 : zD prog_11_method_12_code 6 (.istore_n 1) 1 7 := ⟨by decide +kernel, rfl⟩
theorem d_9_cut_7 : zD prog_11_method_12_code 7 (.aload_n 0) 1 8 := ⟨by decide +kernel, rfl⟩
theorem d_9_cut_8 : zD prog_11_method_12_code 8 (.getfield 181) 3 11 := ⟨by decide +kernel, rfl⟩
theorem d_9_cut_11 : zD prog_11_method_12_code 11 (.sipush 400) 3 14 := ⟨by decide +kernel, rfl⟩
theorem d_9_cut_14 : zD prog_11_method_12_code 14 (.if_icmp .gt 280) 3 17 := ⟨by decide +kernel, rfl⟩
theorem d_9_cut_17 : zD prog_11_method_12_code 17 (.aload_n 0) 1 18 := ⟨by decide +kernel, rfl⟩
theorem d_9_cut_18 : zD prog_11_method_12_code 18 (.iload_n 1) 1 19 := ⟨by decide +kernel, rfl⟩
theorem d_9_cut_19 : zD prog_11_method_12_code 19 (.invokevirtual 184) 3 22 := ⟨by decide +kernel, rfl⟩
theorem d_9_cut_22 : zD prog_11_method_12_code 22 (.istore_n 2) 1 23 := ⟨by decide +kernel, rfl⟩
theorem d_9_cut_23 : zD prog_11_method_12_code 23 (.iload_n 1) 1 24 := ⟨by decide +kernel, rfl⟩
theorem d_9_cut_24 : zD prog_11_method_12_code 24 (.aload_n 0) 1 25 := ⟨by decide +kernel, rfl⟩
theorem d_9_cut_25 : zD prog_11_method_12_code 25 (.getfield 172) 3 28 := ⟨by decide +kernel, rfl⟩
theorem d_9_cut_28 : zD prog_11_method_12_code 28 (.if_icmp .lt 15) 3 31 := ⟨by decide +kernel, rfl⟩
theorem d_9_cut_31 : zD prog_11_method_12_code 31 (.aload_n 0) 1 32 := ⟨by decide +kernel, rfl⟩
theorem d_9_cut_32 : zD prog_11_method_12_code 32 (.iconst 0) 1 33 := ⟨by decide +kernel, rfl⟩
theorem d_9_cut_33 : zD prog_11_method_12_code 33 (.aload_n 0) 1 34 := ⟨by decide +kernel, rfl⟩
theorem d_9_cut_34 : zD prog_11_method_12_code 34 (.getfield 172) 3 37 := ⟨by decide +kernel, rfl⟩
theorem d_9_cut_37 : zD prog_11_method_12_code 37 (.iconst 0) 1 38 := ⟨by decide +kernel, rfl⟩
theorem d_9_cut_38 : zD prog_11_method_12_code 38 (.lconst 0) 1 39 := ⟨by decide +kernel, rfl⟩
theorem d_9_cut_39 : zD prog_11_method_12_code 39 (.invokevirtual 188) 3 42 := ⟨by decide +kernel, rfl⟩
theorem d_9_cut_42 : zD prog_11_method_12_code 42 (.return_) 1 43 := ⟨by decide +kernel, rfl⟩
theorem d_9_cut_43 : zD prog_11_method_12_code 43 (.iload_n 2) 1 44 := ⟨by decide +kernel, rfl⟩
theorem d_9_cut_44 : zD prog_11_method_12_code 44 (.bipush 9) 2 46 := ⟨by decide +kernel, rfl⟩
theorem d_9_cut_46 : zD prog_11_method_12_code 46 (.if_icmp .eq 21) 3 49 := ⟨by decide +kernel, rfl⟩
theorem d_9_cut_49 : zD prog_11_method_12_code 49 (.iload_n 2) 1 50 := ⟨by decide +kernel, rfl⟩
theorem d_9_cut_50 : zD prog_11_method_12_code 50 (.bipush 10) 2 52 := ⟨by decide +kernel, rfl⟩
theorem d_9_cut_52 : zD prog_11_method_12_code 52 (.if_icmp .eq 15) 3 55 := ⟨by decide +kernel, rfl⟩
theorem d_9_cut_55 : zD prog_11_method_12_code 55 (.iload_n 2) 1 56 := ⟨by decide +kernel, rfl⟩
theorem d_9_cut_56 : zD prog_11_method_12_code 56 (.bipush 13) 2 58 := ⟨by decide +kernel, rfl⟩
theorem d_9_cut_58 : zD prog_11_method_12_code 58 (.if_icmp .eq 9) 3 61 := ⟨by decide +kernel, rfl⟩
theorem d_9_cut_61 : zD prog_11_method_12_code 61 (.iload_n 2) 1 62 := ⟨by decide +kernel, rfl⟩
theorem d_9_cut_62 : zD prog_11_method_12_code 62 (.bipush 32) 2 64 := ⟨by decide +kernel, rfl⟩
theorem d_9_cut_64 : zD prog_11_method_12_code 64 (.if_icmp .ne 9) 3 67 := ⟨by decide +kernel, rfl⟩
theorem d_9_cut_67 : zD prog_11_method_12_code 67 (.iinc 1 1) 3 70 := ⟨by decide +kernel, rfl⟩
theorem d_9_cut_70 : zD prog_11_method_12_code 70 (.goto 221) 3 73 := ⟨by decide +kernel, rfl⟩
theorem d_9_cut_73 : zD prog_11_method_12_code 73 (.iload_n 2) 1 74 := ⟨by decide +kernel, rfl⟩
theorem d_9_cut_74 : zD prog_11_method_12_code 74 (.invokestatic 192) 3 77 := ⟨by decide +kernel, rfl⟩
theorem d_9_cut_77 : zD prog_11_method_12_code 77 (.ifCond .eq 119) 3 80 := ⟨by decide +kernel, rfl⟩
theorem d_9_cut_80 : zD prog_11_method_12_code 80 (.iconst 0) 1 81 := ⟨by decide +kernel, rfl⟩
theorem d_9_cut_81 : zD prog_11_method_12_code 81 (.istore_n 3) 1 82 := ⟨by decide +kernel, rfl⟩
theorem d_9_cut_82 : zD prog_11_method_12_code 82 (.lconst 0) 1 83 := ⟨by decide +kernel, rfl⟩
theorem d_9_cut_83 : zD prog_11_method_12_code 83 (.lstore 4) 2 85 := ⟨by decide +kernel, rfl⟩
theorem d_9_cut_85 : zD prog_11_method_12_code 85 (.aload_n 0) 1 86 := ⟨by decide +kernel, rfl⟩
theorem d_9_cut_86 : zD prog_11_method_12_code 86 (.iload_n 1) 1 87 := ⟨by decide +kernel, rfl⟩
theorem d_9_cut_87 : zD prog_11_method_12_code 87 (.iload_n 3) 1 88 := ⟨by decide +kernel, rfl⟩
theorem d_9_cut_88 : zD prog_11_method_12_code 88 (.iadd) 1 89 := ⟨by decide +kernel, rfl⟩
theorem d_9_cut_89 : zD prog_11_method_12_code 89 (.invokevirtual 184) 3 92 := ⟨by decide +kernel, rfl⟩
theorem d_9_cut_92 : zD prog_11_method_12_code 92 (.invokestatic 192) 3 95 := ⟨by decide +kernel, rfl⟩
theorem d_9_cut_95 : zD prog_11_method_12_code 95 (.ifCond .eq 29) 3 98 := ⟨by decide +kernel, rfl⟩
theorem d_9_cut_98 : zD prog_11_method_12_code 98 (.iload_n 3) 1 99 := ⟨by decide +kernel, rfl⟩
theorem d_9_cut_99 : zD prog_11_method_12_code 99 (.bipush 8) 2 101 := ⟨by decide +kernel, rfl⟩
theorem d_9_cut_101 : zD prog_11_method_12_code 101 (.if_icmp .ge 17) 3 104 := ⟨by decide +kernel, rfl⟩
theorem d_9_cut_104 : zD prog_11_method_12_code 104 (.lload 4) 2 106 := ⟨by decide +kernel, rfl⟩
theorem d_9_cut_106 : zD prog_11_method_12_code 106 (.aload_n 0) 1 107 := ⟨by decide +kernel, rfl⟩
theorem d_9_cut_107 : zD prog_11_method_12_code 107 (.iload_n 1) 1 108 := ⟨by decide +kernel, rfl⟩
theorem d_9_cut_108 : zD prog_11_method_12_code 108 (.iload_n 3) 1 109 := ⟨by decide +kernel, rfl⟩
theorem d_9_cut_109 : zD prog_11_method_12_code 109 (.iadd) 1 110 := ⟨by decide +kernel, rfl⟩
theorem d_9_cut_110 : zD prog_11_method_12_code 110 (.invokevirtual 184) 3 113 := ⟨by decide +kernel, rfl⟩
theorem d_9_cut_113 : zD prog_11_method_12_code 113 (.invokestatic 177) 3 116 := ⟨by decide +kernel, rfl⟩
theorem d_9_cut_116 : zD prog_11_method_12_code 116 (.lstore 4) 2 118 := ⟨by decide +kernel, rfl⟩
theorem d_9_cut_118 : zD prog_11_method_12_code 118 (.iinc 3 1) 3 121 := ⟨by decide +kernel, rfl⟩
theorem d_9_cut_121 : zD prog_11_method_12_code 121 (.goto (-36)) 3 124 := ⟨by decide +kernel, rfl⟩
theorem d_9_cut_124 : zD prog_11_method_12_code 124 (.iload_n 3) 1 125 := ⟨by decide +kernel, rfl⟩
theorem d_9_cut_125 : zD prog_11_method_12_code 125 (.bipush 8) 2 127 := ⟨by decide +kernel, rfl⟩
theorem d_9_cut_127 : zD prog_11_method_12_code 127 (.if_icmp .le 7) 3 130 := ⟨by decide +kernel, rfl⟩
theorem d_9_cut_130 : zD prog_11_method_12_code 130 (.iconst 3) 1 131 := ⟨by decide +kernel, rfl⟩
theorem d_9_cut_131 : zD prog_11_method_12_code 131 (.goto 4) 3 134 := ⟨by decide +kernel, rfl⟩
theorem d_9_cut_134 : zD prog_11_method_12_code 134 (.iconst 1) 1 135 := ⟨by decide +kernel, rfl⟩
theorem d_9_cut_135 : zD prog_11_method_12_code 135 (.istore 6) 2 137 := ⟨by decide +kernel, rfl⟩
theorem d_9_cut_137 : zD prog_11_method_12_code 137 (.iload_n 3) 1 138 := ⟨by decide +kernel, rfl⟩
theorem d_9_cut_138 : zD prog_11_method_12_code 138 (.bipush 8) 2 140 := ⟨by decide +kernel, rfl⟩
theorem d_9_cut_140 : zD prog_11_method_12_code 140 (.if_icmp .gt 39) 3 143 := ⟨by decide +kernel, rfl⟩
theorem d_9_cut_143 : zD prog_11_method_12_code 143 (.iconst 0) 1 144 := ⟨by decide +kernel, rfl⟩
theorem d_9_cut_144 : zD prog_11_method_12_code 144 (.istore 7) 2 146 := ⟨by decide +kernel, rfl⟩
theorem d_9_cut_146 : zD prog_11_method_12_code 146 (.iload 7) 2 148 := ⟨by decide +kernel, rfl⟩
theorem d_9_cut_148 : zD prog_11_method_12_code 148 (.bipush 21) 2 150 := ⟨by decide +kernel, rfl⟩
theorem d_9_cut_150 : zD prog_11_method_12_code 150 (.if_icmp .ge 29) 3 153 := ⟨by decide +kernel, rfl⟩
theorem d_9_cut_153 : zD prog_11_method_12_code 153 (.aload_n 0) 1 154 := ⟨by decide +kernel, rfl⟩
theorem d_9_cut_154 : zD prog_11_method_12_code 154 (.getfield 34) 3 157 := ⟨by decide +kernel, rfl⟩
theorem d_9_cut_157 : zD prog_11_method_12_code 157 (.iload 7) 2 159 := ⟨by decide +kernel, rfl⟩
theorem d_9_cut_159 : zD prog_11_method_12_code 159 (.laload) 1 160 := ⟨by decide +kernel, rfl⟩
theorem d_9_cut_160 : zD prog_11_method_12_code 160 (.lload 4) 2 162 := ⟨by decide +kernel, rfl⟩
theorem d_9_cut_162 : zD prog_11_method_12_code 162 (.lcmp) 1 163 := ⟨by decide +kernel, rfl⟩
theorem d_9_cut_163 : zD prog_11_method_12_code 163 (.ifCond .ne 10) 3 166 := ⟨by decide +kernel, rfl⟩
theorem d_9_cut_166 : zD prog_11_method_12_code 166 (.bipush 20) 2 168 := ⟨by decide +kernel, rfl⟩
theorem d_9_cut_168 : zD prog_11_method_12_code 168 (.iload 7) 2 170 := ⟨by decide +kernel, rfl⟩
theorem d_9_cut_170 : zD prog_11_method_12_code 170 (.iadd) 1 171 := ⟨by decide +kernel, rfl⟩
theorem d_9_cut_171 : zD prog_11_method_12_code 171 (.istore 6) 2 173 := ⟨by decide +kernel, rfl⟩
theorem d_9_cut_173 : zD prog_11_method_12_code 173 (.iinc 7 1) 3 176 := ⟨by decide +kernel, rfl⟩
theorem d_9_cut_176 : zD prog_11_method_12_code 176 (.goto (-30)) 3 179 := ⟨by decide +kernel, rfl⟩
theorem d_9_cut_179 : zD prog_11_method_12_code 179 (.aload_n 0) 1 180 := ⟨by decide +kernel, rfl⟩
theorem d_9_cut_180 : zD prog_11_method_12_code 180 (.iload 6) 2 182 := ⟨by decide +kernel, rfl⟩
theorem d_9_cut_182 : zD prog_11_method_12_code 182 (.iload_n 1) 1 183 := ⟨by decide +kernel, rfl⟩
theorem d_9_cut_183 : zD prog_11_method_12_code 183 (.iconst 0) 1 184 := ⟨by decide +kernel, rfl⟩
theorem d_9_cut_184 : zD prog_11_method_12_code 184 (.lload 4) 2 186 := ⟨by decide +kernel, rfl⟩
theorem d_9_cut_186 : zD prog_11_method_12_code 186 (.invokevirtual 188) 3 189 := ⟨by decide +kernel, rfl⟩
theorem d_9_cut_189 : zD prog_11_method_12_code 189 (.iload_n 1) 1 190 := ⟨by decide +kernel, rfl⟩
theorem d_9_cut_190 : zD prog_11_method_12_code 190 (.iload_n 3) 1 191 := ⟨by decide +kernel, rfl⟩
theorem d_9_cut_191 : zD prog_11_method_12_code 191 (.iadd) 1 192 := ⟨by decide +kernel, rfl⟩
theorem d_9_cut_192 : zD prog_11_method_12_code 192 (.istore_n 1) 1 193 := ⟨by decide +kernel, rfl⟩
theorem d_9_cut_193 : zD prog_11_method_12_code 193 (.goto 98) 3 196 := ⟨by decide +kernel, rfl⟩
theorem d_9_cut_196 : zD prog_11_method_12_code 196 (.iload_n 2) 1 197 := ⟨by decide +kernel, rfl⟩
theorem d_9_cut_197 : zD prog_11_method_12_code 197 (.invokestatic 196) 3 200 := ⟨by decide +kernel, rfl⟩
theorem d_9_cut_200 : zD prog_11_method_12_code 200 (.ifCond .eq 75) 3 203 := ⟨by decide +kernel, rfl⟩
theorem d_9_cut_203 : zD prog_11_method_12_code 203 (.iconst 0) 1 204 := ⟨by decide +kernel, rfl⟩
theorem d_9_cut_204 : zD prog_11_method_12_code 204 (.istore_n 3) 1 205 := ⟨by decide +kernel, rfl⟩
theorem d_9_cut_205 : zD prog_11_method_12_code 205 (.iconst 0) 1 206 := ⟨by decide +kernel, rfl⟩
theorem d_9_cut_206 : zD prog_11_method_12_code 206 (.istore 4) 2 208 := ⟨by decide +kernel, rfl⟩
theorem d_9_cut_208 : zD prog_11_method_12_code 208 (.aload_n 0) 1 209 := ⟨by decide +kernel, rfl⟩
theorem d_9_cut_209 : zD prog_11_method_12_code 209 (.iload_n 1) 1 210 := ⟨by decide +kernel, rfl⟩
theorem d_9_cut_210 : zD prog_11_method_12_code 210 (.iload_n 3) 1 211 := ⟨by decide +kernel, rfl⟩
theorem d_9_cut_211 : zD prog_11_method_12_code 211 (.iadd) 1 212 := ⟨by decide +kernel, rfl⟩
theorem d_9_cut_212 : zD prog_11_method_12_code 212 (.invokevirtual 184) 3 215 := ⟨by decide +kernel, rfl⟩
theorem d_9_cut_215 : zD prog_11_method_12_code 215 (.invokestatic 196) 3 218 := ⟨by decide +kernel, rfl⟩
theorem d_9_cut_218 : zD prog_11_method_12_code 218 (.ifCond .eq 32) 3 221 := ⟨by decide +kernel, rfl⟩
theorem d_9_cut_221 : zD prog_11_method_12_code 221 (.iload_n 3) 1 222 := ⟨by decide +kernel, rfl⟩
theorem d_9_cut_222 : zD prog_11_method_12_code 222 (.iconst 4) 1 223 := ⟨by decide +kernel, rfl⟩
theorem d_9_cut_223 : zD prog_11_method_12_code 223 (.if_icmp .ge 21) 3 226 := ⟨by decide +kernel, rfl⟩
theorem d_9_cut_226 : zD prog_11_method_12_code 226 (.bipush 10) 2 228 := ⟨by decide +kernel, rfl⟩
theorem d_9_cut_228 : zD prog_11_method_12_code 228 (.iload 4) 2 230 := ⟨by decide +kernel, rfl⟩
theorem d_9_cut_230 : zD prog_11_method_12_code 230 (.imul) 1 231 := ⟨by decide +kernel, rfl⟩
theorem d_9_cut_231 : zD prog_11_method_12_code 231 (.aload_n 0) 1 232 := ⟨by decide +kernel, rfl⟩
theorem d_9_cut_232 : zD prog_11_method_12_code 232 (.iload_n 1) 1 233 := ⟨by decide +kernel, rfl⟩
theorem d_9_cut_233 : zD prog_11_method_12_code 233 (.iload_n 3) 1 234 := ⟨by decide +kernel, rfl⟩
theorem d_9_cut_234 : zD prog_11_method_12_code 234 (.iadd) 1 235 := ⟨by decide +kernel, rfl⟩
theorem d_9_cut_235 : zD prog_11_method_12_code 235 (.invokevirtual 184) 3 238 := ⟨by decide +kernel, rfl⟩
theorem d_9_cut_238 : zD prog_11_method_12_code 238 (.iadd) 1 239 := ⟨by decide +kernel, rfl⟩
theorem d_9_cut_239 : zD prog_11_method_12_code 239 (.bipush 48) 2 241 := ⟨by decide +kernel, rfl⟩
theorem d_9_cut_241 : zD prog_11_method_12_code 241 (.isub) 1 242 := ⟨by decide +kernel, rfl⟩
theorem d_9_cut_242 : zD prog_11_method_12_code 242 (.istore 4) 2 244 := ⟨by decide +kernel, rfl⟩
theorem d_9_cut_244 : zD prog_11_method_12_code 244 (.iinc 3 1) 3 247 := ⟨by decide +kernel, rfl⟩
theorem d_9_cut_247 : zD prog_11_method_12_code 247 (.goto (-39)) 3 250 := ⟨by decide +kernel, rfl⟩
theorem d_9_cut_250 : zD prog_11_method_12_code 250 (.aload_n 0) 1 251 := ⟨by decide +kernel, rfl⟩
theorem d_9_cut_251 : zD prog_11_method_12_code 251 (.iload_n 3) 1 252 := ⟨by decide +kernel, rfl⟩
theorem d_9_cut_252 : zD prog_11_method_12_code 252 (.iconst 4) 1 253 := ⟨by decide +kernel, rfl⟩
theorem d_9_cut_253 : zD prog_11_method_12_code 253 (.if_icmp .le 7) 3 256 := ⟨by decide +kernel, rfl⟩
theorem d_9_cut_256 : zD prog_11_method_12_code 256 (.iconst 3) 1 257 := ⟨by decide +kernel, rfl⟩
theorem d_9_cut_257 : zD prog_11_method_12_code 257 (.goto 4) 3 260 := ⟨by decide +kernel, rfl⟩
theorem d_9_cut_260 : zD prog_11_method_12_code 260 (.iconst 2) 1 261 := ⟨by decide +kernel, rfl⟩
theorem d_9_cut_261 : zD prog_11_method_12_code 261 (.iload_n 1) 1 262 := ⟨by decide +kernel, rfl⟩
theorem d_9_cut_262 : zD prog_11_method_12_code 262 (.iload 4) 2 264 := ⟨by decide +kernel, rfl⟩
theorem d_9_cut_264 : zD prog_11_method_12_code 264 (.lconst 0) 1 265 := ⟨by decide +kernel, rfl⟩
theorem d_9_cut_265 : zD prog_11_method_12_code 265 (.invokevirtual 188) 3 268 := ⟨by decide +kernel, rfl⟩
theorem d_9_cut_268 : zD prog_11_method_12_code 268 (.iload_n 1) 1 269 := ⟨by decide +kernel, rfl⟩
theorem d_9_cut_269 : zD prog_11_method_12_code 269 (.iload_n 3) 1 270 := ⟨by decide +kernel, rfl⟩
theorem d_9_cut_270 : zD prog_11_method_12_code 270 (.iadd) 1 271 := ⟨by decide +kernel, rfl⟩
theorem d_9_cut_271 : zD prog_11_method_12_code 271 (.istore_n 1) 1 272 := ⟨by decide +kernel, rfl⟩
theorem d_9_cut_272 : zD prog_11_method_12_code 272 (.goto 19) 3 275 := ⟨by decide +kernel, rfl⟩
theorem d_9_cut_275 : zD prog_11_method_12_code 275 (.iload_n 1) 1 276 := ⟨by decide +kernel, rfl⟩
theorem d_9_cut_276 : zD prog_11_method_12_code 276 (.aload_n 0) 1 277 := ⟨by decide +kernel, rfl⟩
theorem d_9_cut_277 : zD prog_11_method_12_code 277 (.iload_n 1) 1 278 := ⟨by decide +kernel, rfl⟩
theorem d_9_cut_278 : zD prog_11_method_12_code 278 (.iload_n 2) 1 279 := ⟨by decide +kernel, rfl⟩
theorem d_9_cut_279 : zD prog_11_method_12_code 279 (.aload_n 0) 1 280 := ⟨by decide +kernel, rfl⟩
theorem d_9_cut_280 : zD prog_11_method_12_code 280 (.iload_n 1) 1 281 := ⟨by decide +kernel, rfl⟩
theorem d_9_cut_281 : zD prog_11_method_12_code 281 (.iconst 1) 1 282 := ⟨by decide +kernel, rfl⟩
theorem d_9_cut_282 : zD prog_11_method_12_code 282 (.iadd) 1 283 := ⟨by decide +kernel, rfl⟩
theorem d_9_cut_283 : zD prog_11_method_12_code 283 (.invokevirtual 184) 3 286 := ⟨by decide +kernel, rfl⟩
theorem d_9_cut_286 : zD prog_11_method_12_code 286 (.invokevirtual 199) 3 289 := ⟨by decide +kernel, rfl⟩
theorem d_9_cut_289 : zD prog_11_method_12_code 289 (.iadd) 1 290 := ⟨by decide +kernel, rfl⟩
theorem d_9_cut_290 : zD prog_11_method_12_code 290 (.istore_n 1) 1 291 := ⟨by decide +kernel, rfl⟩
theorem d_9_cut_291 : zD prog_11_method_12_code 291 (.goto (-284)) 3 294 := ⟨by decide +kernel, rfl⟩
theorem d_9_cut_294 : zD prog_11_method_12_code 294 (.return_) 1 295 := ⟨by decide +kernel, rfl⟩
theorem d_9_is_0 : zD prog_11_method_14_code 0 (.aload_n 0) 1 1 := ⟨by decide +kernel, rfl⟩
theorem d_9_is_1 : zD prog_11_method_14_code 1 (.getfield 203) 3 4 := ⟨by decide +kernel, rfl⟩
theorem d_9_is_4 : zD prog_11_method_14_code 4 (.ifCond .ne 20) 3 7 := ⟨by decide +kernel, rfl⟩
theorem d_9_is_7 : zD prog_11_method_14_code 7 (.aload_n 0) 1 8 := ⟨by decide +kernel, rfl⟩
theorem d_9_is_8 : zD prog_11_method_14_code 8 (.getfield 20) 3 11 := ⟨by decide +kernel, rfl⟩
theorem d_9_is_11 : zD prog_11_method_14_code 11 (.aload_n 0) 1 12 := ⟨by decide +kernel, rfl⟩
theorem d_9_is_12 : zD prog_11_method_14_code 12 (.getfield 206) 3 15 := ⟨by decide +kernel, rfl⟩
theorem d_9_is_15 : zD prog_11_method_14_code 15 (.iaload) 1 16 := ⟨by decide +kernel, rfl⟩
theorem d_9_is_16 : zD prog_11_method_14_code 16 (.iload_n 1) 1 17 := ⟨by decide +kernel, rfl⟩
theorem d_9_is_17 : zD prog_11_method_14_code 17 (.if_icmp .ne 7) 3 20 := ⟨by decide +kernel, rfl⟩
theorem d_9_is_20 : zD prog_11_method_14_code 20 (.iconst 1) 1 21 := ⟨by decide +kernel, rfl⟩
theorem d_9_is_21 : zD prog_11_method_14_code 21 (.goto 4) 3 24 := ⟨by decide +kernel, rfl⟩
theorem d_9_is_24 : zD prog_11_method_14_code 24 (.iconst 0) 1 25 := ⟨by decide +kernel, rfl⟩
theorem d_9_is_25 : zD prog_11_method_14_code 25 (.ireturn) 1 26 := ⟨by decide +kernel, rfl⟩
theorem d_9_fail_0 : zD prog_11_method_15_code 0 (.aload_n 0) 1 1 := ⟨by decide +kernel, rfl⟩
theorem d_9_fail_1 : zD prog_11_method_15_code 1 (.getfield 203) 3 4 := ⟨by decide +kernel, rfl⟩
theorem d_9_fail_4 : zD prog_11_method_15_code 4 (.ifCond .le 4) 3 7 := ⟨by decide +kernel, rfl⟩
theorem d_9_fail_7 : zD prog_11_method_15_code 7 (.return_) 1 8 := ⟨by decide +kernel, rfl⟩
theorem d_9_fail_8 : zD prog_11_method_15_code 8 (.aload_n 0) 1 9 := ⟨by decide +kernel, rfl⟩
theorem d_9_fail_9 : zD prog_11_method_15_code 9 (.iload_n 1) 1 10 := ⟨by decide +kernel, rfl⟩
theorem d_9_fail_10 : zD prog_11_method_15_code 10 (.putfield 203) 3 13 := ⟨by decide +kernel, rfl⟩
theorem d_9_fail_13 : zD prog_11_method_15_code 13 (.aload_n 0) 1 14 := ⟨by decide +kernel, rfl⟩
theorem d_9_fail_14 : zD prog_11_method_15_code 14 (.aload_n 0) 1 15 := ⟨by decide +kernel, rfl⟩
theorem d_9_fail_15 : zD prog_11_method_15_code 15 (.getfield 24) 3 18 := ⟨by decide +kernel, rfl⟩
theorem d_9_fail_18 : zD prog_11_method_15_code 18 (.aload_n 0) 1 19 := ⟨by decide +kernel, rfl⟩
theorem d_9_fail_19 : zD prog_11_method_15_code 19 (.getfield 206) 3 22 := ⟨by decide +kernel, rfl⟩
theorem d_9_fail_22 : zD prog_11_method_15_code 22 (.iaload) 1 23 := ⟨by decide +kernel, rfl⟩
theorem d_9_fail_23 : zD prog_11_method_15_code 23 (.putfield 209) 3 26 := ⟨by decide +kernel, rfl⟩
theorem d_9_fail_26 : zD prog_11_method_15_code 26 (.return_) 1 27 := ⟨by decide +kernel, rfl⟩
theorem d_9_wrong_0 : zD prog_11_method_16_code 0 (.aload_n 0) 1 1 := ⟨by decide +kernel, rfl⟩
theorem d_9_wrong_1 : zD prog_11_method_16_code 1 (.getfield 24) 3 4 := ⟨by decide +kernel, rfl⟩
theorem d_9_wrong_4 : zD prog_11_method_16_code 4 (.iload_n 2) 1 5 := ⟨by decide +kernel, rfl⟩
theorem d_9_wrong_5 : zD prog_11_method_16_code 5 (.iaload) 1 6 := ⟨by decide +kernel, rfl⟩
theorem d_9_wrong_6 : zD prog_11_method_16_code 6 (.istore_n 3) 1 7 := ⟨by decide +kernel, rfl⟩
theorem d_9_wrong_7 : zD prog_11_method_16_code 7 (.aload_n 0) 1 8 := ⟨by decide +kernel, rfl⟩
theorem d_9_wrong_8 : zD prog_11_method_16_code 8 (.getfield 203) 3 11 := ⟨by decide +kernel, rfl⟩
theorem d_9_wrong_11 : zD prog_11_method_16_code 11 (.ifCond .gt 34) 3 14 := ⟨by decide +kernel, rfl⟩
theorem d_9_wrong_14 : zD prog_11_method_16_code 14 (.aload_n 0) 1 15 := ⟨by decide +kernel, rfl⟩
theorem d_9_wrong_15 : zD prog_11_method_16_code 15 (.getfield 212) 3 18 := ⟨by decide +kernel, rfl⟩
theorem d_9_wrong_18 : zD prog_11_method_16_code 18 (.ifCond .eq 28) 3 21 := ⟨by decide +kernel, rfl⟩
theorem d_9_wrong_21 : zD prog_11_method_16_code 21 (.iload_n 3) 1 22 := ⟨by decide +kernel, rfl⟩
theorem d_9_wrong_22 : zD prog_11_method_16_code 22 (.aload_n 0) 1 23 := ⟨by decide +kernel, rfl⟩
theorem d_9_wrong_23 : zD prog_11_method_16_code 23 (.getfield 215) 3 26 := ⟨by decide +kernel, rfl⟩
theorem d_9_wrong_26 : zD prog_11_method_16_code 26 (.if_icmp .gt 19) 3 29 := ⟨by decide +kernel, rfl⟩
theorem d_9_wrong_29 : zD prog_11_method_16_code 29 (.iload_n 3) 1 30 := ⟨by decide +kernel, rfl⟩
theorem d_9_wrong_30 : zD prog_11_method_16_code 30 (.aload_n 0) 1 31 := ⟨by decide +kernel, rfl⟩
theorem d_9_wrong_31 : zD prog_11_method_16_code 31 (.getfield 215) 3 34 := ⟨by decide +kernel, rfl⟩
theorem d_9_wrong_34 : zD prog_11_method_16_code 34 (.if_icmp .ne 12) 3 37 := ⟨by decide +kernel, rfl⟩
theorem d_9_wrong_37 : zD prog_11_method_16_code 37 (.iload_n 1) 1 38 := ⟨by decide +kernel, rfl⟩
theorem d_9_wrong_38 : zD prog_11_method_16_code 38 (.aload_n 0) 1 39 := ⟨by decide +kernel, rfl⟩
theorem d_9_wrong_39 : zD prog_11_method_16_code 39 (.getfield 212) 3 42 := ⟨by decide +kernel, rfl⟩
theorem d_9_wrong_42 : zD prog_11_method_16_code 42 (.if_icmp .lt 4) 3 45 := ⟨by decide +kernel, rfl⟩
theorem d_9_wrong_45 : zD prog_11_method_16_code 45 (.return_) 1 46 := ⟨by decide +kernel, rfl⟩
theorem d_9_wrong_46 : zD prog_11_method_16_code 46 (.aload_n 0) 1 47 := ⟨by decide +kernel, rfl⟩
theorem d_9_wrong_47 : zD prog_11_method_16_code 47 (.iload_n 1) 1 48 := ⟨by decide +kernel, rfl⟩
theorem d_9_wrong_48 : zD prog_11_method_16_code 48 (.putfield 212) 3 51 := ⟨by decide +kernel, rfl⟩
theorem d_9_wrong_51 : zD prog_11_method_16_code 51 (.aload_n 0) 1 52 := ⟨by decide +kernel, rfl⟩
theorem d_9_wrong_52 : zD prog_11_method_16_code 52 (.iload_n 3) 1 53 := ⟨by decide +kernel, rfl⟩
theorem d_9_wrong_53 : zD prog_11_method_16_code 53 (.putfield 215) 3 56 := ⟨by decide +kernel, rfl⟩
theorem d_9_wrong_56 : zD prog_11_method_16_code 56 (.return_) 1 57 := ⟨by decide +kernel, rfl⟩
theorem d_9_goesOn_0 : zD prog_11_method_17_code 0 (.aload_n 0) 1 1 := ⟨by decide +kernel, rfl⟩
theorem d_9_goesOn_1 : zD prog_11_method_17_code 1 (.getfield 206) 3 4 := ⟨by decide +kernel, rfl⟩
theorem d_9_goesOn_4 : zD prog_11_method_17_code 4 (.sipush 400) 3 7 := ⟨by decide +kernel, rfl⟩
theorem d_9_goesOn_7 : zD prog_11_method_17_code 7 (.if_icmp .ne 11) 3 10 := ⟨by decide +kernel, rfl⟩
theorem d_9_goesOn_10 : zD prog_11_method_17_code 10 (.aload_n 0) 1 11 := ⟨by decide +kernel, rfl⟩
theorem d_9_goesOn_11 : zD prog_11_method_17_code 11 (.iconst 2) 1 12 := ⟨by decide +kernel, rfl⟩
theorem d_9_goesOn_12 : zD prog_11_method_17_code 12 (.invokevirtual 218) 3 15 := ⟨by decide +kernel, rfl⟩
theorem d_9_goesOn_15 : zD prog_11_method_17_code 15 (.goto 13) 3 18 := ⟨by decide +kernel, rfl⟩
theorem d_9_goesOn_18 : zD prog_11_method_17_code 18 (.aload_n 0) 1 19 := ⟨by decide +kernel, rfl⟩
theorem d_9_goesOn_19 : zD prog_11_method_17_code 19 (.dup) 1 20 := ⟨by decide +kernel, rfl⟩
theorem d_9_goesOn_20 : zD prog_11_method_17_code 20 (.getfield 206) 3 23 := ⟨by decide +kernel, rfl⟩
theorem d_9_goesOn_23 : zD prog_11_method_17_code 23 (.iconst 1) 1 24 := ⟨by decide +kernel, rfl⟩
theorem d_9_goesOn_24 : zD prog_11_method_17_code 24 (.iadd) 1 25 := ⟨by decide +kernel, rfl⟩
theorem d_9_goesOn_25 : zD prog_11_method_17_code 25 (.putfield 206) 3 28 := ⟨by decide +kernel, rfl⟩
theorem d_9_goesOn_28 : zD prog_11_method_17_code 28 (.return_) 1 29 := ⟨by decide +kernel, rfl⟩
theorem d_9_must_0 : zD prog_11_method_18_code 0 (.aload_n 0) 1 1 := ⟨by decide +kernel, rfl⟩
theorem d_9_must_1 : zD prog_11_method_18_code 1 (.iload_n 1) 1 2 := ⟨by decide +kernel, rfl⟩
theorem d_9_must_2 : zD prog_11_method_18_code 2 (.invokevirtual 221) 3 5 := ⟨by decide +kernel, rfl⟩
theorem d_9_must_5 : zD prog_11_method_18_code 5 (.ifCond .eq 10) 3 8 := ⟨by decide +kernel, rfl⟩
theorem d_9_must_8 : zD prog_11_method_18_code 8 (.aload_n 0) 1 9 := ⟨by decide +kernel, rfl⟩
theorem d_9_must_9 : zD prog_11_method_18_code 9 (.invokevirtual 224) 3 12 := ⟨by decide +kernel, rfl⟩
theorem d_9_must_12 : zD prog_11_method_18_code 12 (.goto 8) 3 15 := ⟨by decide +kernel, rfl⟩
theorem d_9_must_15 : zD prog_11_method_18_code 15 (.aload_n 0) 1 16 := ⟨by decide +kernel, rfl⟩
theorem d_9_must_16 : zD prog_11_method_18_code 16 (.iconst 1) 1 17 := ⟨by decide +kernel, rfl⟩
theorem d_9_must_17 : zD prog_11_method_18_code 17 (.invokevirtual 218) 3 20 := ⟨by decide +kernel, rfl⟩
theorem d_9_must_20 : zD prog_11_method_18_code 20 (.return_) 1 21 := ⟨by decide +kernel, rfl⟩
theorem d_9_roomFor_0 : zD prog_11_method_22_code 0 (.iload_n 1) 1 1 := ⟨by decide +kernel, rfl⟩
theorem d_9_roomFor_1 : zD prog_11_method_22_code 1 (.iload_n 2) 1 2 := ⟨by decide +kernel, rfl⟩
theorem d_9_roomFor_2 : zD prog_11_method_22_code 2 (.if_icmp .ne 8) 3 5 := ⟨by decide +kernel, rfl⟩
theorem d_9_roomFor_5 : zD prog_11_method_22_code 5 (.aload_n 0) 1 6 := ⟨by decide +kernel, rfl⟩
theorem d_9_roomFor_6 : zD prog_11_method_22_code 6 (.iconst 2) 1 7 := ⟨by decide +kernel, rfl⟩
theorem d_9_roomFor_7 : zD prog_11_method_22_code 7 (.invokevirtual 218) 3 10 := ⟨by decide +kernel, rfl⟩
theorem d_9_roomFor_10 : zD prog_11_method_22_code 10 (.aload_n 0) 1 11 := ⟨by decide +kernel, rfl⟩
theorem d_9_roomFor_11 : zD prog_11_method_22_code 11 (.getfield 203) 3 14 := ⟨by decide +kernel, rfl⟩
theorem d_9_roomFor_14 : zD prog_11_method_22_code 14 (.ifCond .ne 7) 3 17 := ⟨by decide +kernel, rfl⟩
theorem d_9_roomFor_17 : zD prog_11_method_22_code 17 (.aload_n 0) 1 18 := ⟨by decide +kernel, rfl⟩
theorem d_9_roomFor_18 : zD prog_11_method_22_code 18 (.invokevirtual 224) 3 21 := ⟨by decide +kernel, rfl⟩
theorem d_9_roomFor_21 : zD prog_11_method_22_code 21 (.return_) 1 22 := ⟨by decide +kernel, rfl⟩
theorem d_9_named_0 : zD prog_11_method_24_code 0 (.aload_n 0) 1 1 := ⟨by decide +kernel, rfl⟩
theorem d_9_named_1 : zD prog_11_method_24_code 1 (.getfield 206) 3 4 := ⟨by decide +kernel, rfl⟩
theorem d_9_named_4 : zD prog_11_method_24_code 4 (.istore_n 1) 1 5 := ⟨by decide +kernel, rfl⟩
theorem d_9_named_5 : zD prog_11_method_24_code 5 (.aload_n 0) 1 6 := ⟨by decide +kernel, rfl⟩
theorem d_9_named_6 : zD prog_11_method_24_code 6 (.iconst 1) 1 7 := ⟨by decide +kernel, rfl⟩
theorem d_9_named_7 : zD prog_11_method_24_code 7 (.invokevirtual 277) 3 10 := ⟨by decide +kernel, rfl⟩
theorem d_9_named_10 : zD prog_11_method_24_code 10 (.iconst 0) 1 11 := ⟨by decide +kernel, rfl⟩
theorem d_9_named_11 : zD prog_11_method_24_code 11 (.istore_n 2) 1 12 := ⟨by decide +kernel, rfl⟩
theorem d_9_named_12 : zD prog_11_method_24_code 12 (.iload_n 2) 1 13 := ⟨by decide +kernel, rfl⟩
theorem d_9_named_13 : zD prog_11_method_24_code 13 (.aload_n 0) 1 14 := ⟨by decide +kernel, rfl⟩
theorem d_9_named_14 : zD prog_11_method_24_code 14 (.getfield 239) 3 17 := ⟨by decide +kernel, rfl⟩
theorem d_9_named_17 : zD prog_11_method_24_code 17 (.if_icmp .ge 38) 3 20 := ⟨by decide +kernel, rfl⟩
theorem d_9_named_20 : zD prog_11_method_24_code 20 (.aload_n 0) 1 21 := ⟨by decide +kernel, rfl⟩
theorem d_9_named_21 : zD prog_11_method_24_code 21 (.getfield 203) 3 24 := ⟨by decide +kernel, rfl⟩
theorem d_9_named_24 : zD prog_11_method_24_code 24 (.ifCond .ne 31) 3 27 := ⟨by decide +kernel, rfl⟩
theorem d_9_named_27 : zD prog_11_method_24_code 27 (.aload_n 0) 1 28 := ⟨by decide +kernel, rfl⟩
theorem d_9_named_28 : zD prog_11_method_24_code 28 (.getfield 40) 3 31 := ⟨by decide +kernel, rfl⟩
theorem d_9_named_31 : zD prog_11_method_24_code 31 (.iload_n 2) 1 32 := ⟨by decide +kernel, rfl⟩
theorem d_9_named_32 : zD prog_11_method_24_code 32 (.laload) 1 33 := ⟨by decide +kernel, rfl⟩
theorem d_9_named_33 : zD prog_11_method_24_code 33 (.aload_n 0) 1 34 := ⟨by decide +kernel, rfl⟩
theorem d_9_named_34 : zD prog_11_method_24_code 34 (.getfield 30) 3 37 := ⟨by decide +kernel, rfl⟩
theorem d_9_named_37 : zD prog_11_method_24_code 37 (.iload_n 1) 1 38 := ⟨by decide +kernel, rfl⟩
theorem d_9_named_38 : zD prog_11_method_24_code 38 (.laload) 1 39 := ⟨by decide +kernel, rfl⟩
theorem d_9_named_39 : zD prog_11_method_24_code 39 (.lcmp) 1 40 := ⟨by decide +kernel, rfl⟩
theorem d_9_named_40 : zD prog_11_method_24_code 40 (.ifCond .ne 9) 3 43 := ⟨by decide +kernel, rfl⟩
theorem d_9_named_43 : zD prog_11_method_24_code 43 (.aload_n 0) 1 44 := ⟨by decide +kernel, rfl⟩
theorem d_9_named_44 : zD prog_11_method_24_code 44 (.iconst 3) 1 45 := ⟨by decide +kernel, rfl⟩
theorem d_9_named_45 : zD prog_11_method_24_code 45 (.iload_n 1) 1 46 := ⟨by decide +kernel, rfl⟩
theorem d_9_named_46 : zD prog_11_method_24_code 46 (.invokevirtual 283) 3 49 := ⟨by decide +kernel, rfl⟩
theorem d_9_named_49 : zD prog_11_method_24_code 49 (.iinc 2 1) 3 52 := ⟨by decide +kernel, rfl⟩
theorem d_9_named_52 : zD prog_11_method_24_code 52 (.goto (-40)) 3 55 := ⟨by decide +kernel, rfl⟩
theorem d_9_named_55 : zD prog_11_method_24_code 55 (.iload_n 1) 1 56 := ⟨by decide +kernel, rfl⟩
theorem d_9_named_56 : zD prog_11_method_24_code 56 (.ireturn) 1 57 := ⟨by decide +kernel, rfl⟩
theorem d_9_bounded_0 : zD prog_11_method_27_code 0 (.aload_n 0) 1 1 := ⟨by decide +kernel, rfl⟩
theorem d_9_bounded_1 : zD prog_11_method_27_code 1 (.getfield 203) 3 4 := ⟨by decide +kernel, rfl⟩
theorem d_9_bounded_4 : zD prog_11_method_27_code 4 (.ifCond .gt 11) 3 7 := ⟨by decide +kernel, rfl⟩
theorem d_9_bounded_7 : zD prog_11_method_27_code 7 (.aload_n 0) 1 8 := ⟨by decide +kernel, rfl⟩
theorem d_9_bounded_8 : zD prog_11_method_27_code 8 (.iconst 2) 1 9 := ⟨by decide +kernel, rfl⟩
theorem d_9_bounded_9 : zD prog_11_method_27_code 9 (.invokevirtual 221) 3 12 := ⟨by decide +kernel, rfl⟩
theorem d_9_bounded_12 : zD prog_11_method_27_code 12 (.ifCond .ne 10) 3 15 := ⟨by decide +kernel, rfl⟩
theorem d_9_bounded_15 : zD prog_11_method_27_code 15 (.aload_n 0) 1 16 := ⟨by decide +kernel, rfl⟩
theorem d_9_bounded_16 : zD prog_11_method_27_code 16 (.iconst 1) 1 17 := ⟨by decide +kernel, rfl⟩
theorem d_9_bounded_17 : zD prog_11_method_27_code 17 (.invokevirtual 218) 3 20 := ⟨by decide +kernel, rfl⟩
theorem d_9_bounded_20 : zD prog_11_method_27_code 20 (.iconst 0) 1 21 := ⟨by decide +kernel, rfl⟩
theorem d_9_bounded_21 : zD prog_11_method_27_code 21 (.ireturn) 1 22 := ⟨by decide +kernel, rfl⟩
theorem d_9_bounded_22 : zD prog_11_method_27_code 22 (.aload_n 0) 1 23 := ⟨by decide +kernel, rfl⟩
theorem d_9_bounded_23 : zD prog_11_method_27_code 23 (.getfield 27) 3 26 := ⟨by decide +kernel, rfl⟩
theorem d_9_bounded_26 : zD prog_11_method_27_code 26 (.aload_n 0) 1 27 := ⟨by decide +kernel, rfl⟩
theorem d_9_bounded_27 : zD prog_11_method_27_code 27 (.getfield 206) 3 30 := ⟨by decide +kernel, rfl⟩
theorem d_9_bounded_30 : zD prog_11_method_27_code 30 (.iaload) 1 31 := ⟨by decide +kernel, rfl⟩
theorem d_9_bounded_31 : zD prog_11_method_27_code 31 (.istore_n 2) 1 32 := ⟨by decide +kernel, rfl⟩
theorem d_9_bounded_32 : zD prog_11_method_27_code 32 (.iload_n 2) 1 33 := ⟨by decide +kernel, rfl⟩
theorem d_9_bounded_33 : zD prog_11_method_27_code 33 (.iload_n 1) 1 34 := ⟨by decide +kernel, rfl⟩
theorem d_9_bounded_34 : zD prog_11_method_27_code 34 (.if_icmp .le 12) 3 37 := ⟨by decide +kernel, rfl⟩
theorem d_9_bounded_37 : zD prog_11_method_27_code 37 (.aload_n 0) 1 38 := ⟨by decide +kernel, rfl⟩
theorem d_9_bounded_38 : zD prog_11_method_27_code 38 (.iconst 5) 1 39 := ⟨by decide +kernel, rfl⟩
theorem d_9_bounded_39 : zD prog_11_method_27_code 39 (.aload_n 0) 1 40 := ⟨by decide +kernel, rfl⟩
theorem d_9_bounded_40 : zD prog_11_method_27_code 40 (.getfield 206) 3 43 := ⟨by decide +kernel, rfl⟩
theorem d_9_bounded_43 : zD prog_11_method_27_code 43 (.invokevirtual 283) 3 46 := ⟨by decide +kernel, rfl⟩
theorem d_9_bounded_46 : zD prog_11_method_27_code 46 (.aload_n 0) 1 47 := ⟨by decide +kernel, rfl⟩
theorem d_9_bounded_47 : zD prog_11_method_27_code 47 (.invokevirtual 224) 3 50 := ⟨by decide +kernel, rfl⟩
theorem d_9_bounded_50 : zD prog_11_method_27_code 50 (.iload_n 2) 1 51 := ⟨by decide +kernel, rfl⟩
theorem d_9_bounded_51 : zD prog_11_method_27_code 51 (.ireturn) 1 52 := ⟨by decide +kernel, rfl⟩
theorem d_9_endsName_0 : zD prog_11_method_25_code 0 (.aload_n 0) 1 1 := ⟨by decide +kernel, rfl⟩
theorem d_9_endsName_1 : zD prog_11_method_25_code 1 (.iconst 4) 1 2 := ⟨by decide +kernel, rfl⟩
theorem d_9_endsName_2 : zD prog_11_method_25_code 2 (.invokevirtual 277) 3 5 := ⟨by decide +kernel, rfl⟩
theorem d_9_endsName_5 : zD prog_11_method_25_code 5 (.aload_n 0) 1 6 := ⟨by decide +kernel, rfl⟩
theorem d_9_endsName_6 : zD prog_11_method_25_code 6 (.getfield 203) 3 9 := ⟨by decide +kernel, rfl⟩
theorem d_9_endsName_9 : zD prog_11_method_25_code 9 (.ifCond .le 4) 3 12 := ⟨by decide +kernel, rfl⟩
theorem d_9_endsName_12 : zD prog_11_method_25_code 12 (.return_) 1 13 := ⟨by decide +kernel, rfl⟩
theorem d_9_endsName_13 : zD prog_11_method_25_code 13 (.aload_n 0) 1 14 := ⟨by decide +kernel, rfl⟩
theorem d_9_endsName_14 : zD prog_11_method_25_code 14 (.getfield 40) 3 17 := ⟨by decide +kernel, rfl⟩
theorem d_9_endsName_17 : zD prog_11_method_25_code 17 (.aload_n 0) 1 18 := ⟨by decide +kernel, rfl⟩
theorem d_9_endsName_18 : zD prog_11_method_25_code 18 (.getfield 239) 3 21 := ⟨by decide +kernel, rfl⟩
theorem d_9_endsName_21 : zD prog_11_method_25_code 21 (.aload_n 0) 1 22 := ⟨by decide +kernel, rfl⟩
theorem d_9_endsName_22 : zD prog_11_method_25_code 22 (.getfield 30) 3 25 := ⟨by decide +kernel, rfl⟩
theorem d_9_endsName_25 : zD prog_11_method_25_code 25 (.iload_n 1) 1 26 := ⟨by decide +kernel, rfl⟩
theorem d_9_endsName_26 : zD prog_11_method_25_code 26 (.laload) 1 27 := ⟨by decide +kernel, rfl⟩
theorem d_9_endsName_27 : zD prog_11_method_25_code 27 (.lastore) 1 28 := ⟨by decide +kernel, rfl⟩
theorem d_9_endsName_28 : zD prog_11_method_25_code 28 (.aload_n 0) 1 29 := ⟨by decide +kernel, rfl⟩
theorem d_9_endsName_29 : zD prog_11_method_25_code 29 (.getfield 43) 3 32 := ⟨by decide +kernel, rfl⟩
theorem d_9_endsName_32 : zD prog_11_method_25_code 32 (.aload_n 0) 1 33 := ⟨by decide +kernel, rfl⟩
theorem d_9_endsName_33 : zD prog_11_method_25_code 33 (.getfield 239) 3 36 := ⟨by decide +kernel, rfl⟩
theorem d_9_endsName_36 : zD prog_11_method_25_code 36 (.iload_n 2) 1 37 := ⟨by decide +kernel, rfl⟩
theorem d_9_endsName_37 : zD prog_11_method_25_code 37 (.iastore) 1 38 := ⟨by decide +kernel, rfl⟩
theorem d_9_endsName_38 : zD prog_11_method_25_code 38 (.aload_n 0) 1 39 := ⟨by decide +kernel, rfl⟩
theorem d_9_endsName_39 : zD prog_11_method_25_code 39 (.dup) 1 40 := ⟨by decide +kernel, rfl⟩
theorem d_9_endsName_40 : zD prog_11_method_25_code 40 (.getfield 239) 3 43 := ⟨by decide +kernel, rfl⟩
theorem d_9_endsName_43 : zD prog_11_method_25_code 43 (.iconst 1) 1 44 := ⟨by decide +kernel, rfl⟩
theorem d_9_endsName_44 : zD prog_11_method_25_code 44 (.iadd) 1 45 := ⟨by decide +kernel, rfl⟩
theorem d_9_endsName_45 : zD prog_11_method_25_code 45 (.putfield 239) 3 48 := ⟨by decide +kernel, rfl⟩
theorem d_9_endsName_48 : zD prog_11_method_25_code 48 (.return_) 1 49 := ⟨by decide +kernel, rfl⟩
theorem d_9_known_0 : zD prog_11_method_26_code 0 (.aload_n 0) 1 1 := ⟨by decide +kernel, rfl⟩
theorem d_9_known_1 : zD prog_11_method_26_code 1 (.getfield 206) 3 4 := ⟨by decide +kernel, rfl⟩
theorem d_9_known_4 : zD prog_11_method_26_code 4 (.istore_n 2) 1 5 := ⟨by decide +kernel, rfl⟩
theorem d_9_known_5 : zD prog_11_method_26_code 5 (.aload_n 0) 1 6 := ⟨by decide +kernel, rfl⟩
theorem d_9_known_6 : zD prog_11_method_26_code 6 (.iconst 1) 1 7 := ⟨by decide +kernel, rfl⟩
theorem d_9_known_7 : zD prog_11_method_26_code 7 (.invokevirtual 277) 3 10 := ⟨by decide +kernel, rfl⟩
theorem d_9_known_10 : zD prog_11_method_26_code 10 (.aload_n 0) 1 11 := ⟨by decide +kernel, rfl⟩
theorem d_9_known_11 : zD prog_11_method_26_code 11 (.getfield 203) 3 14 := ⟨by decide +kernel, rfl⟩
theorem d_9_known_14 : zD prog_11_method_26_code 14 (.ifCond .le 5) 3 17 := ⟨by decide +kernel, rfl⟩
theorem d_9_known_17 : zD prog_11_method_26_code 17 (.iconst (-1)) 1 18 := ⟨by decide +kernel, rfl⟩
theorem d_9_known_18 : zD prog_11_method_26_code 18 (.ireturn) 1 19 := ⟨by decide +kernel, rfl⟩
theorem d_9_known_19 : zD prog_11_method_26_code 19 (.iconst 0) 1 20 := ⟨by decide +kernel, rfl⟩
theorem d_9_known_20 : zD prog_11_method_26_code 20 (.istore_n 3) 1 21 := ⟨by decide +kernel, rfl⟩
theorem d_9_known_21 : zD prog_11_method_26_code 21 (.iload_n 3) 1 22 := ⟨by decide +kernel, rfl⟩
theorem d_9_known_22 : zD prog_11_method_26_code 22 (.aload_n 0) 1 23 := ⟨by decide +kernel, rfl⟩
theorem d_9_known_23 : zD prog_11_method_26_code 23 (.getfield 239) 3 26 := ⟨by decide +kernel, rfl⟩
theorem d_9_known_26 : zD prog_11_method_26_code 26 (.if_icmp .ge 57) 3 29 := ⟨by decide +kernel, rfl⟩
theorem d_9_known_29 : zD prog_11_method_26_code 29 (.aload_n 0) 1 30 := ⟨by decide +kernel, rfl⟩
theorem d_9_known_30 : zD prog_11_method_26_code 30 (.getfield 40) 3 33 := ⟨by decide +kernel, rfl⟩
theorem d_9_known_33 : zD prog_11_method_26_code 33 (.iload_n 3) 1 34 := ⟨by decide +kernel, rfl⟩
theorem d_9_known_34 : zD prog_11_method_26_code 34 (.laload) 1 35 := ⟨by decide +kernel, rfl⟩
theorem d_9_known_35 : zD prog_11_method_26_code 35 (.aload_n 0) 1 36 := ⟨by decide +kernel, rfl⟩
theorem d_9_known_36 : zD prog_11_method_26_code 36 (.getfield 30) 3 39 := ⟨by decide +kernel, rfl⟩
theorem d_9_known_39 : zD prog_11_method_26_code 39 (.iload_n 2) 1 40 := ⟨by decide +kernel, rfl⟩
theorem d_9_known_40 : zD prog_11_method_26_code 40 (.laload) 1 41 := ⟨by decide +kernel, rfl⟩
theorem d_9_known_41 : zD prog_11_method_26_code 41 (.lcmp) 1 42 := ⟨by decide +kernel, rfl⟩
theorem d_9_known_42 : zD prog_11_method_26_code 42 (.ifCond .ne 35) 3 45 := ⟨by decide +kernel, rfl⟩
theorem d_9_known_45 : zD prog_11_method_26_code 45 (.aload_n 0) 1 46 := ⟨by decide +kernel, rfl⟩
theorem d_9_known_46 : zD prog_11_method_26_code 46 (.getfield 43) 3 49 := ⟨by decide +kernel, rfl⟩
theorem d_9_known_49 : zD prog_11_method_26_code 49 (.iload_n 3) 1 50 := ⟨by decide +kernel, rfl⟩
theorem d_9_known_50 : zD prog_11_method_26_code 50 (.iaload) 1 51 := ⟨by decide +kernel, rfl⟩
theorem d_9_known_51 : zD prog_11_method_26_code 51 (.iload_n 1) 1 52 := ⟨by decide +kernel, rfl⟩
theorem d_9_known_52 : zD prog_11_method_26_code 52 (.if_icmp .lt 25) 3 55 := ⟨by decide +kernel, rfl⟩
theorem d_9_known_55 : zD prog_11_method_26_code 55 (.aload_n 0) 1 56 := ⟨by decide +kernel, rfl⟩
theorem d_9_known_56 : zD prog_11_method_26_code 56 (.getfield 43) 3 59 := ⟨by decide +kernel, rfl⟩
theorem d_9_known_59 : zD prog_11_method_26_code 59 (.iload_n 3) 1 60 := ⟨by decide +kernel, rfl⟩
theorem d_9_known_60 : zD prog_11_method_26_code 60 (.iaload) 1 61 := ⟨by decide +kernel, rfl⟩
theorem d_9_known_61 : zD prog_11_method_26_code 61 (.iload_n 1) 1 62 := ⟨by decide +kernel, rfl⟩
theorem d_9_known_62 : zD prog_11_method_26_code 62 (.bipush 10) 2 64 := ⟨by decide +kernel, rfl⟩
theorem d_9_known_64 : zD prog_11_method_26_code 64 (.iadd) 1 65 := ⟨by decide +kernel, rfl⟩
theorem d_9_known_65 : zD prog_11_method_26_code 65 (.if_icmp .ge 12) 3 68 := ⟨by decide +kernel, rfl⟩
theorem d_9_known_68 : zD prog_11_method_26_code 68 (.aload_n 0) 1 69 := ⟨by decide +kernel, rfl⟩
theorem d_9_known_69 : zD prog_11_method_26_code 69 (.getfield 43) 3 72 := ⟨by decide +kernel, rfl⟩
theorem d_9_known_72 : zD prog_11_method_26_code 72 (.iload_n 3) 1 73 := ⟨by decide +kernel, rfl⟩
theorem d_9_known_73 : zD prog_11_method_26_code 73 (.iaload) 1 74 := ⟨by decide +kernel, rfl⟩
theorem d_9_known_74 : zD prog_11_method_26_code 74 (.iload_n 1) 1 75 := ⟨by decide +kernel, rfl⟩
theorem d_9_known_75 : zD prog_11_method_26_code 75 (.isub) 1 76 := ⟨by decide +kernel, rfl⟩
theorem d_9_known_76 : zD prog_11_method_26_code 76 (.ireturn) 1 77 := ⟨by decide +kernel, rfl⟩
theorem d_9_known_77 : zD prog_11_method_26_code 77 (.iinc 3 1) 3 80 := ⟨by decide +kernel, rfl⟩
theorem d_9_known_80 : zD prog_11_method_26_code 80 (.goto (-59)) 3 83 := ⟨by decide +kernel, rfl⟩
theorem d_9_known_83 : zD prog_11_method_26_code 83 (.aload_n 0) 1 84 := ⟨by decide +kernel, rfl⟩
theorem d_9_known_84 : zD prog_11_method_26_code 84 (.iconst 4) 1 85 := ⟨by decide +kernel, rfl⟩
theorem d_9_known_85 : zD prog_11_method_26_code 85 (.iload_n 2) 1 86 := ⟨by decide +kernel, rfl⟩
theorem d_9_known_86 : zD prog_11_method_26_code 86 (.invokevirtual 283) 3 89 := ⟨by decide +kernel, rfl⟩
theorem d_9_known_89 : zD prog_11_method_26_code 89 (.iconst (-1)) 1 90 := ⟨by decide +kernel, rfl⟩
theorem d_9_known_90 : zD prog_11_method_26_code 90 (.ireturn) 1 91 := ⟨by decide +kernel, rfl⟩
theorem d_9_tellRight_0 : zD prog_11_method_28_code 0 (.aload_n 0) 1 1 := ⟨by decide +kernel, rfl⟩
theorem d_9_tellRight_1 : zD prog_11_method_28_code 1 (.bipush 10) 2 3 := ⟨by decide +kernel, rfl⟩
theorem d_9_tellRight_3 : zD prog_11_method_28_code 3 (.invokevirtual 286) 3 6 := ⟨by decide +kernel, rfl⟩
theorem d_9_tellRight_6 : zD prog_11_method_28_code 6 (.istore_n 1) 1 7 := ⟨by decide +kernel, rfl⟩
theorem d_9_tellRight_7 : zD prog_11_method_28_code 7 (.aload_n 0) 1 8 := ⟨by decide +kernel, rfl⟩
theorem d_9_tellRight_8 : zD prog_11_method_28_code 8 (.getfield 206) 3 11 := ⟨by decide +kernel, rfl⟩
theorem d_9_tellRight_11 : zD prog_11_method_28_code 11 (.istore_n 2) 1 12 := ⟨by decide +kernel, rfl⟩
theorem d_9_tellRight_12 : zD prog_11_method_28_code 12 (.aload_n 0) 1 13 := ⟨by decide +kernel, rfl⟩
theorem d_9_tellRight_13 : zD prog_11_method_28_code 13 (.iconst 0) 1 14 := ⟨by decide +kernel, rfl⟩
theorem d_9_tellRight_14 : zD prog_11_method_28_code 14 (.invokevirtual 286) 3 17 := ⟨by decide +kernel, rfl⟩
theorem d_9_tellRight_17 : zD prog_11_method_28_code 17 (.istore_n 3) 1 18 := ⟨by decide +kernel, rfl⟩
theorem d_9_tellRight_18 : zD prog_11_method_28_code 18 (.aload_n 0) 1 19 := ⟨by decide +kernel, rfl⟩
theorem d_9_tellRight_19 : zD prog_11_method_28_code 19 (.getfield 203) 3 22 := ⟨by decide +kernel, rfl⟩
theorem d_9_tellRight_22 : zD prog_11_method_28_code 22 (.ifCond .ne 15) 3 25 := ⟨by decide +kernel, rfl⟩
theorem d_9_tellRight_25 : zD prog_11_method_28_code 25 (.iload_n 1) 1 26 := ⟨by decide +kernel, rfl⟩
theorem d_9_tellRight_26 : zD prog_11_method_28_code 26 (.ifCond .lt 11) 3 29 := ⟨by decide +kernel, rfl⟩
theorem d_9_tellRight_29 : zD prog_11_method_28_code 29 (.iload_n 3) 1 30 := ⟨by decide +kernel, rfl⟩
theorem d_9_tellRight_30 : zD prog_11_method_28_code 30 (.ifCond .lt 7) 3 33 := ⟨by decide +kernel, rfl⟩
theorem d_9_tellRight_33 : zD prog_11_method_28_code 33 (.iconst 1) 1 34 := ⟨by decide +kernel, rfl⟩
theorem d_9_tellRight_34 : zD prog_11_method_28_code 34 (.goto 4) 3 37 := ⟨by decide +kernel, rfl⟩
theorem d_9_tellRight_37 : zD prog_11_method_28_code 37 (.iconst 0) 1 38 := ⟨by decide +kernel, rfl⟩
theorem d_9_tellRight_38 : zD prog_11_method_28_code 38 (.istore 4) 2 40 := ⟨by decide +kernel, rfl⟩
theorem d_9_tellRight_40 : zD prog_11_method_28_code 40 (.iload 4) 2 42 := ⟨by decide +kernel, rfl⟩
theorem d_9_tellRight_42 : zD prog_11_method_28_code 42 (.ifCond .eq 30) 3 45 := ⟨by decide +kernel, rfl⟩
theorem d_9_tellRight_45 : zD prog_11_method_28_code 45 (.aload_n 0) 1 46 := ⟨by decide +kernel, rfl⟩
theorem d_9_tellRight_46 : zD prog_11_method_28_code 46 (.getfield 52) 3 49 := ⟨by decide +kernel, rfl⟩
theorem d_9_tellRight_49 : zD prog_11_method_28_code 49 (.iconst 5) 1 50 := ⟨by decide +kernel, rfl⟩
theorem d_9_tellRight_50 : zD prog_11_method_28_code 50 (.aload_n 0) 1 51 := ⟨by decide +kernel, rfl⟩
theorem d_9_tellRight_51 : zD prog_11_method_28_code 51 (.getfield 236) 3 54 := ⟨by decide +kernel, rfl⟩
theorem d_9_tellRight_54 : zD prog_11_method_28_code 54 (.imul) 1 55 := ⟨by decide +kernel, rfl⟩
theorem d_9_tellRight_55 : zD prog_11_method_28_code 55 (.iload_n 3) 1 56 := ⟨by decide +kernel, rfl⟩
theorem d_9_tellRight_56 : zD prog_11_method_28_code 56 (.iadd) 1 57 := ⟨by decide +kernel, rfl⟩
theorem d_9_tellRight_57 : zD prog_11_method_28_code 57 (.iaload) 1 58 := ⟨by decide +kernel, rfl⟩
theorem d_9_tellRight_58 : zD prog_11_method_28_code 58 (.iload_n 1) 1 59 := ⟨by decide +kernel, rfl⟩
theorem d_9_tellRight_59 : zD prog_11_method_28_code 59 (.ishr) 1 60 := ⟨by decide +kernel, rfl⟩
theorem d_9_tellRight_60 : zD prog_11_method_28_code 60 (.iconst 1) 1 61 := ⟨by decide +kernel, rfl⟩
theorem d_9_tellRight_61 : zD prog_11_method_28_code 61 (.iand) 1 62 := ⟨by decide +kernel, rfl⟩
theorem d_9_tellRight_62 : zD prog_11_method_28_code 62 (.iconst 1) 1 63 := ⟨by decide +kernel, rfl⟩
theorem d_9_tellRight_63 : zD prog_11_method_28_code 63 (.if_icmp .ne 9) 3 66 := ⟨by decide +kernel, rfl⟩
theorem d_9_tellRight_66 : zD prog_11_method_28_code 66 (.aload_n 0) 1 67 := ⟨by decide +kernel, rfl⟩
theorem d_9_tellRight_67 : zD prog_11_method_28_code 67 (.iconst 3) 1 68 := ⟨by decide +kernel, rfl⟩
theorem d_9_tellRight_68 : zD prog_11_method_28_code 68 (.iload_n 2) 1 69 := ⟨by decide +kernel, rfl⟩
theorem d_9_tellRight_69 : zD prog_11_method_28_code 69 (.invokevirtual 283) 3 72 := ⟨by decide +kernel, rfl⟩
theorem d_9_tellRight_72 : zD prog_11_method_28_code 72 (.aload_n 0) 1 73 := ⟨by decide +kernel, rfl⟩
theorem d_9_tellRight_73 : zD prog_11_method_28_code 73 (.iconst 4) 1 74 := ⟨by decide +kernel, rfl⟩
theorem d_9_tellRight_74 : zD prog_11_method_28_code 74 (.invokevirtual 277) 3 77 := ⟨by decide +kernel, rfl⟩
theorem d_9_tellRight_77 : zD prog_11_method_28_code 77 (.aload_n 0) 1 78 := ⟨by decide +kernel, rfl⟩
theorem d_9_tellRight_78 : zD prog_11_method_28_code 78 (.getfield 203) 3 81 := ⟨by decide +kernel, rfl⟩
theorem d_9_tellRight_81 : zD prog_11_method_28_code 81 (.ifCond .le 4) 3 84 := ⟨by decide +kernel, rfl⟩
theorem d_9_tellRight_84 : zD prog_11_method_28_code 84 (.return_) 1 85 := ⟨by decide +kernel, rfl⟩
theorem d_9_tellRight_85 : zD prog_11_method_28_code 85 (.aload_n 0) 1 86 := ⟨by decide +kernel, rfl⟩
theorem d_9_tellRight_86 : zD prog_11_method_28_code 86 (.getfield 64) 3 89 := ⟨by decide +kernel, rfl⟩
theorem d_9_tellRight_89 : zD prog_11_method_28_code 89 (.aload_n 0) 1 90 := ⟨by decide +kernel, rfl⟩
theorem d_9_tellRight_90 : zD prog_11_method_28_code 90 (.getfield 236) 3 93 := ⟨by decide +kernel, rfl⟩
theorem d_9_tellRight_93 : zD prog_11_method_28_code 93 (.dup2) 1 94 := ⟨by decide +kernel, rfl⟩
theorem d_9_tellRight_94 : zD prog_11_method_28_code 94 (.iaload) 1 95 := ⟨by decide +kernel, rfl⟩
theorem d_9_tellRight_95 : zD prog_11_method_28_code 95 (.iconst 1) 1 96 := ⟨by decide +kernel, rfl⟩
theorem d_9_tellRight_96 : zD prog_11_method_28_code 96 (.iadd) 1 97 := ⟨by decide +kernel, rfl⟩
theorem d_9_tellRight_97 : zD prog_11_method_28_code 97 (.iastore) 1 98 := ⟨by decide +kernel, rfl⟩
theorem d_9_tellRight_98 : zD prog_11_method_28_code 98 (.iload 4) 2 100 := ⟨by decide +kernel, rfl⟩
theorem d_9_tellRight_100 : zD prog_11_method_28_code 100 (.ifCond .eq 22) 3 103 := ⟨by decide +kernel, rfl⟩
theorem d_9_tellRight_103 : zD prog_11_method_28_code 103 (.aload_n 0) 1 104 := ⟨by decide +kernel, rfl⟩
theorem d_9_tellRight_104 : zD prog_11_method_28_code 104 (.getfield 52) 3 107 := ⟨by decide +kernel, rfl⟩
theorem d_9_tellRight_107 : zD prog_11_method_28_code 107 (.iconst 5) 1 108 := ⟨by decide +kernel, rfl⟩
theorem d_9_tellRight_108 : zD prog_11_method_28_code 108 (.aload_n 0) 1 109 := ⟨by decide +kernel, rfl⟩
theorem d_9_tellRight_109 : zD prog_11_method_28_code 109 (.getfield 236) 3 112 := ⟨by decide +kernel, rfl⟩
theorem d_9_tellRight_112 : zD prog_11_method_28_code 112 (.imul) 1 113 := ⟨by decide +kernel, rfl⟩
theorem d_9_tellRight_113 : zD prog_11_method_28_code 113 (.iload_n 3) 1 114 := ⟨by decide +kernel, rfl⟩
theorem d_9_tellRight_114 : zD prog_11_method_28_code 114 (.iadd) 1 115 := ⟨by decide +kernel, rfl⟩
theorem d_9_tellRight_115 : zD prog_11_method_28_code 115 (.dup2) 1 116 := ⟨by decide +kernel, rfl⟩
theorem d_9_tellRight_116 : zD prog_11_method_28_code 116 (.iaload) 1 117 := ⟨by decide +kernel, rfl⟩
theorem d_9_tellRight_117 : zD prog_11_method_28_code 117 (.iconst 1) 1 118 := ⟨by decide +kernel, rfl⟩
theorem d_9_tellRight_118 : zD prog_11_method_28_code 118 (.iload_n 1) 1 119 := ⟨by decide +kernel, rfl⟩
theorem d_9_tellRight_119 : zD prog_11_method_28_code 119 (.ishl) 1 120 := ⟨by decide +kernel, rfl⟩
theorem d_9_tellRight_120 : zD prog_11_method_28_code 120 (.ior) 1 121 := ⟨by decide +kernel, rfl⟩
theorem d_9_tellRight_121 : zD prog_11_method_28_code 121 (.iastore) 1 122 := ⟨by decide +kernel, rfl⟩
theorem d_9_tellRight_122 : zD prog_11_method_28_code 122 (.return_) 1 123 := ⟨by decide +kernel, rfl⟩
theorem d_9_tellAway_0 : zD prog_11_method_29_code 0 (.aload_n 0) 1 1 := ⟨by decide +kernel, rfl⟩
theorem d_9_tellAway_1 : zD prog_11_method_29_code 1 (.bipush 10) 2 3 := ⟨by decide +kernel, rfl⟩
theorem d_9_tellAway_3 : zD prog_11_method_29_code 3 (.invokevirtual 286) 3 6 := ⟨by decide +kernel, rfl⟩
theorem d_9_tellAway_6 : zD prog_11_method_29_code 6 (.istore_n 1) 1 7 := ⟨by decide +kernel, rfl⟩
theorem d_9_tellAway_7 : zD prog_11_method_29_code 7 (.aload_n 0) 1 8 := ⟨by decide +kernel, rfl⟩
theorem d_9_tellAway_8 : zD prog_11_method_29_code 8 (.bipush 99) 2 10 := ⟨by decide +kernel, rfl⟩
theorem d_9_tellAway_10 : zD prog_11_method_29_code 10 (.invokevirtual 265) 3 13 := ⟨by decide +kernel, rfl⟩
theorem d_9_tellAway_13 : zD prog_11_method_29_code 13 (.istore_n 2) 1 14 := ⟨by decide +kernel, rfl⟩
theorem d_9_tellAway_14 : zD prog_11_method_29_code 14 (.aload_n 0) 1 15 := ⟨by decide +kernel, rfl⟩
theorem d_9_tellAway_15 : zD prog_11_method_29_code 15 (.iconst 4) 1 16 := ⟨by decide +kernel, rfl⟩
theorem d_9_tellAway_16 : zD prog_11_method_29_code 16 (.invokevirtual 277) 3 19 := ⟨by decide +kernel, rfl⟩
theorem d_9_tellAway_19 : zD prog_11_method_29_code 19 (.aload_n 0) 1 20 := ⟨by decide +kernel, rfl⟩
theorem d_9_tellAway_20 : zD prog_11_method_29_code 20 (.getfield 203) 3 23 := ⟨by decide +kernel, rfl⟩
theorem d_9_tellAway_23 : zD prog_11_method_29_code 23 (.ifCond .le 4) 3 26 := ⟨by decide +kernel, rfl⟩
theorem d_9_tellAway_26 : zD prog_11_method_29_code 26 (.return_) 1 27 := ⟨by decide +kernel, rfl⟩
theorem d_9_tellAway_27 : zD prog_11_method_29_code 27 (.aload_n 0) 1 28 := ⟨by decide +kernel, rfl⟩
theorem d_9_tellAway_28 : zD prog_11_method_29_code 28 (.getfield 67) 3 31 := ⟨by decide +kernel, rfl⟩
theorem d_9_tellAway_31 : zD prog_11_method_29_code 31 (.aload_n 0) 1 32 := ⟨by decide +kernel, rfl⟩
theorem d_9_tellAway_32 : zD prog_11_method_29_code 32 (.getfield 236) 3 35 := ⟨by decide +kernel, rfl⟩
theorem d_9_tellAway_35 : zD prog_11_method_29_code 35 (.dup2) 1 36 := ⟨by decide +kernel, rfl⟩
theorem d_9_tellAway_36 : zD prog_11_method_29_code 36 (.iaload) 1 37 := ⟨by decide +kernel, rfl⟩
theorem d_9_tellAway_37 : zD prog_11_method_29_code 37 (.iconst 1) 1 38 := ⟨by decide +kernel, rfl⟩
theorem d_9_tellAway_38 : zD prog_11_method_29_code 38 (.iadd) 1 39 := ⟨by decide +kernel, rfl⟩
theorem d_9_tellAway_39 : zD prog_11_method_29_code 39 (.iastore) 1 40 := ⟨by decide +kernel, rfl⟩
theorem d_9_tellAway_40 : zD prog_11_method_29_code 40 (.iload_n 1) 1 41 := ⟨by decide +kernel, rfl⟩
theorem d_9_tellAway_41 : zD prog_11_method_29_code 41 (.ifCond .lt 18) 3 44 := ⟨by decide +kernel, rfl⟩
theorem d_9_tellAway_44 : zD prog_11_method_29_code 44 (.aload_n 0) 1 45 := ⟨by decide +kernel, rfl⟩
theorem d_9_tellAway_45 : zD prog_11_method_29_code 45 (.getfield 61) 3 48 := ⟨by decide +kernel, rfl⟩
theorem d_9_tellAway_48 : zD prog_11_method_29_code 48 (.bipush 7) 2 50 := ⟨by decide +kernel, rfl⟩
theorem d_9_tellAway_50 : zD prog_11_method_29_code 50 (.aload_n 0) 1 51 := ⟨by decide +kernel, rfl⟩
theorem d_9_tellAway_51 : zD prog_11_method_29_code 51 (.getfield 236) 3 54 := ⟨by decide +kernel, rfl⟩
theorem d_9_tellAway_54 : zD prog_11_method_29_code 54 (.imul) 1 55 := ⟨by decide +kernel, rfl⟩
theorem d_9_tellAway_55 : zD prog_11_method_29_code 55 (.iload_n 1) 1 56 := ⟨by decide +kernel, rfl⟩
theorem d_9_tellAway_56 : zD prog_11_method_29_code 56 (.iadd) 1 57 := ⟨by decide +kernel, rfl⟩
theorem d_9_tellAway_57 : zD prog_11_method_29_code 57 (.iload_n 2) 1 58 := ⟨by decide +kernel, rfl⟩
theorem d_9_tellAway_58 : zD prog_11_method_29_code 58 (.iastore) 1 59 := ⟨by decide +kernel, rfl⟩
theorem d_9_tellAway_59 : zD prog_11_method_29_code 59 (.return_) 1 60 := ⟨by decide +kernel, rfl⟩
theorem d_9_emit_0 : zD prog_11_method_32_code 0 (.aload_n 0) 1 1 := ⟨by decide +kernel, rfl⟩
theorem d_9_emit_1 : zD prog_11_method_32_code 1 (.getfield 95) 3 4 := ⟨by decide +kernel, rfl⟩
theorem d_9_emit_4 : zD prog_11_method_32_code 4 (.aload_n 0) 1 5 := ⟨by decide +kernel, rfl⟩
theorem d_9_emit_5 : zD prog_11_method_32_code 5 (.getfield 245) 3 8 := ⟨by decide +kernel, rfl⟩
theorem d_9_emit_8 : zD prog_11_method_32_code 8 (.iload_n 1) 1 9 := ⟨by decide +kernel, rfl⟩
theorem d_9_emit_9 : zD prog_11_method_32_code 9 (.iastore) 1 10 := ⟨by decide +kernel, rfl⟩
theorem d_9_emit_10 : zD prog_11_method_32_code 10 (.aload_n 0) 1 11 := ⟨by decide +kernel, rfl⟩
theorem d_9_emit_11 : zD prog_11_method_32_code 11 (.getfield 98) 3 14 := ⟨by decide +kernel, rfl⟩
theorem d_9_emit_14 : zD prog_11_method_32_code 14 (.aload_n 0) 1 15 := ⟨by decide +kernel, rfl⟩
theorem d_9_emit_15 : zD prog_11_method_32_code 15 (.getfield 245) 3 18 := ⟨by decide +kernel, rfl⟩
theorem d_9_emit_18 : zD prog_11_method_32_code 18 (.iload_n 2) 1 19 := ⟨by decide +kernel, rfl⟩
theorem d_9_emit_19 : zD prog_11_method_32_code 19 (.iastore) 1 20 := ⟨by decide +kernel, rfl⟩
theorem d_9_emit_20 : zD prog_11_method_32_code 20 (.aload_n 0) 1 21 := ⟨by decide +kernel, rfl⟩
theorem d_9_emit_21 : zD prog_11_method_32_code 21 (.dup) 1 22 := ⟨by decide +kernel, rfl⟩
theorem d_9_emit_22 : zD prog_11_method_32_code 22 (.getfield 245) 3 25 := ⟨by decide +kernel, rfl⟩
theorem d_9_emit_25 : zD prog_11_method_32_code 25 (.iconst 1) 1 26 := ⟨by decide +kernel, rfl⟩
theorem d_9_emit_26 : zD prog_11_method_32_code 26 (.iadd) 1 27 := ⟨by decide +kernel, rfl⟩
theorem d_9_emit_27 : zD prog_11_method_32_code 27 (.putfield 245) 3 30 := ⟨by decide +kernel, rfl⟩
theorem d_9_emit_30 : zD prog_11_method_32_code 30 (.return_) 1 31 := ⟨by decide +kernel, rfl⟩
theorem d_9_unit_0 : zD prog_11_method_35_code 0 (.aload_n 0) 1 1 := ⟨by decide +kernel, rfl⟩
theorem d_9_unit_1 : zD prog_11_method_35_code 1 (.iconst 2) 1 2 := ⟨by decide +kernel, rfl⟩
theorem d_9_unit_2 : zD prog_11_method_35_code 2 (.invokevirtual 221) 3 5 := ⟨by decide +kernel, rfl⟩
theorem d_9_unit_5 : zD prog_11_method_35_code 5 (.ifCond .eq 24) 3 8 := ⟨by decide +kernel, rfl⟩
theorem d_9_unit_8 : zD prog_11_method_35_code 8 (.aload_n 0) 1 9 := ⟨by decide +kernel, rfl⟩
theorem d_9_unit_9 : zD prog_11_method_35_code 9 (.iconst 0) 1 10 := ⟨by decide +kernel, rfl⟩
theorem d_9_unit_10 : zD prog_11_method_35_code 10 (.aload_n 0) 1 11 := ⟨by decide +kernel, rfl⟩
theorem d_9_unit_11 : zD prog_11_method_35_code 11 (.getfield 27) 3 14 := ⟨by decide +kernel, rfl⟩
theorem d_9_unit_14 : zD prog_11_method_35_code 14 (.aload_n 0) 1 15 := ⟨by decide +kernel, rfl⟩
theorem d_9_unit_15 : zD prog_11_method_35_code 15 (.getfield 206) 3 18 := ⟨by decide +kernel, rfl⟩
theorem d_9_unit_18 : zD prog_11_method_35_code 18 (.iaload) 1 19 := ⟨by decide +kernel, rfl⟩
theorem d_9_unit_19 : zD prog_11_method_35_code 19 (.invokevirtual 298) 3 22 := ⟨by decide +kernel, rfl⟩
theorem d_9_unit_22 : zD prog_11_method_35_code 22 (.aload_n 0) 1 23 := ⟨by decide +kernel, rfl⟩
theorem d_9_unit_23 : zD prog_11_method_35_code 23 (.invokevirtual 224) 3 26 := ⟨by decide +kernel, rfl⟩
theorem d_9_unit_26 : zD prog_11_method_35_code 26 (.goto 67) 3 29 := ⟨by decide +kernel, rfl⟩
theorem d_9_unit_29 : zD prog_11_method_35_code 29 (.aload_n 0) 1 30 := ⟨by decide +kernel, rfl⟩
theorem d_9_unit_30 : zD prog_11_method_35_code 30 (.getfield 203) 3 33 := ⟨by decide +kernel, rfl⟩
theorem d_9_unit_33 : zD prog_11_method_35_code 33 (.ifCond .ne 55) 3 36 := ⟨by decide +kernel, rfl⟩
theorem d_9_unit_36 : zD prog_11_method_35_code 36 (.aload_n 0) 1 37 := ⟨by decide +kernel, rfl⟩
theorem d_9_unit_37 : zD prog_11_method_35_code 37 (.getfield 20) 3 40 := ⟨by decide +kernel, rfl⟩
theorem d_9_unit_40 : zD prog_11_method_35_code 40 (.aload_n 0) 1 41 := ⟨by decide +kernel, rfl⟩
theorem d_9_unit_41 : zD prog_11_method_35_code 41 (.getfield 206) 3 44 := ⟨by decide +kernel, rfl⟩
theorem d_9_unit_44 : zD prog_11_method_35_code 44 (.iaload) 1 45 := ⟨by decide +kernel, rfl⟩
theorem d_9_unit_45 : zD prog_11_method_35_code 45 (.bipush 32) 2 47 := ⟨by decide +kernel, rfl⟩
theorem d_9_unit_47 : zD prog_11_method_35_code 47 (.if_icmp .lt 41) 3 50 := ⟨by decide +kernel, rfl⟩
theorem d_9_unit_50 : zD prog_11_method_35_code 50 (.aload_n 0) 1 51 := ⟨by decide +kernel, rfl⟩
theorem d_9_unit_51 : zD prog_11_method_35_code 51 (.getfield 20) 3 54 := ⟨by decide +kernel, rfl⟩
theorem d_9_unit_54 : zD prog_11_method_35_code 54 (.aload_n 0) 1 55 := ⟨by decide +kernel, rfl⟩
theorem d_9_unit_55 : zD prog_11_method_35_code 55 (.getfield 206) 3 58 := ⟨by decide +kernel, rfl⟩
theorem d_9_unit_58 : zD prog_11_method_35_code 58 (.iaload) 1 59 := ⟨by decide +kernel, rfl⟩
theorem d_9_unit_59 : zD prog_11_method_35_code 59 (.bipush 40) 2 61 := ⟨by decide +kernel, rfl⟩
theorem d_9_unit_61 : zD prog_11_method_35_code 61 (.if_icmp .gt 27) 3 64 := ⟨by decide +kernel, rfl⟩
theorem d_9_unit_64 : zD prog_11_method_35_code 64 (.aload_n 0) 1 65 := ⟨by decide +kernel, rfl⟩
theorem d_9_unit_65 : zD prog_11_method_35_code 65 (.iconst 1) 1 66 := ⟨by decide +kernel, rfl⟩
theorem d_9_unit_66 : zD prog_11_method_35_code 66 (.aload_n 0) 1 67 := ⟨by decide +kernel, rfl⟩
theorem d_9_unit_67 : zD prog_11_method_35_code 67 (.getfield 20) 3 70 := ⟨by decide +kernel, rfl⟩
theorem d_9_unit_70 : zD prog_11_method_35_code 70 (.aload_n 0) 1 71 := ⟨by decide +kernel, rfl⟩
theorem d_9_unit_71 : zD prog_11_method_35_code 71 (.getfield 206) 3 74 := ⟨by decide +kernel, rfl⟩
theorem d_9_unit_74 : zD prog_11_method_35_code 74 (.iaload) 1 75 := ⟨by decide +kernel, rfl⟩
theorem d_9_unit_75 : zD prog_11_method_35_code 75 (.bipush 32) 2 77 := ⟨by decide +kernel, rfl⟩
theorem d_9_unit_77 : zD prog_11_method_35_code 77 (.isub) 1 78 := ⟨by decide +kernel, rfl⟩
theorem d_9_unit_78 : zD prog_11_method_35_code 78 (.invokevirtual 298) 3 81 := ⟨by decide +kernel, rfl⟩
theorem d_9_unit_81 : zD prog_11_method_35_code 81 (.aload_n 0) 1 82 := ⟨by decide +kernel, rfl⟩
theorem d_9_unit_82 : zD prog_11_method_35_code 82 (.invokevirtual 224) 3 85 := ⟨by decide +kernel, rfl⟩
theorem d_9_unit_85 : zD prog_11_method_35_code 85 (.goto 8) 3 88 := ⟨by decide +kernel, rfl⟩
theorem d_9_unit_88 : zD prog_11_method_35_code 88 (.aload_n 0) 1 89 := ⟨by decide +kernel, rfl⟩
theorem d_9_unit_89 : zD prog_11_method_35_code 89 (.iconst 1) 1 90 := ⟨by decide +kernel, rfl⟩
theorem d_9_unit_90 : zD prog_11_method_35_code 90 (.invokevirtual 218) 3 93 := ⟨by decide +kernel, rfl⟩
theorem d_9_unit_93 : zD prog_11_method_35_code 93 (.return_) 1 94 := ⟨by decide +kernel, rfl⟩
theorem d_9_comesOut_0 : zD prog_11_method_33_code 0 (.aload_n 0) 1 1 := ⟨by decide +kernel, rfl⟩
theorem d_9_comesOut_1 : zD prog_11_method_33_code 1 (.getfield 295) 3 4 := ⟨by decide +kernel, rfl⟩
theorem d_9_comesOut_4 : zD prog_11_method_33_code 4 (.ifCond .le 87) 3 7 := ⟨by decide +kernel, rfl⟩
theorem d_9_comesOut_7 : zD prog_11_method_33_code 7 (.aload_n 0) 1 8 := ⟨by decide +kernel, rfl⟩
theorem d_9_comesOut_8 : zD prog_11_method_33_code 8 (.getfield 101) 3 11 := ⟨by decide +kernel, rfl⟩
theorem d_9_comesOut_11 : zD prog_11_method_33_code 11 (.aload_n 0) 1 12 := ⟨by decide +kernel, rfl⟩
theorem d_9_comesOut_12 : zD prog_11_method_33_code 12 (.getfield 295) 3 15 := ⟨by decide +kernel, rfl⟩
theorem d_9_comesOut_15 : zD prog_11_method_33_code 15 (.iconst 1) 1 16 := ⟨by decide +kernel, rfl⟩
theorem d_9_comesOut_16 : zD prog_11_method_33_code 16 (.isub) 1 17 := ⟨by decide +kernel, rfl⟩
theorem d_9_comesOut_17 : zD prog_11_method_33_code 17 (.iaload) 1 18 := ⟨by decide +kernel, rfl⟩
theorem d_9_comesOut_18 : zD prog_11_method_33_code 18 (.istore_n 2) 1 19 := ⟨by decide +kernel, rfl⟩
theorem d_9_comesOut_19 : zD prog_11_method_33_code 19 (.iload_n 2) 1 20 := ⟨by decide +kernel, rfl⟩
theorem d_9_comesOut_20 : zD prog_11_method_33_code 20 (.bipush 6) 2 22 := ⟨by decide +kernel, rfl⟩
theorem d_9_comesOut_22 : zD prog_11_method_33_code 22 (.if_icmp .eq 19) 3 25 := ⟨by decide +kernel, rfl⟩
theorem d_9_comesOut_25 : zD prog_11_method_33_code 25 (.iload_n 1) 1 26 := ⟨by decide +kernel, rfl⟩
theorem d_9_comesOut_26 : zD prog_11_method_33_code 26 (.ifCond .eq 16) 3 29 := ⟨by decide +kernel, rfl⟩
theorem d_9_comesOut_29 : zD prog_11_method_33_code 29 (.iload_n 2) 1 30 := ⟨by decide +kernel, rfl⟩
theorem d_9_comesOut_30 : zD prog_11_method_33_code 30 (.bipush 8) 2 32 := ⟨by decide +kernel, rfl⟩
theorem d_9_comesOut_32 : zD prog_11_method_33_code 32 (.if_icmp .eq 9) 3 35 := ⟨by decide +kernel, rfl⟩
theorem d_9_comesOut_35 : zD prog_11_method_33_code 35 (.iload_n 2) 1 36 := ⟨by decide +kernel, rfl⟩
theorem d_9_comesOut_36 : zD prog_11_method_33_code 36 (.bipush 9) 2 38 := ⟨by decide +kernel, rfl⟩
theorem d_9_comesOut_38 : zD prog_11_method_33_code 38 (.if_icmp .ne 4) 3 41 := ⟨by decide +kernel, rfl⟩
theorem d_9_comesOut_41 : zD prog_11_method_33_code 41 (.return_) 1 42 := ⟨by decide +kernel, rfl⟩
theorem d_9_comesOut_42 : zD prog_11_method_33_code 42 (.aload_n 0) 1 43 := ⟨by decide +kernel, rfl⟩
theorem d_9_comesOut_43 : zD prog_11_method_33_code 43 (.dup) 1 44 := ⟨by decide +kernel, rfl⟩
theorem d_9_comesOut_44 : zD prog_11_method_33_code 44 (.getfield 295) 3 47 := ⟨by decide +kernel, rfl⟩
theorem d_9_comesOut_47 : zD prog_11_method_33_code 47 (.iconst 1) 1 48 := ⟨by decide +kernel, rfl⟩
theorem d_9_comesOut_48 : zD prog_11_method_33_code 48 (.isub) 1 49 := ⟨by decide +kernel, rfl⟩
theorem d_9_comesOut_49 : zD prog_11_method_33_code 49 (.putfield 295) 3 52 := ⟨by decide +kernel, rfl⟩
theorem d_9_comesOut_52 : zD prog_11_method_33_code 52 (.aload_n 0) 1 53 := ⟨by decide +kernel, rfl⟩
theorem d_9_comesOut_53 : zD prog_11_method_33_code 53 (.iload_n 2) 1 54 := ⟨by decide +kernel, rfl⟩
theorem d_9_comesOut_54 : zD prog_11_method_33_code 54 (.bipush 8) 2 56 := ⟨by decide +kernel, rfl⟩
theorem d_9_comesOut_56 : zD prog_11_method_33_code 56 (.if_icmp .ne 7) 3 59 := ⟨by decide +kernel, rfl⟩
theorem d_9_comesOut_59 : zD prog_11_method_33_code 59 (.iconst 2) 1 60 := ⟨by decide +kernel, rfl⟩
theorem d_9_comesOut_60 : zD prog_11_method_33_code 60 (.goto 24) 3 63 := ⟨by decide +kernel, rfl⟩
theorem d_9_comesOut_63 : zD prog_11_method_33_code 63 (.iload_n 2) 1 64 := ⟨by decide +kernel, rfl⟩
theorem d_9_comesOut_64 : zD prog_11_method_33_code 64 (.bipush 9) 2 66 := ⟨by decide +kernel, rfl⟩
theorem d_9_comesOut_66 : zD prog_11_method_33_code 66 (.if_icmp .ne 7) 3 69 := ⟨by decide +kernel, rfl⟩
theorem d_9_comesOut_69 : zD prog_11_method_33_code 69 (.iconst 3) 1 70 := ⟨by decide +kernel, rfl⟩
theorem d_9_comesOut_70 : zD prog_11_method_33_code 70 (.goto 14) 3 73 := ⟨by decide +kernel, rfl⟩
theorem d_9_comesOut_73 : zD prog_11_method_33_code 73 (.iload_n 2) 1 74 := ⟨by decide +kernel, rfl⟩
theorem d_9_comesOut_74 : zD prog_11_method_33_code 74 (.bipush 10) 2 76 := ⟨by decide +kernel, rfl⟩
theorem d_9_comesOut_76 : zD prog_11_method_33_code 76 (.if_icmp .ne 7) 3 79 := ⟨by decide +kernel, rfl⟩
theorem d_9_comesOut_79 : zD prog_11_method_33_code 79 (.iconst 4) 1 80 := ⟨by decide +kernel, rfl⟩
theorem d_9_comesOut_80 : zD prog_11_method_33_code 80 (.goto 4) 3 83 := ⟨by decide +kernel, rfl⟩
theorem d_9_comesOut_83 : zD prog_11_method_33_code 83 (.iconst 5) 1 84 := ⟨by decide +kernel, rfl⟩
theorem d_9_comesOut_84 : zD prog_11_method_33_code 84 (.iconst 0) 1 85 := ⟨by decide +kernel, rfl⟩
theorem d_9_comesOut_85 : zD prog_11_method_33_code 85 (.invokevirtual 298) 3 88 := ⟨by decide +kernel, rfl⟩
theorem d_9_comesOut_88 : zD prog_11_method_33_code 88 (.goto (-88)) 3 91 := ⟨by decide +kernel, rfl⟩
theorem d_9_comesOut_91 : zD prog_11_method_33_code 91 (.return_) 1 92 := ⟨by decide +kernel, rfl⟩
theorem d_9_expression_0 : zD prog_11_method_34_code 0 (.aload_n 0) 1 1 := ⟨by decide +kernel, rfl⟩
theorem d_9_expression_1 : zD prog_11_method_34_code 1 (.iconst 0) 1 2 := ⟨by decide +kernel, rfl⟩
theorem d_9_expression_2 : zD prog_11_method_34_code 2 (.putfield 295) 3 5 := ⟨by decide +kernel, rfl⟩
theorem d_9_expression_5 : zD prog_11_method_34_code 5 (.aload_n 0) 1 6 := ⟨by decide +kernel, rfl⟩
theorem d_9_expression_6 : zD prog_11_method_34_code 6 (.getfield 230) 3 9 := ⟨by decide +kernel, rfl⟩
theorem d_9_expression_9 : zD prog_11_method_34_code 9 (.istore_n 1) 1 10 := ⟨by decide +kernel, rfl⟩
theorem d_9_expression_10 : zD prog_11_method_34_code 10 (.iconst 1) 1 11 := ⟨by decide +kernel, rfl⟩
theorem d_9_expression_11 : zD prog_11_method_34_code 11 (.istore_n 2) 1 12 := ⟨by decide +kernel, rfl⟩
theorem d_9_expression_12 : zD prog_11_method_34_code 12 (.iload_n 2) 1 13 := ⟨by decide +kernel, rfl⟩
theorem d_9_expression_13 : zD prog_11_method_34_code 13 (.ifCond .eq 259) 3 16 := ⟨by decide +kernel, rfl⟩
theorem d_9_expression_16 : zD prog_11_method_34_code 16 (.aload_n 0) 1 17 := ⟨by decide +kernel, rfl⟩
theorem d_9_expression_17 : zD prog_11_method_34_code 17 (.getfield 203) 3 20 := ⟨by decide +kernel, rfl⟩
theorem d_9_expression_20 : zD prog_11_method_34_code 20 (.ifCond .ne 252) 3 23 := ⟨by decide +kernel, rfl⟩
theorem d_9_expression_23 : zD prog_11_method_34_code 23 (.aload_n 0) 1 24 := ⟨by decide +kernel, rfl⟩
theorem d_9_expression_24 : zD prog_11_method_34_code 24 (.bipush 6) 2 26 := ⟨by decide +kernel, rfl⟩
theorem d_9_expression_26 : zD prog_11_method_34_code 26 (.invokevirtual 221) 3 29 := ⟨by decide +kernel, rfl⟩
theorem d_9_expression_29 : zD prog_11_method_34_code 29 (.ifCond .eq 55) 3 32 := ⟨by decide +kernel, rfl⟩
theorem d_9_expression_32 : zD prog_11_method_34_code 32 (.aload_n 0) 1 33 := ⟨by decide +kernel, rfl⟩
theorem d_9_expression_33 : zD prog_11_method_34_code 33 (.getfield 230) 3 36 := ⟨by decide +kernel, rfl⟩
theorem d_9_expression_36 : zD prog_11_method_34_code 36 (.bipush 6) 2 38 := ⟨by decide +kernel, rfl⟩
theorem d_9_expression_38 : zD prog_11_method_34_code 38 (.if_icmp .ne 8) 3 41 := ⟨by decide +kernel, rfl⟩
theorem d_9_expression_41 : zD prog_11_method_34_code 41 (.aload_n 0) 1 42 := ⟨by decide +kernel, rfl⟩
theorem d_9_expression_42 : zD prog_11_method_34_code 42 (.iconst 2) 1 43 := ⟨by decide +kernel, rfl⟩
theorem d_9_expression_43 : zD prog_11_method_34_code 43 (.invokevirtual 218) 3 46 := ⟨by decide +kernel, rfl⟩
theorem d_9_expression_46 : zD prog_11_method_34_code 46 (.aload_n 0) 1 47 := ⟨by decide +kernel, rfl⟩
theorem d_9_expression_47 : zD prog_11_method_34_code 47 (.dup) 1 48 := ⟨by decide +kernel, rfl⟩
theorem d_9_expression_48 : zD prog_11_method_34_code 48 (.getfield 230) 3 51 := ⟨by decide +kernel, rfl⟩
theorem d_9_expression_51 : zD prog_11_method_34_code 51 (.iconst 1) 1 52 := ⟨by decide +kernel, rfl⟩
theorem d_9_expression_52 : zD prog_11_method_34_code 52 (.iadd) 1 53 := ⟨by decide +kernel, rfl⟩
theorem d_9_expression_53 : zD prog_11_method_34_code 53 (.putfield 230) 3 56 := ⟨by decide +kernel, rfl⟩
theorem d_9_expression_56 : zD prog_11_method_34_code 56 (.aload_n 0) 1 57 := ⟨by decide +kernel, rfl⟩
theorem d_9_expression_57 : zD prog_11_method_34_code 57 (.invokevirtual 224) 3 60 := ⟨by decide +kernel, rfl⟩
theorem d_9_expression_60 : zD prog_11_method_34_code 60 (.aload_n 0) 1 61 := ⟨by decide +kernel, rfl⟩
theorem d_9_expression_61 : zD prog_11_method_34_code 61 (.getfield 101) 3 64 := ⟨by decide +kernel, rfl⟩
theorem d_9_expression_64 : zD prog_11_method_34_code 64 (.aload_n 0) 1 65 := ⟨by decide +kernel, rfl⟩
theorem d_9_expression_65 : zD prog_11_method_34_code 65 (.getfield 295) 3 68 := ⟨by decide +kernel, rfl⟩
theorem d_9_expression_68 : zD prog_11_method_34_code 68 (.bipush 6) 2 70 := ⟨by decide +kernel, rfl⟩
theorem d_9_expression_70 : zD prog_11_method_34_code 70 (.iastore) 1 71 := ⟨by decide +kernel, rfl⟩
theorem d_9_expression_71 : zD prog_11_method_34_code 71 (.aload_n 0) 1 72 := ⟨by decide +kernel, rfl⟩
theorem d_9_expression_72 : zD prog_11_method_34_code 72 (.dup) 1 73 := ⟨by decide +kernel, rfl⟩
theorem d_9_expression_73 : zD prog_11_method_34_code 73 (.getfield 295) 3 76 := ⟨by decide +kernel, rfl⟩
theorem d_9_expression_76 : zD prog_11_method_34_code 76 (.iconst 1) 1 77 := ⟨by decide +kernel, rfl⟩
theorem d_9_expression_77 : zD prog_11_method_34_code 77 (.iadd) 1 78 := ⟨by decide +kernel, rfl⟩
theorem d_9_expression_78 : zD prog_11_method_34_code 78 (.putfield 295) 3 81 := ⟨by decide +kernel, rfl⟩
theorem d_9_expression_81 : zD prog_11_method_34_code 81 (.goto (-58)) 3 84 := ⟨by decide +kernel, rfl⟩
theorem d_9_expression_84 : zD prog_11_method_34_code 84 (.aload_n 0) 1 85 := ⟨by decide +kernel, rfl⟩
theorem d_9_expression_85 : zD prog_11_method_34_code 85 (.invokevirtual 301) 3 88 := ⟨by decide +kernel, rfl⟩
theorem d_9_expression_88 : zD prog_11_method_34_code 88 (.aload_n 0) 1 89 := ⟨by decide +kernel, rfl⟩
theorem d_9_expression_89 : zD prog_11_method_34_code 89 (.getfield 203) 3 92 := ⟨by decide +kernel, rfl⟩
theorem d_9_expression_92 : zD prog_11_method_34_code 92 (.ifCond .le 4) 3 95 := ⟨by decide +kernel, rfl⟩
theorem d_9_expression_95 : zD prog_11_method_34_code 95 (.return_) 1 96 := ⟨by decide +kernel, rfl⟩
theorem d_9_expression_96 : zD prog_11_method_34_code 96 (.aload_n 0) 1 97 := ⟨by decide +kernel, rfl⟩
theorem d_9_expression_97 : zD prog_11_method_34_code 97 (.bipush 7) 2 99 := ⟨by decide +kernel, rfl⟩
theorem d_9_expression_99 : zD prog_11_method_34_code 99 (.invokevirtual 221) 3 102 := ⟨by decide +kernel, rfl⟩
theorem d_9_expression_102 : zD prog_11_method_34_code 102 (.ifCond .eq 43) 3 105 := ⟨by decide +kernel, rfl⟩
theorem d_9_expression_105 : zD prog_11_method_34_code 105 (.aload_n 0) 1 106 := ⟨by decide +kernel, rfl⟩
theorem d_9_expression_106 : zD prog_11_method_34_code 106 (.getfield 230) 3 109 := ⟨by decide +kernel, rfl⟩
theorem d_9_expression_109 : zD prog_11_method_34_code 109 (.iload_n 1) 1 110 := ⟨by decide +kernel, rfl⟩
theorem d_9_expression_110 : zD prog_11_method_34_code 110 (.if_icmp .le 35) 3 113 := ⟨by decide +kernel, rfl⟩
theorem d_9_expression_113 : zD prog_11_method_34_code 113 (.aload_n 0) 1 114 := ⟨by decide +kernel, rfl⟩
theorem d_9_expression_114 : zD prog_11_method_34_code 114 (.iconst 0) 1 115 := ⟨by decide +kernel, rfl⟩
theorem d_9_expression_115 : zD prog_11_method_34_code 115 (.invokevirtual 304) 3 118 := ⟨by decide +kernel, rfl⟩
theorem d_9_expression_118 : zD prog_11_method_34_code 118 (.aload_n 0) 1 119 := ⟨by decide +kernel, rfl⟩
theorem d_9_expression_119 : zD prog_11_method_34_code 119 (.dup) 1 120 := ⟨by decide +kernel, rfl⟩
theorem d_9_expression_120 : zD prog_11_method_34_code 120 (.getfield 295) 3 123 := ⟨by decide +kernel, rfl⟩
theorem d_9_expression_123 : zD prog_11_method_34_code 123 (.iconst 1) 1 124 := ⟨by decide +kernel, rfl⟩
theorem d_9_expression_124 : zD prog_11_method_34_code 124 (.isub) 1 125 := ⟨by decide +kernel, rfl⟩
theorem d_9_expression_125 : zD prog_11_method_34_code 125 (.putfield 295) 3 128 := ⟨by decide +kernel, rfl⟩
theorem d_9_expression_128 : zD prog_11_method_34_code 128 (.aload_n 0) 1 129 := ⟨by decide +kernel, rfl⟩
theorem d_9_expression_129 : zD prog_11_method_34_code 129 (.dup) 1 130 := ⟨by decide +kernel, rfl⟩
theorem d_9_expression_130 : zD prog_11_method_34_code 130 (.getfield 230) 3 133 := ⟨by decide +kernel, rfl⟩
theorem d_9_expression_133 : zD prog_11_method_34_code 133 (.iconst 1) 1 134 := ⟨by decide +kernel, rfl⟩
theorem d_9_expression_134 : zD prog_11_method_34_code 134 (.isub) 1 135 := ⟨by decide +kernel, rfl⟩
theorem d_9_expression_135 : zD prog_11_method_34_code 135 (.putfield 230) 3 138 := ⟨by decide +kernel, rfl⟩
theorem d_9_expression_138 : zD prog_11_method_34_code 138 (.aload_n 0) 1 139 := ⟨by decide +kernel, rfl⟩
theorem d_9_expression_139 : zD prog_11_method_34_code 139 (.invokevirtual 224) 3 142 := ⟨by decide +kernel, rfl⟩
theorem d_9_expression_142 : zD prog_11_method_34_code 142 (.goto (-46)) 3 145 := ⟨by decide +kernel, rfl⟩
theorem d_9_expression_145 : zD prog_11_method_34_code 145 (.aload_n 0) 1 146 := ⟨by decide +kernel, rfl⟩
theorem d_9_expression_146 : zD prog_11_method_34_code 146 (.bipush 8) 2 148 := ⟨by decide +kernel, rfl⟩
theorem d_9_expression_148 : zD prog_11_method_34_code 148 (.invokevirtual 221) 3 151 := ⟨by decide +kernel, rfl⟩
theorem d_9_expression_151 : zD prog_11_method_34_code 151 (.ifCond .ne 30) 3 154 := ⟨by decide +kernel, rfl⟩
theorem d_9_expression_154 : zD prog_11_method_34_code 154 (.aload_n 0) 1 155 := ⟨by decide +kernel, rfl⟩
theorem d_9_expression_155 : zD prog_11_method_34_code 155 (.bipush 9) 2 157 := ⟨by decide +kernel, rfl⟩
theorem d_9_expression_157 : zD prog_11_method_34_code 157 (.invokevirtual 221) 3 160 := ⟨by decide +kernel, rfl⟩
theorem d_9_expression_160 : zD prog_11_method_34_code 160 (.ifCond .ne 21) 3 163 := ⟨by decide +kernel, rfl⟩
theorem d_9_expression_163 : zD prog_11_method_34_code 163 (.aload_n 0) 1 164 := ⟨by decide +kernel, rfl⟩
theorem d_9_expression_164 : zD prog_11_method_34_code 164 (.bipush 10) 2 166 := ⟨by decide +kernel, rfl⟩
theorem d_9_expression_166 : zD prog_11_method_34_code 166 (.invokevirtual 221) 3 169 := ⟨by decide +kernel, rfl⟩
theorem d_9_expression_169 : zD prog_11_method_34_code 169 (.ifCond .ne 12) 3 172 := ⟨by decide +kernel, rfl⟩
theorem d_9_expression_172 : zD prog_11_method_34_code 172 (.aload_n 0) 1 173 := ⟨by decide +kernel, rfl⟩
theorem d_9_expression_173 : zD prog_11_method_34_code 173 (.bipush 15) 2 175 := ⟨by decide +kernel, rfl⟩
theorem d_9_expression_175 : zD prog_11_method_34_code 175 (.invokevirtual 221) 3 178 := ⟨by decide +kernel, rfl⟩
theorem d_9_expression_178 : zD prog_11_method_34_code 178 (.ifCond .eq 7) 3 181 := ⟨by decide +kernel, rfl⟩
theorem d_9_expression_181 : zD prog_11_method_34_code 181 (.iconst 1) 1 182 := ⟨by decide +kernel, rfl⟩
theorem d_9_expression_182 : zD prog_11_method_34_code 182 (.goto 4) 3 185 := ⟨by decide +kernel, rfl⟩
theorem d_9_expression_185 : zD prog_11_method_34_code 185 (.iconst 0) 1 186 := ⟨by decide +kernel, rfl⟩
theorem d_9_expression_186 : zD prog_11_method_34_code 186 (.istore_n 2) 1 187 := ⟨by decide +kernel, rfl⟩
theorem d_9_expression_187 : zD prog_11_method_34_code 187 (.iload_n 2) 1 188 := ⟨by decide +kernel, rfl⟩
theorem d_9_expression_188 : zD prog_11_method_34_code 188 (.ifCond .ne 22) 3 191 := ⟨by decide +kernel, rfl⟩
theorem d_9_expression_191 : zD prog_11_method_34_code 191 (.aload_n 0) 1 192 := ⟨by decide +kernel, rfl⟩
theorem d_9_expression_192 : zD prog_11_method_34_code 192 (.getfield 230) 3 195 := ⟨by decide +kernel, rfl⟩
theorem d_9_expression_195 : zD prog_11_method_34_code 195 (.iload_n 1) 1 196 := ⟨by decide +kernel, rfl⟩
theorem d_9_expression_196 : zD prog_11_method_34_code 196 (.if_icmp .le 8) 3 199 := ⟨by decide +kernel, rfl⟩
theorem d_9_expression_199 : zD prog_11_method_34_code 199 (.aload_n 0) 1 200 := ⟨by decide +kernel, rfl⟩
theorem d_9_expression_200 : zD prog_11_method_34_code 200 (.iconst 1) 1 201 := ⟨by decide +kernel, rfl⟩
theorem d_9_expression_201 : zD prog_11_method_34_code 201 (.invokevirtual 218) 3 204 := ⟨by decide +kernel, rfl⟩
theorem d_9_expression_204 : zD prog_11_method_34_code 204 (.aload_n 0) 1 205 := ⟨by decide +kernel, rfl⟩
theorem d_9_expression_205 : zD prog_11_method_34_code 205 (.iconst 0) 1 206 := ⟨by decide +kernel, rfl⟩
theorem d_9_expression_206 : zD prog_11_method_34_code 206 (.invokevirtual 304) 3 209 := ⟨by decide +kernel, rfl⟩
theorem d_9_expression_209 : zD prog_11_method_34_code 209 (.return_) 1 210 := ⟨by decide +kernel, rfl⟩
theorem d_9_expression_210 : zD prog_11_method_34_code 210 (.aload_n 0) 1 211 := ⟨by decide +kernel, rfl⟩
theorem d_9_expression_211 : zD prog_11_method_34_code 211 (.aload_n 0) 1 212 := ⟨by decide +kernel, rfl⟩
theorem d_9_expression_212 : zD prog_11_method_34_code 212 (.bipush 10) 2 214 := ⟨by decide +kernel, rfl⟩
theorem d_9_expression_214 : zD prog_11_method_34_code 214 (.invokevirtual 221) 3 217 := ⟨by decide +kernel, rfl⟩
theorem d_9_expression_217 : zD prog_11_method_34_code 217 (.ifCond .ne 12) 3 220 := ⟨by decide +kernel, rfl⟩
theorem d_9_expression_220 : zD prog_11_method_34_code 220 (.aload_n 0) 1 221 := ⟨by decide +kernel, rfl⟩
theorem d_9_expression_221 : zD prog_11_method_34_code 221 (.bipush 15) 2 223 := ⟨by decide +kernel, rfl⟩
theorem d_9_expression_223 : zD prog_11_method_34_code 223 (.invokevirtual 221) 3 226 := ⟨by decide +kernel, rfl⟩
theorem d_9_expression_226 : zD prog_11_method_34_code 226 (.ifCond .eq 7) 3 229 := ⟨by decide +kernel, rfl⟩
theorem d_9_expression_229 : zD prog_11_method_34_code 229 (.iconst 1) 1 230 := ⟨by decide +kernel, rfl⟩
theorem d_9_expression_230 : zD prog_11_method_34_code 230 (.goto 4) 3 233 := ⟨by decide +kernel, rfl⟩
theorem d_9_expression_233 : zD prog_11_method_34_code 233 (.iconst 0) 1 234 := ⟨by decide +kernel, rfl⟩
theorem d_9_expression_234 : zD prog_11_method_34_code 234 (.invokevirtual 304) 3 237 := ⟨by decide +kernel, rfl⟩
theorem d_9_expression_237 : zD prog_11_method_34_code 237 (.aload_n 0) 1 238 := ⟨by decide +kernel, rfl⟩
theorem d_9_expression_238 : zD prog_11_method_34_code 238 (.getfield 101) 3 241 := ⟨by decide +kernel, rfl⟩
theorem d_9_expression_241 : zD prog_11_method_34_code 241 (.aload_n 0) 1 242 := ⟨by decide +kernel, rfl⟩
theorem d_9_expression_242 : zD prog_11_method_34_code 242 (.getfield 295) 3 245 := ⟨by decide +kernel, rfl⟩
theorem d_9_expression_245 : zD prog_11_method_34_code 245 (.aload_n 0) 1 246 := ⟨by decide +kernel, rfl⟩
theorem d_9_expression_246 : zD prog_11_method_34_code 246 (.getfield 20) 3 249 := ⟨by decide +kernel, rfl⟩
theorem d_9_expression_249 : zD prog_11_method_34_code 249 (.aload_n 0) 1 250 := ⟨by decide +kernel, rfl⟩
theorem d_9_expression_250 : zD prog_11_method_34_code 250 (.getfield 206) 3 253 := ⟨by decide +kernel, rfl⟩
theorem d_9_expression_253 : zD prog_11_method_34_code 253 (.iaload) 1 254 := ⟨by decide +kernel, rfl⟩
theorem d_9_expression_254 : zD prog_11_method_34_code 254 (.iastore) 1 255 := ⟨by decide +kernel, rfl⟩
theorem d_9_expression_255 : zD prog_11_method_34_code 255 (.aload_n 0) 1 256 := ⟨by decide +kernel, rfl⟩
theorem d_9_expression_256 : zD prog_11_method_34_code 256 (.dup) 1 257 := ⟨by decide +kernel, rfl⟩
theorem d_9_expression_257 : zD prog_11_method_34_code 257 (.getfield 295) 3 260 := ⟨by decide +kernel, rfl⟩
theorem d_9_expression_260 : zD prog_11_method_34_code 260 (.iconst 1) 1 261 := ⟨by decide +kernel, rfl⟩
theorem d_9_expression_261 : zD prog_11_method_34_code 261 (.iadd) 1 262 := ⟨by decide +kernel, rfl⟩
theorem d_9_expression_262 : zD prog_11_method_34_code 262 (.putfield 295) 3 265 := ⟨by decide +kernel, rfl⟩
theorem d_9_expression_265 : zD prog_11_method_34_code 265 (.aload_n 0) 1 266 := ⟨by decide +kernel, rfl⟩
theorem d_9_expression_266 : zD prog_11_method_34_code 266 (.invokevirtual 224) 3 269 := ⟨by decide +kernel, rfl⟩
theorem d_9_expression_269 : zD prog_11_method_34_code 269 (.goto (-257)) 3 272 := ⟨by decide +kernel, rfl⟩
theorem d_9_expression_272 : zD prog_11_method_34_code 272 (.return_) 1 273 := ⟨by decide +kernel, rfl⟩
theorem d_9_term_0 : zD prog_11_method_31_code 0 (.aload_n 0) 1 1 := ⟨by decide +kernel, rfl⟩
theorem d_9_term_1 : zD prog_11_method_31_code 1 (.getfield 89) 3 4 := ⟨by decide +kernel, rfl⟩
theorem d_9_term_4 : zD prog_11_method_31_code 4 (.aload_n 0) 1 5 := ⟨by decide +kernel, rfl⟩
theorem d_9_term_5 : zD prog_11_method_31_code 5 (.getfield 242) 3 8 := ⟨by decide +kernel, rfl⟩
theorem d_9_term_8 : zD prog_11_method_31_code 8 (.aload_n 0) 1 9 := ⟨by decide +kernel, rfl⟩
theorem d_9_term_9 : zD prog_11_method_31_code 9 (.getfield 245) 3 12 := ⟨by decide +kernel, rfl⟩
theorem d_9_term_12 : zD prog_11_method_31_code 12 (.iastore) 1 13 := ⟨by decide +kernel, rfl⟩
theorem d_9_term_13 : zD prog_11_method_31_code 13 (.aload_n 0) 1 14 := ⟨by decide +kernel, rfl⟩
theorem d_9_term_14 : zD prog_11_method_31_code 14 (.getfield 203) 3 17 := ⟨by decide +kernel, rfl⟩
theorem d_9_term_17 : zD prog_11_method_31_code 17 (.ifCond .ne 7) 3 20 := ⟨by decide +kernel, rfl⟩
theorem d_9_term_20 : zD prog_11_method_31_code 20 (.aload_n 0) 1 21 := ⟨by decide +kernel, rfl⟩
theorem d_9_term_21 : zD prog_11_method_31_code 21 (.invokevirtual 289) 3 24 := ⟨by decide +kernel, rfl⟩
theorem d_9_term_24 : zD prog_11_method_31_code 24 (.aload_n 0) 1 25 := ⟨by decide +kernel, rfl⟩
theorem d_9_term_25 : zD prog_11_method_31_code 25 (.getfield 92) 3 28 := ⟨by decide +kernel, rfl⟩
theorem d_9_term_28 : zD prog_11_method_31_code 28 (.aload_n 0) 1 29 := ⟨by decide +kernel, rfl⟩
theorem d_9_term_29 : zD prog_11_method_31_code 29 (.getfield 242) 3 32 := ⟨by decide +kernel, rfl⟩
theorem d_9_term_32 : zD prog_11_method_31_code 32 (.aload_n 0) 1 33 := ⟨by decide +kernel, rfl⟩
theorem d_9_term_33 : zD prog_11_method_31_code 33 (.getfield 245) 3 36 := ⟨by decide +kernel, rfl⟩
theorem d_9_term_36 : zD prog_11_method_31_code 36 (.iastore) 1 37 := ⟨by decide +kernel, rfl⟩
theorem d_9_term_37 : zD prog_11_method_31_code 37 (.aload_n 0) 1 38 := ⟨by decide +kernel, rfl⟩
theorem d_9_term_38 : zD prog_11_method_31_code 38 (.dup) 1 39 := ⟨by decide +kernel, rfl⟩
theorem d_9_term_39 : zD prog_11_method_31_code 39 (.getfield 242) 3 42 := ⟨by decide +kernel, rfl⟩
theorem d_9_term_42 : zD prog_11_method_31_code 42 (.iconst 1) 1 43 := ⟨by decide +kernel, rfl⟩
theorem d_9_term_43 : zD prog_11_method_31_code 43 (.iadd) 1 44 := ⟨by decide +kernel, rfl⟩
theorem d_9_term_44 : zD prog_11_method_31_code 44 (.putfield 242) 3 47 := ⟨by decide +kernel, rfl⟩
theorem d_9_term_47 : zD prog_11_method_31_code 47 (.return_) 1 48 := ⟨by decide +kernel, rfl⟩
theorem d_9_tellLaw_0 : zD prog_11_method_30_code 0 (.aload_n 0) 1 1 := ⟨by decide +kernel, rfl⟩
theorem d_9_tellLaw_1 : zD prog_11_method_30_code 1 (.iconst 5) 1 2 := ⟨by decide +kernel, rfl⟩
theorem d_9_tellLaw_2 : zD prog_11_method_30_code 2 (.invokevirtual 277) 3 5 := ⟨by decide +kernel, rfl⟩
theorem d_9_tellLaw_5 : zD prog_11_method_30_code 5 (.aload_n 0) 1 6 := ⟨by decide +kernel, rfl⟩
theorem d_9_tellLaw_6 : zD prog_11_method_30_code 6 (.getfield 242) 3 9 := ⟨by decide +kernel, rfl⟩
theorem d_9_tellLaw_9 : zD prog_11_method_30_code 9 (.istore_n 2) 1 10 := ⟨by decide +kernel, rfl⟩
theorem d_9_tellLaw_10 : zD prog_11_method_30_code 10 (.iconst 0) 1 11 := ⟨by decide +kernel, rfl⟩
theorem d_9_tellLaw_11 : zD prog_11_method_30_code 11 (.istore_n 3) 1 12 := ⟨by decide +kernel, rfl⟩
theorem d_9_tellLaw_12 : zD prog_11_method_30_code 12 (.aload_n 0) 1 13 := ⟨by decide +kernel, rfl⟩
theorem d_9_tellLaw_13 : zD prog_11_method_30_code 13 (.getfield 203) 3 16 := ⟨by decide +kernel, rfl⟩
theorem d_9_tellLaw_16 : zD prog_11_method_30_code 16 (.ifCond .ne 113) 3 19 := ⟨by decide +kernel, rfl⟩
theorem d_9_tellLaw_19 : zD prog_11_method_30_code 19 (.aload_n 0) 1 20 := ⟨by decide +kernel, rfl⟩
theorem d_9_tellLaw_20 : zD prog_11_method_30_code 20 (.bipush 29) 2 22 := ⟨by decide +kernel, rfl⟩
theorem d_9_tellLaw_22 : zD prog_11_method_30_code 22 (.invokevirtual 221) 3 25 := ⟨by decide +kernel, rfl⟩
theorem d_9_tellLaw_25 : zD prog_11_method_30_code 25 (.ifCond .eq 104) 3 28 := ⟨by decide +kernel, rfl⟩
theorem d_9_tellLaw_28 : zD prog_11_method_30_code 28 (.iload_n 3) 1 29 := ⟨by decide +kernel, rfl⟩
theorem d_9_tellLaw_29 : zD prog_11_method_30_code 29 (.iconst 4) 1 30 := ⟨by decide +kernel, rfl⟩
theorem d_9_tellLaw_30 : zD prog_11_method_30_code 30 (.if_icmp .ne 8) 3 33 := ⟨by decide +kernel, rfl⟩
theorem d_9_tellLaw_33 : zD prog_11_method_30_code 33 (.aload_n 0) 1 34 := ⟨by decide +kernel, rfl⟩
theorem d_9_tellLaw_34 : zD prog_11_method_30_code 34 (.iconst 2) 1 35 := ⟨by decide +kernel, rfl⟩
theorem d_9_tellLaw_35 : zD prog_11_method_30_code 35 (.invokevirtual 218) 3 38 := ⟨by decide +kernel, rfl⟩
theorem d_9_tellLaw_38 : zD prog_11_method_30_code 38 (.aload_n 0) 1 39 := ⟨by decide +kernel, rfl⟩
theorem d_9_tellLaw_39 : zD prog_11_method_30_code 39 (.getfield 203) 3 42 := ⟨by decide +kernel, rfl⟩
theorem d_9_tellLaw_42 : zD prog_11_method_30_code 42 (.ifCond .le 4) 3 45 := ⟨by decide +kernel, rfl⟩
theorem d_9_tellLaw_45 : zD prog_11_method_30_code 45 (.return_) 1 46 := ⟨by decide +kernel, rfl⟩
theorem d_9_tellLaw_46 : zD prog_11_method_30_code 46 (.iinc 3 1) 3 49 := ⟨by decide +kernel, rfl⟩
theorem d_9_tellLaw_49 : zD prog_11_method_30_code 49 (.aload_n 0) 1 50 := ⟨by decide +kernel, rfl⟩
theorem d_9_tellLaw_50 : zD prog_11_method_30_code 50 (.invokevirtual 224) 3 53 := ⟨by decide +kernel, rfl⟩
theorem d_9_tellLaw_53 : zD prog_11_method_30_code 53 (.aload_n 0) 1 54 := ⟨by decide +kernel, rfl⟩
theorem d_9_tellLaw_54 : zD prog_11_method_30_code 54 (.getfield 79) 3 57 := ⟨by decide +kernel, rfl⟩
theorem d_9_tellLaw_57 : zD prog_11_method_30_code 57 (.aload_n 0) 1 58 := ⟨by decide +kernel, rfl⟩
theorem d_9_tellLaw_58 : zD prog_11_method_30_code 58 (.getfield 242) 3 61 := ⟨by decide +kernel, rfl⟩
theorem d_9_tellLaw_61 : zD prog_11_method_30_code 61 (.iconst 1) 1 62 := ⟨by decide +kernel, rfl⟩
theorem d_9_tellLaw_62 : zD prog_11_method_30_code 62 (.bastore) 1 63 := ⟨by decide +kernel, rfl⟩
theorem d_9_tellLaw_63 : zD prog_11_method_30_code 63 (.aload_n 0) 1 64 := ⟨by decide +kernel, rfl⟩
theorem d_9_tellLaw_64 : zD prog_11_method_30_code 64 (.getfield 83) 3 67 := ⟨by decide +kernel, rfl⟩
theorem d_9_tellLaw_67 : zD prog_11_method_30_code 67 (.aload_n 0) 1 68 := ⟨by decide +kernel, rfl⟩
theorem d_9_tellLaw_68 : zD prog_11_method_30_code 68 (.getfield 242) 3 71 := ⟨by decide +kernel, rfl⟩
theorem d_9_tellLaw_71 : zD prog_11_method_30_code 71 (.aload_n 0) 1 72 := ⟨by decide +kernel, rfl⟩
theorem d_9_tellLaw_72 : zD prog_11_method_30_code 72 (.getfield 245) 3 75 := ⟨by decide +kernel, rfl⟩
theorem d_9_tellLaw_75 : zD prog_11_method_30_code 75 (.iastore) 1 76 := ⟨by decide +kernel, rfl⟩
theorem d_9_tellLaw_76 : zD prog_11_method_30_code 76 (.aload_n 0) 1 77 := ⟨by decide +kernel, rfl⟩
theorem d_9_tellLaw_77 : zD prog_11_method_30_code 77 (.invokevirtual 289) 3 80 := ⟨by decide +kernel, rfl⟩
theorem d_9_tellLaw_80 : zD prog_11_method_30_code 80 (.aload_n 0) 1 81 := ⟨by decide +kernel, rfl⟩
theorem d_9_tellLaw_81 : zD prog_11_method_30_code 81 (.bipush 13) 2 83 := ⟨by decide +kernel, rfl⟩
theorem d_9_tellLaw_83 : zD prog_11_method_30_code 83 (.invokevirtual 277) 3 86 := ⟨by decide +kernel, rfl⟩
theorem d_9_tellLaw_86 : zD prog_11_method_30_code 86 (.aload_n 0) 1 87 := ⟨by decide +kernel, rfl⟩
theorem d_9_tellLaw_87 : zD prog_11_method_30_code 87 (.getfield 86) 3 90 := ⟨by decide +kernel, rfl⟩
theorem d_9_tellLaw_90 : zD prog_11_method_30_code 90 (.aload_n 0) 1 91 := ⟨by decide +kernel, rfl⟩
theorem d_9_tellLaw_91 : zD prog_11_method_30_code 91 (.getfield 242) 3 94 := ⟨by decide +kernel, rfl⟩
theorem d_9_tellLaw_94 : zD prog_11_method_30_code 94 (.aload_n 0) 1 95 := ⟨by decide +kernel, rfl⟩
theorem d_9_tellLaw_95 : zD prog_11_method_30_code 95 (.getfield 245) 3 98 := ⟨by decide +kernel, rfl⟩
theorem d_9_tellLaw_98 : zD prog_11_method_30_code 98 (.iastore) 1 99 := ⟨by decide +kernel, rfl⟩
theorem d_9_tellLaw_99 : zD prog_11_method_30_code 99 (.aload_n 0) 1 100 := ⟨by decide +kernel, rfl⟩
theorem d_9_tellLaw_100 : zD prog_11_method_30_code 100 (.getfield 203) 3 103 := ⟨by decide +kernel, rfl⟩
theorem d_9_tellLaw_103 : zD prog_11_method_30_code 103 (.ifCond .ne 7) 3 106 := ⟨by decide +kernel, rfl⟩
theorem d_9_tellLaw_106 : zD prog_11_method_30_code 106 (.aload_n 0) 1 107 := ⟨by decide +kernel, rfl⟩
theorem d_9_tellLaw_107 : zD prog_11_method_30_code 107 (.invokevirtual 289) 3 110 := ⟨by decide +kernel, rfl⟩
theorem d_9_tellLaw_110 : zD prog_11_method_30_code 110 (.aload_n 0) 1 111 := ⟨by decide +kernel, rfl⟩
theorem d_9_tellLaw_111 : zD prog_11_method_30_code 111 (.bipush 30) 2 113 := ⟨by decide +kernel, rfl⟩
theorem d_9_tellLaw_113 : zD prog_11_method_30_code 113 (.invokevirtual 277) 3 116 := ⟨by decide +kernel, rfl⟩
theorem d_9_tellLaw_116 : zD prog_11_method_30_code 116 (.aload_n 0) 1 117 := ⟨by decide +kernel, rfl⟩
theorem d_9_tellLaw_117 : zD prog_11_method_30_code 117 (.invokevirtual 292) 3 120 := ⟨by decide +kernel, rfl⟩
theorem d_9_tellLaw_120 : zD prog_11_method_30_code 120 (.aload_n 0) 1 121 := ⟨by decide +kernel, rfl⟩
theorem d_9_tellLaw_121 : zD prog_11_method_30_code 121 (.bipush 31) 2 123 := ⟨by decide +kernel, rfl⟩
theorem d_9_tellLaw_123 : zD prog_11_method_30_code 123 (.invokevirtual 277) 3 126 := ⟨by decide +kernel, rfl⟩
theorem d_9_tellLaw_126 : zD prog_11_method_30_code 126 (.goto (-114)) 3 129 := ⟨by decide +kernel, rfl⟩
theorem d_9_tellLaw_129 : zD prog_11_method_30_code 129 (.aload_n 0) 1 130 := ⟨by decide +kernel, rfl⟩
theorem d_9_tellLaw_130 : zD prog_11_method_30_code 130 (.getfield 79) 3 133 := ⟨by decide +kernel, rfl⟩
theorem d_9_tellLaw_133 : zD prog_11_method_30_code 133 (.aload_n 0) 1 134 := ⟨by decide +kernel, rfl⟩
theorem d_9_tellLaw_134 : zD prog_11_method_30_code 134 (.getfield 242) 3 137 := ⟨by decide +kernel, rfl⟩
theorem d_9_tellLaw_137 : zD prog_11_method_30_code 137 (.iconst 0) 1 138 := ⟨by decide +kernel, rfl⟩
theorem d_9_tellLaw_138 : zD prog_11_method_30_code 138 (.bastore) 1 139 := ⟨by decide +kernel, rfl⟩
theorem d_9_tellLaw_139 : zD prog_11_method_30_code 139 (.aload_n 0) 1 140 := ⟨by decide +kernel, rfl⟩
theorem d_9_tellLaw_140 : zD prog_11_method_30_code 140 (.invokevirtual 292) 3 143 := ⟨by decide +kernel, rfl⟩
theorem d_9_tellLaw_143 : zD prog_11_method_30_code 143 (.aload_n 0) 1 144 := ⟨by decide +kernel, rfl⟩
theorem d_9_tellLaw_144 : zD prog_11_method_30_code 144 (.iconst 4) 1 145 := ⟨by decide +kernel, rfl⟩
theorem d_9_tellLaw_145 : zD prog_11_method_30_code 145 (.invokevirtual 277) 3 148 := ⟨by decide +kernel, rfl⟩
theorem d_9_tellLaw_148 : zD prog_11_method_30_code 148 (.aload_n 0) 1 149 := ⟨by decide +kernel, rfl⟩
theorem d_9_tellLaw_149 : zD prog_11_method_30_code 149 (.getfield 203) 3 152 := ⟨by decide +kernel, rfl⟩
theorem d_9_tellLaw_152 : zD prog_11_method_30_code 152 (.ifCond .le 4) 3 155 := ⟨by decide +kernel, rfl⟩
theorem d_9_tellLaw_155 : zD prog_11_method_30_code 155 (.return_) 1 156 := ⟨by decide +kernel, rfl⟩
theorem d_9_tellLaw_156 : zD prog_11_method_30_code 156 (.aload_n 0) 1 157 := ⟨by decide +kernel, rfl⟩
theorem d_9_tellLaw_157 : zD prog_11_method_30_code 157 (.getfield 73) 3 160 := ⟨by decide +kernel, rfl⟩
theorem d_9_tellLaw_160 : zD prog_11_method_30_code 160 (.iconst 4) 1 161 := ⟨by decide +kernel, rfl⟩
theorem d_9_tellLaw_161 : zD prog_11_method_30_code 161 (.aload_n 0) 1 162 := ⟨by decide +kernel, rfl⟩
theorem d_9_tellLaw_162 : zD prog_11_method_30_code 162 (.getfield 236) 3 165 := ⟨by decide +kernel, rfl⟩
theorem d_9_tellLaw_165 : zD prog_11_method_30_code 165 (.imul) 1 166 := ⟨by decide +kernel, rfl⟩
theorem d_9_tellLaw_166 : zD prog_11_method_30_code 166 (.iload_n 1) 1 167 := ⟨by decide +kernel, rfl⟩
theorem d_9_tellLaw_167 : zD prog_11_method_30_code 167 (.iadd) 1 168 := ⟨by decide +kernel, rfl⟩
theorem d_9_tellLaw_168 : zD prog_11_method_30_code 168 (.iload_n 2) 1 169 := ⟨by decide +kernel, rfl⟩
theorem d_9_tellLaw_169 : zD prog_11_method_30_code 169 (.iastore) 1 170 := ⟨by decide +kernel, rfl⟩
theorem d_9_tellLaw_170 : zD prog_11_method_30_code 170 (.aload_n 0) 1 171 := ⟨by decide +kernel, rfl⟩
theorem d_9_tellLaw_171 : zD prog_11_method_30_code 171 (.getfield 76) 3 174 := ⟨by decide +kernel, rfl⟩
theorem d_9_tellLaw_174 : zD prog_11_method_30_code 174 (.iconst 4) 1 175 := ⟨by decide +kernel, rfl⟩
theorem d_9_tellLaw_175 : zD prog_11_method_30_code 175 (.aload_n 0) 1 176 := ⟨by decide +kernel, rfl⟩
theorem d_9_tellLaw_176 : zD prog_11_method_30_code 176 (.getfield 236) 3 179 := ⟨by decide +kernel, rfl⟩
theorem d_9_tellLaw_179 : zD prog_11_method_30_code 179 (.imul) 1 180 := ⟨by decide +kernel, rfl⟩
theorem d_9_tellLaw_180 : zD prog_11_method_30_code 180 (.iload_n 1) 1 181 := ⟨by decide +kernel, rfl⟩
theorem d_9_tellLaw_181 : zD prog_11_method_30_code 181 (.iadd) 1 182 := ⟨by decide +kernel, rfl⟩
theorem d_9_tellLaw_182 : zD prog_11_method_30_code 182 (.aload_n 0) 1 183 := ⟨by decide +kernel, rfl⟩
theorem d_9_tellLaw_183 : zD prog_11_method_30_code 183 (.getfield 242) 3 186 := ⟨by decide +kernel, rfl⟩
theorem d_9_tellLaw_186 : zD prog_11_method_30_code 186 (.iastore) 1 187 := ⟨by decide +kernel, rfl⟩
theorem d_9_tellLaw_187 : zD prog_11_method_30_code 187 (.return_) 1 188 := ⟨by decide +kernel, rfl⟩
theorem d_9_tellOne_0 : zD prog_11_method_23_code 0 (.aload_n 0) 1 1 := ⟨by decide +kernel, rfl⟩
theorem d_9_tellOne_1 : zD prog_11_method_23_code 1 (.getfield 20) 3 4 := ⟨by decide +kernel, rfl⟩
theorem d_9_tellOne_4 : zD prog_11_method_23_code 4 (.aload_n 0) 1 5 := ⟨by decide +kernel, rfl⟩
theorem d_9_tellOne_5 : zD prog_11_method_23_code 5 (.getfield 206) 3 8 := ⟨by decide +kernel, rfl⟩
theorem d_9_tellOne_8 : zD prog_11_method_23_code 8 (.iaload) 1 9 := ⟨by decide +kernel, rfl⟩
theorem d_9_tellOne_9 : zD prog_11_method_23_code 9 (.tableswitch 324 20 28 #[51, 142, 238, 267, 324, 324, 324, 324, 296]) 51 60 := ⟨by decide +kernel, rfl⟩
theorem d_9_tellOne_60 : zD prog_11_method_23_code 60 (.aload_n 0) 1 61 := ⟨by decide +kernel, rfl⟩
theorem d_9_tellOne_61 : zD prog_11_method_23_code 61 (.aload_n 0) 1 62 := ⟨by decide +kernel, rfl⟩
theorem d_9_tellOne_62 : zD prog_11_method_23_code 62 (.getfield 46) 3 65 := ⟨by decide +kernel, rfl⟩
theorem d_9_tellOne_65 : zD prog_11_method_23_code 65 (.aload_n 0) 1 66 := ⟨by decide +kernel, rfl⟩
theorem d_9_tellOne_66 : zD prog_11_method_23_code 66 (.getfield 236) 3 69 := ⟨by decide +kernel, rfl⟩
theorem d_9_tellOne_69 : zD prog_11_method_23_code 69 (.iaload) 1 70 := ⟨by decide +kernel, rfl⟩
theorem d_9_tellOne_70 : zD prog_11_method_23_code 70 (.iconst 5) 1 71 := ⟨by decide +kernel, rfl⟩
theorem d_9_tellOne_71 : zD prog_11_method_23_code 71 (.invokevirtual 257) 3 74 := ⟨by decide +kernel, rfl⟩
theorem d_9_tellOne_74 : zD prog_11_method_23_code 74 (.aload_n 0) 1 75 := ⟨by decide +kernel, rfl⟩
theorem d_9_tellOne_75 : zD prog_11_method_23_code 75 (.getfield 203) 3 78 := ⟨by decide +kernel, rfl⟩
theorem d_9_tellOne_78 : zD prog_11_method_23_code 78 (.ifCond .le 4) 3 81 := ⟨by decide +kernel, rfl⟩
theorem d_9_tellOne_81 : zD prog_11_method_23_code 81 (.return_) 1 82 := ⟨by decide +kernel, rfl⟩
theorem d_9_tellOne_82 : zD prog_11_method_23_code 82 (.aload_n 0) 1 83 := ⟨by decide +kernel, rfl⟩
theorem d_9_tellOne_83 : zD prog_11_method_23_code 83 (.invokevirtual 261) 3 86 := ⟨by decide +kernel, rfl⟩
theorem d_9_tellOne_86 : zD prog_11_method_23_code 86 (.istore_n 1) 1 87 := ⟨by decide +kernel, rfl⟩
theorem d_9_tellOne_87 : zD prog_11_method_23_code 87 (.aload_n 0) 1 88 := ⟨by decide +kernel, rfl⟩
theorem d_9_tellOne_88 : zD prog_11_method_23_code 88 (.getfield 49) 3 91 := ⟨by decide +kernel, rfl⟩
theorem d_9_tellOne_91 : zD prog_11_method_23_code 91 (.iconst 5) 1 92 := ⟨by decide +kernel, rfl⟩
theorem d_9_tellOne_92 : zD prog_11_method_23_code 92 (.aload_n 0) 1 93 := ⟨by decide +kernel, rfl⟩
theorem d_9_tellOne_93 : zD prog_11_method_23_code 93 (.getfield 236) 3 96 := ⟨by decide +kernel, rfl⟩
theorem d_9_tellOne_96 : zD prog_11_method_23_code 96 (.imul) 1 97 := ⟨by decide +kernel, rfl⟩
theorem d_9_tellOne_97 : zD prog_11_method_23_code 97 (.aload_n 0) 1 98 := ⟨by decide +kernel, rfl⟩
theorem d_9_tellOne_98 : zD prog_11_method_23_code 98 (.getfield 46) 3 101 := ⟨by decide +kernel, rfl⟩
theorem d_9_tellOne_101 : zD prog_11_method_23_code 101 (.aload_n 0) 1 102 := ⟨by decide +kernel, rfl⟩
theorem d_9_tellOne_102 : zD prog_11_method_23_code 102 (.getfield 236) 3 105 := ⟨by decide +kernel, rfl⟩
theorem d_9_tellOne_105 : zD prog_11_method_23_code 105 (.iaload) 1 106 := ⟨by decide +kernel, rfl⟩
theorem d_9_tellOne_106 : zD prog_11_method_23_code 106 (.iadd) 1 107 := ⟨by decide +kernel, rfl⟩
theorem d_9_tellOne_107 : zD prog_11_method_23_code 107 (.aload_n 0) 1 108 := ⟨by decide +kernel, rfl⟩
theorem d_9_tellOne_108 : zD prog_11_method_23_code 108 (.bipush 99) 2 110 := ⟨by decide +kernel, rfl⟩
theorem d_9_tellOne_110 : zD prog_11_method_23_code 110 (.invokevirtual 265) 3 113 := ⟨by decide +kernel, rfl⟩
theorem d_9_tellOne_113 : zD prog_11_method_23_code 113 (.iastore) 1 114 := ⟨by decide +kernel, rfl⟩
theorem d_9_tellOne_114 : zD prog_11_method_23_code 114 (.aload_n 0) 1 115 := ⟨by decide +kernel, rfl⟩
theorem d_9_tellOne_115 : zD prog_11_method_23_code 115 (.iload_n 1) 1 116 := ⟨by decide +kernel, rfl⟩
theorem d_9_tellOne_116 : zD prog_11_method_23_code 116 (.aload_n 0) 1 117 := ⟨by decide +kernel, rfl⟩
theorem d_9_tellOne_117 : zD prog_11_method_23_code 117 (.getfield 46) 3 120 := ⟨by decide +kernel, rfl⟩
theorem d_9_tellOne_120 : zD prog_11_method_23_code 120 (.aload_n 0) 1 121 := ⟨by decide +kernel, rfl⟩
theorem d_9_tellOne_121 : zD prog_11_method_23_code 121 (.getfield 236) 3 124 := ⟨by decide +kernel, rfl⟩
theorem d_9_tellOne_124 : zD prog_11_method_23_code 124 (.iaload) 1 125 := ⟨by decide +kernel, rfl⟩
theorem d_9_tellOne_125 : zD prog_11_method_23_code 125 (.invokevirtual 268) 3 128 := ⟨by decide +kernel, rfl⟩
theorem d_9_tellOne_128 : zD prog_11_method_23_code 128 (.aload_n 0) 1 129 := ⟨by decide +kernel, rfl⟩
theorem d_9_tellOne_129 : zD prog_11_method_23_code 129 (.getfield 203) 3 132 := ⟨by decide +kernel, rfl⟩
theorem d_9_tellOne_132 : zD prog_11_method_23_code 132 (.ifCond .ne 254) 3 135 := ⟨by decide +kernel, rfl⟩
theorem d_9_tellOne_135 : zD prog_11_method_23_code 135 (.aload_n 0) 1 136 := ⟨by decide +kernel, rfl⟩
theorem d_9_tellOne_136 : zD prog_11_method_23_code 136 (.getfield 46) 3 139 := ⟨by decide +kernel, rfl⟩
theorem d_9_tellOne_139 : zD prog_11_method_23_code 139 (.aload_n 0) 1 140 := ⟨by decide +kernel, rfl⟩
theorem d_9_tellOne_140 : zD prog_11_method_23_code 140 (.getfield 236) 3 143 := ⟨by decide +kernel, rfl⟩
theorem d_9_tellOne_143 : zD prog_11_method_23_code 143 (.dup2) 1 144 := ⟨by decide +kernel, rfl⟩
theorem d_9_tellOne_144 : zD prog_11_method_23_code 144 (.iaload) 1 145 := ⟨by decide +kernel, rfl⟩
theorem d_9_tellOne_145 : zD prog_11_method_23_code 145 (.iconst 1) 1 146 := ⟨by decide +kernel, rfl⟩
theorem d_9_tellOne_146 : zD prog_11_method_23_code 146 (.iadd) 1 147 := ⟨by decide +kernel, rfl⟩
theorem d_9_tellOne_147 : zD prog_11_method_23_code 147 (.iastore) 1 148 := ⟨by decide +kernel, rfl⟩
theorem d_9_tellOne_148 : zD prog_11_method_23_code 148 (.goto 238) 3 151 := ⟨by decide +kernel, rfl⟩
theorem d_9_tellOne_151 : zD prog_11_method_23_code 151 (.aload_n 0) 1 152 := ⟨by decide +kernel, rfl⟩
theorem d_9_tellOne_152 : zD prog_11_method_23_code 152 (.aload_n 0) 1 153 := ⟨by decide +kernel, rfl⟩
theorem d_9_tellOne_153 : zD prog_11_method_23_code 153 (.getfield 55) 3 156 := ⟨by decide +kernel, rfl⟩
theorem d_9_tellOne_156 : zD prog_11_method_23_code 156 (.aload_n 0) 1 157 := ⟨by decide +kernel, rfl⟩
theorem d_9_tellOne_157 : zD prog_11_method_23_code 157 (.getfield 236) 3 160 := ⟨by decide +kernel, rfl⟩
theorem d_9_tellOne_160 : zD prog_11_method_23_code 160 (.iaload) 1 161 := ⟨by decide +kernel, rfl⟩
theorem d_9_tellOne_161 : zD prog_11_method_23_code 161 (.bipush 7) 2 163 := ⟨by decide +kernel, rfl⟩
theorem d_9_tellOne_163 : zD prog_11_method_23_code 163 (.invokevirtual 257) 3 166 := ⟨by decide +kernel, rfl⟩
theorem d_9_tellOne_166 : zD prog_11_method_23_code 166 (.aload_n 0) 1 167 := ⟨by decide +kernel, rfl⟩
theorem d_9_tellOne_167 : zD prog_11_method_23_code 167 (.getfield 203) 3 170 := ⟨by decide +kernel, rfl⟩
theorem d_9_tellOne_170 : zD prog_11_method_23_code 170 (.ifCond .le 4) 3 173 := ⟨by decide +kernel, rfl⟩
theorem d_9_tellOne_173 : zD prog_11_method_23_code 173 (.return_) 1 174 := ⟨by decide +kernel, rfl⟩
theorem d_9_tellOne_174 : zD prog_11_method_23_code 174 (.aload_n 0) 1 175 := ⟨by decide +kernel, rfl⟩
theorem d_9_tellOne_175 : zD prog_11_method_23_code 175 (.invokevirtual 261) 3 178 := ⟨by decide +kernel, rfl⟩
theorem d_9_tellOne_178 : zD prog_11_method_23_code 178 (.istore_n 1) 1 179 := ⟨by decide +kernel, rfl⟩
theorem d_9_tellOne_179 : zD prog_11_method_23_code 179 (.aload_n 0) 1 180 := ⟨by decide +kernel, rfl⟩
theorem d_9_tellOne_180 : zD prog_11_method_23_code 180 (.getfield 58) 3 183 := ⟨by decide +kernel, rfl⟩
theorem d_9_tellOne_183 : zD prog_11_method_23_code 183 (.bipush 7) 2 185 := ⟨by decide +kernel, rfl⟩
theorem d_9_tellOne_185 : zD prog_11_method_23_code 185 (.aload_n 0) 1 186 := ⟨by decide +kernel, rfl⟩
theorem d_9_tellOne_186 : zD prog_11_method_23_code 186 (.getfield 236) 3 189 := ⟨by decide +kernel, rfl⟩
theorem d_9_tellOne_189 : zD prog_11_method_23_code 189 (.imul) 1 190 := ⟨by decide +kernel, rfl⟩
theorem d_9_tellOne_190 : zD prog_11_method_23_code 190 (.aload_n 0) 1 191 := ⟨by decide +kernel, rfl⟩
theorem d_9_tellOne_191 : zD prog_11_method_23_code 191 (.getfield 55) 3 194 := ⟨by decide +kernel, rfl⟩
theorem d_9_tellOne_194 : zD prog_11_method_23_code 194 (.aload_n 0) 1 195 := ⟨by decide +kernel, rfl⟩
theorem d_9_tellOne_195 : zD prog_11_method_23_code 195 (.getfield 236) 3 198 := ⟨by decide +kernel, rfl⟩
theorem d_9_tellOne_198 : zD prog_11_method_23_code 198 (.iaload) 1 199 := ⟨by decide +kernel, rfl⟩
theorem d_9_tellOne_199 : zD prog_11_method_23_code 199 (.iadd) 1 200 := ⟨by decide +kernel, rfl⟩
theorem d_9_tellOne_200 : zD prog_11_method_23_code 200 (.aload_n 0) 1 201 := ⟨by decide +kernel, rfl⟩
theorem d_9_tellOne_201 : zD prog_11_method_23_code 201 (.bipush 99) 2 203 := ⟨by decide +kernel, rfl⟩
theorem d_9_tellOne_203 : zD prog_11_method_23_code 203 (.invokevirtual 265) 3 206 := ⟨by decide +kernel, rfl⟩
theorem d_9_tellOne_206 : zD prog_11_method_23_code 206 (.iastore) 1 207 := ⟨by decide +kernel, rfl⟩
theorem d_9_tellOne_207 : zD prog_11_method_23_code 207 (.aload_n 0) 1 208 := ⟨by decide +kernel, rfl⟩
theorem d_9_tellOne_208 : zD prog_11_method_23_code 208 (.iload_n 1) 1 209 := ⟨by decide +kernel, rfl⟩
theorem d_9_tellOne_209 : zD prog_11_method_23_code 209 (.bipush 10) 2 211 := ⟨by decide +kernel, rfl⟩
theorem d_9_tellOne_211 : zD prog_11_method_23_code 211 (.aload_n 0) 1 212 := ⟨by decide +kernel, rfl⟩
theorem d_9_tellOne_212 : zD prog_11_method_23_code 212 (.getfield 55) 3 215 := ⟨by decide +kernel, rfl⟩
theorem d_9_tellOne_215 : zD prog_11_method_23_code 215 (.aload_n 0) 1 216 := ⟨by decide +kernel, rfl⟩
theorem d_9_tellOne_216 : zD prog_11_method_23_code 216 (.getfield 236) 3 219 := ⟨by decide +kernel, rfl⟩
theorem d_9_tellOne_219 : zD prog_11_method_23_code 219 (.iaload) 1 220 := ⟨by decide +kernel, rfl⟩
theorem d_9_tellOne_220 : zD prog_11_method_23_code 220 (.iadd) 1 221 := ⟨by decide +kernel, rfl⟩
theorem d_9_tellOne_221 : zD prog_11_method_23_code 221 (.invokevirtual 268) 3 224 := ⟨by decide +kernel, rfl⟩
theorem d_9_tellOne_224 : zD prog_11_method_23_code 224 (.aload_n 0) 1 225 := ⟨by decide +kernel, rfl⟩
theorem d_9_tellOne_225 : zD prog_11_method_23_code 225 (.getfield 203) 3 228 := ⟨by decide +kernel, rfl⟩
theorem d_9_tellOne_228 : zD prog_11_method_23_code 228 (.ifCond .ne 158) 3 231 := ⟨by decide +kernel, rfl⟩
theorem d_9_tellOne_231 : zD prog_11_method_23_code 231 (.aload_n 0) 1 232 := ⟨by decide +kernel, rfl⟩
theorem d_9_tellOne_232 : zD prog_11_method_23_code 232 (.getfield 55) 3 235 := ⟨by decide +kernel, rfl⟩
theorem d_9_tellOne_235 : zD prog_11_method_23_code 235 (.aload_n 0) 1 236 := ⟨by decide +kernel, rfl⟩
theorem d_9_tellOne_236 : zD prog_11_method_23_code 236 (.getfield 236) 3 239 := ⟨by decide +kernel, rfl⟩
theorem d_9_tellOne_239 : zD prog_11_method_23_code 239 (.dup2) 1 240 := ⟨by decide +kernel, rfl⟩
theorem d_9_tellOne_240 : zD prog_11_method_23_code 240 (.iaload) 1 241 := ⟨by decide +kernel, rfl⟩
theorem d_9_tellOne_241 : zD prog_11_method_23_code 241 (.iconst 1) 1 242 := ⟨by decide +kernel, rfl⟩
theorem d_9_tellOne_242 : zD prog_11_method_23_code 242 (.iadd) 1 243 := ⟨by decide +kernel, rfl⟩
theorem d_9_tellOne_243 : zD prog_11_method_23_code 243 (.iastore) 1 244 := ⟨by decide +kernel, rfl⟩
theorem d_9_tellOne_244 : zD prog_11_method_23_code 244 (.goto 142) 3 247 := ⟨by decide +kernel, rfl⟩
theorem d_9_tellOne_247 : zD prog_11_method_23_code 247 (.aload_n 0) 1 248 := ⟨by decide +kernel, rfl⟩
theorem d_9_tellOne_248 : zD prog_11_method_23_code 248 (.aload_n 0) 1 249 := ⟨by decide +kernel, rfl⟩
theorem d_9_tellOne_249 : zD prog_11_method_23_code 249 (.getfield 64) 3 252 := ⟨by decide +kernel, rfl⟩
theorem d_9_tellOne_252 : zD prog_11_method_23_code 252 (.aload_n 0) 1 253 := ⟨by decide +kernel, rfl⟩
theorem d_9_tellOne_253 : zD prog_11_method_23_code 253 (.getfield 236) 3 256 := ⟨by decide +kernel, rfl⟩
theorem d_9_tellOne_256 : zD prog_11_method_23_code 256 (.iaload) 1 257 := ⟨by decide +kernel, rfl⟩
theorem d_9_tellOne_257 : zD prog_11_method_23_code 257 (.bipush 20) 2 259 := ⟨by decide +kernel, rfl⟩
theorem d_9_tellOne_259 : zD prog_11_method_23_code 259 (.invokevirtual 257) 3 262 := ⟨by decide +kernel, rfl⟩
theorem d_9_tellOne_262 : zD prog_11_method_23_code 262 (.aload_n 0) 1 263 := ⟨by decide +kernel, rfl⟩
theorem d_9_tellOne_263 : zD prog_11_method_23_code 263 (.getfield 203) 3 266 := ⟨by decide +kernel, rfl⟩
theorem d_9_tellOne_266 : zD prog_11_method_23_code 266 (.ifCond .ne 120) 3 269 := ⟨by decide +kernel, rfl⟩
theorem d_9_tellOne_269 : zD prog_11_method_23_code 269 (.aload_n 0) 1 270 := ⟨by decide +kernel, rfl⟩
theorem d_9_tellOne_270 : zD prog_11_method_23_code 270 (.invokevirtual 271) 3 273 := ⟨by decide +kernel, rfl⟩
theorem d_9_tellOne_273 : zD prog_11_method_23_code 273 (.goto 113) 3 276 := ⟨by decide +kernel, rfl⟩
theorem d_9_tellOne_276 : zD prog_11_method_23_code 276 (.aload_n 0) 1 277 := ⟨by decide +kernel, rfl⟩
theorem d_9_tellOne_277 : zD prog_11_method_23_code 277 (.aload_n 0) 1 278 := ⟨by decide +kernel, rfl⟩
theorem d_9_tellOne_278 : zD prog_11_method_23_code 278 (.getfield 67) 3 281 := ⟨by decide +kernel, rfl⟩
theorem d_9_tellOne_281 : zD prog_11_method_23_code 281 (.aload_n 0) 1 282 := ⟨by decide +kernel, rfl⟩
theorem d_9_tellOne_282 : zD prog_11_method_23_code 282 (.getfield 236) 3 285 := ⟨by decide +kernel, rfl⟩
theorem d_9_tellOne_285 : zD prog_11_method_23_code 285 (.iaload) 1 286 := ⟨by decide +kernel, rfl⟩
theorem d_9_tellOne_286 : zD prog_11_method_23_code 286 (.bipush 7) 2 288 := ⟨by decide +kernel, rfl⟩
theorem d_9_tellOne_288 : zD prog_11_method_23_code 288 (.invokevirtual 257) 3 291 := ⟨by decide +kernel, rfl⟩
theorem d_9_tellOne_291 : zD prog_11_method_23_code 291 (.aload_n 0) 1 292 := ⟨by decide +kernel, rfl⟩
theorem d_9_tellOne_292 : zD prog_11_method_23_code 292 (.getfield 203) 3 295 := ⟨by decide +kernel, rfl⟩
theorem d_9_tellOne_295 : zD prog_11_method_23_code 295 (.ifCond .ne 91) 3 298 := ⟨by decide +kernel, rfl⟩
theorem d_9_tellOne_298 : zD prog_11_method_23_code 298 (.aload_n 0) 1 299 := ⟨by decide +kernel, rfl⟩
theorem d_9_tellOne_299 : zD prog_11_method_23_code 299 (.invokevirtual 274) 3 302 := ⟨by decide +kernel, rfl⟩
theorem d_9_tellOne_302 : zD prog_11_method_23_code 302 (.goto 84) 3 305 := ⟨by decide +kernel, rfl⟩
theorem d_9_tellOne_305 : zD prog_11_method_23_code 305 (.aload_n 0) 1 306 := ⟨by decide +kernel, rfl⟩
theorem d_9_tellOne_306 : zD prog_11_method_23_code 306 (.invokevirtual 224) 3 309 := ⟨by decide +kernel, rfl⟩
theorem d_9_tellOne_309 : zD prog_11_method_23_code 309 (.aload_n 0) 1 310 := ⟨by decide +kernel, rfl⟩
theorem d_9_tellOne_310 : zD prog_11_method_23_code 310 (.getfield 70) 3 313 := ⟨by decide +kernel, rfl⟩
theorem d_9_tellOne_313 : zD prog_11_method_23_code 313 (.aload_n 0) 1 314 := ⟨by decide +kernel, rfl⟩
theorem d_9_tellOne_314 : zD prog_11_method_23_code 314 (.getfield 236) 3 317 := ⟨by decide +kernel, rfl⟩
theorem d_9_tellOne_317 : zD prog_11_method_23_code 317 (.aload_n 0) 1 318 := ⟨by decide +kernel, rfl⟩
theorem d_9_tellOne_318 : zD prog_11_method_23_code 318 (.sipush 9999) 3 321 := ⟨by decide +kernel, rfl⟩
theorem d_9_tellOne_321 : zD prog_11_method_23_code 321 (.invokevirtual 265) 3 324 := ⟨by decide +kernel, rfl⟩
theorem d_9_tellOne_324 : zD prog_11_method_23_code 324 (.iastore) 1 325 := ⟨by decide +kernel, rfl⟩
theorem d_9_tellOne_325 : zD prog_11_method_23_code 325 (.aload_n 0) 1 326 := ⟨by decide +kernel, rfl⟩
theorem d_9_tellOne_326 : zD prog_11_method_23_code 326 (.iconst 4) 1 327 := ⟨by decide +kernel, rfl⟩
theorem d_9_tellOne_327 : zD prog_11_method_23_code 327 (.invokevirtual 277) 3 330 := ⟨by decide +kernel, rfl⟩
theorem d_9_tellOne_330 : zD prog_11_method_23_code 330 (.goto 56) 3 333 := ⟨by decide +kernel, rfl⟩
theorem d_9_tellOne_333 : zD prog_11_method_23_code 333 (.aload_n 0) 1 334 := ⟨by decide +kernel, rfl⟩
theorem d_9_tellOne_334 : zD prog_11_method_23_code 334 (.getfield 20) 3 337 := ⟨by decide +kernel, rfl⟩
theorem d_9_tellOne_337 : zD prog_11_method_23_code 337 (.aload_n 0) 1 338 := ⟨by decide +kernel, rfl⟩
theorem d_9_tellOne_338 : zD prog_11_method_23_code 338 (.getfield 206) 3 341 := ⟨by decide +kernel, rfl⟩
theorem d_9_tellOne_341 : zD prog_11_method_23_code 341 (.iaload) 1 342 := ⟨by decide +kernel, rfl⟩
theorem d_9_tellOne_342 : zD prog_11_method_23_code 342 (.bipush 24) 2 344 := ⟨by decide +kernel, rfl⟩
theorem d_9_tellOne_344 : zD prog_11_method_23_code 344 (.isub) 1 345 := ⟨by decide +kernel, rfl⟩
theorem d_9_tellOne_345 : zD prog_11_method_23_code 345 (.istore_n 1) 1 346 := ⟨by decide +kernel, rfl⟩
theorem d_9_tellOne_346 : zD prog_11_method_23_code 346 (.iload_n 1) 1 347 := ⟨by decide +kernel, rfl⟩
theorem d_9_tellOne_347 : zD prog_11_method_23_code 347 (.ifCond .lt 17) 3 350 := ⟨by decide +kernel, rfl⟩
theorem d_9_tellOne_350 : zD prog_11_method_23_code 350 (.aload_n 0) 1 351 := ⟨by decide +kernel, rfl⟩
theorem d_9_tellOne_351 : zD prog_11_method_23_code 351 (.getfield 20) 3 354 := ⟨by decide +kernel, rfl⟩
theorem d_9_tellOne_354 : zD prog_11_method_23_code 354 (.aload_n 0) 1 355 := ⟨by decide +kernel, rfl⟩
theorem d_9_tellOne_355 : zD prog_11_method_23_code 355 (.getfield 206) 3 358 := ⟨by decide +kernel, rfl⟩
theorem d_9_tellOne_358 : zD prog_11_method_23_code 358 (.iaload) 1 359 := ⟨by decide +kernel, rfl⟩
theorem d_9_tellOne_359 : zD prog_11_method_23_code 359 (.bipush 27) 2 361 := ⟨by decide +kernel, rfl⟩
theorem d_9_tellOne_361 : zD prog_11_method_23_code 361 (.if_icmp .le 8) 3 364 := ⟨by decide +kernel, rfl⟩
theorem d_9_tellOne_364 : zD prog_11_method_23_code 364 (.aload_n 0) 1 365 := ⟨by decide +kernel, rfl⟩
theorem d_9_tellOne_365 : zD prog_11_method_23_code 365 (.iconst 1) 1 366 := ⟨by decide +kernel, rfl⟩
theorem d_9_tellOne_366 : zD prog_11_method_23_code 366 (.invokevirtual 218) 3 369 := ⟨by decide +kernel, rfl⟩
theorem d_9_tellOne_369 : zD prog_11_method_23_code 369 (.aload_n 0) 1 370 := ⟨by decide +kernel, rfl⟩
theorem d_9_tellOne_370 : zD prog_11_method_23_code 370 (.getfield 203) 3 373 := ⟨by decide +kernel, rfl⟩
theorem d_9_tellOne_373 : zD prog_11_method_23_code 373 (.ifCond .le 4) 3 376 := ⟨by decide +kernel, rfl⟩
theorem d_9_tellOne_376 : zD prog_11_method_23_code 376 (.return_) 1 377 := ⟨by decide +kernel, rfl⟩
theorem d_9_tellOne_377 : zD prog_11_method_23_code 377 (.aload_n 0) 1 378 := ⟨by decide +kernel, rfl⟩
theorem d_9_tellOne_378 : zD prog_11_method_23_code 378 (.invokevirtual 224) 3 381 := ⟨by decide +kernel, rfl⟩
theorem d_9_tellOne_381 : zD prog_11_method_23_code 381 (.aload_n 0) 1 382 := ⟨by decide +kernel, rfl⟩
theorem d_9_tellOne_382 : zD prog_11_method_23_code 382 (.iload_n 1) 1 383 := ⟨by decide +kernel, rfl⟩
theorem d_9_tellOne_383 : zD prog_11_method_23_code 383 (.invokevirtual 280) 3 386 := ⟨by decide +kernel, rfl⟩
theorem d_9_tellOne_386 : zD prog_11_method_23_code 386 (.return_) 1 387 := ⟨by decide +kernel, rfl⟩
theorem d_9_read_0 : zD prog_11_method_20_code 0 (.aload_n 0) 1 1 := ⟨by decide +kernel, rfl⟩
theorem d_9_read_1 : zD prog_11_method_20_code 1 (.aload_n 0) 1 2 := ⟨by decide +kernel, rfl⟩
theorem d_9_read_2 : zD prog_11_method_20_code 2 (.getfield 166) 3 5 := ⟨by decide +kernel, rfl⟩
theorem d_9_read_5 : zD prog_11_method_20_code 5 (.putfield 172) 3 8 := ⟨by decide +kernel, rfl⟩
theorem d_9_read_8 : zD prog_11_method_20_code 8 (.iconst 0) 1 9 := ⟨by decide +kernel, rfl⟩
theorem d_9_read_9 : zD prog_11_method_20_code 9 (.istore_n 1) 1 10 := ⟨by decide +kernel, rfl⟩
theorem d_9_read_10 : zD prog_11_method_20_code 10 (.iload_n 1) 1 11 := ⟨by decide +kernel, rfl⟩
theorem d_9_read_11 : zD prog_11_method_20_code 11 (.aload_n 0) 1 12 := ⟨by decide +kernel, rfl⟩
theorem d_9_read_12 : zD prog_11_method_20_code 12 (.getfield 172) 3 15 := ⟨by decide +kernel, rfl⟩
theorem d_9_read_15 : zD prog_11_method_20_code 15 (.if_icmp .ge 21) 3 18 := ⟨by decide +kernel, rfl⟩
theorem d_9_read_18 : zD prog_11_method_20_code 18 (.aload_n 0) 1 19 := ⟨by decide +kernel, rfl⟩
theorem d_9_read_19 : zD prog_11_method_20_code 19 (.getfield 17) 3 22 := ⟨by decide +kernel, rfl⟩
theorem d_9_read_22 : zD prog_11_method_20_code 22 (.iload_n 1) 1 23 := ⟨by decide +kernel, rfl⟩
theorem d_9_read_23 : zD prog_11_method_20_code 23 (.aload_n 0) 1 24 := ⟨by decide +kernel, rfl⟩
theorem d_9_read_24 : zD prog_11_method_20_code 24 (.getfield 13) 3 27 := ⟨by decide +kernel, rfl⟩
theorem d_9_read_27 : zD prog_11_method_20_code 27 (.iload_n 1) 1 28 := ⟨by decide +kernel, rfl⟩
theorem d_9_read_28 : zD prog_11_method_20_code 28 (.baload) 1 29 := ⟨by decide +kernel, rfl⟩
theorem d_9_read_29 : zD prog_11_method_20_code 29 (.bastore) 1 30 := ⟨by decide +kernel, rfl⟩
theorem d_9_read_30 : zD prog_11_method_20_code 30 (.iinc 1 1) 3 33 := ⟨by decide +kernel, rfl⟩
theorem d_9_read_33 : zD prog_11_method_20_code 33 (.goto (-23)) 3 36 := ⟨by decide +kernel, rfl⟩
theorem d_9_read_36 : zD prog_11_method_20_code 36 (.aload_n 0) 1 37 := ⟨by decide +kernel, rfl⟩
theorem d_9_read_37 : zD prog_11_method_20_code 37 (.iconst 0) 1 38 := ⟨by decide +kernel, rfl⟩
theorem d_9_read_38 : zD prog_11_method_20_code 38 (.putfield 166) 3 41 := ⟨by decide +kernel, rfl⟩
theorem d_9_read_41 : zD prog_11_method_20_code 41 (.aload_n 0) 1 42 := ⟨by decide +kernel, rfl⟩
theorem d_9_read_42 : zD prog_11_method_20_code 42 (.invokevirtual 227) 3 45 := ⟨by decide +kernel, rfl⟩
theorem d_9_read_45 : zD prog_11_method_20_code 45 (.aload_n 0) 1 46 := ⟨by decide +kernel, rfl⟩
theorem d_9_read_46 : zD prog_11_method_20_code 46 (.iconst 0) 1 47 := ⟨by decide +kernel, rfl⟩
theorem d_9_read_47 : zD prog_11_method_20_code 47 (.putfield 206) 3 50 := ⟨by decide +kernel, rfl⟩
theorem d_9_read_50 : zD prog_11_method_20_code 50 (.aload_n 0) 1 51 := ⟨by decide +kernel, rfl⟩
theorem d_9_read_51 : zD prog_11_method_20_code 51 (.iconst 0) 1 52 := ⟨by decide +kernel, rfl⟩
theorem d_9_read_52 : zD prog_11_method_20_code 52 (.putfield 230) 3 55 := ⟨by decide +kernel, rfl⟩
theorem d_9_read_55 : zD prog_11_method_20_code 55 (.aload_n 0) 1 56 := ⟨by decide +kernel, rfl⟩
theorem d_9_read_56 : zD prog_11_method_20_code 56 (.iconst 0) 1 57 := ⟨by decide +kernel, rfl⟩
theorem d_9_read_57 : zD prog_11_method_20_code 57 (.putfield 203) 3 60 := ⟨by decide +kernel, rfl⟩
theorem d_9_read_60 : zD prog_11_method_20_code 60 (.aload_n 0) 1 61 := ⟨by decide +kernel, rfl⟩
theorem d_9_read_61 : zD prog_11_method_20_code 61 (.iconst 0) 1 62 := ⟨by decide +kernel, rfl⟩
theorem d_9_read_62 : zD prog_11_method_20_code 62 (.putfield 212) 3 65 := ⟨by decide +kernel, rfl⟩
theorem d_9_read_65 : zD prog_11_method_20_code 65 (.aload_n 0) 1 66 := ⟨by decide +kernel, rfl⟩
theorem d_9_read_66 : zD prog_11_method_20_code 66 (.iconst 1) 1 67 := ⟨by decide +kernel, rfl⟩
theorem d_9_read_67 : zD prog_11_method_20_code 67 (.aload_n 0) 1 68 := ⟨by decide +kernel, rfl⟩
theorem d_9_read_68 : zD prog_11_method_20_code 68 (.getfield 233) 3 71 := ⟨by decide +kernel, rfl⟩
theorem d_9_read_71 : zD prog_11_method_20_code 71 (.isub) 1 72 := ⟨by decide +kernel, rfl⟩
theorem d_9_read_72 : zD prog_11_method_20_code 72 (.putfield 236) 3 75 := ⟨by decide +kernel, rfl⟩
theorem d_9_read_75 : zD prog_11_method_20_code 75 (.aload_n 0) 1 76 := ⟨by decide +kernel, rfl⟩
theorem d_9_read_76 : zD prog_11_method_20_code 76 (.iconst 0) 1 77 := ⟨by decide +kernel, rfl⟩
theorem d_9_read_77 : zD prog_11_method_20_code 77 (.putfield 239) 3 80 := ⟨by decide +kernel, rfl⟩
theorem d_9_read_80 : zD prog_11_method_20_code 80 (.aload_n 0) 1 81 := ⟨by decide +kernel, rfl⟩
theorem d_9_read_81 : zD prog_11_method_20_code 81 (.aload_n 0) 1 82 := ⟨by decide +kernel, rfl⟩
theorem d_9_read_82 : zD prog_11_method_20_code 82 (.getfield 236) 3 85 := ⟨by decide +kernel, rfl⟩
theorem d_9_read_85 : zD prog_11_method_20_code 85 (.invokevirtual 152) 3 88 := ⟨by decide +kernel, rfl⟩
theorem d_9_read_88 : zD prog_11_method_20_code 88 (.aload_n 0) 1 89 := ⟨by decide +kernel, rfl⟩
theorem d_9_read_89 : zD prog_11_method_20_code 89 (.sipush 130) 3 92 := ⟨by decide +kernel, rfl⟩
theorem d_9_read_92 : zD prog_11_method_20_code 92 (.aload_n 0) 1 93 := ⟨by decide +kernel, rfl⟩
theorem d_9_read_93 : zD prog_11_method_20_code 93 (.getfield 236) 3 96 := ⟨by decide +kernel, rfl⟩
theorem d_9_read_96 : zD prog_11_method_20_code 96 (.imul) 1 97 := ⟨by decide +kernel, rfl⟩
theorem d_9_read_97 : zD prog_11_method_20_code 97 (.putfield 242) 3 100 := ⟨by decide +kernel, rfl⟩
theorem d_9_read_100 : zD prog_11_method_20_code 100 (.aload_n 0) 1 101 := ⟨by decide +kernel, rfl⟩
theorem d_9_read_101 : zD prog_11_method_20_code 101 (.sipush 420) 3 104 := ⟨by decide +kernel, rfl⟩
theorem d_9_read_104 : zD prog_11_method_20_code 104 (.aload_n 0) 1 105 := ⟨by decide +kernel, rfl⟩
theorem d_9_read_105 : zD prog_11_method_20_code 105 (.getfield 236) 3 108 := ⟨by decide +kernel, rfl⟩
theorem d_9_read_108 : zD prog_11_method_20_code 108 (.imul) 1 109 := ⟨by decide +kernel, rfl⟩
theorem d_9_read_109 : zD prog_11_method_20_code 109 (.putfield 245) 3 112 := ⟨by decide +kernel, rfl⟩
theorem d_9_read_112 : zD prog_11_method_20_code 112 (.aload_n 0) 1 113 := ⟨by decide +kernel, rfl⟩
theorem d_9_read_113 : zD prog_11_method_20_code 113 (.getfield 203) 3 116 := ⟨by decide +kernel, rfl⟩
theorem d_9_read_116 : zD prog_11_method_20_code 116 (.ifCond .ne 18) 3 119 := ⟨by decide +kernel, rfl⟩
theorem d_9_read_119 : zD prog_11_method_20_code 119 (.aload_n 0) 1 120 := ⟨by decide +kernel, rfl⟩
theorem d_9_read_120 : zD prog_11_method_20_code 120 (.iconst 0) 1 121 := ⟨by decide +kernel, rfl⟩
theorem d_9_read_121 : zD prog_11_method_20_code 121 (.invokevirtual 221) 3 124 := ⟨by decide +kernel, rfl⟩
theorem d_9_read_124 : zD prog_11_method_20_code 124 (.ifCond .ne 10) 3 127 := ⟨by decide +kernel, rfl⟩
theorem d_9_read_127 : zD prog_11_method_20_code 127 (.aload_n 0) 1 128 := ⟨by decide +kernel, rfl⟩
theorem d_9_read_128 : zD prog_11_method_20_code 128 (.invokevirtual 248) 3 131 := ⟨by decide +kernel, rfl⟩
theorem d_9_read_131 : zD prog_11_method_20_code 131 (.goto (-19)) 3 134 := ⟨by decide +kernel, rfl⟩
theorem d_9_read_134 : zD prog_11_method_20_code 134 (.aload_n 0) 1 135 := ⟨by decide +kernel, rfl⟩
theorem d_9_read_135 : zD prog_11_method_20_code 135 (.aload_n 0) 1 136 := ⟨by decide +kernel, rfl⟩
theorem d_9_read_136 : zD prog_11_method_20_code 136 (.getfield 203) 3 139 := ⟨by decide +kernel, rfl⟩
theorem d_9_read_139 : zD prog_11_method_20_code 139 (.ifCond .le 10) 3 142 := ⟨by decide +kernel, rfl⟩
theorem d_9_read_142 : zD prog_11_method_20_code 142 (.aload_n 0) 1 143 := ⟨by decide +kernel, rfl⟩
theorem d_9_read_143 : zD prog_11_method_20_code 143 (.getfield 209) 3 146 := ⟨by decide +kernel, rfl⟩
theorem d_9_read_146 : zD prog_11_method_20_code 146 (.goto 18) 3 149 := ⟨by decide +kernel, rfl⟩
theorem d_9_read_149 : zD prog_11_method_20_code 149 (.aload_n 0) 1 150 := ⟨by decide +kernel, rfl⟩
theorem d_9_read_150 : zD prog_11_method_20_code 150 (.getfield 212) 3 153 := ⟨by decide +kernel, rfl⟩
theorem d_9_read_153 : zD prog_11_method_20_code 153 (.ifCond .le 10) 3 156 := ⟨by decide +kernel, rfl⟩
theorem d_9_read_156 : zD prog_11_method_20_code 156 (.aload_n 0) 1 157 := ⟨by decide +kernel, rfl⟩
theorem d_9_read_157 : zD prog_11_method_20_code 157 (.getfield 215) 3 160 := ⟨by decide +kernel, rfl⟩
theorem d_9_read_160 : zD prog_11_method_20_code 160 (.goto 4) 3 163 := ⟨by decide +kernel, rfl⟩
theorem d_9_read_163 : zD prog_11_method_20_code 163 (.iconst (-1)) 1 164 := ⟨by decide +kernel, rfl⟩
theorem d_9_read_164 : zD prog_11_method_20_code 164 (.putfield 37) 3 167 := ⟨by decide +kernel, rfl⟩
theorem d_9_read_167 : zD prog_11_method_20_code 167 (.aload_n 0) 1 168 := ⟨by decide +kernel, rfl⟩
theorem d_9_read_168 : zD prog_11_method_20_code 168 (.getfield 203) 3 171 := ⟨by decide +kernel, rfl⟩
theorem d_9_read_171 : zD prog_11_method_20_code 171 (.ifCond .le 8) 3 174 := ⟨by decide +kernel, rfl⟩
theorem d_9_read_174 : zD prog_11_method_20_code 174 (.aload_n 0) 1 175 := ⟨by decide +kernel, rfl⟩
theorem d_9_read_175 : zD prog_11_method_20_code 175 (.getfield 203) 3 178 := ⟨by decide +kernel, rfl⟩
theorem d_9_read_178 : zD prog_11_method_20_code 178 (.ireturn) 1 179 := ⟨by decide +kernel, rfl⟩
theorem d_9_read_179 : zD prog_11_method_20_code 179 (.aload_n 0) 1 180 := ⟨by decide +kernel, rfl⟩
theorem d_9_read_180 : zD prog_11_method_20_code 180 (.getfield 212) 3 183 := ⟨by decide +kernel, rfl⟩
theorem d_9_read_183 : zD prog_11_method_20_code 183 (.ifCond .le 8) 3 186 := ⟨by decide +kernel, rfl⟩
theorem d_9_read_186 : zD prog_11_method_20_code 186 (.aload_n 0) 1 187 := ⟨by decide +kernel, rfl⟩
theorem d_9_read_187 : zD prog_11_method_20_code 187 (.getfield 212) 3 190 := ⟨by decide +kernel, rfl⟩
theorem d_9_read_190 : zD prog_11_method_20_code 190 (.ireturn) 1 191 := ⟨by decide +kernel, rfl⟩
theorem d_9_read_191 : zD prog_11_method_20_code 191 (.aload_n 0) 1 192 := ⟨by decide +kernel, rfl⟩
theorem d_9_read_192 : zD prog_11_method_20_code 192 (.aload_n 0) 1 193 := ⟨by decide +kernel, rfl⟩
theorem d_9_read_193 : zD prog_11_method_20_code 193 (.getfield 236) 3 196 := ⟨by decide +kernel, rfl⟩
theorem d_9_read_196 : zD prog_11_method_20_code 196 (.putfield 233) 3 199 := ⟨by decide +kernel, rfl⟩
theorem d_9_read_199 : zD prog_11_method_20_code 199 (.aload_n 0) 1 200 := ⟨by decide +kernel, rfl⟩
theorem d_9_read_200 : zD prog_11_method_20_code 200 (.invokevirtual 160) 3 203 := ⟨by decide +kernel, rfl⟩
theorem d_9_read_203 : zD prog_11_method_20_code 203 (.aload_n 0) 1 204 := ⟨by decide +kernel, rfl⟩
theorem d_9_read_204 : zD prog_11_method_20_code 204 (.invokevirtual 163) 3 207 := ⟨by decide +kernel, rfl⟩
theorem d_9_read_207 : zD prog_11_method_20_code 207 (.aload_n 0) 1 208 := ⟨by decide +kernel, rfl⟩
theorem d_9_read_208 : zD prog_11_method_20_code 208 (.iconst 0) 1 209 := ⟨by decide +kernel, rfl⟩
theorem d_9_read_209 : zD prog_11_method_20_code 209 (.putfield 251) 3 212 := ⟨by decide +kernel, rfl⟩
theorem d_9_read_212 : zD prog_11_method_20_code 212 (.aload_n 0) 1 213 := ⟨by decide +kernel, rfl⟩
theorem d_9_read_213 : zD prog_11_method_20_code 213 (.iconst 0) 1 214 := ⟨by decide +kernel, rfl⟩
theorem d_9_read_214 : zD prog_11_method_20_code 214 (.putfield 254) 3 217 := ⟨by decide +kernel, rfl⟩
theorem d_9_read_217 : zD prog_11_method_20_code 217 (.iconst 0) 1 218 := ⟨by decide +kernel, rfl⟩
theorem d_9_read_218 : zD prog_11_method_20_code 218 (.istore_n 1) 1 219 := ⟨by decide +kernel, rfl⟩
theorem d_9_read_219 : zD prog_11_method_20_code 219 (.iload_n 1) 1 220 := ⟨by decide +kernel, rfl⟩
theorem d_9_read_220 : zD prog_11_method_20_code 220 (.iconst 3) 1 221 := ⟨by decide +kernel, rfl⟩
theorem d_9_read_221 : zD prog_11_method_20_code 221 (.if_icmp .ge 16) 3 224 := ⟨by decide +kernel, rfl⟩
theorem d_9_read_224 : zD prog_11_method_20_code 224 (.aload_n 0) 1 225 := ⟨by decide +kernel, rfl⟩
theorem d_9_read_225 : zD prog_11_method_20_code 225 (.getfield 146) 3 228 := ⟨by decide +kernel, rfl⟩
theorem d_9_read_228 : zD prog_11_method_20_code 228 (.iload_n 1) 1 229 := ⟨by decide +kernel, rfl⟩
theorem d_9_read_229 : zD prog_11_method_20_code 229 (.iconst 0) 1 230 := ⟨by decide +kernel, rfl⟩
theorem d_9_read_230 : zD prog_11_method_20_code 230 (.bastore) 1 231 := ⟨by decide +kernel, rfl⟩
theorem d_9_read_231 : zD prog_11_method_20_code 231 (.iinc 1 1) 3 234 := ⟨by decide +kernel, rfl⟩
theorem d_9_read_234 : zD prog_11_method_20_code 234 (.goto (-15)) 3 237 := ⟨by decide +kernel, rfl⟩
theorem d_9_read_237 : zD prog_11_method_20_code 237 (.iconst 0) 1 238 := ⟨by decide +kernel, rfl⟩
theorem d_9_read_238 : zD prog_11_method_20_code 238 (.ireturn) 1 239 := ⟨by decide +kernel, rfl⟩
theorem d_9_place_0 : zD prog_11_method_21_code 0 (.aload_n 0) 1 1 := ⟨by decide +kernel, rfl⟩
theorem d_9_place_1 : zD prog_11_method_21_code 1 (.getfield 37) 3 4 := ⟨by decide +kernel, rfl⟩
theorem d_9_place_4 : zD prog_11_method_21_code 4 (.ireturn) 1 5 := ⟨by decide +kernel, rfl⟩
theorem d_9_termOf_0 : zD prog_11_method_36_code 0 (.iconst 0) 1 1 := ⟨by decide +kernel, rfl⟩
theorem d_9_termOf_1 : zD prog_11_method_36_code 1 (.istore_n 3) 1 2 := ⟨by decide +kernel, rfl⟩
theorem d_9_termOf_2 : zD prog_11_method_36_code 2 (.iload_n 1) 1 3 := ⟨by decide +kernel, rfl⟩
theorem d_9_termOf_3 : zD prog_11_method_36_code 3 (.istore 4) 2 5 := ⟨by decide +kernel, rfl⟩
theorem d_9_termOf_5 : zD prog_11_method_36_code 5 (.iload 4) 2 7 := ⟨by decide +kernel, rfl⟩
theorem d_9_termOf_7 : zD prog_11_method_36_code 7 (.iload_n 2) 1 8 := ⟨by decide +kernel, rfl⟩
theorem d_9_termOf_8 : zD prog_11_method_36_code 8 (.if_icmp .ge 157) 3 11 := ⟨by decide +kernel, rfl⟩
theorem d_9_termOf_11 : zD prog_11_method_36_code 11 (.aload_n 0) 1 12 := ⟨by decide +kernel, rfl⟩
theorem d_9_termOf_12 : zD prog_11_method_36_code 12 (.getfield 95) 3 15 := ⟨by decide +kernel, rfl⟩
theorem d_9_termOf_15 : zD prog_11_method_36_code 15 (.iload 4) 2 17 := ⟨by decide +kernel, rfl⟩
theorem d_9_termOf_17 : zD prog_11_method_36_code 17 (.iaload) 1 18 := ⟨by decide +kernel, rfl⟩
theorem d_9_termOf_18 : zD prog_11_method_36_code 18 (.istore 5) 2 20 := ⟨by decide +kernel, rfl⟩
theorem d_9_termOf_20 : zD prog_11_method_36_code 20 (.iload 5) 2 22 := ⟨by decide +kernel, rfl⟩
theorem d_9_termOf_22 : zD prog_11_method_36_code 22 (.iconst 2) 1 23 := ⟨by decide +kernel, rfl⟩
theorem d_9_termOf_23 : zD prog_11_method_36_code 23 (.if_icmp .ge 42) 3 26 := ⟨by decide +kernel, rfl⟩
theorem d_9_termOf_26 : zD prog_11_method_36_code 26 (.aload_n 0) 1 27 := ⟨by decide +kernel, rfl⟩
theorem d_9_termOf_27 : zD prog_11_method_36_code 27 (.getfield 107) 3 30 := ⟨by decide +kernel, rfl⟩
theorem d_9_termOf_30 : zD prog_11_method_36_code 30 (.iload_n 3) 1 31 := ⟨by decide +kernel, rfl⟩
theorem d_9_termOf_31 : zD prog_11_method_36_code 31 (.iload 5) 2 33 := ⟨by decide +kernel, rfl⟩
theorem d_9_termOf_33 : zD prog_11_method_36_code 33 (.ifCond .ne 13) 3 36 := ⟨by decide +kernel, rfl⟩
theorem d_9_termOf_36 : zD prog_11_method_36_code 36 (.aload_n 0) 1 37 := ⟨by decide +kernel, rfl⟩
theorem d_9_termOf_37 : zD prog_11_method_36_code 37 (.getfield 98) 3 40 := ⟨by decide +kernel, rfl⟩
theorem d_9_termOf_40 : zD prog_11_method_36_code 40 (.iload 4) 2 42 := ⟨by decide +kernel, rfl⟩
theorem d_9_termOf_42 : zD prog_11_method_36_code 42 (.iaload) 1 43 := ⟨by decide +kernel, rfl⟩
theorem d_9_termOf_43 : zD prog_11_method_36_code 43 (.goto 15) 3 46 := ⟨by decide +kernel, rfl⟩
theorem d_9_termOf_46 : zD prog_11_method_36_code 46 (.aload_n 0) 1 47 := ⟨by decide +kernel, rfl⟩
theorem d_9_termOf_47 : zD prog_11_method_36_code 47 (.getfield 104) 3 50 := ⟨by decide +kernel, rfl⟩
theorem d_9_termOf_50 : zD prog_11_method_36_code 50 (.aload_n 0) 1 51 := ⟨by decide +kernel, rfl⟩
theorem d_9_termOf_51 : zD prog_11_method_36_code 51 (.getfield 98) 3 54 := ⟨by decide +kernel, rfl⟩
theorem d_9_termOf_54 : zD prog_11_method_36_code 54 (.iload 4) 2 56 := ⟨by decide +kernel, rfl⟩
theorem d_9_termOf_56 : zD prog_11_method_36_code 56 (.iaload) 1 57 := ⟨by decide +kernel, rfl⟩
theorem d_9_termOf_57 : zD prog_11_method_36_code 57 (.iaload) 1 58 := ⟨by decide +kernel, rfl⟩
theorem d_9_termOf_58 : zD prog_11_method_36_code 58 (.iastore) 1 59 := ⟨by decide +kernel, rfl⟩
theorem d_9_termOf_59 : zD prog_11_method_36_code 59 (.iinc 3 1) 3 62 := ⟨by decide +kernel, rfl⟩
theorem d_9_termOf_62 : zD prog_11_method_36_code 62 (.goto 97) 3 65 := ⟨by decide +kernel, rfl⟩
theorem d_9_termOf_65 : zD prog_11_method_36_code 65 (.iinc 3 (-1)) 3 68 := ⟨by decide +kernel, rfl⟩
theorem d_9_termOf_68 : zD prog_11_method_36_code 68 (.aload_n 0) 1 69 := ⟨by decide +kernel, rfl⟩
theorem d_9_termOf_69 : zD prog_11_method_36_code 69 (.getfield 107) 3 72 := ⟨by decide +kernel, rfl⟩
theorem d_9_termOf_72 : zD prog_11_method_36_code 72 (.iload_n 3) 1 73 := ⟨by decide +kernel, rfl⟩
theorem d_9_termOf_73 : zD prog_11_method_36_code 73 (.iconst 1) 1 74 := ⟨by decide +kernel, rfl⟩
theorem d_9_termOf_74 : zD prog_11_method_36_code 74 (.isub) 1 75 := ⟨by decide +kernel, rfl⟩
theorem d_9_termOf_75 : zD prog_11_method_36_code 75 (.iaload) 1 76 := ⟨by decide +kernel, rfl⟩
theorem d_9_termOf_76 : zD prog_11_method_36_code 76 (.istore 6) 2 78 := ⟨by decide +kernel, rfl⟩
theorem d_9_termOf_78 : zD prog_11_method_36_code 78 (.aload_n 0) 1 79 := ⟨by decide +kernel, rfl⟩
theorem d_9_termOf_79 : zD prog_11_method_36_code 79 (.getfield 107) 3 82 := ⟨by decide +kernel, rfl⟩
theorem d_9_termOf_82 : zD prog_11_method_36_code 82 (.iload_n 3) 1 83 := ⟨by decide +kernel, rfl⟩
theorem d_9_termOf_83 : zD prog_11_method_36_code 83 (.iaload) 1 84 := ⟨by decide +kernel, rfl⟩
theorem d_9_termOf_84 : zD prog_11_method_36_code 84 (.istore 7) 2 86 := ⟨by decide +kernel, rfl⟩
theorem d_9_termOf_86 : zD prog_11_method_36_code 86 (.iload 5) 2 88 := ⟨by decide +kernel, rfl⟩
theorem d_9_termOf_88 : zD prog_11_method_36_code 88 (.iconst 5) 1 89 := ⟨by decide +kernel, rfl⟩
theorem d_9_termOf_89 : zD prog_11_method_36_code 89 (.if_icmp .ne 15) 3 92 := ⟨by decide +kernel, rfl⟩
theorem d_9_termOf_92 : zD prog_11_method_36_code 92 (.iload 7) 2 94 := ⟨by decide +kernel, rfl⟩
theorem d_9_termOf_94 : zD prog_11_method_36_code 94 (.ifCond .ne 10) 3 97 := ⟨by decide +kernel, rfl⟩
theorem d_9_termOf_97 : zD prog_11_method_36_code 97 (.aload_n 0) 1 98 := ⟨by decide +kernel, rfl⟩
theorem d_9_termOf_98 : zD prog_11_method_36_code 98 (.iconst 1) 1 99 := ⟨by decide +kernel, rfl⟩
theorem d_9_termOf_99 : zD prog_11_method_36_code 99 (.putfield 308) 3 102 := ⟨by decide +kernel, rfl⟩
theorem d_9_termOf_102 : zD prog_11_method_36_code 102 (.iconst 0) 1 103 := ⟨by decide +kernel, rfl⟩
theorem d_9_termOf_103 : zD prog_11_method_36_code 103 (.ireturn) 1 104 := ⟨by decide +kernel, rfl⟩
theorem d_9_termOf_104 : zD prog_11_method_36_code 104 (.aload_n 0) 1 105 := ⟨by decide +kernel, rfl⟩
theorem d_9_termOf_105 : zD prog_11_method_36_code 105 (.getfield 107) 3 108 := ⟨by decide +kernel, rfl⟩
theorem d_9_termOf_108 : zD prog_11_method_36_code 108 (.iload_n 3) 1 109 := ⟨by decide +kernel, rfl⟩
theorem d_9_termOf_109 : zD prog_11_method_36_code 109 (.iconst 1) 1 110 := ⟨by decide +kernel, rfl⟩
theorem d_9_termOf_110 : zD prog_11_method_36_code 110 (.isub) 1 111 := ⟨by decide +kernel, rfl⟩
theorem d_9_termOf_111 : zD prog_11_method_36_code 111 (.iload 5) 2 113 := ⟨by decide +kernel, rfl⟩
theorem d_9_termOf_113 : zD prog_11_method_36_code 113 (.iconst 2) 1 114 := ⟨by decide +kernel, rfl⟩
theorem d_9_termOf_114 : zD prog_11_method_36_code 114 (.if_icmp .ne 11) 3 117 := ⟨by decide +kernel, rfl⟩
theorem d_9_termOf_117 : zD prog_11_method_36_code 117 (.iload 6) 2 119 := ⟨by decide +kernel, rfl⟩
theorem d_9_termOf_119 : zD prog_11_method_36_code 119 (.iload 7) 2 121 := ⟨by decide +kernel, rfl⟩
theorem d_9_termOf_121 : zD prog_11_method_36_code 121 (.iadd) 1 122 := ⟨by decide +kernel, rfl⟩
theorem d_9_termOf_122 : zD prog_11_method_36_code 122 (.goto 36) 3 125 := ⟨by decide +kernel, rfl⟩
theorem d_9_termOf_125 : zD prog_11_method_36_code 125 (.iload 5) 2 127 := ⟨by decide +kernel, rfl⟩
theorem d_9_termOf_127 : zD prog_11_method_36_code 127 (.iconst 3) 1 128 := ⟨by decide +kernel, rfl⟩
theorem d_9_termOf_128 : zD prog_11_method_36_code 128 (.if_icmp .ne 11) 3 131 := ⟨by decide +kernel, rfl⟩
theorem d_9_termOf_131 : zD prog_11_method_36_code 131 (.iload 6) 2 133 := ⟨by decide +kernel, rfl⟩
theorem d_9_termOf_133 : zD prog_11_method_36_code 133 (.iload 7) 2 135 := ⟨by decide +kernel, rfl⟩
theorem d_9_termOf_135 : zD prog_11_method_36_code 135 (.isub) 1 136 := ⟨by decide +kernel, rfl⟩
theorem d_9_termOf_136 : zD prog_11_method_36_code 136 (.goto 22) 3 139 := ⟨by decide +kernel, rfl⟩
theorem d_9_termOf_139 : zD prog_11_method_36_code 139 (.iload 5) 2 141 := ⟨by decide +kernel, rfl⟩
theorem d_9_termOf_141 : zD prog_11_method_36_code 141 (.iconst 4) 1 142 := ⟨by decide +kernel, rfl⟩
theorem d_9_termOf_142 : zD prog_11_method_36_code 142 (.if_icmp .ne 11) 3 145 := ⟨by decide +kernel, rfl⟩
theorem d_9_termOf_145 : zD prog_11_method_36_code 145 (.iload 6) 2 147 := ⟨by decide +kernel, rfl⟩
theorem d_9_termOf_147 : zD prog_11_method_36_code 147 (.iload 7) 2 149 := ⟨by decide +kernel, rfl⟩
theorem d_9_termOf_149 : zD prog_11_method_36_code 149 (.imul) 1 150 := ⟨by decide +kernel, rfl⟩
theorem d_9_termOf_150 : zD prog_11_method_36_code 150 (.goto 8) 3 153 := ⟨by decide +kernel, rfl⟩
theorem d_9_termOf_153 : zD prog_11_method_36_code 153 (.iload 6) 2 155 := ⟨by decide +kernel, rfl⟩
theorem d_9_termOf_155 : zD prog_11_method_36_code 155 (.iload 7) 2 157 := ⟨by decide +kernel, rfl⟩
theorem d_9_termOf_157 : zD prog_11_method_36_code 157 (.idiv) 1 158 := ⟨by decide +kernel, rfl⟩
theorem d_9_termOf_158 : zD prog_11_method_36_code 158 (.iastore) 1 159 := ⟨by decide +kernel, rfl⟩
theorem d_9_termOf_159 : zD prog_11_method_36_code 159 (.iinc 4 1) 3 162 := ⟨by decide +kernel, rfl⟩
theorem d_9_termOf_162 : zD prog_11_method_36_code 162 (.goto (-157)) 3 165 := ⟨by decide +kernel, rfl⟩
theorem d_9_termOf_165 : zD prog_11_method_36_code 165 (.aload_n 0) 1 166 := ⟨by decide +kernel, rfl⟩
theorem d_9_termOf_166 : zD prog_11_method_36_code 166 (.getfield 107) 3 169 := ⟨by decide +kernel, rfl⟩
theorem d_9_termOf_169 : zD prog_11_method_36_code 169 (.iconst 0) 1 170 := ⟨by decide +kernel, rfl⟩
theorem d_9_termOf_170 : zD prog_11_method_36_code 170 (.iaload) 1 171 := ⟨by decide +kernel, rfl⟩
theorem d_9_termOf_171 : zD prog_11_method_36_code 171 (.ireturn) 1 172 := ⟨by decide +kernel, rfl⟩
def f9_cut_L25 (x4 : Int32) (xm5 : zMem) : (Int32 × Int32) → Option ((Int32 × Int32) ⊕ (Int32 × Int32)) := (z_u2 fun x26 x27 => 
  (f9_byteAt (x4 + x26) xm5).bind (fun q28 => (if (f9_isDigit q28) = 0 then some (.inr (x26, x27)) else ((if x26 < (4 : Int32) then (f9_byteAt (x4 + x26) xm5).bind (fun q35 => z_let ((((10 : Int32) * x27) + q35) - (48 : Int32)) fun v37 => some v37) else some x27) : Option (Int32)).bind (fun j39 => some (.inl ((x26 + (1 : Int32)), j39))))))
def f9_cut_L49 (x4 : Int32) (xm5 : zMem) : (Int32 × Int64) → Option ((Int32 × Int64) ⊕ (Int32 × Int64)) := (z_u2 fun x50 x51 => 
  (f9_byteAt (x4 + x50) xm5).bind (fun q52 => (if (f9_isLetter q52) = 0 then some (.inr (x50, x51)) else ((if x50 < (8 : Int32) then (f9_byteAt (x4 + x50) xm5).bind (fun q59 => some (f9_appends x51 q59)) else some x51) : Option (Int64)).bind (fun j62 => some (.inl ((x50 + (1 : Int32)), j62))))))
def f9_cut_L73 (xm5 : zMem) (e64 : Int64) : (Int32 × Int32) → Option ((Int32 × Int32) ⊕ (Int32)) := (z_u2 fun x74 x75 => 
  (if x75 < (21 : Int32) then if z_in x75 21 = true then ((if (lg_cmp (xm5.2.1 109 0 x75.toNatClampNeg) e64) = 0 then some ((20 : Int32) + x75) else some x74) : Option (Int32)).bind (fun j81 => some (.inl (j81, (x75 + (1 : Int32))))) else none else some (.inr x74)))
def f9_cut_L3  : (Int32 × zMem) → Option ((Int32 × zMem) ⊕ ((zMem) ⊕ (zMem))) := (z_u2 fun x4 xm5 => 
  (if (400 : Int32) < (xm5.1 9 0 10) then some (.inr (.inl xm5)) else (f9_byteAt x4 xm5).bind (fun q7 => (if x4 < (xm5.1 9 0 4) then ((if q7 = (9 : Int32) then some ((x4 + (1 : Int32)), xm5) else (if q7 = (10 : Int32) then some ((x4 + (1 : Int32)), xm5) else (if q7 = (13 : Int32) then some ((x4 + (1 : Int32)), xm5) else (if q7 = (32 : Int32) then some ((x4 + (1 : Int32)), xm5) else (if (f9_isLetter q7) = 0 then (if (f9_isDigit q7) = 0 then (f9_byteAt (x4 + (1 : Int32)) xm5).bind (fun q20 => (f9_sign x4 q7 q20 xm5).bind (z_u2 fun q22 qm23 => some ((x4 + q22), qm23))) else (z_it (f9_cut_L25 x4 xm5) z_fu ((0 : Int32), (0 : Int32))).bind (z_u2 fun e40 e41 => ((if (4 : Int32) < e40 then some (3 : Int32) else some (2 : Int32)) : Option (Int32)).bind (fun j46 => (f9_token j46 x4 e41 (0 : Int64) xm5).bind (fun qm47 => some ((x4 + e40), qm47))))) else (z_it (f9_cut_L49 x4 xm5) z_fu ((0 : Int32), (0 : Int64))).bind (z_u2 fun e63 e64 => ((if (8 : Int32) < e63 then some (3 : Int32) else some (1 : Int32)) : Option (Int32)).bind (fun j69 => ((if (8 : Int32) < e63 then some j69 else (z_it (f9_cut_L73 xm5 e64) z_fu (j69, (0 : Int32))).bind (fun e82 => some e82)) : Option (Int32)).bind (fun j84 => (f9_token j84 x4 (0 : Int32) e64 xm5).bind (fun qm85 => some ((x4 + e63), qm85)))))))))) : Option (Int32 × zMem)).bind (z_u2 fun j87 jm88 => some (.inl (j87, jm88))) else (f9_token (0 : Int32) (xm5.1 9 0 4) (0 : Int32) (0 : Int64) xm5).bind (fun qm89 => some (.inr (.inr qm89)))))))
def f9_cut  (μ : zMem) : Option (zMem) :=
  z_let (z_sI μ 9 0 10 (0 : Int32)) fun m1 => (z_it (f9_cut_L3) z_fu ((0 : Int32), m1)).bind (Sum.elim (fun e91 => some e91) (fun qr93 => some qr93))
theorem s9_cut_L25 {P : zP} {ro : Option zV} {μo : zMem} (x4 : Int32) (xm5 : zMem) (x26 : Int32) (x27 : Int32) (K : (Int32 × Int32) ⊕ (Int32 × Int32)) (h : f9_cut_L25 x4 xm5 (x26, x27) = some K) (hI : ∀ (y0 : Int32) (y1 : Int32), K = .inl (y0, y1) → z_RQ P M_9_cut (z_rm 3) (z_mq P ro μo) 0 0 208 [some (zA 9 0), some (zI x4), none, some (zI y0), some (zI y1), none, none, none] [] xm5) (hE : ∀ (z0 : Int32) (z1 : Int32), K = .inr (z0, z1) → z_RQ P M_9_cut (z_rm 3) (z_mq P ro μo) 0 0 250 [some (zA 9 0), some (zI x4), none, some (zI z0), some (zI z1), none, none, none] [] xm5)  : z_RQ P M_9_cut (z_rm 3) (z_mq P ro μo) 0 0 208 [some (zA 9 0), some (zI x4), none, some (zI x26), some (zI x27), none, none, none] [] xm5 := by
  unfold f9_cut_L25 at h
  replace h := z_h2 h
  refine zr_aload_n (i := 0) d_9_cut_208 rfl rfl ?_
  refine zr_iload_n (i := 1) d_9_cut_209 rfl rfl ?_
  refine zr_iload_n (i := 3) d_9_cut_210 rfl rfl ?_
  refine zr_iadd d_9_cut_211 ?_
  obtain ⟨q28, hq29, h⟩ := z_bd h
  refine zr_callVi (av := [zI (x4 + x26)]) (st := []) d_9_cut_212 mw_9_byteAt ml_9_184 im_9_byteAt se_9_byteAt rfl rfl (Nat.le_of_ble_eq_true rfl) fit_1_2_3 rfl rfl rfl (s9_byteAt hq29) ?_
  refine zr_callSi (av := [zI q28]) (st := []) d_9_cut_215 mw_9_isDigit ml_9_196 is_9_isDigit rfl rfl (Nat.le_of_ble_eq_true rfl) fit_1_1_3 (s9_isDigit rfl) ?_
  refine zr_if_eq (tgt := 250) d_9_cut_218 rfl (fun hc31 => ?_) (fun hc31 => ?_)
  · replace h := z_ip h hc31
    obtain rfl := Option.some.inj h
    exact zr_wk2 (hE x26 x27 rfl) ⟨rfl, ⟨rfl, ⟨rfl, ⟨rfl, trivial⟩⟩⟩⟩
  · replace h := z_im h hc31
    refine zr_iload_n (i := 3) d_9_cut_221 rfl rfl ?_
    refine zr_iconst (v := (4 : Int32)) d_9_cut_222 rfl ?_
    obtain ⟨j39, hT32, h⟩ := z_bd h
    have hJ33 : z_RQ P M_9_cut (z_rm 3) (z_mq P ro μo) 0 0 244 [some (zA 9 0), some (zI x4), none, some (zI x26), some (zI j39), none, none, none] [] xm5 := by
      refine zr_iinc (v := (x26 + (1 : Int32))) (l' := [some (zA 9 0), some (zI x4), none, some (zI (x26 + (1 : Int32))), some (zI j39), none, none, none]) d_9_cut_244 (by decide) rfl rfl rfl ?_
      refine zr_goto (tgt := 208) d_9_cut_247 rfl ?_
      obtain rfl := Option.some.inj h
      exact zr_wk2 (hI (x26 + (1 : Int32)) j39 rfl) ⟨rfl, ⟨rfl, ⟨rfl, ⟨rfl, trivial⟩⟩⟩⟩
    refine zr_icmp_ge (tgt := 244) d_9_cut_223 rfl (fun hc34 => ?_) (fun hc34 => ?_)
    · replace hT32 := z_ip hT32 hc34
      refine zr_bipush (v := (10 : Int32)) d_9_cut_226 rfl ?_
      refine zr_iload d_9_cut_228 rfl ?_
      refine zr_imul d_9_cut_230 ?_
      refine zr_aload_n (i := 0) d_9_cut_231 rfl rfl ?_
      refine zr_iload_n (i := 1) d_9_cut_232 rfl rfl ?_
      refine zr_iload_n (i := 3) d_9_cut_233 rfl rfl ?_
      refine zr_iadd d_9_cut_234 ?_
      obtain ⟨q35, hq36, hT32⟩ := z_bd hT32
      refine zr_callVi (av := [zI (x4 + x26)]) (st := [zI ((10 : Int32) * x27)]) d_9_cut_235 mw_9_byteAt ml_9_184 im_9_byteAt se_9_byteAt rfl rfl (Nat.le_of_ble_eq_true rfl) fit_1_2_3 rfl rfl rfl (s9_byteAt hq36) ?_
      refine zr_iadd d_9_cut_238 ?_
      refine zr_bipush (v := (48 : Int32)) d_9_cut_239 rfl ?_
      refine zr_isub d_9_cut_241 ?_
      obtain ⟨v37, hv38, hT32⟩ := z_lt hT32
      refine zr_nm hv38 ?_
      refine zr_istore (i := 4) (l' := [some (zA 9 0), some (zI x4), none, some (zI x26), some (zI v37), none, none, none]) d_9_cut_242 (by decide) rfl ?_
      obtain rfl := Option.some.inj hT32
      exact zr_wk2 hJ33 ⟨rfl, ⟨rfl, ⟨rfl, ⟨rfl, trivial⟩⟩⟩⟩
    · replace hT32 := z_im hT32 hc34
      obtain rfl := Option.some.inj hT32
      exact zr_wk2 hJ33 ⟨rfl, ⟨rfl, ⟨rfl, ⟨rfl, trivial⟩⟩⟩⟩
theorem s9_cut_L49 {P : zP} {ro : Option zV} {μo : zMem} (x4 : Int32) (xm5 : zMem) (x50 : Int32) (x51 : Int64) (K : (Int32 × Int64) ⊕ (Int32 × Int64)) (h : f9_cut_L49 x4 xm5 (x50, x51) = some K) (hI : ∀ (y0 : Int32) (y1 : Int64), K = .inl (y0, y1) → z_RQ P M_9_cut (z_rm 3) (z_mq P ro μo) 0 0 85 [some (zA 9 0), some (zI x4), none, some (zI y0), some (zL y1), none, none, none] [] xm5) (hE : ∀ (z0 : Int32) (z1 : Int64), K = .inr (z0, z1) → z_RQ P M_9_cut (z_rm 3) (z_mq P ro μo) 0 0 124 [some (zA 9 0), some (zI x4), none, some (zI z0), some (zL z1), none, none, none] [] xm5)  : z_RQ P M_9_cut (z_rm 3) (z_mq P ro μo) 0 0 85 [some (zA 9 0), some (zI x4), none, some (zI x50), some (zL x51), none, none, none] [] xm5 := by
  unfold f9_cut_L49 at h
  replace h := z_h2 h
  refine zr_aload_n (i := 0) d_9_cut_85 rfl rfl ?_
  refine zr_iload_n (i := 1) d_9_cut_86 rfl rfl ?_
  refine zr_iload_n (i := 3) d_9_cut_87 rfl rfl ?_
  refine zr_iadd d_9_cut_88 ?_
  obtain ⟨q52, hq53, h⟩ := z_bd h
  refine zr_callVi (av := [zI (x4 + x50)]) (st := []) d_9_cut_89 mw_9_byteAt ml_9_184 im_9_byteAt se_9_byteAt rfl rfl (Nat.le_of_ble_eq_true rfl) fit_1_2_3 rfl rfl rfl (s9_byteAt hq53) ?_
  refine zr_callSi (av := [zI q52]) (st := []) d_9_cut_92 mw_9_isLetter ml_9_192 is_9_isLetter rfl rfl (Nat.le_of_ble_eq_true rfl) fit_1_1_3 (s9_isLetter rfl) ?_
  refine zr_if_eq (tgt := 124) d_9_cut_95 rfl (fun hc55 => ?_) (fun hc55 => ?_)
  · replace h := z_ip h hc55
    obtain rfl := Option.some.inj h
    exact zr_wk2 (hE x50 x51 rfl) ⟨rfl, ⟨rfl, ⟨rfl, ⟨rfl, trivial⟩⟩⟩⟩
  · replace h := z_im h hc55
    refine zr_iload_n (i := 3) d_9_cut_98 rfl rfl ?_
    refine zr_bipush (v := (8 : Int32)) d_9_cut_99 rfl ?_
    obtain ⟨j62, hT56, h⟩ := z_bd h
    have hJ57 : z_RQ P M_9_cut (z_rm 3) (z_mq P ro μo) 0 0 118 [some (zA 9 0), some (zI x4), none, some (zI x50), some (zL j62), none, none, none] [] xm5 := by
      refine zr_iinc (v := (x50 + (1 : Int32))) (l' := [some (zA 9 0), some (zI x4), none, some (zI (x50 + (1 : Int32))), some (zL j62), none, none, none]) d_9_cut_118 (by decide) rfl rfl rfl ?_
      refine zr_goto (tgt := 85) d_9_cut_121 rfl ?_
      obtain rfl := Option.some.inj h
      exact zr_wk2 (hI (x50 + (1 : Int32)) j62 rfl) ⟨rfl, ⟨rfl, ⟨rfl, ⟨rfl, trivial⟩⟩⟩⟩
    refine zr_icmp_ge (tgt := 118) d_9_cut_101 rfl (fun hc58 => ?_) (fun hc58 => ?_)
    · replace hT56 := z_ip hT56 hc58
      refine zr_lload d_9_cut_104 rfl ?_
      refine zr_aload_n (i := 0) d_9_cut_106 rfl rfl ?_
      refine zr_iload_n (i := 1) d_9_cut_107 rfl rfl ?_
      refine zr_iload_n (i := 3) d_9_cut_108 rfl rfl ?_
      refine zr_iadd d_9_cut_109 ?_
      obtain ⟨q59, hq60, hT56⟩ := z_bd hT56
      refine zr_callVi (av := [zI (x4 + x50)]) (st := [zL x51]) d_9_cut_110 mw_9_byteAt ml_9_184 im_9_byteAt se_9_byteAt rfl rfl (Nat.le_of_ble_eq_true rfl) fit_1_2_3 rfl rfl rfl (s9_byteAt hq60) ?_
      refine zr_callSl (av := [zL x51, zI q59]) (st := []) d_9_cut_113 mw_9_appends ml_9_177 is_9_appends rfl rfl (Nat.le_of_ble_eq_true rfl) fit_1_3_3 (s9_appends rfl) ?_
      refine zr_lstore (i := 4) (l' := [some (zA 9 0), some (zI x4), none, some (zI x50), some (zL (f9_appends x51 q59)), none, none, none]) d_9_cut_116 (by decide) rfl ?_
      obtain rfl := Option.some.inj hT56
      exact zr_wk2 hJ57 ⟨rfl, ⟨rfl, ⟨rfl, ⟨rfl, trivial⟩⟩⟩⟩
    · replace hT56 := z_im hT56 hc58
      obtain rfl := Option.some.inj hT56
      exact zr_wk2 hJ57 ⟨rfl, ⟨rfl, ⟨rfl, ⟨rfl, trivial⟩⟩⟩⟩
theorem s9_cut_L73 {P : zP} {ro : Option zV} {μo : zMem} (x4 : Int32) (xm5 : zMem) (e63 : Int32) (e64 : Int64) (x74 : Int32) (x75 : Int32) (K : (Int32 × Int32) ⊕ (Int32)) (h : f9_cut_L73 xm5 e64 (x74, x75) = some K) (hI : ∀ (y0 : Int32) (y1 : Int32), K = .inl (y0, y1) → z_RQ P M_9_cut (z_rm 3) (z_mq P ro μo) 0 0 146 [some (zA 9 0), some (zI x4), none, some (zI e63), some (zL e64), none, some (zI y0), some (zI y1)] [] xm5) (hE : ∀ (z0 : Int32), K = .inr z0 → z_RQ P M_9_cut (z_rm 3) (z_mq P ro μo) 0 0 179 [some (zA 9 0), some (zI x4), none, some (zI e63), some (zL e64), none, some (zI z0), none] [] xm5)  : z_RQ P M_9_cut (z_rm 3) (z_mq P ro μo) 0 0 146 [some (zA 9 0), some (zI x4), none, some (zI e63), some (zL e64), none, some (zI x74), some (zI x75)] [] xm5 := by
  unfold f9_cut_L73 at h
  replace h := z_h2 h
  refine zr_iload d_9_cut_146 rfl ?_
  refine zr_bipush (v := (21 : Int32)) d_9_cut_148 rfl ?_
  refine zr_icmp_ge (tgt := 179) d_9_cut_150 rfl (fun hc76 => ?_) (fun hc76 => ?_)
  · replace h := z_ip h hc76
    refine zr_aload_n (i := 0) d_9_cut_153 rfl rfl ?_
    refine zr_gets (i' := 0) d_9_cut_154 fw_9_34 rfl ?_
    refine zr_iload d_9_cut_157 rfl ?_
    obtain ⟨hb77, h⟩ := z_gd h
    refine zr_lald d_9_cut_159 sa_109 rfl hb77 ?_
    refine zr_lload d_9_cut_160 rfl ?_
    refine zr_lcmp d_9_cut_162 ?_
    obtain ⟨j81, hT78, h⟩ := z_bd h
    have hJ79 : z_RQ P M_9_cut (z_rm 3) (z_mq P ro μo) 0 0 173 [some (zA 9 0), some (zI x4), none, some (zI e63), some (zL e64), none, some (zI j81), some (zI x75)] [] xm5 := by
      refine zr_iinc (v := (x75 + (1 : Int32))) (l' := [some (zA 9 0), some (zI x4), none, some (zI e63), some (zL e64), none, some (zI j81), some (zI (x75 + (1 : Int32)))]) d_9_cut_173 (by decide) rfl rfl rfl ?_
      refine zr_goto (tgt := 146) d_9_cut_176 rfl ?_
      obtain rfl := Option.some.inj h
      exact zr_wk2 (hI j81 (x75 + (1 : Int32)) rfl) ⟨rfl, ⟨rfl, ⟨rfl, ⟨rfl, ⟨rfl, ⟨rfl, trivial⟩⟩⟩⟩⟩⟩
    refine zr_if_ne (tgt := 173) d_9_cut_163 rfl (fun hc80 => ?_) (fun hc80 => ?_)
    · replace hT78 := z_ip hT78 hc80
      refine zr_bipush (v := (20 : Int32)) d_9_cut_166 rfl ?_
      refine zr_iload d_9_cut_168 rfl ?_
      refine zr_iadd d_9_cut_170 ?_
      refine zr_istore (i := 6) (l' := [some (zA 9 0), some (zI x4), none, some (zI e63), some (zL e64), none, some (zI ((20 : Int32) + x75)), some (zI x75)]) d_9_cut_171 (by decide) rfl ?_
      obtain rfl := Option.some.inj hT78
      exact zr_wk2 hJ79 ⟨rfl, ⟨rfl, ⟨rfl, ⟨rfl, ⟨rfl, ⟨rfl, trivial⟩⟩⟩⟩⟩⟩
    · replace hT78 := z_im hT78 hc80
      obtain rfl := Option.some.inj hT78
      exact zr_wk2 hJ79 ⟨rfl, ⟨rfl, ⟨rfl, ⟨rfl, ⟨rfl, ⟨rfl, trivial⟩⟩⟩⟩⟩⟩
  · replace h := z_im h hc76
    obtain rfl := Option.some.inj h
    exact zr_wk2 (hE x74 rfl) ⟨rfl, ⟨rfl, ⟨rfl, ⟨rfl, ⟨rfl, trivial⟩⟩⟩⟩⟩
theorem s9_cut_L3 {P : zP} {ro : Option zV} {μo : zMem}  (x4 : Int32) (xm5 : zMem) (K : (Int32 × zMem) ⊕ ((zMem) ⊕ (zMem))) (h : f9_cut_L3  (x4, xm5) = some K) (hI : ∀ (y0 : Int32) (y1 : zMem), K = .inl (y0, y1) → z_RQ P M_9_cut (z_rm 3) (z_mq P ro μo) 0 0 7 [some (zA 9 0), some (zI y0), none, none, none, none, none, none] [] y1) (hE : ∀ (z0 : zMem), K = .inr (.inl z0) → z_RQ P M_9_cut (z_rm 3) (z_mq P ro μo) 0 0 294 [none, none, none, none, none, none, none, none] [] z0) (hR : ∀ (qm : zMem), K = .inr (.inr qm) → ro = none ∧ μo = qm) : z_RQ P M_9_cut (z_rm 3) (z_mq P ro μo) 0 0 7 [some (zA 9 0), some (zI x4), none, none, none, none, none, none] [] xm5 := by
  unfold f9_cut_L3 at h
  replace h := z_h2 h
  refine zr_aload_n (i := 0) d_9_cut_7 rfl rfl ?_
  refine zr_geti d_9_cut_8 fw_9_181 (by decide) ?_
  refine zr_sipush (v := (400 : Int32)) d_9_cut_11 rfl ?_
  refine zr_icmp_gt (tgt := 294) d_9_cut_14 rfl (fun hc6 => ?_) (fun hc6 => ?_)
  · replace h := z_ip h hc6
    obtain rfl := Option.some.inj h
    exact zr_wk2 (hE xm5 rfl) trivial
  · replace h := z_im h hc6
    refine zr_aload_n (i := 0) d_9_cut_17 rfl rfl ?_
    refine zr_iload_n (i := 1) d_9_cut_18 rfl rfl ?_
    obtain ⟨q7, hq8, h⟩ := z_bd h
    refine zr_callVi (av := [zI x4]) (st := []) d_9_cut_19 mw_9_byteAt ml_9_184 im_9_byteAt se_9_byteAt rfl rfl (Nat.le_of_ble_eq_true rfl) fit_1_2_3 rfl rfl rfl (s9_byteAt hq8) ?_
    refine zr_istore_n (i := 2) (l' := [some (zA 9 0), some (zI x4), some (zI q7), none, none, none, none, none]) d_9_cut_22 rfl (by decide) rfl ?_
    refine zr_iload_n (i := 1) d_9_cut_23 rfl rfl ?_
    refine zr_aload_n (i := 0) d_9_cut_24 rfl rfl ?_
    refine zr_geti d_9_cut_25 fw_9_172 (by decide) ?_
    refine zr_icmp_lt (tgt := 43) d_9_cut_28 rfl (fun hc9 => ?_) (fun hc9 => ?_)
    · replace h := z_ip h hc9
      refine zr_iload_n (i := 2) d_9_cut_43 rfl rfl ?_
      refine zr_bipush (v := (9 : Int32)) d_9_cut_44 rfl ?_
      obtain ⟨⟨j87, jm88⟩, hT10, h⟩ := z_bd h
      replace h := z_h2 h
      have hJ11 : z_RQ P M_9_cut (z_rm 3) (z_mq P ro μo) 0 0 291 [some (zA 9 0), some (zI j87), none, none, none, none, none, none] [] jm88 := by
        refine zr_goto (tgt := 7) d_9_cut_291 rfl ?_
        obtain rfl := Option.some.inj h
        exact zr_wk2 (hI j87 jm88 rfl) ⟨rfl, ⟨rfl, trivial⟩⟩
      refine zr_icmp_eq (tgt := 67) d_9_cut_46 rfl (fun hc12 => ?_) (fun hc12 => ?_)
      · replace hT10 := z_ip hT10 hc12
        refine zr_iinc (v := (x4 + (1 : Int32))) (l' := [some (zA 9 0), some (zI (x4 + (1 : Int32))), some (zI q7), none, none, none, none, none]) d_9_cut_67 (by decide) rfl rfl rfl ?_
        refine zr_goto (tgt := 291) d_9_cut_70 rfl ?_
        obtain ⟨rfl, rfl⟩ := z_i2 (Option.some.inj hT10)
        exact zr_wk2 hJ11 ⟨rfl, ⟨rfl, trivial⟩⟩
      · replace hT10 := z_im hT10 hc12
        refine zr_iload_n (i := 2) d_9_cut_49 rfl rfl ?_
        refine zr_bipush (v := (10 : Int32)) d_9_cut_50 rfl ?_
        refine zr_icmp_eq (tgt := 67) d_9_cut_52 rfl (fun hc13 => ?_) (fun hc13 => ?_)
        · replace hT10 := z_ip hT10 hc13
          refine zr_iinc (v := (x4 + (1 : Int32))) (l' := [some (zA 9 0), some (zI (x4 + (1 : Int32))), some (zI q7), none, none, none, none, none]) d_9_cut_67 (by decide) rfl rfl rfl ?_
          refine zr_goto (tgt := 291) d_9_cut_70 rfl ?_
          obtain ⟨rfl, rfl⟩ := z_i2 (Option.some.inj hT10)
          exact zr_wk2 hJ11 ⟨rfl, ⟨rfl, trivial⟩⟩
        · replace hT10 := z_im hT10 hc13
          refine zr_iload_n (i := 2) d_9_cut_55 rfl rfl ?_
          refine zr_bipush (v := (13 : Int32)) d_9_cut_56 rfl ?_
          refine zr_icmp_eq (tgt := 67) d_9_cut_58 rfl (fun hc14 => ?_) (fun hc14 => ?_)
          · replace hT10 := z_ip hT10 hc14
            refine zr_iinc (v := (x4 + (1 : Int32))) (l' := [some (zA 9 0), some (zI (x4 + (1 : Int32))), some (zI q7), none, none, none, none, none]) d_9_cut_67 (by decide) rfl rfl rfl ?_
            refine zr_goto (tgt := 291) d_9_cut_70 rfl ?_
            obtain ⟨rfl, rfl⟩ := z_i2 (Option.some.inj hT10)
            exact zr_wk2 hJ11 ⟨rfl, ⟨rfl, trivial⟩⟩
          · replace hT10 := z_im hT10 hc14
            refine zr_iload_n (i := 2) d_9_cut_61 rfl rfl ?_
            refine zr_bipush (v := (32 : Int32)) d_9_cut_62 rfl ?_
            refine zr_icmp_ne (tgt := 73) d_9_cut_64 rfl (fun hc15 => ?_) (fun hc15 => ?_)
            · replace hT10 := z_ip hT10 hc15
              refine zr_iinc (v := (x4 + (1 : Int32))) (l' := [some (zA 9 0), some (zI (x4 + (1 : Int32))), some (zI q7), none, none, none, none, none]) d_9_cut_67 (by decide) rfl rfl rfl ?_
              refine zr_goto (tgt := 291) d_9_cut_70 rfl ?_
              obtain ⟨rfl, rfl⟩ := z_i2 (Option.some.inj hT10)
              exact zr_wk2 hJ11 ⟨rfl, ⟨rfl, trivial⟩⟩
            · replace hT10 := z_im hT10 hc15
              refine zr_iload_n (i := 2) d_9_cut_73 rfl rfl ?_
              refine zr_callSi (av := [zI q7]) (st := []) d_9_cut_74 mw_9_isLetter ml_9_192 is_9_isLetter rfl rfl (Nat.le_of_ble_eq_true rfl) fit_1_1_3 (s9_isLetter rfl) ?_
              refine zr_if_eq (tgt := 196) d_9_cut_77 rfl (fun hc17 => ?_) (fun hc17 => ?_)
              · replace hT10 := z_ip hT10 hc17
                refine zr_iload_n (i := 2) d_9_cut_196 rfl rfl ?_
                refine zr_callSi (av := [zI q7]) (st := []) d_9_cut_197 mw_9_isDigit ml_9_196 is_9_isDigit rfl rfl (Nat.le_of_ble_eq_true rfl) fit_1_1_3 (s9_isDigit rfl) ?_
                refine zr_if_eq (tgt := 275) d_9_cut_200 rfl (fun hc19 => ?_) (fun hc19 => ?_)
                · replace hT10 := z_ip hT10 hc19
                  refine zr_iload_n (i := 1) d_9_cut_275 rfl rfl ?_
                  refine zr_aload_n (i := 0) d_9_cut_276 rfl rfl ?_
                  refine zr_iload_n (i := 1) d_9_cut_277 rfl rfl ?_
                  refine zr_iload_n (i := 2) d_9_cut_278 rfl rfl ?_
                  refine zr_aload_n (i := 0) d_9_cut_279 rfl rfl ?_
                  refine zr_iload_n (i := 1) d_9_cut_280 rfl rfl ?_
                  refine zr_iconst (v := (1 : Int32)) d_9_cut_281 rfl ?_
                  refine zr_iadd d_9_cut_282 ?_
                  obtain ⟨q20, hq21, hT10⟩ := z_bd hT10
                  refine zr_callVi (av := [zI (x4 + (1 : Int32))]) (st := [zI q7, zI x4, zA 9 0, zI x4]) d_9_cut_283 mw_9_byteAt ml_9_184 im_9_byteAt se_9_byteAt rfl rfl (Nat.le_of_ble_eq_true rfl) fit_1_2_3 rfl rfl rfl (s9_byteAt hq21) ?_
                  obtain ⟨⟨q22, qm23⟩, hq24, hT10⟩ := z_bd hT10
                  replace hT10 := z_h2 hT10
                  refine zr_callVi (av := [zI x4, zI q7, zI q20]) (st := [zI x4]) d_9_cut_286 mw_9_sign ml_9_199 im_9_sign se_9_sign rfl rfl (Nat.le_of_ble_eq_true rfl) fit_2_5_3 rfl rfl rfl (s9_sign hq24) ?_
                  refine zr_iadd d_9_cut_289 ?_
                  refine zr_istore_n (i := 1) (l' := [some (zA 9 0), some (zI (x4 + q22)), some (zI q7), none, none, none, none, none]) d_9_cut_290 rfl (by decide) rfl ?_
                  obtain ⟨rfl, rfl⟩ := z_i2 (Option.some.inj hT10)
                  exact zr_wk2 hJ11 ⟨rfl, ⟨rfl, trivial⟩⟩
                · replace hT10 := z_im hT10 hc19
                  refine zr_iconst (v := (0 : Int32)) d_9_cut_203 rfl ?_
                  refine zr_istore_n (i := 3) (l' := [some (zA 9 0), some (zI x4), some (zI q7), some (zI (0 : Int32)), none, none, none, none]) d_9_cut_204 rfl (by decide) rfl ?_
                  refine zr_iconst (v := (0 : Int32)) d_9_cut_205 rfl ?_
                  refine zr_istore (i := 4) (l' := [some (zA 9 0), some (zI x4), some (zI q7), some (zI (0 : Int32)), some (zI (0 : Int32)), none, none, none]) d_9_cut_206 (by decide) rfl ?_
                  obtain ⟨⟨e40, e41⟩, hl42, hT10⟩ := z_bd hT10
                  replace hT10 := z_h2 hT10
                  refine zr_wk (l' := [some (zA 9 0), some (zI x4), none, some (zI (0 : Int32)), some (zI (0 : Int32)), none, none, none]) ⟨rfl, ⟨rfl, ⟨rfl, ⟨rfl, trivial⟩⟩⟩⟩ ?_
                  refine z_loop (Hd := (z_u2 fun y0 y1 => z_RQ P M_9_cut (z_rm 3) (z_mq P ro μo) 0 0 208 [some (zA 9 0), some (zI x4), none, some (zI y0), some (zI y1), none, none, none] [] xm5)) (Ex := (z_u2 fun z0 z1 => z_RQ P M_9_cut (z_rm 3) (z_mq P ro μo) 0 0 250 [some (zA 9 0), some (zI x4), none, some (zI z0), some (zI z1), none, none, none] [] xm5)) (fun ⟨x26, x27⟩ K h hI hE => s9_cut_L25 x4 xm5 x26 x27 K h (fun y0 y1 e => hI (y0, y1) e) (fun z0 z1 e => hE (z0, z1) e) ) _ _ _ hl42 ?_
                  refine zr_aload_n (i := 0) d_9_cut_250 rfl rfl ?_
                  refine zr_iload_n (i := 3) d_9_cut_251 rfl rfl ?_
                  refine zr_iconst (v := (4 : Int32)) d_9_cut_252 rfl ?_
                  obtain ⟨j46, hT43, hT10⟩ := z_bd hT10
                  have hJ44 : z_RQ P M_9_cut (z_rm 3) (z_mq P ro μo) 0 0 261 [some (zA 9 0), some (zI x4), none, some (zI e40), some (zI e41), none, none, none] [zI j46, zA 9 0] xm5 := by
                    refine zr_iload_n (i := 1) d_9_cut_261 rfl rfl ?_
                    refine zr_iload d_9_cut_262 rfl ?_
                    refine zr_lconst (v := (0 : Int64)) d_9_cut_264 rfl ?_
                    obtain ⟨qm47, hq48, hT10⟩ := z_bd hT10
                    refine zr_callVv (av := [zI j46, zI x4, zI e41, zL (0 : Int64)]) (st := []) d_9_cut_265 mw_9_token ml_9_188 im_9_token se_9_token rfl rfl (Nat.le_of_ble_eq_true rfl) fit_1_6_3 rfl rfl rfl (s9_token hq48) ?_
                    refine zr_iload_n (i := 1) d_9_cut_268 rfl rfl ?_
                    refine zr_iload_n (i := 3) d_9_cut_269 rfl rfl ?_
                    refine zr_iadd d_9_cut_270 ?_
                    refine zr_istore_n (i := 1) (l' := [some (zA 9 0), some (zI (x4 + e40)), none, some (zI e40), some (zI e41), none, none, none]) d_9_cut_271 rfl (by decide) rfl ?_
                    refine zr_goto (tgt := 291) d_9_cut_272 rfl ?_
                    obtain ⟨rfl, rfl⟩ := z_i2 (Option.some.inj hT10)
                    exact zr_wk2 hJ11 ⟨rfl, ⟨rfl, trivial⟩⟩
                  refine zr_icmp_le (tgt := 260) d_9_cut_253 rfl (fun hc45 => ?_) (fun hc45 => ?_)
                  · replace hT43 := z_ip hT43 hc45
                    refine zr_iconst (v := (3 : Int32)) d_9_cut_256 rfl ?_
                    refine zr_goto (tgt := 261) d_9_cut_257 rfl ?_
                    obtain rfl := Option.some.inj hT43
                    exact zr_wk2 hJ44 ⟨rfl, ⟨rfl, ⟨rfl, ⟨rfl, trivial⟩⟩⟩⟩
                  · replace hT43 := z_im hT43 hc45
                    refine zr_iconst (v := (2 : Int32)) d_9_cut_260 rfl ?_
                    obtain rfl := Option.some.inj hT43
                    exact zr_wk2 hJ44 ⟨rfl, ⟨rfl, ⟨rfl, ⟨rfl, trivial⟩⟩⟩⟩
              · replace hT10 := z_im hT10 hc17
                refine zr_iconst (v := (0 : Int32)) d_9_cut_80 rfl ?_
                refine zr_istore_n (i := 3) (l' := [some (zA 9 0), some (zI x4), some (zI q7), some (zI (0 : Int32)), none, none, none, none]) d_9_cut_81 rfl (by decide) rfl ?_
                refine zr_lconst (v := (0 : Int64)) d_9_cut_82 rfl ?_
                refine zr_lstore (i := 4) (l' := [some (zA 9 0), some (zI x4), some (zI q7), some (zI (0 : Int32)), some (zL (0 : Int64)), none, none, none]) d_9_cut_83 (by decide) rfl ?_
                obtain ⟨⟨e63, e64⟩, hl65, hT10⟩ := z_bd hT10
                replace hT10 := z_h2 hT10
                refine zr_wk (l' := [some (zA 9 0), some (zI x4), none, some (zI (0 : Int32)), some (zL (0 : Int64)), none, none, none]) ⟨rfl, ⟨rfl, ⟨rfl, ⟨rfl, trivial⟩⟩⟩⟩ ?_
                refine z_loop (Hd := (z_u2 fun y0 y1 => z_RQ P M_9_cut (z_rm 3) (z_mq P ro μo) 0 0 85 [some (zA 9 0), some (zI x4), none, some (zI y0), some (zL y1), none, none, none] [] xm5)) (Ex := (z_u2 fun z0 z1 => z_RQ P M_9_cut (z_rm 3) (z_mq P ro μo) 0 0 124 [some (zA 9 0), some (zI x4), none, some (zI z0), some (zL z1), none, none, none] [] xm5)) (fun ⟨x50, x51⟩ K h hI hE => s9_cut_L49 x4 xm5 x50 x51 K h (fun y0 y1 e => hI (y0, y1) e) (fun z0 z1 e => hE (z0, z1) e) ) _ _ _ hl65 ?_
                refine zr_iload_n (i := 3) d_9_cut_124 rfl rfl ?_
                refine zr_bipush (v := (8 : Int32)) d_9_cut_125 rfl ?_
                obtain ⟨j69, hT66, hT10⟩ := z_bd hT10
                have hJ67 : z_RQ P M_9_cut (z_rm 3) (z_mq P ro μo) 0 0 135 [some (zA 9 0), some (zI x4), none, some (zI e63), some (zL e64), none, none, none] [zI j69] xm5 := by
                  refine zr_istore (i := 6) (l' := [some (zA 9 0), some (zI x4), none, some (zI e63), some (zL e64), none, some (zI j69), none]) d_9_cut_135 (by decide) rfl ?_
                  refine zr_iload_n (i := 3) d_9_cut_137 rfl rfl ?_
                  refine zr_bipush (v := (8 : Int32)) d_9_cut_138 rfl ?_
                  obtain ⟨j84, hT70, hT10⟩ := z_bd hT10
                  have hJ71 : z_RQ P M_9_cut (z_rm 3) (z_mq P ro μo) 0 0 179 [some (zA 9 0), some (zI x4), none, some (zI e63), some (zL e64), none, some (zI j84), none] [] xm5 := by
                    refine zr_aload_n (i := 0) d_9_cut_179 rfl rfl ?_
                    refine zr_iload d_9_cut_180 rfl ?_
                    refine zr_iload_n (i := 1) d_9_cut_182 rfl rfl ?_
                    refine zr_iconst (v := (0 : Int32)) d_9_cut_183 rfl ?_
                    refine zr_lload d_9_cut_184 rfl ?_
                    obtain ⟨qm85, hq86, hT10⟩ := z_bd hT10
                    refine zr_callVv (av := [zI j84, zI x4, zI (0 : Int32), zL e64]) (st := []) d_9_cut_186 mw_9_token ml_9_188 im_9_token se_9_token rfl rfl (Nat.le_of_ble_eq_true rfl) fit_1_6_3 rfl rfl rfl (s9_token hq86) ?_
                    refine zr_iload_n (i := 1) d_9_cut_189 rfl rfl ?_
                    refine zr_iload_n (i := 3) d_9_cut_190 rfl rfl ?_
                    refine zr_iadd d_9_cut_191 ?_
                    refine zr_istore_n (i := 1) (l' := [some (zA 9 0), some (zI (x4 + e63)), none, some (zI e63), some (zL e64), none, some (zI j84), none]) d_9_cut_192 rfl (by decide) rfl ?_
                    refine zr_goto (tgt := 291) d_9_cut_193 rfl ?_
                    obtain ⟨rfl, rfl⟩ := z_i2 (Option.some.inj hT10)
                    exact zr_wk2 hJ11 ⟨rfl, ⟨rfl, trivial⟩⟩
                  refine zr_icmp_gt (tgt := 179) d_9_cut_140 rfl (fun hc72 => ?_) (fun hc72 => ?_)
                  · replace hT70 := z_ip hT70 hc72
                    obtain rfl := Option.some.inj hT70
                    exact zr_wk2 hJ71 ⟨rfl, ⟨rfl, ⟨rfl, ⟨rfl, ⟨rfl, trivial⟩⟩⟩⟩⟩
                  · replace hT70 := z_im hT70 hc72
                    refine zr_iconst (v := (0 : Int32)) d_9_cut_143 rfl ?_
                    refine zr_istore (i := 7) (l' := [some (zA 9 0), some (zI x4), none, some (zI e63), some (zL e64), none, some (zI j69), some (zI (0 : Int32))]) d_9_cut_144 (by decide) rfl ?_
                    obtain ⟨e82, hl83, hT70⟩ := z_bd hT70
                    refine zr_wk (l' := [some (zA 9 0), some (zI x4), none, some (zI e63), some (zL e64), none, some (zI j69), some (zI (0 : Int32))]) ⟨rfl, ⟨rfl, ⟨rfl, ⟨rfl, ⟨rfl, ⟨rfl, trivial⟩⟩⟩⟩⟩⟩ ?_
                    refine z_loop (Hd := (z_u2 fun y0 y1 => z_RQ P M_9_cut (z_rm 3) (z_mq P ro μo) 0 0 146 [some (zA 9 0), some (zI x4), none, some (zI e63), some (zL e64), none, some (zI y0), some (zI y1)] [] xm5)) (Ex := (fun z0 => z_RQ P M_9_cut (z_rm 3) (z_mq P ro μo) 0 0 179 [some (zA 9 0), some (zI x4), none, some (zI e63), some (zL e64), none, some (zI z0), none] [] xm5)) (fun ⟨x74, x75⟩ K h hI hE => s9_cut_L73 x4 xm5 e63 e64 x74 x75 K h (fun y0 y1 e => hI (y0, y1) e) (fun z0 e => hE z0 e) ) _ _ _ hl83 ?_
                    obtain rfl := Option.some.inj hT70
                    exact zr_wk2 hJ71 ⟨rfl, ⟨rfl, ⟨rfl, ⟨rfl, ⟨rfl, trivial⟩⟩⟩⟩⟩
                refine zr_icmp_le (tgt := 134) d_9_cut_127 rfl (fun hc68 => ?_) (fun hc68 => ?_)
                · replace hT66 := z_ip hT66 hc68
                  refine zr_iconst (v := (3 : Int32)) d_9_cut_130 rfl ?_
                  refine zr_goto (tgt := 135) d_9_cut_131 rfl ?_
                  obtain rfl := Option.some.inj hT66
                  exact zr_wk2 hJ67 ⟨rfl, ⟨rfl, ⟨rfl, ⟨rfl, trivial⟩⟩⟩⟩
                · replace hT66 := z_im hT66 hc68
                  refine zr_iconst (v := (1 : Int32)) d_9_cut_134 rfl ?_
                  obtain rfl := Option.some.inj hT66
                  exact zr_wk2 hJ67 ⟨rfl, ⟨rfl, ⟨rfl, ⟨rfl, trivial⟩⟩⟩⟩
    · replace h := z_im h hc9
      refine zr_aload_n (i := 0) d_9_cut_31 rfl rfl ?_
      refine zr_iconst (v := (0 : Int32)) d_9_cut_32 rfl ?_
      refine zr_aload_n (i := 0) d_9_cut_33 rfl rfl ?_
      refine zr_geti d_9_cut_34 fw_9_172 (by decide) ?_
      refine zr_iconst (v := (0 : Int32)) d_9_cut_37 rfl ?_
      refine zr_lconst (v := (0 : Int64)) d_9_cut_38 rfl ?_
      obtain ⟨qm89, hq90, h⟩ := z_bd h
      refine zr_callVv (av := [zI (0 : Int32), zI (xm5.1 9 0 4), zI (0 : Int32), zL (0 : Int64)]) (st := []) d_9_cut_39 mw_9_token ml_9_188 im_9_token se_9_token rfl rfl (Nat.le_of_ble_eq_true rfl) fit_1_6_3 rfl rfl rfl (s9_token hq90) ?_
      obtain rfl := Option.some.inj h
      obtain ⟨rfl, rfl⟩ := hR qm89 rfl
      exact ze_v d_9_cut_42 rfl
theorem s9_cut {P : zP} {μ : zMem} {μ' : zMem} (h : f9_cut μ = some μ') : z_Sp P y_9_cut M_9_cut 3 [zA 9 0] μ none μ' := by
  refine z_Sp.of (plainFor_of_name (by decide)) rfl (l0 := [some (zA 9 0), none, none, none, none, none, none, none]) rfl (Nat.le_of_ble_eq_true rfl) ?_
  unfold f9_cut at h
  refine zr_aload_n (i := 0) d_9_cut_0 rfl rfl ?_
  refine zr_iconst (v := (0 : Int32)) d_9_cut_1 rfl ?_
  obtain ⟨m1, hm2, h⟩ := z_lt h
  refine zr_puti d_9_cut_2 fw_9_181 pw_9_10 hm2 ?_
  refine zr_iconst (v := (0 : Int32)) d_9_cut_5 rfl ?_
  refine zr_istore_n (i := 1) (l' := [some (zA 9 0), some (zI (0 : Int32)), none, none, none, none, none, none]) d_9_cut_6 rfl (by decide) rfl ?_
  rcases z_bs h with ⟨e91, hl92, h⟩ | ⟨qr93, hl92, h⟩
  · refine zr_wk (l' := [some (zA 9 0), some (zI (0 : Int32)), none, none, none, none, none, none]) ⟨rfl, ⟨rfl, trivial⟩⟩ ?_
    refine z_loop (Hd := (z_u2 fun y0 y1 => z_RQ P M_9_cut (z_rm 3) (z_mq P none μ') 0 0 7 [some (zA 9 0), some (zI y0), none, none, none, none, none, none] [] y1)) (Ex := (Sum.elim (fun z0 => z_RQ P M_9_cut (z_rm 3) (z_mq P none μ') 0 0 294 [none, none, none, none, none, none, none, none] [] z0) (fun qm => none = none ∧ μ' = qm))) (fun ⟨x4, xm5⟩ K h hI hE => s9_cut_L3  x4 xm5 K h (fun y0 y1 e => hI (y0, y1) e) (fun z0 e => hE (.inl z0) e) (fun qm e => hE (.inr qm) e)) _ _ _ hl92 ?_
    obtain rfl := Option.some.inj h
    exact ze_v d_9_cut_294 rfl
  · refine zr_wk (l' := [some (zA 9 0), some (zI (0 : Int32)), none, none, none, none, none, none]) ⟨rfl, ⟨rfl, trivial⟩⟩ ?_
    refine z_loop (Hd := (z_u2 fun y0 y1 => z_RQ P M_9_cut (z_rm 3) (z_mq P none μ') 0 0 7 [some (zA 9 0), some (zI y0), none, none, none, none, none, none] [] y1)) (Ex := (Sum.elim (fun z0 => z_RQ P M_9_cut (z_rm 3) (z_mq P none μ') 0 0 294 [none, none, none, none, none, none, none, none] [] z0) (fun qm => none = none ∧ μ' = qm))) (fun ⟨x4, xm5⟩ K h hI hE => s9_cut_L3  x4 xm5 K h (fun y0 y1 e => hI (y0, y1) e) (fun z0 e => hE (.inl z0) e) (fun qm e => hE (.inr qm) e)) _ _ _ hl92 ?_
    obtain rfl := Option.some.inj h
    exact ⟨rfl, rfl⟩
def f9_is (a1 : Int32) (μ : zMem) : Option (Int32) :=
  (if (μ.1 9 0 13) = 0 then if z_in (μ.1 9 0 11) 403 = true then (if (μ.1 105 0 (μ.1 9 0 11).toNatClampNeg) = a1 then some (1 : Int32) else some (0 : Int32)) else none else some (0 : Int32))
theorem s9_is {P : zP} {μ : zMem} {a1 : Int32} {r : Int32} (h : f9_is a1 μ = some r) : z_Sp P y_9_is M_9_is 1 [zA 9 0, zI a1] μ (some (zI r)) μ := by
  refine z_Sp.of (plainFor_of_name (by decide)) rfl (l0 := [some (zA 9 0), some (zI a1)]) rfl (Nat.le_of_ble_eq_true rfl) ?_
  unfold f9_is at h
  refine zr_aload_n (i := 0) d_9_is_0 rfl rfl ?_
  refine zr_geti d_9_is_1 fw_9_203 (by decide) ?_
  refine zr_if_ne (tgt := 24) d_9_is_4 rfl (fun hc1 => ?_) (fun hc1 => ?_)
  · replace h := z_ip h hc1
    refine zr_aload_n (i := 0) d_9_is_7 rfl rfl ?_
    refine zr_gets (i' := 0) d_9_is_8 fw_9_20 rfl ?_
    refine zr_aload_n (i := 0) d_9_is_11 rfl rfl ?_
    refine zr_geti d_9_is_12 fw_9_206 (by decide) ?_
    obtain ⟨hb2, h⟩ := z_gd h
    refine zr_iald d_9_is_15 sa_105 rfl hb2 ?_
    refine zr_iload_n (i := 1) d_9_is_16 rfl rfl ?_
    refine zr_icmp_ne (tgt := 24) d_9_is_17 rfl (fun hc3 => ?_) (fun hc3 => ?_)
    · replace h := z_ip h hc3
      refine zr_iconst (v := (1 : Int32)) d_9_is_20 rfl ?_
      refine zr_goto (tgt := 25) d_9_is_21 rfl ?_
      obtain rfl := Option.some.inj h
      exact ze_z d_9_is_25 rfl rfl
    · replace h := z_im h hc3
      refine zr_iconst (v := (0 : Int32)) d_9_is_24 rfl ?_
      obtain rfl := Option.some.inj h
      exact ze_z d_9_is_25 rfl rfl
  · replace h := z_im h hc1
    refine zr_iconst (v := (0 : Int32)) d_9_is_24 rfl ?_
    obtain rfl := Option.some.inj h
    exact ze_z d_9_is_25 rfl rfl
def f9_fail (a1 : Int32) (μ : zMem) : Option (zMem) :=
  (if 0 < (μ.1 9 0 13) then some μ else z_let (z_sI μ 9 0 13 a1) fun m2 => if z_in (m2.1 9 0 11) 403 = true then z_let (z_sI m2 9 0 14 (m2.1 106 0 (m2.1 9 0 11).toNatClampNeg)) fun m5 => some m5 else none)
theorem s9_fail {P : zP} {μ : zMem} {a1 : Int32} {μ' : zMem} (h : f9_fail a1 μ = some μ') : z_Sp P y_9_fail M_9_fail 1 [zA 9 0, zI a1] μ none μ' := by
  refine z_Sp.of (plainFor_of_name (by decide)) rfl (l0 := [some (zA 9 0), some (zI a1)]) rfl (Nat.le_of_ble_eq_true rfl) ?_
  unfold f9_fail at h
  refine zr_aload_n (i := 0) d_9_fail_0 rfl rfl ?_
  refine zr_geti d_9_fail_1 fw_9_203 (by decide) ?_
  refine zr_if_le (tgt := 8) d_9_fail_4 rfl (fun hc1 => ?_) (fun hc1 => ?_)
  · replace h := z_ip h hc1
    obtain rfl := Option.some.inj h
    exact ze_v d_9_fail_7 rfl
  · replace h := z_im h hc1
    refine zr_aload_n (i := 0) d_9_fail_8 rfl rfl ?_
    refine zr_iload_n (i := 1) d_9_fail_9 rfl rfl ?_
    obtain ⟨m2, hm3, h⟩ := z_lt h
    refine zr_puti d_9_fail_10 fw_9_203 pw_9_13 hm3 ?_
    refine zr_aload_n (i := 0) d_9_fail_13 rfl rfl ?_
    refine zr_aload_n (i := 0) d_9_fail_14 rfl rfl ?_
    refine zr_gets (i' := 0) d_9_fail_15 fw_9_24 rfl ?_
    refine zr_aload_n (i := 0) d_9_fail_18 rfl rfl ?_
    refine zr_geti d_9_fail_19 fw_9_206 (by decide) ?_
    obtain ⟨hb4, h⟩ := z_gd h
    refine zr_iald d_9_fail_22 sa_106 rfl hb4 ?_
    obtain ⟨m5, hm6, h⟩ := z_lt h
    refine zr_puti d_9_fail_23 fw_9_209 pw_9_14 hm6 ?_
    obtain rfl := Option.some.inj h
    exact ze_v d_9_fail_26 rfl
def f9_wrong (a1 : Int32) (a2 : Int32) (μ : zMem) : Option (zMem) :=
  if z_in a2 403 = true then z_let (μ.1 106 0 a2.toNatClampNeg) fun v2 => (if 0 < (μ.1 9 0 13) then some μ else (if (μ.1 9 0 15) = 0 then z_let (z_sI μ 9 0 15 a1) fun m6 => z_let (z_sI m6 9 0 16 v2) fun m8 => some m8 else (if (μ.1 9 0 16) < v2 then some μ else (if v2 = (μ.1 9 0 16) then (if a1 < (μ.1 9 0 15) then z_let (z_sI μ 9 0 15 a1) fun m13 => z_let (z_sI m13 9 0 16 v2) fun m15 => some m15 else some μ) else z_let (z_sI μ 9 0 15 a1) fun m17 => z_let (z_sI m17 9 0 16 v2) fun m19 => some m19)))) else none
theorem s9_wrong {P : zP} {μ : zMem} {a1 : Int32} {a2 : Int32} {μ' : zMem} (h : f9_wrong a1 a2 μ = some μ') : z_Sp P y_9_wrong M_9_wrong 1 [zA 9 0, zI a1, zI a2] μ none μ' := by
  refine z_Sp.of (plainFor_of_name (by decide)) rfl (l0 := [some (zA 9 0), some (zI a1), some (zI a2), none]) rfl (Nat.le_of_ble_eq_true rfl) ?_
  unfold f9_wrong at h
  refine zr_aload_n (i := 0) d_9_wrong_0 rfl rfl ?_
  refine zr_gets (i' := 0) d_9_wrong_1 fw_9_24 rfl ?_
  refine zr_iload_n (i := 2) d_9_wrong_4 rfl rfl ?_
  obtain ⟨hb1, h⟩ := z_gd h
  refine zr_iald d_9_wrong_5 sa_106 rfl hb1 ?_
  obtain ⟨v2, hv3, h⟩ := z_lt h
  refine zr_nm hv3 ?_
  refine zr_istore_n (i := 3) (l' := [some (zA 9 0), some (zI a1), some (zI a2), some (zI v2)]) d_9_wrong_6 rfl (by decide) rfl ?_
  refine zr_aload_n (i := 0) d_9_wrong_7 rfl rfl ?_
  refine zr_geti d_9_wrong_8 fw_9_203 (by decide) ?_
  refine zr_if_gt (tgt := 45) d_9_wrong_11 rfl (fun hc4 => ?_) (fun hc4 => ?_)
  · replace h := z_ip h hc4
    obtain rfl := Option.some.inj h
    exact ze_v d_9_wrong_45 rfl
  · replace h := z_im h hc4
    refine zr_aload_n (i := 0) d_9_wrong_14 rfl rfl ?_
    refine zr_geti d_9_wrong_15 fw_9_212 (by decide) ?_
    refine zr_if_eq (tgt := 46) d_9_wrong_18 rfl (fun hc5 => ?_) (fun hc5 => ?_)
    · replace h := z_ip h hc5
      refine zr_aload_n (i := 0) d_9_wrong_46 rfl rfl ?_
      refine zr_iload_n (i := 1) d_9_wrong_47 rfl rfl ?_
      obtain ⟨m6, hm7, h⟩ := z_lt h
      refine zr_puti d_9_wrong_48 fw_9_212 pw_9_15 hm7 ?_
      refine zr_aload_n (i := 0) d_9_wrong_51 rfl rfl ?_
      refine zr_iload_n (i := 3) d_9_wrong_52 rfl rfl ?_
      obtain ⟨m8, hm9, h⟩ := z_lt h
      refine zr_puti d_9_wrong_53 fw_9_215 pw_9_16 hm9 ?_
      obtain rfl := Option.some.inj h
      exact ze_v d_9_wrong_56 rfl
    · replace h := z_im h hc5
      refine zr_iload_n (i := 3) d_9_wrong_21 rfl rfl ?_
      refine zr_aload_n (i := 0) d_9_wrong_22 rfl rfl ?_
      refine zr_geti d_9_wrong_23 fw_9_215 (by decide) ?_
      refine zr_icmp_gt (tgt := 45) d_9_wrong_26 rfl (fun hc10 => ?_) (fun hc10 => ?_)
      · replace h := z_ip h hc10
        obtain rfl := Option.some.inj h
        exact ze_v d_9_wrong_45 rfl
      · replace h := z_im h hc10
        refine zr_iload_n (i := 3) d_9_wrong_29 rfl rfl ?_
        refine zr_aload_n (i := 0) d_9_wrong_30 rfl rfl ?_
        refine zr_geti d_9_wrong_31 fw_9_215 (by decide) ?_
        refine zr_icmp_ne (tgt := 46) d_9_wrong_34 rfl (fun hc11 => ?_) (fun hc11 => ?_)
        · replace h := z_ip h hc11
          refine zr_iload_n (i := 1) d_9_wrong_37 rfl rfl ?_
          refine zr_aload_n (i := 0) d_9_wrong_38 rfl rfl ?_
          refine zr_geti d_9_wrong_39 fw_9_212 (by decide) ?_
          refine zr_icmp_lt (tgt := 46) d_9_wrong_42 rfl (fun hc12 => ?_) (fun hc12 => ?_)
          · replace h := z_ip h hc12
            refine zr_aload_n (i := 0) d_9_wrong_46 rfl rfl ?_
            refine zr_iload_n (i := 1) d_9_wrong_47 rfl rfl ?_
            obtain ⟨m13, hm14, h⟩ := z_lt h
            refine zr_puti d_9_wrong_48 fw_9_212 pw_9_15 hm14 ?_
            refine zr_aload_n (i := 0) d_9_wrong_51 rfl rfl ?_
            refine zr_iload_n (i := 3) d_9_wrong_52 rfl rfl ?_
            obtain ⟨m15, hm16, h⟩ := z_lt h
            refine zr_puti d_9_wrong_53 fw_9_215 pw_9_16 hm16 ?_
            obtain rfl := Option.some.inj h
            exact ze_v d_9_wrong_56 rfl
          · replace h := z_im h hc12
            obtain rfl := Option.some.inj h
            exact ze_v d_9_wrong_45 rfl
        · replace h := z_im h hc11
          refine zr_aload_n (i := 0) d_9_wrong_46 rfl rfl ?_
          refine zr_iload_n (i := 1) d_9_wrong_47 rfl rfl ?_
          obtain ⟨m17, hm18, h⟩ := z_lt h
          refine zr_puti d_9_wrong_48 fw_9_212 pw_9_15 hm18 ?_
          refine zr_aload_n (i := 0) d_9_wrong_51 rfl rfl ?_
          refine zr_iload_n (i := 3) d_9_wrong_52 rfl rfl ?_
          obtain ⟨m19, hm20, h⟩ := z_lt h
          refine zr_puti d_9_wrong_53 fw_9_215 pw_9_16 hm20 ?_
          obtain rfl := Option.some.inj h
          exact ze_v d_9_wrong_56 rfl
def f9_goesOn  (μ : zMem) : Option (zMem) :=
  (if (μ.1 9 0 11) = (400 : Int32) then (f9_fail (2 : Int32) μ).bind (fun qm2 => some qm2) else z_let (z_sI μ 9 0 11 ((μ.1 9 0 11) + (1 : Int32))) fun m4 => some m4)
theorem s9_goesOn {P : zP} {μ : zMem} {μ' : zMem} (h : f9_goesOn μ = some μ') : z_Sp P y_9_goesOn M_9_goesOn 2 [zA 9 0] μ none μ' := by
  refine z_Sp.of (plainFor_of_name (by decide)) rfl (l0 := [some (zA 9 0)]) rfl (Nat.le_of_ble_eq_true rfl) ?_
  unfold f9_goesOn at h
  refine zr_aload_n (i := 0) d_9_goesOn_0 rfl rfl ?_
  refine zr_geti d_9_goesOn_1 fw_9_206 (by decide) ?_
  refine zr_sipush (v := (400 : Int32)) d_9_goesOn_4 rfl ?_
  refine zr_icmp_ne (tgt := 18) d_9_goesOn_7 rfl (fun hc1 => ?_) (fun hc1 => ?_)
  · replace h := z_ip h hc1
    refine zr_aload_n (i := 0) d_9_goesOn_10 rfl rfl ?_
    refine zr_iconst (v := (2 : Int32)) d_9_goesOn_11 rfl ?_
    obtain ⟨qm2, hq3, h⟩ := z_bd h
    refine zr_callVv (av := [zI (2 : Int32)]) (st := []) d_9_goesOn_12 mw_9_fail ml_9_218 im_9_fail se_9_fail rfl rfl (Nat.le_of_ble_eq_true rfl) fit_1_2_2 rfl rfl rfl (s9_fail hq3) ?_
    refine zr_goto (tgt := 28) d_9_goesOn_15 rfl ?_
    obtain rfl := Option.some.inj h
    exact ze_v d_9_goesOn_28 rfl
  · replace h := z_im h hc1
    refine zr_aload_n (i := 0) d_9_goesOn_18 rfl rfl ?_
    refine zr_dupa d_9_goesOn_19 ?_
    refine zr_geti d_9_goesOn_20 fw_9_206 (by decide) ?_
    refine zr_iconst (v := (1 : Int32)) d_9_goesOn_23 rfl ?_
    refine zr_iadd d_9_goesOn_24 ?_
    obtain ⟨m4, hm5, h⟩ := z_lt h
    refine zr_puti d_9_goesOn_25 fw_9_206 pw_9_11 hm5 ?_
    obtain rfl := Option.some.inj h
    exact ze_v d_9_goesOn_28 rfl
def f9_must (a1 : Int32) (μ : zMem) : Option (zMem) :=
  (f9_is a1 μ).bind (fun q1 => (if q1 = 0 then (f9_fail (1 : Int32) μ).bind (fun qm4 => some qm4) else (f9_goesOn μ).bind (fun qm6 => some qm6)))
theorem s9_must {P : zP} {μ : zMem} {a1 : Int32} {μ' : zMem} (h : f9_must a1 μ = some μ') : z_Sp P y_9_must M_9_must 3 [zA 9 0, zI a1] μ none μ' := by
  refine z_Sp.of (plainFor_of_name (by decide)) rfl (l0 := [some (zA 9 0), some (zI a1)]) rfl (Nat.le_of_ble_eq_true rfl) ?_
  unfold f9_must at h
  refine zr_aload_n (i := 0) d_9_must_0 rfl rfl ?_
  refine zr_iload_n (i := 1) d_9_must_1 rfl rfl ?_
  obtain ⟨q1, hq2, h⟩ := z_bd h
  refine zr_callVi (av := [zI a1]) (st := []) d_9_must_2 mw_9_is ml_9_221 im_9_is se_9_is rfl rfl (Nat.le_of_ble_eq_true rfl) fit_1_2_3 rfl rfl rfl (s9_is hq2) ?_
  refine zr_if_eq (tgt := 15) d_9_must_5 rfl (fun hc3 => ?_) (fun hc3 => ?_)
  · replace h := z_ip h hc3
    refine zr_aload_n (i := 0) d_9_must_15 rfl rfl ?_
    refine zr_iconst (v := (1 : Int32)) d_9_must_16 rfl ?_
    obtain ⟨qm4, hq5, h⟩ := z_bd h
    refine zr_callVv (av := [zI (1 : Int32)]) (st := []) d_9_must_17 mw_9_fail ml_9_218 im_9_fail se_9_fail rfl rfl (Nat.le_of_ble_eq_true rfl) fit_1_2_3 rfl rfl rfl (s9_fail hq5) ?_
    obtain rfl := Option.some.inj h
    exact ze_v d_9_must_20 rfl
  · replace h := z_im h hc3
    refine zr_aload_n (i := 0) d_9_must_8 rfl rfl ?_
    obtain ⟨qm6, hq7, h⟩ := z_bd h
    refine zr_callVv (av := []) (st := []) d_9_must_9 mw_9_goesOn ml_9_224 im_9_goesOn se_9_goesOn rfl rfl (Nat.le_of_ble_eq_true rfl) fit_2_1_3 rfl rfl rfl (s9_goesOn hq7) ?_
    refine zr_goto (tgt := 20) d_9_must_12 rfl ?_
    obtain rfl := Option.some.inj h
    exact ze_v d_9_must_20 rfl
def f9_roomFor (a1 : Int32) (a2 : Int32) (μ : zMem) : Option (zMem) :=
  ((if a1 = a2 then (f9_fail (2 : Int32) μ).bind (fun qm4 => some qm4) else some μ) : Option (zMem)).bind (fun jm6 => (if (jm6.1 9 0 13) = 0 then (f9_goesOn jm6).bind (fun qm8 => some qm8) else some jm6))
theorem s9_roomFor {P : zP} {μ : zMem} {a1 : Int32} {a2 : Int32} {μ' : zMem} (h : f9_roomFor a1 a2 μ = some μ') : z_Sp P y_9_roomFor M_9_roomFor 3 [zA 9 0, zI a1, zI a2] μ none μ' := by
  refine z_Sp.of (plainFor_of_name (by decide)) rfl (l0 := [some (zA 9 0), some (zI a1), some (zI a2)]) rfl (Nat.le_of_ble_eq_true rfl) ?_
  unfold f9_roomFor at h
  refine zr_iload_n (i := 1) d_9_roomFor_0 rfl rfl ?_
  refine zr_iload_n (i := 2) d_9_roomFor_1 rfl rfl ?_
  obtain ⟨jm6, hT1, h⟩ := z_bd h
  have hJ2 : z_RQ P M_9_roomFor (z_rm 3) (z_mq P none μ') 0 0 10 [some (zA 9 0), none, none] [] jm6 := by
    refine zr_aload_n (i := 0) d_9_roomFor_10 rfl rfl ?_
    refine zr_geti d_9_roomFor_11 fw_9_203 (by decide) ?_
    refine zr_if_ne (tgt := 21) d_9_roomFor_14 rfl (fun hc7 => ?_) (fun hc7 => ?_)
    · replace h := z_ip h hc7
      refine zr_aload_n (i := 0) d_9_roomFor_17 rfl rfl ?_
      obtain ⟨qm8, hq9, h⟩ := z_bd h
      refine zr_callVv (av := []) (st := []) d_9_roomFor_18 mw_9_goesOn ml_9_224 im_9_goesOn se_9_goesOn rfl rfl (Nat.le_of_ble_eq_true rfl) fit_2_1_3 rfl rfl rfl (s9_goesOn hq9) ?_
      obtain rfl := Option.some.inj h
      exact ze_v d_9_roomFor_21 rfl
    · replace h := z_im h hc7
      obtain rfl := Option.some.inj h
      exact ze_v d_9_roomFor_21 rfl
  refine zr_icmp_ne (tgt := 10) d_9_roomFor_2 rfl (fun hc3 => ?_) (fun hc3 => ?_)
  · replace hT1 := z_ip hT1 hc3
    refine zr_aload_n (i := 0) d_9_roomFor_5 rfl rfl ?_
    refine zr_iconst (v := (2 : Int32)) d_9_roomFor_6 rfl ?_
    obtain ⟨qm4, hq5, hT1⟩ := z_bd hT1
    refine zr_callVv (av := [zI (2 : Int32)]) (st := []) d_9_roomFor_7 mw_9_fail ml_9_218 im_9_fail se_9_fail rfl rfl (Nat.le_of_ble_eq_true rfl) fit_1_2_3 rfl rfl rfl (s9_fail hq5) ?_
    obtain rfl := Option.some.inj hT1
    exact zr_wk2 hJ2 ⟨rfl, trivial⟩
  · replace hT1 := z_im hT1 hc3
    obtain rfl := Option.some.inj hT1
    exact zr_wk2 hJ2 ⟨rfl, trivial⟩
def f9_named_L3 (μ : zMem) : (Int32 × zMem) → Option ((Int32 × zMem) ⊕ (zMem)) := (z_u2 fun x4 xm5 => 
  (if x4 < (xm5.1 9 0 20) then (if (xm5.1 9 0 13) = 0 then if z_in x4 12 = true then if z_in (μ.1 9 0 11) 403 = true then ((if (lg_cmp (xm5.2.1 121 0 x4.toNatClampNeg) (xm5.2.1 108 0 (μ.1 9 0 11).toNatClampNeg)) = 0 then (f9_wrong (3 : Int32) (μ.1 9 0 11) xm5).bind (fun qm13 => some qm13) else some xm5) : Option (zMem)).bind (fun jm15 => some (.inl ((x4 + (1 : Int32)), jm15))) else none else none else some (.inr xm5)) else some (.inr xm5)))
def f9_named  (μ : zMem) : Option (Int32 × zMem) :=
  (f9_must (1 : Int32) μ).bind (fun qm1 => (z_it (f9_named_L3 μ) z_fu ((0 : Int32), qm1)).bind (fun e16 => some ((μ.1 9 0 11), e16)))
theorem s9_named_L3 {P : zP} {ro : Option zV} {μo : zMem} (μ : zMem) (x4 : Int32) (xm5 : zMem) (K : (Int32 × zMem) ⊕ (zMem)) (h : f9_named_L3 μ (x4, xm5) = some K) (hI : ∀ (y0 : Int32) (y1 : zMem), K = .inl (y0, y1) → z_RQ P M_9_named (z_rm 4) (z_mq P ro μo) 0 0 12 [some (zA 9 0), some (zI (μ.1 9 0 11)), some (zI y0)] [] y1) (hE : ∀ (z0 : zMem), K = .inr z0 → z_RQ P M_9_named (z_rm 4) (z_mq P ro μo) 0 0 55 [none, some (zI (μ.1 9 0 11)), none] [] z0)  : z_RQ P M_9_named (z_rm 4) (z_mq P ro μo) 0 0 12 [some (zA 9 0), some (zI (μ.1 9 0 11)), some (zI x4)] [] xm5 := by
  unfold f9_named_L3 at h
  replace h := z_h2 h
  refine zr_iload_n (i := 2) d_9_named_12 rfl rfl ?_
  refine zr_aload_n (i := 0) d_9_named_13 rfl rfl ?_
  refine zr_geti d_9_named_14 fw_9_239 (by decide) ?_
  refine zr_icmp_ge (tgt := 55) d_9_named_17 rfl (fun hc6 => ?_) (fun hc6 => ?_)
  · replace h := z_ip h hc6
    refine zr_aload_n (i := 0) d_9_named_20 rfl rfl ?_
    refine zr_geti d_9_named_21 fw_9_203 (by decide) ?_
    refine zr_if_ne (tgt := 55) d_9_named_24 rfl (fun hc7 => ?_) (fun hc7 => ?_)
    · replace h := z_ip h hc7
      refine zr_aload_n (i := 0) d_9_named_27 rfl rfl ?_
      refine zr_gets (i' := 0) d_9_named_28 fw_9_40 rfl ?_
      refine zr_iload_n (i := 2) d_9_named_31 rfl rfl ?_
      obtain ⟨hb8, h⟩ := z_gd h
      refine zr_lald d_9_named_32 sa_121 rfl hb8 ?_
      refine zr_aload_n (i := 0) d_9_named_33 rfl rfl ?_
      refine zr_gets (i' := 0) d_9_named_34 fw_9_30 rfl ?_
      refine zr_iload_n (i := 1) d_9_named_37 rfl rfl ?_
      obtain ⟨hb9, h⟩ := z_gd h
      refine zr_lald d_9_named_38 sa_108 rfl hb9 ?_
      refine zr_lcmp d_9_named_39 ?_
      obtain ⟨jm15, hT10, h⟩ := z_bd h
      have hJ11 : z_RQ P M_9_named (z_rm 4) (z_mq P ro μo) 0 0 49 [some (zA 9 0), some (zI (μ.1 9 0 11)), some (zI x4)] [] jm15 := by
        refine zr_iinc (v := (x4 + (1 : Int32))) (l' := [some (zA 9 0), some (zI (μ.1 9 0 11)), some (zI (x4 + (1 : Int32)))]) d_9_named_49 (by decide) rfl rfl rfl ?_
        refine zr_goto (tgt := 12) d_9_named_52 rfl ?_
        obtain rfl := Option.some.inj h
        exact zr_wk2 (hI (x4 + (1 : Int32)) jm15 rfl) ⟨rfl, ⟨rfl, ⟨rfl, trivial⟩⟩⟩
      refine zr_if_ne (tgt := 49) d_9_named_40 rfl (fun hc12 => ?_) (fun hc12 => ?_)
      · replace hT10 := z_ip hT10 hc12
        refine zr_aload_n (i := 0) d_9_named_43 rfl rfl ?_
        refine zr_iconst (v := (3 : Int32)) d_9_named_44 rfl ?_
        refine zr_iload_n (i := 1) d_9_named_45 rfl rfl ?_
        obtain ⟨qm13, hq14, hT10⟩ := z_bd hT10
        refine zr_callVv (av := [zI (3 : Int32), zI (μ.1 9 0 11)]) (st := []) d_9_named_46 mw_9_wrong ml_9_283 im_9_wrong se_9_wrong rfl rfl (Nat.le_of_ble_eq_true rfl) fit_1_4_4 rfl rfl rfl (s9_wrong hq14) ?_
        obtain rfl := Option.some.inj hT10
        exact zr_wk2 hJ11 ⟨rfl, ⟨rfl, ⟨rfl, trivial⟩⟩⟩
      · replace hT10 := z_im hT10 hc12
        obtain rfl := Option.some.inj hT10
        exact zr_wk2 hJ11 ⟨rfl, ⟨rfl, ⟨rfl, trivial⟩⟩⟩
    · replace h := z_im h hc7
      obtain rfl := Option.some.inj h
      exact zr_wk2 (hE xm5 rfl) ⟨rfl, trivial⟩
  · replace h := z_im h hc6
    obtain rfl := Option.some.inj h
    exact zr_wk2 (hE xm5 rfl) ⟨rfl, trivial⟩
theorem s9_named {P : zP} {μ : zMem} {r : Int32} {μ' : zMem} (h : f9_named μ = some (r, μ')) : z_Sp P y_9_named M_9_named 4 [zA 9 0] μ (some (zI r)) μ' := by
  refine z_Sp.of (plainFor_of_name (by decide)) rfl (l0 := [some (zA 9 0), none, none]) rfl (Nat.le_of_ble_eq_true rfl) ?_
  unfold f9_named at h
  refine zr_aload_n (i := 0) d_9_named_0 rfl rfl ?_
  refine zr_geti d_9_named_1 fw_9_206 (by decide) ?_
  refine zr_istore_n (i := 1) (l' := [some (zA 9 0), some (zI (μ.1 9 0 11)), none]) d_9_named_4 rfl (by decide) rfl ?_
  refine zr_aload_n (i := 0) d_9_named_5 rfl rfl ?_
  refine zr_iconst (v := (1 : Int32)) d_9_named_6 rfl ?_
  obtain ⟨qm1, hq2, h⟩ := z_bd h
  refine zr_callVv (av := [zI (1 : Int32)]) (st := []) d_9_named_7 mw_9_must ml_9_277 im_9_must se_9_must rfl rfl (Nat.le_of_ble_eq_true rfl) fit_3_2_4 rfl rfl rfl (s9_must hq2) ?_
  refine zr_iconst (v := (0 : Int32)) d_9_named_10 rfl ?_
  refine zr_istore_n (i := 2) (l' := [some (zA 9 0), some (zI (μ.1 9 0 11)), some (zI (0 : Int32))]) d_9_named_11 rfl (by decide) rfl ?_
  obtain ⟨e16, hl17, h⟩ := z_bd h
  refine zr_wk (l' := [some (zA 9 0), some (zI (μ.1 9 0 11)), some (zI (0 : Int32))]) ⟨rfl, ⟨rfl, ⟨rfl, trivial⟩⟩⟩ ?_
  refine z_loop (Hd := (z_u2 fun y0 y1 => z_RQ P M_9_named (z_rm 4) (z_mq P (some (zI r)) μ') 0 0 12 [some (zA 9 0), some (zI (μ.1 9 0 11)), some (zI y0)] [] y1)) (Ex := (fun z0 => z_RQ P M_9_named (z_rm 4) (z_mq P (some (zI r)) μ') 0 0 55 [none, some (zI (μ.1 9 0 11)), none] [] z0)) (fun ⟨x4, xm5⟩ K h hI hE => s9_named_L3 μ x4 xm5 K h (fun y0 y1 e => hI (y0, y1) e) (fun z0 e => hE z0 e) ) _ _ _ hl17 ?_
  refine zr_iload_n (i := 1) d_9_named_55 rfl rfl ?_
  obtain ⟨rfl, rfl⟩ := Prod.mk.inj (Option.some.inj h)
  exact ze_i d_9_named_56 rfl
def f9_bounded (a1 : Int32) (μ : zMem) : Option (Int32 × zMem) :=
  (if 0 < (μ.1 9 0 13) then (f9_fail (1 : Int32) μ).bind (fun qm2 => some ((0 : Int32), qm2)) else (f9_is (2 : Int32) μ).bind (fun q4 => (if q4 = 0 then (f9_fail (1 : Int32) μ).bind (fun qm7 => some ((0 : Int32), qm7)) else if z_in (μ.1 9 0 11) 403 = true then z_let (μ.1 107 0 (μ.1 9 0 11).toNatClampNeg) fun v10 => ((if a1 < v10 then (f9_wrong (5 : Int32) (μ.1 9 0 11) μ).bind (fun qm15 => some qm15) else some μ) : Option (zMem)).bind (fun jm17 => (f9_goesOn jm17).bind (fun qm18 => some (v10, qm18))) else none)))
theorem s9_bounded {P : zP} {μ : zMem} {a1 : Int32} {r : Int32} {μ' : zMem} (h : f9_bounded a1 μ = some (r, μ')) : z_Sp P y_9_bounded M_9_bounded 3 [zA 9 0, zI a1] μ (some (zI r)) μ' := by
  refine z_Sp.of (plainFor_of_name (by decide)) rfl (l0 := [some (zA 9 0), some (zI a1), none]) rfl (Nat.le_of_ble_eq_true rfl) ?_
  unfold f9_bounded at h
  refine zr_aload_n (i := 0) d_9_bounded_0 rfl rfl ?_
  refine zr_geti d_9_bounded_1 fw_9_203 (by decide) ?_
  refine zr_if_gt (tgt := 15) d_9_bounded_4 rfl (fun hc1 => ?_) (fun hc1 => ?_)
  · replace h := z_ip h hc1
    refine zr_aload_n (i := 0) d_9_bounded_15 rfl rfl ?_
    refine zr_iconst (v := (1 : Int32)) d_9_bounded_16 rfl ?_
    obtain ⟨qm2, hq3, h⟩ := z_bd h
    refine zr_callVv (av := [zI (1 : Int32)]) (st := []) d_9_bounded_17 mw_9_fail ml_9_218 im_9_fail se_9_fail rfl rfl (Nat.le_of_ble_eq_true rfl) fit_1_2_3 rfl rfl rfl (s9_fail hq3) ?_
    refine zr_iconst (v := (0 : Int32)) d_9_bounded_20 rfl ?_
    obtain ⟨rfl, rfl⟩ := Prod.mk.inj (Option.some.inj h)
    exact ze_i d_9_bounded_21 rfl
  · replace h := z_im h hc1
    refine zr_aload_n (i := 0) d_9_bounded_7 rfl rfl ?_
    refine zr_iconst (v := (2 : Int32)) d_9_bounded_8 rfl ?_
    obtain ⟨q4, hq5, h⟩ := z_bd h
    refine zr_callVi (av := [zI (2 : Int32)]) (st := []) d_9_bounded_9 mw_9_is ml_9_221 im_9_is se_9_is rfl rfl (Nat.le_of_ble_eq_true rfl) fit_1_2_3 rfl rfl rfl (s9_is hq5) ?_
    refine zr_if_ne (tgt := 22) d_9_bounded_12 rfl (fun hc6 => ?_) (fun hc6 => ?_)
    · replace h := z_ip h hc6
      refine zr_aload_n (i := 0) d_9_bounded_15 rfl rfl ?_
      refine zr_iconst (v := (1 : Int32)) d_9_bounded_16 rfl ?_
      obtain ⟨qm7, hq8, h⟩ := z_bd h
      refine zr_callVv (av := [zI (1 : Int32)]) (st := []) d_9_bounded_17 mw_9_fail ml_9_218 im_9_fail se_9_fail rfl rfl (Nat.le_of_ble_eq_true rfl) fit_1_2_3 rfl rfl rfl (s9_fail hq8) ?_
      refine zr_iconst (v := (0 : Int32)) d_9_bounded_20 rfl ?_
      obtain ⟨rfl, rfl⟩ := Prod.mk.inj (Option.some.inj h)
      exact ze_i d_9_bounded_21 rfl
    · replace h := z_im h hc6
      refine zr_aload_n (i := 0) d_9_bounded_22 rfl rfl ?_
      refine zr_gets (i' := 0) d_9_bounded_23 fw_9_27 rfl ?_
      refine zr_aload_n (i := 0) d_9_bounded_26 rfl rfl ?_
      refine zr_geti d_9_bounded_27 fw_9_206 (by decide) ?_
      obtain ⟨hb9, h⟩ := z_gd h
      refine zr_iald d_9_bounded_30 sa_107 rfl hb9 ?_
      obtain ⟨v10, hv11, h⟩ := z_lt h
      refine zr_nm hv11 ?_
      refine zr_istore_n (i := 2) (l' := [some (zA 9 0), some (zI a1), some (zI v10)]) d_9_bounded_31 rfl (by decide) rfl ?_
      refine zr_iload_n (i := 2) d_9_bounded_32 rfl rfl ?_
      refine zr_iload_n (i := 1) d_9_bounded_33 rfl rfl ?_
      obtain ⟨jm17, hT12, h⟩ := z_bd h
      have hJ13 : z_RQ P M_9_bounded (z_rm 3) (z_mq P (some (zI r)) μ') 0 0 46 [some (zA 9 0), none, some (zI v10)] [] jm17 := by
        refine zr_aload_n (i := 0) d_9_bounded_46 rfl rfl ?_
        obtain ⟨qm18, hq19, h⟩ := z_bd h
        refine zr_callVv (av := []) (st := []) d_9_bounded_47 mw_9_goesOn ml_9_224 im_9_goesOn se_9_goesOn rfl rfl (Nat.le_of_ble_eq_true rfl) fit_2_1_3 rfl rfl rfl (s9_goesOn hq19) ?_
        refine zr_iload_n (i := 2) d_9_bounded_50 rfl rfl ?_
        obtain ⟨rfl, rfl⟩ := Prod.mk.inj (Option.some.inj h)
        exact ze_i d_9_bounded_51 rfl
      refine zr_icmp_le (tgt := 46) d_9_bounded_34 rfl (fun hc14 => ?_) (fun hc14 => ?_)
      · replace hT12 := z_ip hT12 hc14
        refine zr_aload_n (i := 0) d_9_bounded_37 rfl rfl ?_
        refine zr_iconst (v := (5 : Int32)) d_9_bounded_38 rfl ?_
        refine zr_aload_n (i := 0) d_9_bounded_39 rfl rfl ?_
        refine zr_geti d_9_bounded_40 fw_9_206 (by decide) ?_
        obtain ⟨qm15, hq16, hT12⟩ := z_bd hT12
        refine zr_callVv (av := [zI (5 : Int32), zI (μ.1 9 0 11)]) (st := []) d_9_bounded_43 mw_9_wrong ml_9_283 im_9_wrong se_9_wrong rfl rfl (Nat.le_of_ble_eq_true rfl) fit_1_4_3 rfl rfl rfl (s9_wrong hq16) ?_
        obtain rfl := Option.some.inj hT12
        exact zr_wk2 hJ13 ⟨rfl, ⟨rfl, trivial⟩⟩
      · replace hT12 := z_im hT12 hc14
        obtain rfl := Option.some.inj hT12
        exact zr_wk2 hJ13 ⟨rfl, ⟨rfl, trivial⟩⟩
def f9_endsName (a1 : Int32) (a2 : Int32) (μ : zMem) : Option (zMem) :=
  (f9_must (4 : Int32) μ).bind (fun qm1 => (if 0 < (qm1.1 9 0 13) then some qm1 else if z_in a1 403 = true then if z_in (qm1.1 9 0 20) 12 = true then z_let (z_sL qm1 121 0 (qm1.1 9 0 20).toNatClampNeg (qm1.2.1 108 0 a1.toNatClampNeg)) fun m5 => if z_in (m5.1 9 0 20) 12 = true then z_let (z_sI m5 122 0 (m5.1 9 0 20).toNatClampNeg a2) fun m8 => z_let (z_sI m8 9 0 20 ((m8.1 9 0 20) + (1 : Int32))) fun m11 => some m11 else none else none else none))
theorem s9_endsName {P : zP} {μ : zMem} {a1 : Int32} {a2 : Int32} {μ' : zMem} (h : f9_endsName a1 a2 μ = some μ') : z_Sp P y_9_endsName M_9_endsName 4 [zA 9 0, zI a1, zI a2] μ none μ' := by
  refine z_Sp.of (plainFor_of_name (by decide)) rfl (l0 := [some (zA 9 0), some (zI a1), some (zI a2)]) rfl (Nat.le_of_ble_eq_true rfl) ?_
  unfold f9_endsName at h
  refine zr_aload_n (i := 0) d_9_endsName_0 rfl rfl ?_
  refine zr_iconst (v := (4 : Int32)) d_9_endsName_1 rfl ?_
  obtain ⟨qm1, hq2, h⟩ := z_bd h
  refine zr_callVv (av := [zI (4 : Int32)]) (st := []) d_9_endsName_2 mw_9_must ml_9_277 im_9_must se_9_must rfl rfl (Nat.le_of_ble_eq_true rfl) fit_3_2_4 rfl rfl rfl (s9_must hq2) ?_
  refine zr_aload_n (i := 0) d_9_endsName_5 rfl rfl ?_
  refine zr_geti d_9_endsName_6 fw_9_203 (by decide) ?_
  refine zr_if_le (tgt := 13) d_9_endsName_9 rfl (fun hc3 => ?_) (fun hc3 => ?_)
  · replace h := z_ip h hc3
    obtain rfl := Option.some.inj h
    exact ze_v d_9_endsName_12 rfl
  · replace h := z_im h hc3
    refine zr_aload_n (i := 0) d_9_endsName_13 rfl rfl ?_
    refine zr_gets (i' := 0) d_9_endsName_14 fw_9_40 rfl ?_
    refine zr_aload_n (i := 0) d_9_endsName_17 rfl rfl ?_
    refine zr_geti d_9_endsName_18 fw_9_239 (by decide) ?_
    refine zr_aload_n (i := 0) d_9_endsName_21 rfl rfl ?_
    refine zr_gets (i' := 0) d_9_endsName_22 fw_9_30 rfl ?_
    refine zr_iload_n (i := 1) d_9_endsName_25 rfl rfl ?_
    obtain ⟨hb4, h⟩ := z_gd h
    refine zr_lald d_9_endsName_26 sa_108 rfl hb4 ?_
    obtain ⟨hb7, h⟩ := z_gd h
    obtain ⟨m5, hm6, h⟩ := z_lt h
    refine zr_last d_9_endsName_27 sa_121 rfl hb7 hm6 ?_
    refine zr_aload_n (i := 0) d_9_endsName_28 rfl rfl ?_
    refine zr_gets (i' := 0) d_9_endsName_29 fw_9_43 rfl ?_
    refine zr_aload_n (i := 0) d_9_endsName_32 rfl rfl ?_
    refine zr_geti d_9_endsName_33 fw_9_239 (by decide) ?_
    refine zr_iload_n (i := 2) d_9_endsName_36 rfl rfl ?_
    obtain ⟨hb10, h⟩ := z_gd h
    obtain ⟨m8, hm9, h⟩ := z_lt h
    refine zr_iast d_9_endsName_37 sa_122 rfl hb10 hm9 ?_
    refine zr_aload_n (i := 0) d_9_endsName_38 rfl rfl ?_
    refine zr_dupa d_9_endsName_39 ?_
    refine zr_geti d_9_endsName_40 fw_9_239 (by decide) ?_
    refine zr_iconst (v := (1 : Int32)) d_9_endsName_43 rfl ?_
    refine zr_iadd d_9_endsName_44 ?_
    obtain ⟨m11, hm12, h⟩ := z_lt h
    refine zr_puti d_9_endsName_45 fw_9_239 pw_9_20 hm12 ?_
    obtain rfl := Option.some.inj h
    exact ze_v d_9_endsName_48 rfl
def f9_known_L4 (a1 : Int32) (μ : zMem) (qm1 : zMem) : (Int32) → Option ((Int32) ⊕ ((Unit) ⊕ (Int32 × zMem))) := (fun x5 => 
  (if x5 < (qm1.1 9 0 20) then if z_in x5 12 = true then if z_in (μ.1 9 0 11) 403 = true then (if (lg_cmp (qm1.2.1 121 0 x5.toNatClampNeg) (qm1.2.1 108 0 (μ.1 9 0 11).toNatClampNeg)) = 0 then (if (qm1.1 122 0 x5.toNatClampNeg) < a1 then some (.inl (x5 + (1 : Int32))) else (if (qm1.1 122 0 x5.toNatClampNeg) < (a1 + (10 : Int32)) then some (.inr (.inr (((qm1.1 122 0 x5.toNatClampNeg) - a1), qm1))) else some (.inl (x5 + (1 : Int32))))) else some (.inl (x5 + (1 : Int32)))) else none else none else some (.inr (.inl ()))))
def f9_known (a1 : Int32) (μ : zMem) : Option (Int32 × zMem) :=
  (f9_must (1 : Int32) μ).bind (fun qm1 => (if 0 < (qm1.1 9 0 13) then some ((-1 : Int32), qm1) else (z_it (f9_known_L4 a1 μ qm1) z_fu (0 : Int32)).bind (Sum.elim (fun (_ : Unit) => (f9_wrong (4 : Int32) (μ.1 9 0 11) qm1).bind (fun qm13 => some ((-1 : Int32), qm13))) (z_u2 fun qr15 qr16 => some (qr15, qr16)))))
theorem s9_known_L4 {P : zP} {ro : Option zV} {μo : zMem} (a1 : Int32) (μ : zMem) (qm1 : zMem) (x5 : Int32) (K : (Int32) ⊕ ((Unit) ⊕ (Int32 × zMem))) (h : f9_known_L4 a1 μ qm1 x5 = some K) (hI : ∀ (y0 : Int32), K = .inl y0 → z_RQ P M_9_known (z_rm 4) (z_mq P ro μo) 0 0 21 [some (zA 9 0), some (zI a1), some (zI (μ.1 9 0 11)), some (zI y0)] [] qm1) (hE : K = .inr (.inl ()) → z_RQ P M_9_known (z_rm 4) (z_mq P ro μo) 0 0 83 [some (zA 9 0), none, some (zI (μ.1 9 0 11)), none] [] qm1) (hR : ∀ (qr : Int32) (qm : zMem), K = .inr (.inr (qr, qm)) → ro = some (zI qr) ∧ μo = qm) : z_RQ P M_9_known (z_rm 4) (z_mq P ro μo) 0 0 21 [some (zA 9 0), some (zI a1), some (zI (μ.1 9 0 11)), some (zI x5)] [] qm1 := by
  unfold f9_known_L4 at h
  refine zr_iload_n (i := 3) d_9_known_21 rfl rfl ?_
  refine zr_aload_n (i := 0) d_9_known_22 rfl rfl ?_
  refine zr_geti d_9_known_23 fw_9_239 (by decide) ?_
  refine zr_icmp_ge (tgt := 83) d_9_known_26 rfl (fun hc6 => ?_) (fun hc6 => ?_)
  · replace h := z_ip h hc6
    refine zr_aload_n (i := 0) d_9_known_29 rfl rfl ?_
    refine zr_gets (i' := 0) d_9_known_30 fw_9_40 rfl ?_
    refine zr_iload_n (i := 3) d_9_known_33 rfl rfl ?_
    obtain ⟨hb7, h⟩ := z_gd h
    refine zr_lald d_9_known_34 sa_121 rfl hb7 ?_
    refine zr_aload_n (i := 0) d_9_known_35 rfl rfl ?_
    refine zr_gets (i' := 0) d_9_known_36 fw_9_30 rfl ?_
    refine zr_iload_n (i := 2) d_9_known_39 rfl rfl ?_
    obtain ⟨hb8, h⟩ := z_gd h
    refine zr_lald d_9_known_40 sa_108 rfl hb8 ?_
    refine zr_lcmp d_9_known_41 ?_
    refine zr_if_ne (tgt := 77) d_9_known_42 rfl (fun hc9 => ?_) (fun hc9 => ?_)
    · replace h := z_ip h hc9
      refine zr_aload_n (i := 0) d_9_known_45 rfl rfl ?_
      refine zr_gets (i' := 0) d_9_known_46 fw_9_43 rfl ?_
      refine zr_iload_n (i := 3) d_9_known_49 rfl rfl ?_
      refine zr_iald d_9_known_50 sa_122 rfl hb7 ?_
      refine zr_iload_n (i := 1) d_9_known_51 rfl rfl ?_
      refine zr_icmp_lt (tgt := 77) d_9_known_52 rfl (fun hc10 => ?_) (fun hc10 => ?_)
      · replace h := z_ip h hc10
        refine zr_iinc (v := (x5 + (1 : Int32))) (l' := [some (zA 9 0), some (zI a1), some (zI (μ.1 9 0 11)), some (zI (x5 + (1 : Int32)))]) d_9_known_77 (by decide) rfl rfl rfl ?_
        refine zr_goto (tgt := 21) d_9_known_80 rfl ?_
        obtain rfl := Option.some.inj h
        exact zr_wk2 (hI (x5 + (1 : Int32)) rfl) ⟨rfl, ⟨rfl, ⟨rfl, ⟨rfl, trivial⟩⟩⟩⟩
      · replace h := z_im h hc10
        refine zr_aload_n (i := 0) d_9_known_55 rfl rfl ?_
        refine zr_gets (i' := 0) d_9_known_56 fw_9_43 rfl ?_
        refine zr_iload_n (i := 3) d_9_known_59 rfl rfl ?_
        refine zr_iald d_9_known_60 sa_122 rfl hb7 ?_
        refine zr_iload_n (i := 1) d_9_known_61 rfl rfl ?_
        refine zr_bipush (v := (10 : Int32)) d_9_known_62 rfl ?_
        refine zr_iadd d_9_known_64 ?_
        refine zr_icmp_ge (tgt := 77) d_9_known_65 rfl (fun hc11 => ?_) (fun hc11 => ?_)
        · replace h := z_ip h hc11
          refine zr_aload_n (i := 0) d_9_known_68 rfl rfl ?_
          refine zr_gets (i' := 0) d_9_known_69 fw_9_43 rfl ?_
          refine zr_iload_n (i := 3) d_9_known_72 rfl rfl ?_
          refine zr_iald d_9_known_73 sa_122 rfl hb7 ?_
          refine zr_iload_n (i := 1) d_9_known_74 rfl rfl ?_
          refine zr_isub d_9_known_75 ?_
          obtain rfl := Option.some.inj h
          obtain ⟨rfl, rfl⟩ := hR ((qm1.1 122 0 x5.toNatClampNeg) - a1) qm1 rfl
          exact ze_i d_9_known_76 rfl
        · replace h := z_im h hc11
          refine zr_iinc (v := (x5 + (1 : Int32))) (l' := [some (zA 9 0), some (zI a1), some (zI (μ.1 9 0 11)), some (zI (x5 + (1 : Int32)))]) d_9_known_77 (by decide) rfl rfl rfl ?_
          refine zr_goto (tgt := 21) d_9_known_80 rfl ?_
          obtain rfl := Option.some.inj h
          exact zr_wk2 (hI (x5 + (1 : Int32)) rfl) ⟨rfl, ⟨rfl, ⟨rfl, ⟨rfl, trivial⟩⟩⟩⟩
    · replace h := z_im h hc9
      refine zr_iinc (v := (x5 + (1 : Int32))) (l' := [some (zA 9 0), some (zI a1), some (zI (μ.1 9 0 11)), some (zI (x5 + (1 : Int32)))]) d_9_known_77 (by decide) rfl rfl rfl ?_
      refine zr_goto (tgt := 21) d_9_known_80 rfl ?_
      obtain rfl := Option.some.inj h
      exact zr_wk2 (hI (x5 + (1 : Int32)) rfl) ⟨rfl, ⟨rfl, ⟨rfl, ⟨rfl, trivial⟩⟩⟩⟩
  · replace h := z_im h hc6
    obtain rfl := Option.some.inj h
    exact zr_wk2 (hE  rfl) ⟨rfl, ⟨rfl, trivial⟩⟩
theorem s9_known {P : zP} {μ : zMem} {a1 : Int32} {r : Int32} {μ' : zMem} (h : f9_known a1 μ = some (r, μ')) : z_Sp P y_9_known M_9_known 4 [zA 9 0, zI a1] μ (some (zI r)) μ' := by
  refine z_Sp.of (plainFor_of_name (by decide)) rfl (l0 := [some (zA 9 0), some (zI a1), none, none]) rfl (Nat.le_of_ble_eq_true rfl) ?_
  unfold f9_known at h
  refine zr_aload_n (i := 0) d_9_known_0 rfl rfl ?_
  refine zr_geti d_9_known_1 fw_9_206 (by decide) ?_
  refine zr_istore_n (i := 2) (l' := [some (zA 9 0), some (zI a1), some (zI (μ.1 9 0 11)), none]) d_9_known_4 rfl (by decide) rfl ?_
  refine zr_aload_n (i := 0) d_9_known_5 rfl rfl ?_
  refine zr_iconst (v := (1 : Int32)) d_9_known_6 rfl ?_
  obtain ⟨qm1, hq2, h⟩ := z_bd h
  refine zr_callVv (av := [zI (1 : Int32)]) (st := []) d_9_known_7 mw_9_must ml_9_277 im_9_must se_9_must rfl rfl (Nat.le_of_ble_eq_true rfl) fit_3_2_4 rfl rfl rfl (s9_must hq2) ?_
  refine zr_aload_n (i := 0) d_9_known_10 rfl rfl ?_
  refine zr_geti d_9_known_11 fw_9_203 (by decide) ?_
  refine zr_if_le (tgt := 19) d_9_known_14 rfl (fun hc3 => ?_) (fun hc3 => ?_)
  · replace h := z_ip h hc3
    refine zr_iconst (v := (-1 : Int32)) d_9_known_17 rfl ?_
    obtain ⟨rfl, rfl⟩ := Prod.mk.inj (Option.some.inj h)
    exact ze_i d_9_known_18 rfl
  · replace h := z_im h hc3
    refine zr_iconst (v := (0 : Int32)) d_9_known_19 rfl ?_
    refine zr_istore_n (i := 3) (l' := [some (zA 9 0), some (zI a1), some (zI (μ.1 9 0 11)), some (zI (0 : Int32))]) d_9_known_20 rfl (by decide) rfl ?_
    rcases z_bs h with ⟨⟨⟩, hl12, h⟩ | ⟨⟨qr15, qr16⟩, hl12, h⟩
    · refine zr_wk (l' := [some (zA 9 0), some (zI a1), some (zI (μ.1 9 0 11)), some (zI (0 : Int32))]) ⟨rfl, ⟨rfl, ⟨rfl, ⟨rfl, trivial⟩⟩⟩⟩ ?_
      refine z_loop (Hd := (fun y0 => z_RQ P M_9_known (z_rm 4) (z_mq P (some (zI r)) μ') 0 0 21 [some (zA 9 0), some (zI a1), some (zI (μ.1 9 0 11)), some (zI y0)] [] qm1)) (Ex := (Sum.elim (fun (_ : Unit) => z_RQ P M_9_known (z_rm 4) (z_mq P (some (zI r)) μ') 0 0 83 [some (zA 9 0), none, some (zI (μ.1 9 0 11)), none] [] qm1) (z_u2 fun qr qm => (some (zI r)) = some (zI qr) ∧ μ' = qm))) (fun x5 K h hI hE => s9_known_L4 a1 μ qm1 x5 K h (fun y0 e => hI y0 e) (fun  e => hE (.inl ()) e) (fun qr qm e => hE (.inr (qr, qm)) e)) _ _ _ hl12 ?_
      refine zr_aload_n (i := 0) d_9_known_83 rfl rfl ?_
      refine zr_iconst (v := (4 : Int32)) d_9_known_84 rfl ?_
      refine zr_iload_n (i := 2) d_9_known_85 rfl rfl ?_
      obtain ⟨qm13, hq14, h⟩ := z_bd h
      refine zr_callVv (av := [zI (4 : Int32), zI (μ.1 9 0 11)]) (st := []) d_9_known_86 mw_9_wrong ml_9_283 im_9_wrong se_9_wrong rfl rfl (Nat.le_of_ble_eq_true rfl) fit_1_4_4 rfl rfl rfl (s9_wrong hq14) ?_
      refine zr_iconst (v := (-1 : Int32)) d_9_known_89 rfl ?_
      obtain ⟨rfl, rfl⟩ := Prod.mk.inj (Option.some.inj h)
      exact ze_i d_9_known_90 rfl
    · replace h := z_h2 h
      refine zr_wk (l' := [some (zA 9 0), some (zI a1), some (zI (μ.1 9 0 11)), some (zI (0 : Int32))]) ⟨rfl, ⟨rfl, ⟨rfl, ⟨rfl, trivial⟩⟩⟩⟩ ?_
      refine z_loop (Hd := (fun y0 => z_RQ P M_9_known (z_rm 4) (z_mq P (some (zI r)) μ') 0 0 21 [some (zA 9 0), some (zI a1), some (zI (μ.1 9 0 11)), some (zI y0)] [] qm1)) (Ex := (Sum.elim (fun (_ : Unit) => z_RQ P M_9_known (z_rm 4) (z_mq P (some (zI r)) μ') 0 0 83 [some (zA 9 0), none, some (zI (μ.1 9 0 11)), none] [] qm1) (z_u2 fun qr qm => (some (zI r)) = some (zI qr) ∧ μ' = qm))) (fun x5 K h hI hE => s9_known_L4 a1 μ qm1 x5 K h (fun y0 e => hI y0 e) (fun  e => hE (.inl ()) e) (fun qr qm e => hE (.inr (qr, qm)) e)) _ _ _ hl12 ?_
      obtain ⟨rfl, rfl⟩ := Prod.mk.inj (Option.some.inj h)
      exact ⟨rfl, rfl⟩
def f9_tellRight  (μ : zMem) : Option (zMem) :=
  (f9_known (10 : Int32) μ).bind (z_u2 fun q1 qm2 => (f9_known (0 : Int32) qm2).bind (z_u2 fun q4 qm5 => ((if (qm5.1 9 0 13) = 0 then (if q1 < 0 then some (0 : Int32) else (if q4 < 0 then some (0 : Int32) else some (1 : Int32))) else some (0 : Int32)) : Option (Int32)).bind (fun j12 => ((if j12 = 0 then some qm5 else if z_in (((5 : Int32) * (qm5.1 9 0 19)) + q4) 10 = true then (if (((qm5.1 125 0 (((5 : Int32) * (qm5.1 9 0 19)) + q4).toNatClampNeg) >>> (q1 &&& 31)) &&& (1 : Int32)) = (1 : Int32) then (f9_wrong (3 : Int32) (qm2.1 9 0 11) qm5).bind (fun qm18 => some qm18) else some qm5) else none) : Option (zMem)).bind (fun jm20 => (f9_must (4 : Int32) jm20).bind (fun qm21 => (if 0 < (qm21.1 9 0 13) then some qm21 else if z_in (qm21.1 9 0 19) 2 = true then z_let (z_sI qm21 129 0 (qm21.1 9 0 19).toNatClampNeg ((qm21.1 129 0 (qm21.1 9 0 19).toNatClampNeg) + (1 : Int32))) fun m25 => (if j12 = 0 then some m25 else if z_in (((5 : Int32) * (m25.1 9 0 19)) + q4) 10 = true then z_let (z_sI m25 125 0 (((5 : Int32) * (m25.1 9 0 19)) + q4).toNatClampNeg ((m25.1 125 0 (((5 : Int32) * (m25.1 9 0 19)) + q4).toNatClampNeg) ||| ((1 : Int32) <<< (q1 &&& 31)))) fun m29 => some m29 else none) else none))))))
theorem s9_tellRight {P : zP} {μ : zMem} {μ' : zMem} (h : f9_tellRight μ = some μ') : z_Sp P y_9_tellRight M_9_tellRight 5 [zA 9 0] μ none μ' := by
  refine z_Sp.of (plainFor_of_name (by decide)) rfl (l0 := [some (zA 9 0), none, none, none, none]) rfl (Nat.le_of_ble_eq_true rfl) ?_
  unfold f9_tellRight at h
  refine zr_aload_n (i := 0) d_9_tellRight_0 rfl rfl ?_
  refine zr_bipush (v := (10 : Int32)) d_9_tellRight_1 rfl ?_
  obtain ⟨⟨q1, qm2⟩, hq3, h⟩ := z_bd h
  replace h := z_h2 h
  refine zr_callVi (av := [zI (10 : Int32)]) (st := []) d_9_tellRight_3 mw_9_known ml_9_286 im_9_known se_9_known rfl rfl (Nat.le_of_ble_eq_true rfl) fit_4_4_5 rfl rfl rfl (s9_known hq3) ?_
  refine zr_istore_n (i := 1) (l' := [some (zA 9 0), some (zI q1), none, none, none]) d_9_tellRight_6 rfl (by decide) rfl ?_
  refine zr_aload_n (i := 0) d_9_tellRight_7 rfl rfl ?_
  refine zr_geti d_9_tellRight_8 fw_9_206 (by decide) ?_
  refine zr_istore_n (i := 2) (l' := [some (zA 9 0), some (zI q1), some (zI (qm2.1 9 0 11)), none, none]) d_9_tellRight_11 rfl (by decide) rfl ?_
  refine zr_aload_n (i := 0) d_9_tellRight_12 rfl rfl ?_
  refine zr_iconst (v := (0 : Int32)) d_9_tellRight_13 rfl ?_
  obtain ⟨⟨q4, qm5⟩, hq6, h⟩ := z_bd h
  replace h := z_h2 h
  refine zr_callVi (av := [zI (0 : Int32)]) (st := []) d_9_tellRight_14 mw_9_known ml_9_286 im_9_known se_9_known rfl rfl (Nat.le_of_ble_eq_true rfl) fit_4_4_5 rfl rfl rfl (s9_known hq6) ?_
  refine zr_istore_n (i := 3) (l' := [some (zA 9 0), some (zI q1), some (zI (qm2.1 9 0 11)), some (zI q4), none]) d_9_tellRight_17 rfl (by decide) rfl ?_
  refine zr_aload_n (i := 0) d_9_tellRight_18 rfl rfl ?_
  refine zr_geti d_9_tellRight_19 fw_9_203 (by decide) ?_
  obtain ⟨j12, hT7, h⟩ := z_bd h
  have hJ8 : z_RQ P M_9_tellRight (z_rm 5) (z_mq P none μ') 0 0 38 [some (zA 9 0), some (zI q1), some (zI (qm2.1 9 0 11)), some (zI q4), none] [zI j12] qm5 := by
    refine zr_istore (i := 4) (l' := [some (zA 9 0), some (zI q1), some (zI (qm2.1 9 0 11)), some (zI q4), some (zI j12)]) d_9_tellRight_38 (by decide) rfl ?_
    refine zr_iload d_9_tellRight_40 rfl ?_
    obtain ⟨jm20, hT13, h⟩ := z_bd h
    have hJ14 : z_RQ P M_9_tellRight (z_rm 5) (z_mq P none μ') 0 0 72 [some (zA 9 0), some (zI q1), none, some (zI q4), some (zI j12)] [] jm20 := by
      refine zr_aload_n (i := 0) d_9_tellRight_72 rfl rfl ?_
      refine zr_iconst (v := (4 : Int32)) d_9_tellRight_73 rfl ?_
      obtain ⟨qm21, hq22, h⟩ := z_bd h
      refine zr_callVv (av := [zI (4 : Int32)]) (st := []) d_9_tellRight_74 mw_9_must ml_9_277 im_9_must se_9_must rfl rfl (Nat.le_of_ble_eq_true rfl) fit_3_2_5 rfl rfl rfl (s9_must hq22) ?_
      refine zr_aload_n (i := 0) d_9_tellRight_77 rfl rfl ?_
      refine zr_geti d_9_tellRight_78 fw_9_203 (by decide) ?_
      refine zr_if_le (tgt := 85) d_9_tellRight_81 rfl (fun hc23 => ?_) (fun hc23 => ?_)
      · replace h := z_ip h hc23
        obtain rfl := Option.some.inj h
        exact ze_v d_9_tellRight_84 rfl
      · replace h := z_im h hc23
        refine zr_aload_n (i := 0) d_9_tellRight_85 rfl rfl ?_
        refine zr_gets (i' := 0) d_9_tellRight_86 fw_9_64 rfl ?_
        refine zr_aload_n (i := 0) d_9_tellRight_89 rfl rfl ?_
        refine zr_geti d_9_tellRight_90 fw_9_236 (by decide) ?_
        refine zr_dup2 d_9_tellRight_93 ?_
        obtain ⟨hb24, h⟩ := z_gd h
        refine zr_iald d_9_tellRight_94 sa_129 rfl hb24 ?_
        refine zr_iconst (v := (1 : Int32)) d_9_tellRight_95 rfl ?_
        refine zr_iadd d_9_tellRight_96 ?_
        obtain ⟨m25, hm26, h⟩ := z_lt h
        refine zr_iast d_9_tellRight_97 sa_129 rfl hb24 hm26 ?_
        refine zr_iload d_9_tellRight_98 rfl ?_
        refine zr_if_eq (tgt := 122) d_9_tellRight_100 rfl (fun hc27 => ?_) (fun hc27 => ?_)
        · replace h := z_ip h hc27
          obtain rfl := Option.some.inj h
          exact ze_v d_9_tellRight_122 rfl
        · replace h := z_im h hc27
          refine zr_aload_n (i := 0) d_9_tellRight_103 rfl rfl ?_
          refine zr_gets (i' := 0) d_9_tellRight_104 fw_9_52 rfl ?_
          refine zr_iconst (v := (5 : Int32)) d_9_tellRight_107 rfl ?_
          refine zr_aload_n (i := 0) d_9_tellRight_108 rfl rfl ?_
          refine zr_geti d_9_tellRight_109 fw_9_236 (by decide) ?_
          refine zr_imul d_9_tellRight_112 ?_
          refine zr_iload_n (i := 3) d_9_tellRight_113 rfl rfl ?_
          refine zr_iadd d_9_tellRight_114 ?_
          refine zr_dup2 d_9_tellRight_115 ?_
          obtain ⟨hb28, h⟩ := z_gd h
          refine zr_iald d_9_tellRight_116 sa_125 rfl hb28 ?_
          refine zr_iconst (v := (1 : Int32)) d_9_tellRight_117 rfl ?_
          refine zr_iload_n (i := 1) d_9_tellRight_118 rfl rfl ?_
          refine zr_ishl d_9_tellRight_119 ?_
          refine zr_ior d_9_tellRight_120 ?_
          obtain ⟨m29, hm30, h⟩ := z_lt h
          refine zr_iast d_9_tellRight_121 sa_125 rfl hb28 hm30 ?_
          obtain rfl := Option.some.inj h
          exact ze_v d_9_tellRight_122 rfl
    refine zr_if_eq (tgt := 72) d_9_tellRight_42 rfl (fun hc15 => ?_) (fun hc15 => ?_)
    · replace hT13 := z_ip hT13 hc15
      obtain rfl := Option.some.inj hT13
      exact zr_wk2 hJ14 ⟨rfl, ⟨rfl, ⟨rfl, ⟨rfl, trivial⟩⟩⟩⟩
    · replace hT13 := z_im hT13 hc15
      refine zr_aload_n (i := 0) d_9_tellRight_45 rfl rfl ?_
      refine zr_gets (i' := 0) d_9_tellRight_46 fw_9_52 rfl ?_
      refine zr_iconst (v := (5 : Int32)) d_9_tellRight_49 rfl ?_
      refine zr_aload_n (i := 0) d_9_tellRight_50 rfl rfl ?_
      refine zr_geti d_9_tellRight_51 fw_9_236 (by decide) ?_
      refine zr_imul d_9_tellRight_54 ?_
      refine zr_iload_n (i := 3) d_9_tellRight_55 rfl rfl ?_
      refine zr_iadd d_9_tellRight_56 ?_
      obtain ⟨hb16, hT13⟩ := z_gd hT13
      refine zr_iald d_9_tellRight_57 sa_125 rfl hb16 ?_
      refine zr_iload_n (i := 1) d_9_tellRight_58 rfl rfl ?_
      refine zr_ishr d_9_tellRight_59 ?_
      refine zr_iconst (v := (1 : Int32)) d_9_tellRight_60 rfl ?_
      refine zr_iand d_9_tellRight_61 ?_
      refine zr_iconst (v := (1 : Int32)) d_9_tellRight_62 rfl ?_
      refine zr_icmp_ne (tgt := 72) d_9_tellRight_63 rfl (fun hc17 => ?_) (fun hc17 => ?_)
      · replace hT13 := z_ip hT13 hc17
        refine zr_aload_n (i := 0) d_9_tellRight_66 rfl rfl ?_
        refine zr_iconst (v := (3 : Int32)) d_9_tellRight_67 rfl ?_
        refine zr_iload_n (i := 2) d_9_tellRight_68 rfl rfl ?_
        obtain ⟨qm18, hq19, hT13⟩ := z_bd hT13
        refine zr_callVv (av := [zI (3 : Int32), zI (qm2.1 9 0 11)]) (st := []) d_9_tellRight_69 mw_9_wrong ml_9_283 im_9_wrong se_9_wrong rfl rfl (Nat.le_of_ble_eq_true rfl) fit_1_4_5 rfl rfl rfl (s9_wrong hq19) ?_
        obtain rfl := Option.some.inj hT13
        exact zr_wk2 hJ14 ⟨rfl, ⟨rfl, ⟨rfl, ⟨rfl, trivial⟩⟩⟩⟩
      · replace hT13 := z_im hT13 hc17
        obtain rfl := Option.some.inj hT13
        exact zr_wk2 hJ14 ⟨rfl, ⟨rfl, ⟨rfl, ⟨rfl, trivial⟩⟩⟩⟩
  refine zr_if_ne (tgt := 37) d_9_tellRight_22 rfl (fun hc9 => ?_) (fun hc9 => ?_)
  · replace hT7 := z_ip hT7 hc9
    refine zr_iload_n (i := 1) d_9_tellRight_25 rfl rfl ?_
    refine zr_if_lt (tgt := 37) d_9_tellRight_26 rfl (fun hc10 => ?_) (fun hc10 => ?_)
    · replace hT7 := z_ip hT7 hc10
      refine zr_iconst (v := (0 : Int32)) d_9_tellRight_37 rfl ?_
      obtain rfl := Option.some.inj hT7
      exact zr_wk2 hJ8 ⟨rfl, ⟨rfl, ⟨rfl, ⟨rfl, trivial⟩⟩⟩⟩
    · replace hT7 := z_im hT7 hc10
      refine zr_iload_n (i := 3) d_9_tellRight_29 rfl rfl ?_
      refine zr_if_lt (tgt := 37) d_9_tellRight_30 rfl (fun hc11 => ?_) (fun hc11 => ?_)
      · replace hT7 := z_ip hT7 hc11
        refine zr_iconst (v := (0 : Int32)) d_9_tellRight_37 rfl ?_
        obtain rfl := Option.some.inj hT7
        exact zr_wk2 hJ8 ⟨rfl, ⟨rfl, ⟨rfl, ⟨rfl, trivial⟩⟩⟩⟩
      · replace hT7 := z_im hT7 hc11
        refine zr_iconst (v := (1 : Int32)) d_9_tellRight_33 rfl ?_
        refine zr_goto (tgt := 38) d_9_tellRight_34 rfl ?_
        obtain rfl := Option.some.inj hT7
        exact zr_wk2 hJ8 ⟨rfl, ⟨rfl, ⟨rfl, ⟨rfl, trivial⟩⟩⟩⟩
  · replace hT7 := z_im hT7 hc9
    refine zr_iconst (v := (0 : Int32)) d_9_tellRight_37 rfl ?_
    obtain rfl := Option.some.inj hT7
    exact zr_wk2 hJ8 ⟨rfl, ⟨rfl, ⟨rfl, ⟨rfl, trivial⟩⟩⟩⟩
def f9_tellAway  (μ : zMem) : Option (zMem) :=
  (f9_known (10 : Int32) μ).bind (z_u2 fun q1 qm2 => (f9_bounded (99 : Int32) qm2).bind (z_u2 fun q4 qm5 => (f9_must (4 : Int32) qm5).bind (fun qm7 => (if 0 < (qm7.1 9 0 13) then some qm7 else if z_in (qm7.1 9 0 19) 2 = true then z_let (z_sI qm7 130 0 (qm7.1 9 0 19).toNatClampNeg ((qm7.1 130 0 (qm7.1 9 0 19).toNatClampNeg) + (1 : Int32))) fun m11 => (if q1 < 0 then some m11 else if z_in (((7 : Int32) * (m11.1 9 0 19)) + q1) 14 = true then z_let (z_sI m11 128 0 (((7 : Int32) * (m11.1 9 0 19)) + q1).toNatClampNeg q4) fun m14 => some m14 else none) else none))))
theorem s9_tellAway {P : zP} {μ : zMem} {μ' : zMem} (h : f9_tellAway μ = some μ') : z_Sp P y_9_tellAway M_9_tellAway 5 [zA 9 0] μ none μ' := by
  refine z_Sp.of (plainFor_of_name (by decide)) rfl (l0 := [some (zA 9 0), none, none]) rfl (Nat.le_of_ble_eq_true rfl) ?_
  unfold f9_tellAway at h
  refine zr_aload_n (i := 0) d_9_tellAway_0 rfl rfl ?_
  refine zr_bipush (v := (10 : Int32)) d_9_tellAway_1 rfl ?_
  obtain ⟨⟨q1, qm2⟩, hq3, h⟩ := z_bd h
  replace h := z_h2 h
  refine zr_callVi (av := [zI (10 : Int32)]) (st := []) d_9_tellAway_3 mw_9_known ml_9_286 im_9_known se_9_known rfl rfl (Nat.le_of_ble_eq_true rfl) fit_4_4_5 rfl rfl rfl (s9_known hq3) ?_
  refine zr_istore_n (i := 1) (l' := [some (zA 9 0), some (zI q1), none]) d_9_tellAway_6 rfl (by decide) rfl ?_
  refine zr_aload_n (i := 0) d_9_tellAway_7 rfl rfl ?_
  refine zr_bipush (v := (99 : Int32)) d_9_tellAway_8 rfl ?_
  obtain ⟨⟨q4, qm5⟩, hq6, h⟩ := z_bd h
  replace h := z_h2 h
  refine zr_callVi (av := [zI (99 : Int32)]) (st := []) d_9_tellAway_10 mw_9_bounded ml_9_265 im_9_bounded se_9_bounded rfl rfl (Nat.le_of_ble_eq_true rfl) fit_3_3_5 rfl rfl rfl (s9_bounded hq6) ?_
  refine zr_istore_n (i := 2) (l' := [some (zA 9 0), some (zI q1), some (zI q4)]) d_9_tellAway_13 rfl (by decide) rfl ?_
  refine zr_aload_n (i := 0) d_9_tellAway_14 rfl rfl ?_
  refine zr_iconst (v := (4 : Int32)) d_9_tellAway_15 rfl ?_
  obtain ⟨qm7, hq8, h⟩ := z_bd h
  refine zr_callVv (av := [zI (4 : Int32)]) (st := []) d_9_tellAway_16 mw_9_must ml_9_277 im_9_must se_9_must rfl rfl (Nat.le_of_ble_eq_true rfl) fit_3_2_5 rfl rfl rfl (s9_must hq8) ?_
  refine zr_aload_n (i := 0) d_9_tellAway_19 rfl rfl ?_
  refine zr_geti d_9_tellAway_20 fw_9_203 (by decide) ?_
  refine zr_if_le (tgt := 27) d_9_tellAway_23 rfl (fun hc9 => ?_) (fun hc9 => ?_)
  · replace h := z_ip h hc9
    obtain rfl := Option.some.inj h
    exact ze_v d_9_tellAway_26 rfl
  · replace h := z_im h hc9
    refine zr_aload_n (i := 0) d_9_tellAway_27 rfl rfl ?_
    refine zr_gets (i' := 0) d_9_tellAway_28 fw_9_67 rfl ?_
    refine zr_aload_n (i := 0) d_9_tellAway_31 rfl rfl ?_
    refine zr_geti d_9_tellAway_32 fw_9_236 (by decide) ?_
    refine zr_dup2 d_9_tellAway_35 ?_
    obtain ⟨hb10, h⟩ := z_gd h
    refine zr_iald d_9_tellAway_36 sa_130 rfl hb10 ?_
    refine zr_iconst (v := (1 : Int32)) d_9_tellAway_37 rfl ?_
    refine zr_iadd d_9_tellAway_38 ?_
    obtain ⟨m11, hm12, h⟩ := z_lt h
    refine zr_iast d_9_tellAway_39 sa_130 rfl hb10 hm12 ?_
    refine zr_iload_n (i := 1) d_9_tellAway_40 rfl rfl ?_
    refine zr_if_lt (tgt := 59) d_9_tellAway_41 rfl (fun hc13 => ?_) (fun hc13 => ?_)
    · replace h := z_ip h hc13
      obtain rfl := Option.some.inj h
      exact ze_v d_9_tellAway_59 rfl
    · replace h := z_im h hc13
      refine zr_aload_n (i := 0) d_9_tellAway_44 rfl rfl ?_
      refine zr_gets (i' := 0) d_9_tellAway_45 fw_9_61 rfl ?_
      refine zr_bipush (v := (7 : Int32)) d_9_tellAway_48 rfl ?_
      refine zr_aload_n (i := 0) d_9_tellAway_50 rfl rfl ?_
      refine zr_geti d_9_tellAway_51 fw_9_236 (by decide) ?_
      refine zr_imul d_9_tellAway_54 ?_
      refine zr_iload_n (i := 1) d_9_tellAway_55 rfl rfl ?_
      refine zr_iadd d_9_tellAway_56 ?_
      refine zr_iload_n (i := 2) d_9_tellAway_57 rfl rfl ?_
      obtain ⟨hb16, h⟩ := z_gd h
      obtain ⟨m14, hm15, h⟩ := z_lt h
      refine zr_iast d_9_tellAway_58 sa_128 rfl hb16 hm15 ?_
      obtain rfl := Option.some.inj h
      exact ze_v d_9_tellAway_59 rfl
def f9_emit (a1 : Int32) (a2 : Int32) (μ : zMem) : Option (zMem) :=
  if z_in (μ.1 9 0 40) 840 = true then z_let (z_sI μ 141 0 (μ.1 9 0 40).toNatClampNeg a1) fun m1 => if z_in (m1.1 9 0 40) 840 = true then z_let (z_sI m1 142 0 (m1.1 9 0 40).toNatClampNeg a2) fun m4 => z_let (z_sI m4 9 0 40 ((m4.1 9 0 40) + (1 : Int32))) fun m7 => some m7 else none else none
theorem s9_emit {P : zP} {μ : zMem} {a1 : Int32} {a2 : Int32} {μ' : zMem} (h : f9_emit a1 a2 μ = some μ') : z_Sp P y_9_emit M_9_emit 1 [zA 9 0, zI a1, zI a2] μ none μ' := by
  refine z_Sp.of (plainFor_of_name (by decide)) rfl (l0 := [some (zA 9 0), some (zI a1), some (zI a2)]) rfl (Nat.le_of_ble_eq_true rfl) ?_
  unfold f9_emit at h
  refine zr_aload_n (i := 0) d_9_emit_0 rfl rfl ?_
  refine zr_gets (i' := 0) d_9_emit_1 fw_9_95 rfl ?_
  refine zr_aload_n (i := 0) d_9_emit_4 rfl rfl ?_
  refine zr_geti d_9_emit_5 fw_9_245 (by decide) ?_
  refine zr_iload_n (i := 1) d_9_emit_8 rfl rfl ?_
  obtain ⟨hb3, h⟩ := z_gd h
  obtain ⟨m1, hm2, h⟩ := z_lt h
  refine zr_iast d_9_emit_9 sa_141 rfl hb3 hm2 ?_
  refine zr_aload_n (i := 0) d_9_emit_10 rfl rfl ?_
  refine zr_gets (i' := 0) d_9_emit_11 fw_9_98 rfl ?_
  refine zr_aload_n (i := 0) d_9_emit_14 rfl rfl ?_
  refine zr_geti d_9_emit_15 fw_9_245 (by decide) ?_
  refine zr_iload_n (i := 2) d_9_emit_18 rfl rfl ?_
  obtain ⟨hb6, h⟩ := z_gd h
  obtain ⟨m4, hm5, h⟩ := z_lt h
  refine zr_iast d_9_emit_19 sa_142 rfl hb6 hm5 ?_
  refine zr_aload_n (i := 0) d_9_emit_20 rfl rfl ?_
  refine zr_dupa d_9_emit_21 ?_
  refine zr_geti d_9_emit_22 fw_9_245 (by decide) ?_
  refine zr_iconst (v := (1 : Int32)) d_9_emit_25 rfl ?_
  refine zr_iadd d_9_emit_26 ?_
  obtain ⟨m7, hm8, h⟩ := z_lt h
  refine zr_puti d_9_emit_27 fw_9_245 pw_9_40 hm8 ?_
  obtain rfl := Option.some.inj h
  exact ze_v d_9_emit_30 rfl
def f9_unit  (μ : zMem) : Option (zMem) :=
  (f9_is (2 : Int32) μ).bind (fun q1 => (if q1 = 0 then (if (μ.1 9 0 13) = 0 then if z_in (μ.1 9 0 11) 403 = true then (if (μ.1 105 0 (μ.1 9 0 11).toNatClampNeg) < (32 : Int32) then (f9_fail (1 : Int32) μ).bind (fun qm7 => some qm7) else (if (40 : Int32) < (μ.1 105 0 (μ.1 9 0 11).toNatClampNeg) then (f9_fail (1 : Int32) μ).bind (fun qm10 => some qm10) else (f9_emit (1 : Int32) ((μ.1 105 0 (μ.1 9 0 11).toNatClampNeg) - (32 : Int32)) μ).bind (fun qm12 => (f9_goesOn qm12).bind (fun qm14 => some qm14)))) else none else (f9_fail (1 : Int32) μ).bind (fun qm16 => some qm16)) else if z_in (μ.1 9 0 11) 403 = true then (f9_emit (0 : Int32) (μ.1 107 0 (μ.1 9 0 11).toNatClampNeg) μ).bind (fun qm19 => (f9_goesOn qm19).bind (fun qm21 => some qm21)) else none))
theorem s9_unit {P : zP} {μ : zMem} {μ' : zMem} (h : f9_unit μ = some μ') : z_Sp P y_9_unit M_9_unit 3 [zA 9 0] μ none μ' := by
  refine z_Sp.of (plainFor_of_name (by decide)) rfl (l0 := [some (zA 9 0)]) rfl (Nat.le_of_ble_eq_true rfl) ?_
  unfold f9_unit at h
  refine zr_aload_n (i := 0) d_9_unit_0 rfl rfl ?_
  refine zr_iconst (v := (2 : Int32)) d_9_unit_1 rfl ?_
  obtain ⟨q1, hq2, h⟩ := z_bd h
  refine zr_callVi (av := [zI (2 : Int32)]) (st := []) d_9_unit_2 mw_9_is ml_9_221 im_9_is se_9_is rfl rfl (Nat.le_of_ble_eq_true rfl) fit_1_2_3 rfl rfl rfl (s9_is hq2) ?_
  refine zr_if_eq (tgt := 29) d_9_unit_5 rfl (fun hc3 => ?_) (fun hc3 => ?_)
  · replace h := z_ip h hc3
    refine zr_aload_n (i := 0) d_9_unit_29 rfl rfl ?_
    refine zr_geti d_9_unit_30 fw_9_203 (by decide) ?_
    refine zr_if_ne (tgt := 88) d_9_unit_33 rfl (fun hc4 => ?_) (fun hc4 => ?_)
    · replace h := z_ip h hc4
      refine zr_aload_n (i := 0) d_9_unit_36 rfl rfl ?_
      refine zr_gets (i' := 0) d_9_unit_37 fw_9_20 rfl ?_
      refine zr_aload_n (i := 0) d_9_unit_40 rfl rfl ?_
      refine zr_geti d_9_unit_41 fw_9_206 (by decide) ?_
      obtain ⟨hb5, h⟩ := z_gd h
      refine zr_iald d_9_unit_44 sa_105 rfl hb5 ?_
      refine zr_bipush (v := (32 : Int32)) d_9_unit_45 rfl ?_
      refine zr_icmp_lt (tgt := 88) d_9_unit_47 rfl (fun hc6 => ?_) (fun hc6 => ?_)
      · replace h := z_ip h hc6
        refine zr_aload_n (i := 0) d_9_unit_88 rfl rfl ?_
        refine zr_iconst (v := (1 : Int32)) d_9_unit_89 rfl ?_
        obtain ⟨qm7, hq8, h⟩ := z_bd h
        refine zr_callVv (av := [zI (1 : Int32)]) (st := []) d_9_unit_90 mw_9_fail ml_9_218 im_9_fail se_9_fail rfl rfl (Nat.le_of_ble_eq_true rfl) fit_1_2_3 rfl rfl rfl (s9_fail hq8) ?_
        obtain rfl := Option.some.inj h
        exact ze_v d_9_unit_93 rfl
      · replace h := z_im h hc6
        refine zr_aload_n (i := 0) d_9_unit_50 rfl rfl ?_
        refine zr_gets (i' := 0) d_9_unit_51 fw_9_20 rfl ?_
        refine zr_aload_n (i := 0) d_9_unit_54 rfl rfl ?_
        refine zr_geti d_9_unit_55 fw_9_206 (by decide) ?_
        refine zr_iald d_9_unit_58 sa_105 rfl hb5 ?_
        refine zr_bipush (v := (40 : Int32)) d_9_unit_59 rfl ?_
        refine zr_icmp_gt (tgt := 88) d_9_unit_61 rfl (fun hc9 => ?_) (fun hc9 => ?_)
        · replace h := z_ip h hc9
          refine zr_aload_n (i := 0) d_9_unit_88 rfl rfl ?_
          refine zr_iconst (v := (1 : Int32)) d_9_unit_89 rfl ?_
          obtain ⟨qm10, hq11, h⟩ := z_bd h
          refine zr_callVv (av := [zI (1 : Int32)]) (st := []) d_9_unit_90 mw_9_fail ml_9_218 im_9_fail se_9_fail rfl rfl (Nat.le_of_ble_eq_true rfl) fit_1_2_3 rfl rfl rfl (s9_fail hq11) ?_
          obtain rfl := Option.some.inj h
          exact ze_v d_9_unit_93 rfl
        · replace h := z_im h hc9
          refine zr_aload_n (i := 0) d_9_unit_64 rfl rfl ?_
          refine zr_iconst (v := (1 : Int32)) d_9_unit_65 rfl ?_
          refine zr_aload_n (i := 0) d_9_unit_66 rfl rfl ?_
          refine zr_gets (i' := 0) d_9_unit_67 fw_9_20 rfl ?_
          refine zr_aload_n (i := 0) d_9_unit_70 rfl rfl ?_
          refine zr_geti d_9_unit_71 fw_9_206 (by decide) ?_
          refine zr_iald d_9_unit_74 sa_105 rfl hb5 ?_
          refine zr_bipush (v := (32 : Int32)) d_9_unit_75 rfl ?_
          refine zr_isub d_9_unit_77 ?_
          obtain ⟨qm12, hq13, h⟩ := z_bd h
          refine zr_callVv (av := [zI (1 : Int32), zI ((μ.1 105 0 (μ.1 9 0 11).toNatClampNeg) - (32 : Int32))]) (st := []) d_9_unit_78 mw_9_emit ml_9_298 im_9_emit se_9_emit rfl rfl (Nat.le_of_ble_eq_true rfl) fit_1_3_3 rfl rfl rfl (s9_emit hq13) ?_
          refine zr_aload_n (i := 0) d_9_unit_81 rfl rfl ?_
          obtain ⟨qm14, hq15, h⟩ := z_bd h
          refine zr_callVv (av := []) (st := []) d_9_unit_82 mw_9_goesOn ml_9_224 im_9_goesOn se_9_goesOn rfl rfl (Nat.le_of_ble_eq_true rfl) fit_2_1_3 rfl rfl rfl (s9_goesOn hq15) ?_
          refine zr_goto (tgt := 93) d_9_unit_85 rfl ?_
          obtain rfl := Option.some.inj h
          exact ze_v d_9_unit_93 rfl
    · replace h := z_im h hc4
      refine zr_aload_n (i := 0) d_9_unit_88 rfl rfl ?_
      refine zr_iconst (v := (1 : Int32)) d_9_unit_89 rfl ?_
      obtain ⟨qm16, hq17, h⟩ := z_bd h
      refine zr_callVv (av := [zI (1 : Int32)]) (st := []) d_9_unit_90 mw_9_fail ml_9_218 im_9_fail se_9_fail rfl rfl (Nat.le_of_ble_eq_true rfl) fit_1_2_3 rfl rfl rfl (s9_fail hq17) ?_
      obtain rfl := Option.some.inj h
      exact ze_v d_9_unit_93 rfl
  · replace h := z_im h hc3
    refine zr_aload_n (i := 0) d_9_unit_8 rfl rfl ?_
    refine zr_iconst (v := (0 : Int32)) d_9_unit_9 rfl ?_
    refine zr_aload_n (i := 0) d_9_unit_10 rfl rfl ?_
    refine zr_gets (i' := 0) d_9_unit_11 fw_9_27 rfl ?_
    refine zr_aload_n (i := 0) d_9_unit_14 rfl rfl ?_
    refine zr_geti d_9_unit_15 fw_9_206 (by decide) ?_
    obtain ⟨hb18, h⟩ := z_gd h
    refine zr_iald d_9_unit_18 sa_107 rfl hb18 ?_
    obtain ⟨qm19, hq20, h⟩ := z_bd h
    refine zr_callVv (av := [zI (0 : Int32), zI (μ.1 107 0 (μ.1 9 0 11).toNatClampNeg)]) (st := []) d_9_unit_19 mw_9_emit ml_9_298 im_9_emit se_9_emit rfl rfl (Nat.le_of_ble_eq_true rfl) fit_1_3_3 rfl rfl rfl (s9_emit hq20) ?_
    refine zr_aload_n (i := 0) d_9_unit_22 rfl rfl ?_
    obtain ⟨qm21, hq22, h⟩ := z_bd h
    refine zr_callVv (av := []) (st := []) d_9_unit_23 mw_9_goesOn ml_9_224 im_9_goesOn se_9_goesOn rfl rfl (Nat.le_of_ble_eq_true rfl) fit_2_1_3 rfl rfl rfl (s9_goesOn hq22) ?_
    refine zr_goto (tgt := 93) d_9_unit_26 rfl ?_
    obtain rfl := Option.some.inj h
    exact ze_v d_9_unit_93 rfl
def f9_comesOut_L1 (a1 : Int32) : (zMem) → Option ((zMem) ⊕ ((zMem) ⊕ (zMem))) := (fun xm2 => 
  (if 0 < (xm2.1 9 0 44) then if z_in ((xm2.1 9 0 44) - (1 : Int32)) 64 = true then z_let (xm2.1 143 0 ((xm2.1 9 0 44) - (1 : Int32)).toNatClampNeg) fun v5 => (if v5 = (6 : Int32) then some (.inr (.inr xm2)) else (if a1 = 0 then z_let (z_sI xm2 9 0 44 ((xm2.1 9 0 44) - (1 : Int32))) fun m9 => ((if v5 = (8 : Int32) then some (2 : Int32) else (if v5 = (9 : Int32) then some (3 : Int32) else (if v5 = (10 : Int32) then some (4 : Int32) else some (5 : Int32)))) : Option (Int32)).bind (fun j16 => (f9_emit j16 (0 : Int32) m9).bind (fun qm17 => some (.inl qm17))) else (if v5 = (8 : Int32) then some (.inr (.inr xm2)) else (if v5 = (9 : Int32) then some (.inr (.inr xm2)) else z_let (z_sI xm2 9 0 44 ((xm2.1 9 0 44) - (1 : Int32))) fun m21 => ((if v5 = (8 : Int32) then some (2 : Int32) else (if v5 = (9 : Int32) then some (3 : Int32) else (if v5 = (10 : Int32) then some (4 : Int32) else some (5 : Int32)))) : Option (Int32)).bind (fun j28 => (f9_emit j28 (0 : Int32) m21).bind (fun qm29 => some (.inl qm29))))))) else none else some (.inr (.inl xm2))))
def f9_comesOut (a1 : Int32) (μ : zMem) : Option (zMem) :=
  (z_it (f9_comesOut_L1 a1) z_fu μ).bind (Sum.elim (fun e31 => some e31) (fun qr33 => some qr33))
theorem s9_comesOut_L1 {P : zP} {ro : Option zV} {μo : zMem} (a1 : Int32) (xm2 : zMem) (K : (zMem) ⊕ ((zMem) ⊕ (zMem))) (h : f9_comesOut_L1 a1 xm2 = some K) (hI : ∀ (y0 : zMem), K = .inl y0 → z_RQ P M_9_comesOut (z_rm 2) (z_mq P ro μo) 0 0 0 [some (zA 9 0), some (zI a1), none] [] y0) (hE : ∀ (z0 : zMem), K = .inr (.inl z0) → z_RQ P M_9_comesOut (z_rm 2) (z_mq P ro μo) 0 0 91 [none, none, none] [] z0) (hR : ∀ (qm : zMem), K = .inr (.inr qm) → ro = none ∧ μo = qm) : z_RQ P M_9_comesOut (z_rm 2) (z_mq P ro μo) 0 0 0 [some (zA 9 0), some (zI a1), none] [] xm2 := by
  unfold f9_comesOut_L1 at h
  refine zr_aload_n (i := 0) d_9_comesOut_0 rfl rfl ?_
  refine zr_geti d_9_comesOut_1 fw_9_295 (by decide) ?_
  refine zr_if_le (tgt := 91) d_9_comesOut_4 rfl (fun hc3 => ?_) (fun hc3 => ?_)
  · replace h := z_ip h hc3
    refine zr_aload_n (i := 0) d_9_comesOut_7 rfl rfl ?_
    refine zr_gets (i' := 0) d_9_comesOut_8 fw_9_101 rfl ?_
    refine zr_aload_n (i := 0) d_9_comesOut_11 rfl rfl ?_
    refine zr_geti d_9_comesOut_12 fw_9_295 (by decide) ?_
    refine zr_iconst (v := (1 : Int32)) d_9_comesOut_15 rfl ?_
    refine zr_isub d_9_comesOut_16 ?_
    obtain ⟨hb4, h⟩ := z_gd h
    refine zr_iald d_9_comesOut_17 sa_143 rfl hb4 ?_
    obtain ⟨v5, hv6, h⟩ := z_lt h
    refine zr_nm hv6 ?_
    refine zr_istore_n (i := 2) (l' := [some (zA 9 0), some (zI a1), some (zI v5)]) d_9_comesOut_18 rfl (by decide) rfl ?_
    refine zr_iload_n (i := 2) d_9_comesOut_19 rfl rfl ?_
    refine zr_bipush (v := (6 : Int32)) d_9_comesOut_20 rfl ?_
    refine zr_icmp_eq (tgt := 41) d_9_comesOut_22 rfl (fun hc7 => ?_) (fun hc7 => ?_)
    · replace h := z_ip h hc7
      obtain rfl := Option.some.inj h
      obtain ⟨rfl, rfl⟩ := hR xm2 rfl
      exact ze_v d_9_comesOut_41 rfl
    · replace h := z_im h hc7
      refine zr_iload_n (i := 1) d_9_comesOut_25 rfl rfl ?_
      refine zr_if_eq (tgt := 42) d_9_comesOut_26 rfl (fun hc8 => ?_) (fun hc8 => ?_)
      · replace h := z_ip h hc8
        refine zr_aload_n (i := 0) d_9_comesOut_42 rfl rfl ?_
        refine zr_dupa d_9_comesOut_43 ?_
        refine zr_geti d_9_comesOut_44 fw_9_295 (by decide) ?_
        refine zr_iconst (v := (1 : Int32)) d_9_comesOut_47 rfl ?_
        refine zr_isub d_9_comesOut_48 ?_
        obtain ⟨m9, hm10, h⟩ := z_lt h
        refine zr_puti d_9_comesOut_49 fw_9_295 pw_9_44 hm10 ?_
        refine zr_aload_n (i := 0) d_9_comesOut_52 rfl rfl ?_
        refine zr_iload_n (i := 2) d_9_comesOut_53 rfl rfl ?_
        refine zr_bipush (v := (8 : Int32)) d_9_comesOut_54 rfl ?_
        obtain ⟨j16, hT11, h⟩ := z_bd h
        have hJ12 : z_RQ P M_9_comesOut (z_rm 2) (z_mq P ro μo) 0 0 84 [some (zA 9 0), some (zI a1), none] [zI j16, zA 9 0] m9 := by
          refine zr_iconst (v := (0 : Int32)) d_9_comesOut_84 rfl ?_
          obtain ⟨qm17, hq18, h⟩ := z_bd h
          refine zr_callVv (av := [zI j16, zI (0 : Int32)]) (st := []) d_9_comesOut_85 mw_9_emit ml_9_298 im_9_emit se_9_emit rfl rfl (Nat.le_of_ble_eq_true rfl) fit_1_3_2 rfl rfl rfl (s9_emit hq18) ?_
          refine zr_goto (tgt := 0) d_9_comesOut_88 rfl ?_
          obtain rfl := Option.some.inj h
          exact zr_wk2 (hI qm17 rfl) ⟨rfl, ⟨rfl, trivial⟩⟩
        refine zr_icmp_ne (tgt := 63) d_9_comesOut_56 rfl (fun hc13 => ?_) (fun hc13 => ?_)
        · replace hT11 := z_ip hT11 hc13
          refine zr_iconst (v := (2 : Int32)) d_9_comesOut_59 rfl ?_
          refine zr_goto (tgt := 84) d_9_comesOut_60 rfl ?_
          obtain rfl := Option.some.inj hT11
          exact zr_wk2 hJ12 ⟨rfl, ⟨rfl, trivial⟩⟩
        · replace hT11 := z_im hT11 hc13
          refine zr_iload_n (i := 2) d_9_comesOut_63 rfl rfl ?_
          refine zr_bipush (v := (9 : Int32)) d_9_comesOut_64 rfl ?_
          refine zr_icmp_ne (tgt := 73) d_9_comesOut_66 rfl (fun hc14 => ?_) (fun hc14 => ?_)
          · replace hT11 := z_ip hT11 hc14
            refine zr_iconst (v := (3 : Int32)) d_9_comesOut_69 rfl ?_
            refine zr_goto (tgt := 84) d_9_comesOut_70 rfl ?_
            obtain rfl := Option.some.inj hT11
            exact zr_wk2 hJ12 ⟨rfl, ⟨rfl, trivial⟩⟩
          · replace hT11 := z_im hT11 hc14
            refine zr_iload_n (i := 2) d_9_comesOut_73 rfl rfl ?_
            refine zr_bipush (v := (10 : Int32)) d_9_comesOut_74 rfl ?_
            refine zr_icmp_ne (tgt := 83) d_9_comesOut_76 rfl (fun hc15 => ?_) (fun hc15 => ?_)
            · replace hT11 := z_ip hT11 hc15
              refine zr_iconst (v := (4 : Int32)) d_9_comesOut_79 rfl ?_
              refine zr_goto (tgt := 84) d_9_comesOut_80 rfl ?_
              obtain rfl := Option.some.inj hT11
              exact zr_wk2 hJ12 ⟨rfl, ⟨rfl, trivial⟩⟩
            · replace hT11 := z_im hT11 hc15
              refine zr_iconst (v := (5 : Int32)) d_9_comesOut_83 rfl ?_
              obtain rfl := Option.some.inj hT11
              exact zr_wk2 hJ12 ⟨rfl, ⟨rfl, trivial⟩⟩
      · replace h := z_im h hc8
        refine zr_iload_n (i := 2) d_9_comesOut_29 rfl rfl ?_
        refine zr_bipush (v := (8 : Int32)) d_9_comesOut_30 rfl ?_
        refine zr_icmp_eq (tgt := 41) d_9_comesOut_32 rfl (fun hc19 => ?_) (fun hc19 => ?_)
        · replace h := z_ip h hc19
          obtain rfl := Option.some.inj h
          obtain ⟨rfl, rfl⟩ := hR xm2 rfl
          exact ze_v d_9_comesOut_41 rfl
        · replace h := z_im h hc19
          refine zr_iload_n (i := 2) d_9_comesOut_35 rfl rfl ?_
          refine zr_bipush (v := (9 : Int32)) d_9_comesOut_36 rfl ?_
          refine zr_icmp_ne (tgt := 42) d_9_comesOut_38 rfl (fun hc20 => ?_) (fun hc20 => ?_)
          · replace h := z_ip h hc20
            obtain rfl := Option.some.inj h
            obtain ⟨rfl, rfl⟩ := hR xm2 rfl
            exact ze_v d_9_comesOut_41 rfl
          · replace h := z_im h hc20
            refine zr_aload_n (i := 0) d_9_comesOut_42 rfl rfl ?_
            refine zr_dupa d_9_comesOut_43 ?_
            refine zr_geti d_9_comesOut_44 fw_9_295 (by decide) ?_
            refine zr_iconst (v := (1 : Int32)) d_9_comesOut_47 rfl ?_
            refine zr_isub d_9_comesOut_48 ?_
            obtain ⟨m21, hm22, h⟩ := z_lt h
            refine zr_puti d_9_comesOut_49 fw_9_295 pw_9_44 hm22 ?_
            refine zr_aload_n (i := 0) d_9_comesOut_52 rfl rfl ?_
            refine zr_iload_n (i := 2) d_9_comesOut_53 rfl rfl ?_
            refine zr_bipush (v := (8 : Int32)) d_9_comesOut_54 rfl ?_
            obtain ⟨j28, hT23, h⟩ := z_bd h
            have hJ24 : z_RQ P M_9_comesOut (z_rm 2) (z_mq P ro μo) 0 0 84 [some (zA 9 0), some (zI a1), none] [zI j28, zA 9 0] m21 := by
              refine zr_iconst (v := (0 : Int32)) d_9_comesOut_84 rfl ?_
              obtain ⟨qm29, hq30, h⟩ := z_bd h
              refine zr_callVv (av := [zI j28, zI (0 : Int32)]) (st := []) d_9_comesOut_85 mw_9_emit ml_9_298 im_9_emit se_9_emit rfl rfl (Nat.le_of_ble_eq_true rfl) fit_1_3_2 rfl rfl rfl (s9_emit hq30) ?_
              refine zr_goto (tgt := 0) d_9_comesOut_88 rfl ?_
              obtain rfl := Option.some.inj h
              exact zr_wk2 (hI qm29 rfl) ⟨rfl, ⟨rfl, trivial⟩⟩
            refine zr_icmp_ne (tgt := 63) d_9_comesOut_56 rfl (fun hc25 => ?_) (fun hc25 => ?_)
            · replace hT23 := z_ip hT23 hc25
              refine zr_iconst (v := (2 : Int32)) d_9_comesOut_59 rfl ?_
              refine zr_goto (tgt := 84) d_9_comesOut_60 rfl ?_
              obtain rfl := Option.some.inj hT23
              exact zr_wk2 hJ24 ⟨rfl, ⟨rfl, trivial⟩⟩
            · replace hT23 := z_im hT23 hc25
              refine zr_iload_n (i := 2) d_9_comesOut_63 rfl rfl ?_
              refine zr_bipush (v := (9 : Int32)) d_9_comesOut_64 rfl ?_
              refine zr_icmp_ne (tgt := 73) d_9_comesOut_66 rfl (fun hc26 => ?_) (fun hc26 => ?_)
              · replace hT23 := z_ip hT23 hc26
                refine zr_iconst (v := (3 : Int32)) d_9_comesOut_69 rfl ?_
                refine zr_goto (tgt := 84) d_9_comesOut_70 rfl ?_
                obtain rfl := Option.some.inj hT23
                exact zr_wk2 hJ24 ⟨rfl, ⟨rfl, trivial⟩⟩
              · replace hT23 := z_im hT23 hc26
                refine zr_iload_n (i := 2) d_9_comesOut_73 rfl rfl ?_
                refine zr_bipush (v := (10 : Int32)) d_9_comesOut_74 rfl ?_
                refine zr_icmp_ne (tgt := 83) d_9_comesOut_76 rfl (fun hc27 => ?_) (fun hc27 => ?_)
                · replace hT23 := z_ip hT23 hc27
                  refine zr_iconst (v := (4 : Int32)) d_9_comesOut_79 rfl ?_
                  refine zr_goto (tgt := 84) d_9_comesOut_80 rfl ?_
                  obtain rfl := Option.some.inj hT23
                  exact zr_wk2 hJ24 ⟨rfl, ⟨rfl, trivial⟩⟩
                · replace hT23 := z_im hT23 hc27
                  refine zr_iconst (v := (5 : Int32)) d_9_comesOut_83 rfl ?_
                  obtain rfl := Option.some.inj hT23
                  exact zr_wk2 hJ24 ⟨rfl, ⟨rfl, trivial⟩⟩
  · replace h := z_im h hc3
    obtain rfl := Option.some.inj h
    exact zr_wk2 (hE xm2 rfl) trivial
theorem s9_comesOut {P : zP} {μ : zMem} {a1 : Int32} {μ' : zMem} (h : f9_comesOut a1 μ = some μ') : z_Sp P y_9_comesOut M_9_comesOut 2 [zA 9 0, zI a1] μ none μ' := by
  refine z_Sp.of (plainFor_of_name (by decide)) rfl (l0 := [some (zA 9 0), some (zI a1), none]) rfl (Nat.le_of_ble_eq_true rfl) ?_
  unfold f9_comesOut at h
  rcases z_bs h with ⟨e31, hl32, h⟩ | ⟨qr33, hl32, h⟩
  · refine zr_wk (l' := [some (zA 9 0), some (zI a1), none]) ⟨rfl, ⟨rfl, trivial⟩⟩ ?_
    refine z_loop (Hd := (fun y0 => z_RQ P M_9_comesOut (z_rm 2) (z_mq P none μ') 0 0 0 [some (zA 9 0), some (zI a1), none] [] y0)) (Ex := (Sum.elim (fun z0 => z_RQ P M_9_comesOut (z_rm 2) (z_mq P none μ') 0 0 91 [none, none, none] [] z0) (fun qm => none = none ∧ μ' = qm))) (fun xm2 K h hI hE => s9_comesOut_L1 a1 xm2 K h (fun y0 e => hI y0 e) (fun z0 e => hE (.inl z0) e) (fun qm e => hE (.inr qm) e)) _ _ _ hl32 ?_
    obtain rfl := Option.some.inj h
    exact ze_v d_9_comesOut_91 rfl
  · refine zr_wk (l' := [some (zA 9 0), some (zI a1), none]) ⟨rfl, ⟨rfl, trivial⟩⟩ ?_
    refine z_loop (Hd := (fun y0 => z_RQ P M_9_comesOut (z_rm 2) (z_mq P none μ') 0 0 0 [some (zA 9 0), some (zI a1), none] [] y0)) (Ex := (Sum.elim (fun z0 => z_RQ P M_9_comesOut (z_rm 2) (z_mq P none μ') 0 0 91 [none, none, none] [] z0) (fun qm => none = none ∧ μ' = qm))) (fun xm2 K h hI hE => s9_comesOut_L1 a1 xm2 K h (fun y0 e => hI y0 e) (fun z0 e => hE (.inl z0) e) (fun qm e => hE (.inr qm) e)) _ _ _ hl32 ?_
    obtain rfl := Option.some.inj h
    exact ⟨rfl, rfl⟩
def f9_expression_L8  : (zMem) → Option ((zMem) ⊕ (zMem)) := (fun xm9 => 
  (f9_is (6 : Int32) xm9).bind (fun q10 => (if q10 = 0 then some (.inr xm9) else ((if (xm9.1 9 0 12) = (6 : Int32) then (f9_fail (2 : Int32) xm9).bind (fun qm16 => some qm16) else some xm9) : Option (zMem)).bind (fun jm18 => z_let (z_sI jm18 9 0 12 ((jm18.1 9 0 12) + (1 : Int32))) fun m19 => (f9_goesOn m19).bind (fun qm21 => if z_in (qm21.1 9 0 44) 64 = true then z_let (z_sI qm21 143 0 (qm21.1 9 0 44).toNatClampNeg (6 : Int32)) fun m23 => z_let (z_sI m23 9 0 44 ((m23.1 9 0 44) + (1 : Int32))) fun m26 => some (.inl m26) else none)))))
def f9_expression_L33 (m1 : zMem) : (zMem) → Option ((zMem) ⊕ (zMem)) := (fun xm34 => 
  (f9_is (7 : Int32) xm34).bind (fun q35 => (if q35 = 0 then some (.inr xm34) else (if (m1.1 9 0 12) < (xm34.1 9 0 12) then (f9_comesOut (0 : Int32) xm34).bind (fun qm39 => z_let (z_sI qm39 9 0 44 ((qm39.1 9 0 44) - (1 : Int32))) fun m41 => z_let (z_sI m41 9 0 12 ((m41.1 9 0 12) - (1 : Int32))) fun m43 => (f9_goesOn m43).bind (fun qm45 => some (.inl qm45))) else some (.inr xm34)))))
def f9_expression_L3 (m1 : zMem) : (Int32 × zMem) → Option ((Int32 × zMem) ⊕ ((zMem) ⊕ (zMem))) := (z_u2 fun x4 xm5 => 
  (if x4 = 0 then some (.inr (.inl xm5)) else (if (xm5.1 9 0 13) = 0 then (z_it (f9_expression_L8) z_fu xm5).bind (fun e28 => (f9_unit e28).bind (fun qm30 => (if 0 < (qm30.1 9 0 13) then some (.inr (.inr qm30)) else (z_it (f9_expression_L33 m1) z_fu qm30).bind (fun e47 => (f9_is (8 : Int32) e47).bind (fun q49 => ((if q49 = 0 then (f9_is (9 : Int32) e47).bind (fun q54 => (if q54 = 0 then (f9_is (10 : Int32) e47).bind (fun q57 => (if q57 = 0 then (f9_is (15 : Int32) e47).bind (fun q60 => (if q60 = 0 then some (0 : Int32) else some (1 : Int32))) else some (1 : Int32))) else some (1 : Int32))) else some (1 : Int32)) : Option (Int32)).bind (fun j63 => (if j63 = 0 then ((if (m1.1 9 0 12) < (e47.1 9 0 12) then (f9_fail (1 : Int32) e47).bind (fun qm68 => some qm68) else some e47) : Option (zMem)).bind (fun jm70 => (f9_comesOut (0 : Int32) jm70).bind (fun qm71 => some (.inr (.inr qm71)))) else (f9_is (10 : Int32) e47).bind (fun q73 => ((if q73 = 0 then (f9_is (15 : Int32) e47).bind (fun q78 => (if q78 = 0 then some (0 : Int32) else some (1 : Int32))) else some (1 : Int32)) : Option (Int32)).bind (fun j81 => (f9_comesOut j81 e47).bind (fun qm82 => if z_in (qm82.1 9 0 11) 403 = true then if z_in (qm82.1 9 0 44) 64 = true then z_let (z_sI qm82 143 0 (qm82.1 9 0 44).toNatClampNeg (qm82.1 105 0 (qm82.1 9 0 11).toNatClampNeg)) fun m85 => z_let (z_sI m85 9 0 44 ((m85.1 9 0 44) + (1 : Int32))) fun m88 => (f9_goesOn m88).bind (fun qm90 => some (.inl (j63, qm90))) else none else none)))))))))) else some (.inr (.inl xm5)))))
def f9_expression  (μ : zMem) : Option (zMem) :=
  z_let (z_sI μ 9 0 44 (0 : Int32)) fun m1 => (z_it (f9_expression_L3 m1) z_fu ((1 : Int32), m1)).bind (Sum.elim (fun e92 => some e92) (fun qr94 => some qr94))
theorem s9_expression_L8 {P : zP} {ro : Option zV} {μo : zMem} (m1 : zMem) (xm9 : zMem) (K : (zMem) ⊕ (zMem)) (h : f9_expression_L8  xm9 = some K) (hI : ∀ (y0 : zMem), K = .inl y0 → z_RQ P M_9_expression (z_rm 4) (z_mq P ro μo) 0 0 23 [some (zA 9 0), some (zI (m1.1 9 0 12)), none] [] y0) (hE : ∀ (z0 : zMem), K = .inr z0 → z_RQ P M_9_expression (z_rm 4) (z_mq P ro μo) 0 0 84 [some (zA 9 0), some (zI (m1.1 9 0 12)), none] [] z0)  : z_RQ P M_9_expression (z_rm 4) (z_mq P ro μo) 0 0 23 [some (zA 9 0), some (zI (m1.1 9 0 12)), none] [] xm9 := by
  unfold f9_expression_L8 at h
  refine zr_aload_n (i := 0) d_9_expression_23 rfl rfl ?_
  refine zr_bipush (v := (6 : Int32)) d_9_expression_24 rfl ?_
  obtain ⟨q10, hq11, h⟩ := z_bd h
  refine zr_callVi (av := [zI (6 : Int32)]) (st := []) d_9_expression_26 mw_9_is ml_9_221 im_9_is se_9_is rfl rfl (Nat.le_of_ble_eq_true rfl) fit_1_2_4 rfl rfl rfl (s9_is hq11) ?_
  refine zr_if_eq (tgt := 84) d_9_expression_29 rfl (fun hc12 => ?_) (fun hc12 => ?_)
  · replace h := z_ip h hc12
    obtain rfl := Option.some.inj h
    exact zr_wk2 (hE xm9 rfl) ⟨rfl, ⟨rfl, trivial⟩⟩
  · replace h := z_im h hc12
    refine zr_aload_n (i := 0) d_9_expression_32 rfl rfl ?_
    refine zr_geti d_9_expression_33 fw_9_230 (by decide) ?_
    refine zr_bipush (v := (6 : Int32)) d_9_expression_36 rfl ?_
    obtain ⟨jm18, hT13, h⟩ := z_bd h
    have hJ14 : z_RQ P M_9_expression (z_rm 4) (z_mq P ro μo) 0 0 46 [some (zA 9 0), some (zI (m1.1 9 0 12)), none] [] jm18 := by
      refine zr_aload_n (i := 0) d_9_expression_46 rfl rfl ?_
      refine zr_dupa d_9_expression_47 ?_
      refine zr_geti d_9_expression_48 fw_9_230 (by decide) ?_
      refine zr_iconst (v := (1 : Int32)) d_9_expression_51 rfl ?_
      refine zr_iadd d_9_expression_52 ?_
      obtain ⟨m19, hm20, h⟩ := z_lt h
      refine zr_puti d_9_expression_53 fw_9_230 pw_9_12 hm20 ?_
      refine zr_aload_n (i := 0) d_9_expression_56 rfl rfl ?_
      obtain ⟨qm21, hq22, h⟩ := z_bd h
      refine zr_callVv (av := []) (st := []) d_9_expression_57 mw_9_goesOn ml_9_224 im_9_goesOn se_9_goesOn rfl rfl (Nat.le_of_ble_eq_true rfl) fit_2_1_4 rfl rfl rfl (s9_goesOn hq22) ?_
      refine zr_aload_n (i := 0) d_9_expression_60 rfl rfl ?_
      refine zr_gets (i' := 0) d_9_expression_61 fw_9_101 rfl ?_
      refine zr_aload_n (i := 0) d_9_expression_64 rfl rfl ?_
      refine zr_geti d_9_expression_65 fw_9_295 (by decide) ?_
      refine zr_bipush (v := (6 : Int32)) d_9_expression_68 rfl ?_
      obtain ⟨hb25, h⟩ := z_gd h
      obtain ⟨m23, hm24, h⟩ := z_lt h
      refine zr_iast d_9_expression_70 sa_143 rfl hb25 hm24 ?_
      refine zr_aload_n (i := 0) d_9_expression_71 rfl rfl ?_
      refine zr_dupa d_9_expression_72 ?_
      refine zr_geti d_9_expression_73 fw_9_295 (by decide) ?_
      refine zr_iconst (v := (1 : Int32)) d_9_expression_76 rfl ?_
      refine zr_iadd d_9_expression_77 ?_
      obtain ⟨m26, hm27, h⟩ := z_lt h
      refine zr_puti d_9_expression_78 fw_9_295 pw_9_44 hm27 ?_
      refine zr_goto (tgt := 23) d_9_expression_81 rfl ?_
      obtain rfl := Option.some.inj h
      exact zr_wk2 (hI m26 rfl) ⟨rfl, ⟨rfl, trivial⟩⟩
    refine zr_icmp_ne (tgt := 46) d_9_expression_38 rfl (fun hc15 => ?_) (fun hc15 => ?_)
    · replace hT13 := z_ip hT13 hc15
      refine zr_aload_n (i := 0) d_9_expression_41 rfl rfl ?_
      refine zr_iconst (v := (2 : Int32)) d_9_expression_42 rfl ?_
      obtain ⟨qm16, hq17, hT13⟩ := z_bd hT13
      refine zr_callVv (av := [zI (2 : Int32)]) (st := []) d_9_expression_43 mw_9_fail ml_9_218 im_9_fail se_9_fail rfl rfl (Nat.le_of_ble_eq_true rfl) fit_1_2_4 rfl rfl rfl (s9_fail hq17) ?_
      obtain rfl := Option.some.inj hT13
      exact zr_wk2 hJ14 ⟨rfl, ⟨rfl, trivial⟩⟩
    · replace hT13 := z_im hT13 hc15
      obtain rfl := Option.some.inj hT13
      exact zr_wk2 hJ14 ⟨rfl, ⟨rfl, trivial⟩⟩
theorem s9_expression_L33 {P : zP} {ro : Option zV} {μo : zMem} (m1 : zMem) (xm34 : zMem) (K : (zMem) ⊕ (zMem)) (h : f9_expression_L33 m1 xm34 = some K) (hI : ∀ (y0 : zMem), K = .inl y0 → z_RQ P M_9_expression (z_rm 4) (z_mq P ro μo) 0 0 96 [some (zA 9 0), some (zI (m1.1 9 0 12)), none] [] y0) (hE : ∀ (z0 : zMem), K = .inr z0 → z_RQ P M_9_expression (z_rm 4) (z_mq P ro μo) 0 0 145 [some (zA 9 0), some (zI (m1.1 9 0 12)), none] [] z0)  : z_RQ P M_9_expression (z_rm 4) (z_mq P ro μo) 0 0 96 [some (zA 9 0), some (zI (m1.1 9 0 12)), none] [] xm34 := by
  unfold f9_expression_L33 at h
  refine zr_aload_n (i := 0) d_9_expression_96 rfl rfl ?_
  refine zr_bipush (v := (7 : Int32)) d_9_expression_97 rfl ?_
  obtain ⟨q35, hq36, h⟩ := z_bd h
  refine zr_callVi (av := [zI (7 : Int32)]) (st := []) d_9_expression_99 mw_9_is ml_9_221 im_9_is se_9_is rfl rfl (Nat.le_of_ble_eq_true rfl) fit_1_2_4 rfl rfl rfl (s9_is hq36) ?_
  refine zr_if_eq (tgt := 145) d_9_expression_102 rfl (fun hc37 => ?_) (fun hc37 => ?_)
  · replace h := z_ip h hc37
    obtain rfl := Option.some.inj h
    exact zr_wk2 (hE xm34 rfl) ⟨rfl, ⟨rfl, trivial⟩⟩
  · replace h := z_im h hc37
    refine zr_aload_n (i := 0) d_9_expression_105 rfl rfl ?_
    refine zr_geti d_9_expression_106 fw_9_230 (by decide) ?_
    refine zr_iload_n (i := 1) d_9_expression_109 rfl rfl ?_
    refine zr_icmp_le (tgt := 145) d_9_expression_110 rfl (fun hc38 => ?_) (fun hc38 => ?_)
    · replace h := z_ip h hc38
      refine zr_aload_n (i := 0) d_9_expression_113 rfl rfl ?_
      refine zr_iconst (v := (0 : Int32)) d_9_expression_114 rfl ?_
      obtain ⟨qm39, hq40, h⟩ := z_bd h
      refine zr_callVv (av := [zI (0 : Int32)]) (st := []) d_9_expression_115 mw_9_comesOut ml_9_304 im_9_comesOut se_9_comesOut rfl rfl (Nat.le_of_ble_eq_true rfl) fit_2_3_4 rfl rfl rfl (s9_comesOut hq40) ?_
      refine zr_aload_n (i := 0) d_9_expression_118 rfl rfl ?_
      refine zr_dupa d_9_expression_119 ?_
      refine zr_geti d_9_expression_120 fw_9_295 (by decide) ?_
      refine zr_iconst (v := (1 : Int32)) d_9_expression_123 rfl ?_
      refine zr_isub d_9_expression_124 ?_
      obtain ⟨m41, hm42, h⟩ := z_lt h
      refine zr_puti d_9_expression_125 fw_9_295 pw_9_44 hm42 ?_
      refine zr_aload_n (i := 0) d_9_expression_128 rfl rfl ?_
      refine zr_dupa d_9_expression_129 ?_
      refine zr_geti d_9_expression_130 fw_9_230 (by decide) ?_
      refine zr_iconst (v := (1 : Int32)) d_9_expression_133 rfl ?_
      refine zr_isub d_9_expression_134 ?_
      obtain ⟨m43, hm44, h⟩ := z_lt h
      refine zr_puti d_9_expression_135 fw_9_230 pw_9_12 hm44 ?_
      refine zr_aload_n (i := 0) d_9_expression_138 rfl rfl ?_
      obtain ⟨qm45, hq46, h⟩ := z_bd h
      refine zr_callVv (av := []) (st := []) d_9_expression_139 mw_9_goesOn ml_9_224 im_9_goesOn se_9_goesOn rfl rfl (Nat.le_of_ble_eq_true rfl) fit_2_1_4 rfl rfl rfl (s9_goesOn hq46) ?_
      refine zr_goto (tgt := 96) d_9_expression_142 rfl ?_
      obtain rfl := Option.some.inj h
      exact zr_wk2 (hI qm45 rfl) ⟨rfl, ⟨rfl, trivial⟩⟩
    · replace h := z_im h hc38
      obtain rfl := Option.some.inj h
      exact zr_wk2 (hE xm34 rfl) ⟨rfl, ⟨rfl, trivial⟩⟩
theorem s9_expression_L3 {P : zP} {ro : Option zV} {μo : zMem} (m1 : zMem) (x4 : Int32) (xm5 : zMem) (K : (Int32 × zMem) ⊕ ((zMem) ⊕ (zMem))) (h : f9_expression_L3 m1 (x4, xm5) = some K) (hI : ∀ (y0 : Int32) (y1 : zMem), K = .inl (y0, y1) → z_RQ P M_9_expression (z_rm 4) (z_mq P ro μo) 0 0 12 [some (zA 9 0), some (zI (m1.1 9 0 12)), some (zI y0)] [] y1) (hE : ∀ (z0 : zMem), K = .inr (.inl z0) → z_RQ P M_9_expression (z_rm 4) (z_mq P ro μo) 0 0 272 [none, none, none] [] z0) (hR : ∀ (qm : zMem), K = .inr (.inr qm) → ro = none ∧ μo = qm) : z_RQ P M_9_expression (z_rm 4) (z_mq P ro μo) 0 0 12 [some (zA 9 0), some (zI (m1.1 9 0 12)), some (zI x4)] [] xm5 := by
  unfold f9_expression_L3 at h
  replace h := z_h2 h
  refine zr_iload_n (i := 2) d_9_expression_12 rfl rfl ?_
  refine zr_if_eq (tgt := 272) d_9_expression_13 rfl (fun hc6 => ?_) (fun hc6 => ?_)
  · replace h := z_ip h hc6
    obtain rfl := Option.some.inj h
    exact zr_wk2 (hE xm5 rfl) trivial
  · replace h := z_im h hc6
    refine zr_aload_n (i := 0) d_9_expression_16 rfl rfl ?_
    refine zr_geti d_9_expression_17 fw_9_203 (by decide) ?_
    refine zr_if_ne (tgt := 272) d_9_expression_20 rfl (fun hc7 => ?_) (fun hc7 => ?_)
    · replace h := z_ip h hc7
      obtain ⟨e28, hl29, h⟩ := z_bd h
      refine zr_wk (l' := [some (zA 9 0), some (zI (m1.1 9 0 12)), none]) ⟨rfl, ⟨rfl, trivial⟩⟩ ?_
      refine z_loop (Hd := (fun y0 => z_RQ P M_9_expression (z_rm 4) (z_mq P ro μo) 0 0 23 [some (zA 9 0), some (zI (m1.1 9 0 12)), none] [] y0)) (Ex := (fun z0 => z_RQ P M_9_expression (z_rm 4) (z_mq P ro μo) 0 0 84 [some (zA 9 0), some (zI (m1.1 9 0 12)), none] [] z0)) (fun xm9 K h hI hE => s9_expression_L8 m1 xm9 K h (fun y0 e => hI y0 e) (fun z0 e => hE z0 e) ) _ _ _ hl29 ?_
      refine zr_aload_n (i := 0) d_9_expression_84 rfl rfl ?_
      obtain ⟨qm30, hq31, h⟩ := z_bd h
      refine zr_callVv (av := []) (st := []) d_9_expression_85 mw_9_unit ml_9_301 im_9_unit se_9_unit rfl rfl (Nat.le_of_ble_eq_true rfl) fit_3_1_4 rfl rfl rfl (s9_unit hq31) ?_
      refine zr_aload_n (i := 0) d_9_expression_88 rfl rfl ?_
      refine zr_geti d_9_expression_89 fw_9_203 (by decide) ?_
      refine zr_if_le (tgt := 96) d_9_expression_92 rfl (fun hc32 => ?_) (fun hc32 => ?_)
      · replace h := z_ip h hc32
        obtain rfl := Option.some.inj h
        obtain ⟨rfl, rfl⟩ := hR qm30 rfl
        exact ze_v d_9_expression_95 rfl
      · replace h := z_im h hc32
        obtain ⟨e47, hl48, h⟩ := z_bd h
        refine zr_wk (l' := [some (zA 9 0), some (zI (m1.1 9 0 12)), none]) ⟨rfl, ⟨rfl, trivial⟩⟩ ?_
        refine z_loop (Hd := (fun y0 => z_RQ P M_9_expression (z_rm 4) (z_mq P ro μo) 0 0 96 [some (zA 9 0), some (zI (m1.1 9 0 12)), none] [] y0)) (Ex := (fun z0 => z_RQ P M_9_expression (z_rm 4) (z_mq P ro μo) 0 0 145 [some (zA 9 0), some (zI (m1.1 9 0 12)), none] [] z0)) (fun xm34 K h hI hE => s9_expression_L33 m1 xm34 K h (fun y0 e => hI y0 e) (fun z0 e => hE z0 e) ) _ _ _ hl48 ?_
        refine zr_aload_n (i := 0) d_9_expression_145 rfl rfl ?_
        refine zr_bipush (v := (8 : Int32)) d_9_expression_146 rfl ?_
        obtain ⟨q49, hq50, h⟩ := z_bd h
        refine zr_callVi (av := [zI (8 : Int32)]) (st := []) d_9_expression_148 mw_9_is ml_9_221 im_9_is se_9_is rfl rfl (Nat.le_of_ble_eq_true rfl) fit_1_2_4 rfl rfl rfl (s9_is hq50) ?_
        obtain ⟨j63, hT51, h⟩ := z_bd h
        have hJ52 : z_RQ P M_9_expression (z_rm 4) (z_mq P ro μo) 0 0 186 [some (zA 9 0), some (zI (m1.1 9 0 12)), none] [zI j63] e47 := by
          refine zr_istore_n (i := 2) (l' := [some (zA 9 0), some (zI (m1.1 9 0 12)), some (zI j63)]) d_9_expression_186 rfl (by decide) rfl ?_
          refine zr_iload_n (i := 2) d_9_expression_187 rfl rfl ?_
          refine zr_if_ne (tgt := 210) d_9_expression_188 rfl (fun hc64 => ?_) (fun hc64 => ?_)
          · replace h := z_ip h hc64
            refine zr_aload_n (i := 0) d_9_expression_191 rfl rfl ?_
            refine zr_geti d_9_expression_192 fw_9_230 (by decide) ?_
            refine zr_iload_n (i := 1) d_9_expression_195 rfl rfl ?_
            obtain ⟨jm70, hT65, h⟩ := z_bd h
            have hJ66 : z_RQ P M_9_expression (z_rm 4) (z_mq P ro μo) 0 0 204 [some (zA 9 0), none, none] [] jm70 := by
              refine zr_aload_n (i := 0) d_9_expression_204 rfl rfl ?_
              refine zr_iconst (v := (0 : Int32)) d_9_expression_205 rfl ?_
              obtain ⟨qm71, hq72, h⟩ := z_bd h
              refine zr_callVv (av := [zI (0 : Int32)]) (st := []) d_9_expression_206 mw_9_comesOut ml_9_304 im_9_comesOut se_9_comesOut rfl rfl (Nat.le_of_ble_eq_true rfl) fit_2_3_4 rfl rfl rfl (s9_comesOut hq72) ?_
              obtain rfl := Option.some.inj h
              obtain ⟨rfl, rfl⟩ := hR qm71 rfl
              exact ze_v d_9_expression_209 rfl
            refine zr_icmp_le (tgt := 204) d_9_expression_196 rfl (fun hc67 => ?_) (fun hc67 => ?_)
            · replace hT65 := z_ip hT65 hc67
              refine zr_aload_n (i := 0) d_9_expression_199 rfl rfl ?_
              refine zr_iconst (v := (1 : Int32)) d_9_expression_200 rfl ?_
              obtain ⟨qm68, hq69, hT65⟩ := z_bd hT65
              refine zr_callVv (av := [zI (1 : Int32)]) (st := []) d_9_expression_201 mw_9_fail ml_9_218 im_9_fail se_9_fail rfl rfl (Nat.le_of_ble_eq_true rfl) fit_1_2_4 rfl rfl rfl (s9_fail hq69) ?_
              obtain rfl := Option.some.inj hT65
              exact zr_wk2 hJ66 ⟨rfl, trivial⟩
            · replace hT65 := z_im hT65 hc67
              obtain rfl := Option.some.inj hT65
              exact zr_wk2 hJ66 ⟨rfl, trivial⟩
          · replace h := z_im h hc64
            refine zr_aload_n (i := 0) d_9_expression_210 rfl rfl ?_
            refine zr_aload_n (i := 0) d_9_expression_211 rfl rfl ?_
            refine zr_bipush (v := (10 : Int32)) d_9_expression_212 rfl ?_
            obtain ⟨q73, hq74, h⟩ := z_bd h
            refine zr_callVi (av := [zI (10 : Int32)]) (st := [zA 9 0]) d_9_expression_214 mw_9_is ml_9_221 im_9_is se_9_is rfl rfl (Nat.le_of_ble_eq_true rfl) fit_1_2_4 rfl rfl rfl (s9_is hq74) ?_
            obtain ⟨j81, hT75, h⟩ := z_bd h
            have hJ76 : z_RQ P M_9_expression (z_rm 4) (z_mq P ro μo) 0 0 234 [some (zA 9 0), some (zI (m1.1 9 0 12)), some (zI j63)] [zI j81, zA 9 0] e47 := by
              obtain ⟨qm82, hq83, h⟩ := z_bd h
              refine zr_callVv (av := [zI j81]) (st := []) d_9_expression_234 mw_9_comesOut ml_9_304 im_9_comesOut se_9_comesOut rfl rfl (Nat.le_of_ble_eq_true rfl) fit_2_3_4 rfl rfl rfl (s9_comesOut hq83) ?_
              refine zr_aload_n (i := 0) d_9_expression_237 rfl rfl ?_
              refine zr_gets (i' := 0) d_9_expression_238 fw_9_101 rfl ?_
              refine zr_aload_n (i := 0) d_9_expression_241 rfl rfl ?_
              refine zr_geti d_9_expression_242 fw_9_295 (by decide) ?_
              refine zr_aload_n (i := 0) d_9_expression_245 rfl rfl ?_
              refine zr_gets (i' := 0) d_9_expression_246 fw_9_20 rfl ?_
              refine zr_aload_n (i := 0) d_9_expression_249 rfl rfl ?_
              refine zr_geti d_9_expression_250 fw_9_206 (by decide) ?_
              obtain ⟨hb84, h⟩ := z_gd h
              refine zr_iald d_9_expression_253 sa_105 rfl hb84 ?_
              obtain ⟨hb87, h⟩ := z_gd h
              obtain ⟨m85, hm86, h⟩ := z_lt h
              refine zr_iast d_9_expression_254 sa_143 rfl hb87 hm86 ?_
              refine zr_aload_n (i := 0) d_9_expression_255 rfl rfl ?_
              refine zr_dupa d_9_expression_256 ?_
              refine zr_geti d_9_expression_257 fw_9_295 (by decide) ?_
              refine zr_iconst (v := (1 : Int32)) d_9_expression_260 rfl ?_
              refine zr_iadd d_9_expression_261 ?_
              obtain ⟨m88, hm89, h⟩ := z_lt h
              refine zr_puti d_9_expression_262 fw_9_295 pw_9_44 hm89 ?_
              refine zr_aload_n (i := 0) d_9_expression_265 rfl rfl ?_
              obtain ⟨qm90, hq91, h⟩ := z_bd h
              refine zr_callVv (av := []) (st := []) d_9_expression_266 mw_9_goesOn ml_9_224 im_9_goesOn se_9_goesOn rfl rfl (Nat.le_of_ble_eq_true rfl) fit_2_1_4 rfl rfl rfl (s9_goesOn hq91) ?_
              refine zr_goto (tgt := 12) d_9_expression_269 rfl ?_
              obtain rfl := Option.some.inj h
              exact zr_wk2 (hI j63 qm90 rfl) ⟨rfl, ⟨rfl, ⟨rfl, trivial⟩⟩⟩
            refine zr_if_ne (tgt := 229) d_9_expression_217 rfl (fun hc77 => ?_) (fun hc77 => ?_)
            · replace hT75 := z_ip hT75 hc77
              refine zr_aload_n (i := 0) d_9_expression_220 rfl rfl ?_
              refine zr_bipush (v := (15 : Int32)) d_9_expression_221 rfl ?_
              obtain ⟨q78, hq79, hT75⟩ := z_bd hT75
              refine zr_callVi (av := [zI (15 : Int32)]) (st := [zA 9 0]) d_9_expression_223 mw_9_is ml_9_221 im_9_is se_9_is rfl rfl (Nat.le_of_ble_eq_true rfl) fit_1_2_4 rfl rfl rfl (s9_is hq79) ?_
              refine zr_if_eq (tgt := 233) d_9_expression_226 rfl (fun hc80 => ?_) (fun hc80 => ?_)
              · replace hT75 := z_ip hT75 hc80
                refine zr_iconst (v := (0 : Int32)) d_9_expression_233 rfl ?_
                obtain rfl := Option.some.inj hT75
                exact zr_wk2 hJ76 ⟨rfl, ⟨rfl, ⟨rfl, trivial⟩⟩⟩
              · replace hT75 := z_im hT75 hc80
                refine zr_iconst (v := (1 : Int32)) d_9_expression_229 rfl ?_
                refine zr_goto (tgt := 234) d_9_expression_230 rfl ?_
                obtain rfl := Option.some.inj hT75
                exact zr_wk2 hJ76 ⟨rfl, ⟨rfl, ⟨rfl, trivial⟩⟩⟩
            · replace hT75 := z_im hT75 hc77
              refine zr_iconst (v := (1 : Int32)) d_9_expression_229 rfl ?_
              refine zr_goto (tgt := 234) d_9_expression_230 rfl ?_
              obtain rfl := Option.some.inj hT75
              exact zr_wk2 hJ76 ⟨rfl, ⟨rfl, ⟨rfl, trivial⟩⟩⟩
        refine zr_if_ne (tgt := 181) d_9_expression_151 rfl (fun hc53 => ?_) (fun hc53 => ?_)
        · replace hT51 := z_ip hT51 hc53
          refine zr_aload_n (i := 0) d_9_expression_154 rfl rfl ?_
          refine zr_bipush (v := (9 : Int32)) d_9_expression_155 rfl ?_
          obtain ⟨q54, hq55, hT51⟩ := z_bd hT51
          refine zr_callVi (av := [zI (9 : Int32)]) (st := []) d_9_expression_157 mw_9_is ml_9_221 im_9_is se_9_is rfl rfl (Nat.le_of_ble_eq_true rfl) fit_1_2_4 rfl rfl rfl (s9_is hq55) ?_
          refine zr_if_ne (tgt := 181) d_9_expression_160 rfl (fun hc56 => ?_) (fun hc56 => ?_)
          · replace hT51 := z_ip hT51 hc56
            refine zr_aload_n (i := 0) d_9_expression_163 rfl rfl ?_
            refine zr_bipush (v := (10 : Int32)) d_9_expression_164 rfl ?_
            obtain ⟨q57, hq58, hT51⟩ := z_bd hT51
            refine zr_callVi (av := [zI (10 : Int32)]) (st := []) d_9_expression_166 mw_9_is ml_9_221 im_9_is se_9_is rfl rfl (Nat.le_of_ble_eq_true rfl) fit_1_2_4 rfl rfl rfl (s9_is hq58) ?_
            refine zr_if_ne (tgt := 181) d_9_expression_169 rfl (fun hc59 => ?_) (fun hc59 => ?_)
            · replace hT51 := z_ip hT51 hc59
              refine zr_aload_n (i := 0) d_9_expression_172 rfl rfl ?_
              refine zr_bipush (v := (15 : Int32)) d_9_expression_173 rfl ?_
              obtain ⟨q60, hq61, hT51⟩ := z_bd hT51
              refine zr_callVi (av := [zI (15 : Int32)]) (st := []) d_9_expression_175 mw_9_is ml_9_221 im_9_is se_9_is rfl rfl (Nat.le_of_ble_eq_true rfl) fit_1_2_4 rfl rfl rfl (s9_is hq61) ?_
              refine zr_if_eq (tgt := 185) d_9_expression_178 rfl (fun hc62 => ?_) (fun hc62 => ?_)
              · replace hT51 := z_ip hT51 hc62
                refine zr_iconst (v := (0 : Int32)) d_9_expression_185 rfl ?_
                obtain rfl := Option.some.inj hT51
                exact zr_wk2 hJ52 ⟨rfl, ⟨rfl, trivial⟩⟩
              · replace hT51 := z_im hT51 hc62
                refine zr_iconst (v := (1 : Int32)) d_9_expression_181 rfl ?_
                refine zr_goto (tgt := 186) d_9_expression_182 rfl ?_
                obtain rfl := Option.some.inj hT51
                exact zr_wk2 hJ52 ⟨rfl, ⟨rfl, trivial⟩⟩
            · replace hT51 := z_im hT51 hc59
              refine zr_iconst (v := (1 : Int32)) d_9_expression_181 rfl ?_
              refine zr_goto (tgt := 186) d_9_expression_182 rfl ?_
              obtain rfl := Option.some.inj hT51
              exact zr_wk2 hJ52 ⟨rfl, ⟨rfl, trivial⟩⟩
          · replace hT51 := z_im hT51 hc56
            refine zr_iconst (v := (1 : Int32)) d_9_expression_181 rfl ?_
            refine zr_goto (tgt := 186) d_9_expression_182 rfl ?_
            obtain rfl := Option.some.inj hT51
            exact zr_wk2 hJ52 ⟨rfl, ⟨rfl, trivial⟩⟩
        · replace hT51 := z_im hT51 hc53
          refine zr_iconst (v := (1 : Int32)) d_9_expression_181 rfl ?_
          refine zr_goto (tgt := 186) d_9_expression_182 rfl ?_
          obtain rfl := Option.some.inj hT51
          exact zr_wk2 hJ52 ⟨rfl, ⟨rfl, trivial⟩⟩
    · replace h := z_im h hc7
      obtain rfl := Option.some.inj h
      exact zr_wk2 (hE xm5 rfl) trivial
theorem s9_expression {P : zP} {μ : zMem} {μ' : zMem} (h : f9_expression μ = some μ') : z_Sp P y_9_expression M_9_expression 4 [zA 9 0] μ none μ' := by
  refine z_Sp.of (plainFor_of_name (by decide)) rfl (l0 := [some (zA 9 0), none, none]) rfl (Nat.le_of_ble_eq_true rfl) ?_
  unfold f9_expression at h
  refine zr_aload_n (i := 0) d_9_expression_0 rfl rfl ?_
  refine zr_iconst (v := (0 : Int32)) d_9_expression_1 rfl ?_
  obtain ⟨m1, hm2, h⟩ := z_lt h
  refine zr_puti d_9_expression_2 fw_9_295 pw_9_44 hm2 ?_
  refine zr_aload_n (i := 0) d_9_expression_5 rfl rfl ?_
  refine zr_geti d_9_expression_6 fw_9_230 (by decide) ?_
  refine zr_istore_n (i := 1) (l' := [some (zA 9 0), some (zI (m1.1 9 0 12)), none]) d_9_expression_9 rfl (by decide) rfl ?_
  refine zr_iconst (v := (1 : Int32)) d_9_expression_10 rfl ?_
  refine zr_istore_n (i := 2) (l' := [some (zA 9 0), some (zI (m1.1 9 0 12)), some (zI (1 : Int32))]) d_9_expression_11 rfl (by decide) rfl ?_
  rcases z_bs h with ⟨e92, hl93, h⟩ | ⟨qr94, hl93, h⟩
  · refine zr_wk (l' := [some (zA 9 0), some (zI (m1.1 9 0 12)), some (zI (1 : Int32))]) ⟨rfl, ⟨rfl, ⟨rfl, trivial⟩⟩⟩ ?_
    refine z_loop (Hd := (z_u2 fun y0 y1 => z_RQ P M_9_expression (z_rm 4) (z_mq P none μ') 0 0 12 [some (zA 9 0), some (zI (m1.1 9 0 12)), some (zI y0)] [] y1)) (Ex := (Sum.elim (fun z0 => z_RQ P M_9_expression (z_rm 4) (z_mq P none μ') 0 0 272 [none, none, none] [] z0) (fun qm => none = none ∧ μ' = qm))) (fun ⟨x4, xm5⟩ K h hI hE => s9_expression_L3 m1 x4 xm5 K h (fun y0 y1 e => hI (y0, y1) e) (fun z0 e => hE (.inl z0) e) (fun qm e => hE (.inr qm) e)) _ _ _ hl93 ?_
    obtain rfl := Option.some.inj h
    exact ze_v d_9_expression_272 rfl
  · refine zr_wk (l' := [some (zA 9 0), some (zI (m1.1 9 0 12)), some (zI (1 : Int32))]) ⟨rfl, ⟨rfl, ⟨rfl, trivial⟩⟩⟩ ?_
    refine z_loop (Hd := (z_u2 fun y0 y1 => z_RQ P M_9_expression (z_rm 4) (z_mq P none μ') 0 0 12 [some (zA 9 0), some (zI (m1.1 9 0 12)), some (zI y0)] [] y1)) (Ex := (Sum.elim (fun z0 => z_RQ P M_9_expression (z_rm 4) (z_mq P none μ') 0 0 272 [none, none, none] [] z0) (fun qm => none = none ∧ μ' = qm))) (fun ⟨x4, xm5⟩ K h hI hE => s9_expression_L3 m1 x4 xm5 K h (fun y0 y1 e => hI (y0, y1) e) (fun z0 e => hE (.inl z0) e) (fun qm e => hE (.inr qm) e)) _ _ _ hl93 ?_
    obtain rfl := Option.some.inj h
    exact ⟨rfl, rfl⟩
def f9_term  (μ : zMem) : Option (zMem) :=
  if z_in (μ.1 9 0 34) 260 = true then z_let (z_sI μ 138 0 (μ.1 9 0 34).toNatClampNeg (μ.1 9 0 40)) fun m1 => ((if (m1.1 9 0 13) = 0 then (f9_expression m1).bind (fun qm7 => some qm7) else some m1) : Option (zMem)).bind (fun jm9 => if z_in (jm9.1 9 0 34) 260 = true then z_let (z_sI jm9 139 0 (jm9.1 9 0 34).toNatClampNeg (jm9.1 9 0 40)) fun m10 => z_let (z_sI m10 9 0 34 ((m10.1 9 0 34) + (1 : Int32))) fun m13 => some m13 else none) else none
theorem s9_term {P : zP} {μ : zMem} {μ' : zMem} (h : f9_term μ = some μ') : z_Sp P y_9_term M_9_term 5 [zA 9 0] μ none μ' := by
  refine z_Sp.of (plainFor_of_name (by decide)) rfl (l0 := [some (zA 9 0)]) rfl (Nat.le_of_ble_eq_true rfl) ?_
  unfold f9_term at h
  refine zr_aload_n (i := 0) d_9_term_0 rfl rfl ?_
  refine zr_gets (i' := 0) d_9_term_1 fw_9_89 rfl ?_
  refine zr_aload_n (i := 0) d_9_term_4 rfl rfl ?_
  refine zr_geti d_9_term_5 fw_9_242 (by decide) ?_
  refine zr_aload_n (i := 0) d_9_term_8 rfl rfl ?_
  refine zr_geti d_9_term_9 fw_9_245 (by decide) ?_
  obtain ⟨hb3, h⟩ := z_gd h
  obtain ⟨m1, hm2, h⟩ := z_lt h
  refine zr_iast d_9_term_12 sa_138 rfl hb3 hm2 ?_
  refine zr_aload_n (i := 0) d_9_term_13 rfl rfl ?_
  refine zr_geti d_9_term_14 fw_9_203 (by decide) ?_
  obtain ⟨jm9, hT4, h⟩ := z_bd h
  have hJ5 : z_RQ P M_9_term (z_rm 5) (z_mq P none μ') 0 0 24 [some (zA 9 0)] [] jm9 := by
    refine zr_aload_n (i := 0) d_9_term_24 rfl rfl ?_
    refine zr_gets (i' := 0) d_9_term_25 fw_9_92 rfl ?_
    refine zr_aload_n (i := 0) d_9_term_28 rfl rfl ?_
    refine zr_geti d_9_term_29 fw_9_242 (by decide) ?_
    refine zr_aload_n (i := 0) d_9_term_32 rfl rfl ?_
    refine zr_geti d_9_term_33 fw_9_245 (by decide) ?_
    obtain ⟨hb12, h⟩ := z_gd h
    obtain ⟨m10, hm11, h⟩ := z_lt h
    refine zr_iast d_9_term_36 sa_139 rfl hb12 hm11 ?_
    refine zr_aload_n (i := 0) d_9_term_37 rfl rfl ?_
    refine zr_dupa d_9_term_38 ?_
    refine zr_geti d_9_term_39 fw_9_242 (by decide) ?_
    refine zr_iconst (v := (1 : Int32)) d_9_term_42 rfl ?_
    refine zr_iadd d_9_term_43 ?_
    obtain ⟨m13, hm14, h⟩ := z_lt h
    refine zr_puti d_9_term_44 fw_9_242 pw_9_34 hm14 ?_
    obtain rfl := Option.some.inj h
    exact ze_v d_9_term_47 rfl
  refine zr_if_ne (tgt := 24) d_9_term_17 rfl (fun hc6 => ?_) (fun hc6 => ?_)
  · replace hT4 := z_ip hT4 hc6
    refine zr_aload_n (i := 0) d_9_term_20 rfl rfl ?_
    obtain ⟨qm7, hq8, hT4⟩ := z_bd hT4
    refine zr_callVv (av := []) (st := []) d_9_term_21 mw_9_expression ml_9_289 im_9_expression se_9_expression rfl rfl (Nat.le_of_ble_eq_true rfl) fit_4_3_5 rfl rfl rfl (s9_expression hq8) ?_
    obtain rfl := Option.some.inj hT4
    exact zr_wk2 hJ5 ⟨rfl, trivial⟩
  · replace hT4 := z_im hT4 hc6
    obtain rfl := Option.some.inj hT4
    exact zr_wk2 hJ5 ⟨rfl, trivial⟩
def f9_tellLaw_L3  : (Int32 × zMem) → Option ((Int32 × zMem) ⊕ ((zMem) ⊕ (zMem))) := (z_u2 fun x4 xm5 => 
  (if (xm5.1 9 0 13) = 0 then (f9_is (29 : Int32) xm5).bind (fun q7 => (if q7 = 0 then some (.inr (.inl xm5)) else ((if x4 = (4 : Int32) then (f9_fail (2 : Int32) xm5).bind (fun qm13 => some qm13) else some xm5) : Option (zMem)).bind (fun jm15 => (if 0 < (jm15.1 9 0 13) then some (.inr (.inr jm15)) else (f9_goesOn jm15).bind (fun qm17 => if z_in (qm17.1 9 0 34) 260 = true then z_let (z_sI qm17 135 0 (qm17.1 9 0 34).toNatClampNeg (vp_nar .boolean (1 : Int32))) fun m19 => if z_in (m19.1 9 0 34) 260 = true then z_let (z_sI m19 136 0 (m19.1 9 0 34).toNatClampNeg (m19.1 9 0 40)) fun m22 => (f9_expression m22).bind (fun qm25 => (f9_must (13 : Int32) qm25).bind (fun qm27 => if z_in (qm27.1 9 0 34) 260 = true then z_let (z_sI qm27 137 0 (qm27.1 9 0 34).toNatClampNeg (qm27.1 9 0 40)) fun m29 => ((if (m29.1 9 0 13) = 0 then (f9_expression m29).bind (fun qm35 => some qm35) else some m29) : Option (zMem)).bind (fun jm37 => (f9_must (30 : Int32) jm37).bind (fun qm38 => (f9_term qm38).bind (fun qm40 => (f9_must (31 : Int32) qm40).bind (fun qm42 => some (.inl ((x4 + (1 : Int32)), qm42)))))) else none)) else none else none))))) else some (.inr (.inl xm5))))
def f9_tellLaw (a1 : Int32) (μ : zMem) : Option (zMem) :=
  (f9_must (5 : Int32) μ).bind (fun qm1 => (z_it (f9_tellLaw_L3) z_fu ((0 : Int32), qm1)).bind (Sum.elim (fun e44 => if z_in (e44.1 9 0 34) 260 = true then z_let (z_sI e44 135 0 (e44.1 9 0 34).toNatClampNeg (vp_nar .boolean (0 : Int32))) fun m46 => (f9_term m46).bind (fun qm49 => (f9_must (4 : Int32) qm49).bind (fun qm51 => (if 0 < (qm51.1 9 0 13) then some qm51 else if z_in (((4 : Int32) * (qm51.1 9 0 19)) + a1) 8 = true then z_let (z_sI qm51 132 0 (((4 : Int32) * (qm51.1 9 0 19)) + a1).toNatClampNeg (qm1.1 9 0 34)) fun m54 => if z_in (((4 : Int32) * (m54.1 9 0 19)) + a1) 8 = true then z_let (z_sI m54 133 0 (((4 : Int32) * (m54.1 9 0 19)) + a1).toNatClampNeg (m54.1 9 0 34)) fun m57 => some m57 else none else none))) else none) (fun qr60 => some qr60)))
theorem s9_tellLaw_L3 {P : zP} {ro : Option zV} {μo : zMem} (a1 : Int32) (qm1 : zMem) (x4 : Int32) (xm5 : zMem) (K : (Int32 × zMem) ⊕ ((zMem) ⊕ (zMem))) (h : f9_tellLaw_L3  (x4, xm5) = some K) (hI : ∀ (y0 : Int32) (y1 : zMem), K = .inl (y0, y1) → z_RQ P M_9_tellLaw (z_rm 6) (z_mq P ro μo) 0 0 12 [some (zA 9 0), some (zI a1), some (zI (qm1.1 9 0 34)), some (zI y0)] [] y1) (hE : ∀ (z0 : zMem), K = .inr (.inl z0) → z_RQ P M_9_tellLaw (z_rm 6) (z_mq P ro μo) 0 0 129 [some (zA 9 0), some (zI a1), some (zI (qm1.1 9 0 34)), none] [] z0) (hR : ∀ (qm : zMem), K = .inr (.inr qm) → ro = none ∧ μo = qm) : z_RQ P M_9_tellLaw (z_rm 6) (z_mq P ro μo) 0 0 12 [some (zA 9 0), some (zI a1), some (zI (qm1.1 9 0 34)), some (zI x4)] [] xm5 := by
  unfold f9_tellLaw_L3 at h
  replace h := z_h2 h
  refine zr_aload_n (i := 0) d_9_tellLaw_12 rfl rfl ?_
  refine zr_geti d_9_tellLaw_13 fw_9_203 (by decide) ?_
  refine zr_if_ne (tgt := 129) d_9_tellLaw_16 rfl (fun hc6 => ?_) (fun hc6 => ?_)
  · replace h := z_ip h hc6
    refine zr_aload_n (i := 0) d_9_tellLaw_19 rfl rfl ?_
    refine zr_bipush (v := (29 : Int32)) d_9_tellLaw_20 rfl ?_
    obtain ⟨q7, hq8, h⟩ := z_bd h
    refine zr_callVi (av := [zI (29 : Int32)]) (st := []) d_9_tellLaw_22 mw_9_is ml_9_221 im_9_is se_9_is rfl rfl (Nat.le_of_ble_eq_true rfl) fit_1_2_6 rfl rfl rfl (s9_is hq8) ?_
    refine zr_if_eq (tgt := 129) d_9_tellLaw_25 rfl (fun hc9 => ?_) (fun hc9 => ?_)
    · replace h := z_ip h hc9
      obtain rfl := Option.some.inj h
      exact zr_wk2 (hE xm5 rfl) ⟨rfl, ⟨rfl, ⟨rfl, trivial⟩⟩⟩
    · replace h := z_im h hc9
      refine zr_iload_n (i := 3) d_9_tellLaw_28 rfl rfl ?_
      refine zr_iconst (v := (4 : Int32)) d_9_tellLaw_29 rfl ?_
      obtain ⟨jm15, hT10, h⟩ := z_bd h
      have hJ11 : z_RQ P M_9_tellLaw (z_rm 6) (z_mq P ro μo) 0 0 38 [some (zA 9 0), some (zI a1), some (zI (qm1.1 9 0 34)), some (zI x4)] [] jm15 := by
        refine zr_aload_n (i := 0) d_9_tellLaw_38 rfl rfl ?_
        refine zr_geti d_9_tellLaw_39 fw_9_203 (by decide) ?_
        refine zr_if_le (tgt := 46) d_9_tellLaw_42 rfl (fun hc16 => ?_) (fun hc16 => ?_)
        · replace h := z_ip h hc16
          obtain rfl := Option.some.inj h
          obtain ⟨rfl, rfl⟩ := hR jm15 rfl
          exact ze_v d_9_tellLaw_45 rfl
        · replace h := z_im h hc16
          refine zr_iinc (v := (x4 + (1 : Int32))) (l' := [some (zA 9 0), some (zI a1), some (zI (qm1.1 9 0 34)), some (zI (x4 + (1 : Int32)))]) d_9_tellLaw_46 (by decide) rfl rfl rfl ?_
          refine zr_aload_n (i := 0) d_9_tellLaw_49 rfl rfl ?_
          obtain ⟨qm17, hq18, h⟩ := z_bd h
          refine zr_callVv (av := []) (st := []) d_9_tellLaw_50 mw_9_goesOn ml_9_224 im_9_goesOn se_9_goesOn rfl rfl (Nat.le_of_ble_eq_true rfl) fit_2_1_6 rfl rfl rfl (s9_goesOn hq18) ?_
          refine zr_aload_n (i := 0) d_9_tellLaw_53 rfl rfl ?_
          refine zr_gets (i' := 0) d_9_tellLaw_54 fw_9_79 rfl ?_
          refine zr_aload_n (i := 0) d_9_tellLaw_57 rfl rfl ?_
          refine zr_geti d_9_tellLaw_58 fw_9_242 (by decide) ?_
          refine zr_iconst (v := (1 : Int32)) d_9_tellLaw_61 rfl ?_
          obtain ⟨hb21, h⟩ := z_gd h
          obtain ⟨m19, hm20, h⟩ := z_lt h
          refine zr_zast d_9_tellLaw_62 sa_135 rfl hb21 hm20 ?_
          refine zr_aload_n (i := 0) d_9_tellLaw_63 rfl rfl ?_
          refine zr_gets (i' := 0) d_9_tellLaw_64 fw_9_83 rfl ?_
          refine zr_aload_n (i := 0) d_9_tellLaw_67 rfl rfl ?_
          refine zr_geti d_9_tellLaw_68 fw_9_242 (by decide) ?_
          refine zr_aload_n (i := 0) d_9_tellLaw_71 rfl rfl ?_
          refine zr_geti d_9_tellLaw_72 fw_9_245 (by decide) ?_
          obtain ⟨hb24, h⟩ := z_gd h
          obtain ⟨m22, hm23, h⟩ := z_lt h
          refine zr_iast d_9_tellLaw_75 sa_136 rfl hb24 hm23 ?_
          refine zr_aload_n (i := 0) d_9_tellLaw_76 rfl rfl ?_
          obtain ⟨qm25, hq26, h⟩ := z_bd h
          refine zr_callVv (av := []) (st := []) d_9_tellLaw_77 mw_9_expression ml_9_289 im_9_expression se_9_expression rfl rfl (Nat.le_of_ble_eq_true rfl) fit_4_3_6 rfl rfl rfl (s9_expression hq26) ?_
          refine zr_aload_n (i := 0) d_9_tellLaw_80 rfl rfl ?_
          refine zr_bipush (v := (13 : Int32)) d_9_tellLaw_81 rfl ?_
          obtain ⟨qm27, hq28, h⟩ := z_bd h
          refine zr_callVv (av := [zI (13 : Int32)]) (st := []) d_9_tellLaw_83 mw_9_must ml_9_277 im_9_must se_9_must rfl rfl (Nat.le_of_ble_eq_true rfl) fit_3_2_6 rfl rfl rfl (s9_must hq28) ?_
          refine zr_aload_n (i := 0) d_9_tellLaw_86 rfl rfl ?_
          refine zr_gets (i' := 0) d_9_tellLaw_87 fw_9_86 rfl ?_
          refine zr_aload_n (i := 0) d_9_tellLaw_90 rfl rfl ?_
          refine zr_geti d_9_tellLaw_91 fw_9_242 (by decide) ?_
          refine zr_aload_n (i := 0) d_9_tellLaw_94 rfl rfl ?_
          refine zr_geti d_9_tellLaw_95 fw_9_245 (by decide) ?_
          obtain ⟨hb31, h⟩ := z_gd h
          obtain ⟨m29, hm30, h⟩ := z_lt h
          refine zr_iast d_9_tellLaw_98 sa_137 rfl hb31 hm30 ?_
          refine zr_aload_n (i := 0) d_9_tellLaw_99 rfl rfl ?_
          refine zr_geti d_9_tellLaw_100 fw_9_203 (by decide) ?_
          obtain ⟨jm37, hT32, h⟩ := z_bd h
          have hJ33 : z_RQ P M_9_tellLaw (z_rm 6) (z_mq P ro μo) 0 0 110 [some (zA 9 0), some (zI a1), some (zI (qm1.1 9 0 34)), some (zI (x4 + (1 : Int32)))] [] jm37 := by
            refine zr_aload_n (i := 0) d_9_tellLaw_110 rfl rfl ?_
            refine zr_bipush (v := (30 : Int32)) d_9_tellLaw_111 rfl ?_
            obtain ⟨qm38, hq39, h⟩ := z_bd h
            refine zr_callVv (av := [zI (30 : Int32)]) (st := []) d_9_tellLaw_113 mw_9_must ml_9_277 im_9_must se_9_must rfl rfl (Nat.le_of_ble_eq_true rfl) fit_3_2_6 rfl rfl rfl (s9_must hq39) ?_
            refine zr_aload_n (i := 0) d_9_tellLaw_116 rfl rfl ?_
            obtain ⟨qm40, hq41, h⟩ := z_bd h
            refine zr_callVv (av := []) (st := []) d_9_tellLaw_117 mw_9_term ml_9_292 im_9_term se_9_term rfl rfl (Nat.le_of_ble_eq_true rfl) fit_5_1_6 rfl rfl rfl (s9_term hq41) ?_
            refine zr_aload_n (i := 0) d_9_tellLaw_120 rfl rfl ?_
            refine zr_bipush (v := (31 : Int32)) d_9_tellLaw_121 rfl ?_
            obtain ⟨qm42, hq43, h⟩ := z_bd h
            refine zr_callVv (av := [zI (31 : Int32)]) (st := []) d_9_tellLaw_123 mw_9_must ml_9_277 im_9_must se_9_must rfl rfl (Nat.le_of_ble_eq_true rfl) fit_3_2_6 rfl rfl rfl (s9_must hq43) ?_
            refine zr_goto (tgt := 12) d_9_tellLaw_126 rfl ?_
            obtain rfl := Option.some.inj h
            exact zr_wk2 (hI (x4 + (1 : Int32)) qm42 rfl) ⟨rfl, ⟨rfl, ⟨rfl, ⟨rfl, trivial⟩⟩⟩⟩
          refine zr_if_ne (tgt := 110) d_9_tellLaw_103 rfl (fun hc34 => ?_) (fun hc34 => ?_)
          · replace hT32 := z_ip hT32 hc34
            refine zr_aload_n (i := 0) d_9_tellLaw_106 rfl rfl ?_
            obtain ⟨qm35, hq36, hT32⟩ := z_bd hT32
            refine zr_callVv (av := []) (st := []) d_9_tellLaw_107 mw_9_expression ml_9_289 im_9_expression se_9_expression rfl rfl (Nat.le_of_ble_eq_true rfl) fit_4_3_6 rfl rfl rfl (s9_expression hq36) ?_
            obtain rfl := Option.some.inj hT32
            exact zr_wk2 hJ33 ⟨rfl, ⟨rfl, ⟨rfl, ⟨rfl, trivial⟩⟩⟩⟩
          · replace hT32 := z_im hT32 hc34
            obtain rfl := Option.some.inj hT32
            exact zr_wk2 hJ33 ⟨rfl, ⟨rfl, ⟨rfl, ⟨rfl, trivial⟩⟩⟩⟩
      refine zr_icmp_ne (tgt := 38) d_9_tellLaw_30 rfl (fun hc12 => ?_) (fun hc12 => ?_)
      · replace hT10 := z_ip hT10 hc12
        refine zr_aload_n (i := 0) d_9_tellLaw_33 rfl rfl ?_
        refine zr_iconst (v := (2 : Int32)) d_9_tellLaw_34 rfl ?_
        obtain ⟨qm13, hq14, hT10⟩ := z_bd hT10
        refine zr_callVv (av := [zI (2 : Int32)]) (st := []) d_9_tellLaw_35 mw_9_fail ml_9_218 im_9_fail se_9_fail rfl rfl (Nat.le_of_ble_eq_true rfl) fit_1_2_6 rfl rfl rfl (s9_fail hq14) ?_
        obtain rfl := Option.some.inj hT10
        exact zr_wk2 hJ11 ⟨rfl, ⟨rfl, ⟨rfl, ⟨rfl, trivial⟩⟩⟩⟩
      · replace hT10 := z_im hT10 hc12
        obtain rfl := Option.some.inj hT10
        exact zr_wk2 hJ11 ⟨rfl, ⟨rfl, ⟨rfl, ⟨rfl, trivial⟩⟩⟩⟩
  · replace h := z_im h hc6
    obtain rfl := Option.some.inj h
    exact zr_wk2 (hE xm5 rfl) ⟨rfl, ⟨rfl, ⟨rfl, trivial⟩⟩⟩
theorem s9_tellLaw {P : zP} {μ : zMem} {a1 : Int32} {μ' : zMem} (h : f9_tellLaw a1 μ = some μ') : z_Sp P y_9_tellLaw M_9_tellLaw 6 [zA 9 0, zI a1] μ none μ' := by
  refine z_Sp.of (plainFor_of_name (by decide)) rfl (l0 := [some (zA 9 0), some (zI a1), none, none]) rfl (Nat.le_of_ble_eq_true rfl) ?_
  unfold f9_tellLaw at h
  refine zr_aload_n (i := 0) d_9_tellLaw_0 rfl rfl ?_
  refine zr_iconst (v := (5 : Int32)) d_9_tellLaw_1 rfl ?_
  obtain ⟨qm1, hq2, h⟩ := z_bd h
  refine zr_callVv (av := [zI (5 : Int32)]) (st := []) d_9_tellLaw_2 mw_9_must ml_9_277 im_9_must se_9_must rfl rfl (Nat.le_of_ble_eq_true rfl) fit_3_2_6 rfl rfl rfl (s9_must hq2) ?_
  refine zr_aload_n (i := 0) d_9_tellLaw_5 rfl rfl ?_
  refine zr_geti d_9_tellLaw_6 fw_9_242 (by decide) ?_
  refine zr_istore_n (i := 2) (l' := [some (zA 9 0), some (zI a1), some (zI (qm1.1 9 0 34)), none]) d_9_tellLaw_9 rfl (by decide) rfl ?_
  refine zr_iconst (v := (0 : Int32)) d_9_tellLaw_10 rfl ?_
  refine zr_istore_n (i := 3) (l' := [some (zA 9 0), some (zI a1), some (zI (qm1.1 9 0 34)), some (zI (0 : Int32))]) d_9_tellLaw_11 rfl (by decide) rfl ?_
  rcases z_bs h with ⟨e44, hl45, h⟩ | ⟨qr60, hl45, h⟩
  · refine zr_wk (l' := [some (zA 9 0), some (zI a1), some (zI (qm1.1 9 0 34)), some (zI (0 : Int32))]) ⟨rfl, ⟨rfl, ⟨rfl, ⟨rfl, trivial⟩⟩⟩⟩ ?_
    refine z_loop (Hd := (z_u2 fun y0 y1 => z_RQ P M_9_tellLaw (z_rm 6) (z_mq P none μ') 0 0 12 [some (zA 9 0), some (zI a1), some (zI (qm1.1 9 0 34)), some (zI y0)] [] y1)) (Ex := (Sum.elim (fun z0 => z_RQ P M_9_tellLaw (z_rm 6) (z_mq P none μ') 0 0 129 [some (zA 9 0), some (zI a1), some (zI (qm1.1 9 0 34)), none] [] z0) (fun qm => none = none ∧ μ' = qm))) (fun ⟨x4, xm5⟩ K h hI hE => s9_tellLaw_L3 a1 qm1 x4 xm5 K h (fun y0 y1 e => hI (y0, y1) e) (fun z0 e => hE (.inl z0) e) (fun qm e => hE (.inr qm) e)) _ _ _ hl45 ?_
    refine zr_aload_n (i := 0) d_9_tellLaw_129 rfl rfl ?_
    refine zr_gets (i' := 0) d_9_tellLaw_130 fw_9_79 rfl ?_
    refine zr_aload_n (i := 0) d_9_tellLaw_133 rfl rfl ?_
    refine zr_geti d_9_tellLaw_134 fw_9_242 (by decide) ?_
    refine zr_iconst (v := (0 : Int32)) d_9_tellLaw_137 rfl ?_
    obtain ⟨hb48, h⟩ := z_gd h
    obtain ⟨m46, hm47, h⟩ := z_lt h
    refine zr_zast d_9_tellLaw_138 sa_135 rfl hb48 hm47 ?_
    refine zr_aload_n (i := 0) d_9_tellLaw_139 rfl rfl ?_
    obtain ⟨qm49, hq50, h⟩ := z_bd h
    refine zr_callVv (av := []) (st := []) d_9_tellLaw_140 mw_9_term ml_9_292 im_9_term se_9_term rfl rfl (Nat.le_of_ble_eq_true rfl) fit_5_1_6 rfl rfl rfl (s9_term hq50) ?_
    refine zr_aload_n (i := 0) d_9_tellLaw_143 rfl rfl ?_
    refine zr_iconst (v := (4 : Int32)) d_9_tellLaw_144 rfl ?_
    obtain ⟨qm51, hq52, h⟩ := z_bd h
    refine zr_callVv (av := [zI (4 : Int32)]) (st := []) d_9_tellLaw_145 mw_9_must ml_9_277 im_9_must se_9_must rfl rfl (Nat.le_of_ble_eq_true rfl) fit_3_2_6 rfl rfl rfl (s9_must hq52) ?_
    refine zr_aload_n (i := 0) d_9_tellLaw_148 rfl rfl ?_
    refine zr_geti d_9_tellLaw_149 fw_9_203 (by decide) ?_
    refine zr_if_le (tgt := 156) d_9_tellLaw_152 rfl (fun hc53 => ?_) (fun hc53 => ?_)
    · replace h := z_ip h hc53
      obtain rfl := Option.some.inj h
      exact ze_v d_9_tellLaw_155 rfl
    · replace h := z_im h hc53
      refine zr_aload_n (i := 0) d_9_tellLaw_156 rfl rfl ?_
      refine zr_gets (i' := 0) d_9_tellLaw_157 fw_9_73 rfl ?_
      refine zr_iconst (v := (4 : Int32)) d_9_tellLaw_160 rfl ?_
      refine zr_aload_n (i := 0) d_9_tellLaw_161 rfl rfl ?_
      refine zr_geti d_9_tellLaw_162 fw_9_236 (by decide) ?_
      refine zr_imul d_9_tellLaw_165 ?_
      refine zr_iload_n (i := 1) d_9_tellLaw_166 rfl rfl ?_
      refine zr_iadd d_9_tellLaw_167 ?_
      refine zr_iload_n (i := 2) d_9_tellLaw_168 rfl rfl ?_
      obtain ⟨hb56, h⟩ := z_gd h
      obtain ⟨m54, hm55, h⟩ := z_lt h
      refine zr_iast d_9_tellLaw_169 sa_132 rfl hb56 hm55 ?_
      refine zr_aload_n (i := 0) d_9_tellLaw_170 rfl rfl ?_
      refine zr_gets (i' := 0) d_9_tellLaw_171 fw_9_76 rfl ?_
      refine zr_iconst (v := (4 : Int32)) d_9_tellLaw_174 rfl ?_
      refine zr_aload_n (i := 0) d_9_tellLaw_175 rfl rfl ?_
      refine zr_geti d_9_tellLaw_176 fw_9_236 (by decide) ?_
      refine zr_imul d_9_tellLaw_179 ?_
      refine zr_iload_n (i := 1) d_9_tellLaw_180 rfl rfl ?_
      refine zr_iadd d_9_tellLaw_181 ?_
      refine zr_aload_n (i := 0) d_9_tellLaw_182 rfl rfl ?_
      refine zr_geti d_9_tellLaw_183 fw_9_242 (by decide) ?_
      obtain ⟨hb59, h⟩ := z_gd h
      obtain ⟨m57, hm58, h⟩ := z_lt h
      refine zr_iast d_9_tellLaw_186 sa_133 rfl hb59 hm58 ?_
      obtain rfl := Option.some.inj h
      exact ze_v d_9_tellLaw_187 rfl
  · refine zr_wk (l' := [some (zA 9 0), some (zI a1), some (zI (qm1.1 9 0 34)), some (zI (0 : Int32))]) ⟨rfl, ⟨rfl, ⟨rfl, ⟨rfl, trivial⟩⟩⟩⟩ ?_
    refine z_loop (Hd := (z_u2 fun y0 y1 => z_RQ P M_9_tellLaw (z_rm 6) (z_mq P none μ') 0 0 12 [some (zA 9 0), some (zI a1), some (zI (qm1.1 9 0 34)), some (zI y0)] [] y1)) (Ex := (Sum.elim (fun z0 => z_RQ P M_9_tellLaw (z_rm 6) (z_mq P none μ') 0 0 129 [some (zA 9 0), some (zI a1), some (zI (qm1.1 9 0 34)), none] [] z0) (fun qm => none = none ∧ μ' = qm))) (fun ⟨x4, xm5⟩ K h hI hE => s9_tellLaw_L3 a1 qm1 x4 xm5 K h (fun y0 y1 e => hI (y0, y1) e) (fun z0 e => hE (.inl z0) e) (fun qm e => hE (.inr qm) e)) _ _ _ hl45 ?_
    obtain rfl := Option.some.inj h
    exact ⟨rfl, rfl⟩
def f9_tellOne  (μ : zMem) : Option (zMem) :=
  if z_in (μ.1 9 0 11) 403 = true then (if (μ.1 105 0 (μ.1 9 0 11).toNatClampNeg) = (20 : Int32) then if z_in (μ.1 9 0 19) 2 = true then (f9_roomFor (μ.1 123 0 (μ.1 9 0 19).toNatClampNeg) (5 : Int32) μ).bind (fun qm4 => (if 0 < (qm4.1 9 0 13) then some qm4 else (f9_named qm4).bind (z_u2 fun q7 qm8 => if z_in (qm8.1 9 0 19) 2 = true then (f9_bounded (99 : Int32) qm8).bind (z_u2 fun q11 qm12 => if z_in (((5 : Int32) * (qm8.1 9 0 19)) + (qm8.1 123 0 (qm8.1 9 0 19).toNatClampNeg)) 10 = true then z_let (z_sI qm12 124 0 (((5 : Int32) * (qm8.1 9 0 19)) + (qm8.1 123 0 (qm8.1 9 0 19).toNatClampNeg)).toNatClampNeg q11) fun m14 => if z_in (m14.1 9 0 19) 2 = true then (f9_endsName q7 (m14.1 123 0 (m14.1 9 0 19).toNatClampNeg) m14).bind (fun qm18 => (if (qm18.1 9 0 13) = 0 then if z_in (qm18.1 9 0 19) 2 = true then z_let (z_sI qm18 123 0 (qm18.1 9 0 19).toNatClampNeg ((qm18.1 123 0 (qm18.1 9 0 19).toNatClampNeg) + (1 : Int32))) fun m22 => some m22 else none else some qm18)) else none else none) else none))) else none else (if (μ.1 105 0 (μ.1 9 0 11).toNatClampNeg) = (21 : Int32) then if z_in (μ.1 9 0 19) 2 = true then (f9_roomFor (μ.1 126 0 (μ.1 9 0 19).toNatClampNeg) (7 : Int32) μ).bind (fun qm26 => (if 0 < (qm26.1 9 0 13) then some qm26 else (f9_named qm26).bind (z_u2 fun q29 qm30 => if z_in (qm30.1 9 0 19) 2 = true then (f9_bounded (99 : Int32) qm30).bind (z_u2 fun q33 qm34 => if z_in (((7 : Int32) * (qm30.1 9 0 19)) + (qm30.1 126 0 (qm30.1 9 0 19).toNatClampNeg)) 14 = true then z_let (z_sI qm34 127 0 (((7 : Int32) * (qm30.1 9 0 19)) + (qm30.1 126 0 (qm30.1 9 0 19).toNatClampNeg)).toNatClampNeg q33) fun m36 => if z_in (m36.1 9 0 19) 2 = true then (f9_endsName q29 ((10 : Int32) + (m36.1 126 0 (m36.1 9 0 19).toNatClampNeg)) m36).bind (fun qm40 => (if (qm40.1 9 0 13) = 0 then if z_in (qm40.1 9 0 19) 2 = true then z_let (z_sI qm40 126 0 (qm40.1 9 0 19).toNatClampNeg ((qm40.1 126 0 (qm40.1 9 0 19).toNatClampNeg) + (1 : Int32))) fun m44 => some m44 else none else some qm40)) else none else none) else none))) else none else (if (μ.1 105 0 (μ.1 9 0 11).toNatClampNeg) = (22 : Int32) then if z_in (μ.1 9 0 19) 2 = true then (f9_roomFor (μ.1 129 0 (μ.1 9 0 19).toNatClampNeg) (20 : Int32) μ).bind (fun qm48 => (if (qm48.1 9 0 13) = 0 then (f9_tellRight qm48).bind (fun qm51 => some qm51) else some qm48)) else none else (if (μ.1 105 0 (μ.1 9 0 11).toNatClampNeg) = (23 : Int32) then if z_in (μ.1 9 0 19) 2 = true then (f9_roomFor (μ.1 130 0 (μ.1 9 0 19).toNatClampNeg) (7 : Int32) μ).bind (fun qm55 => (if (qm55.1 9 0 13) = 0 then (f9_tellAway qm55).bind (fun qm58 => some qm58) else some qm55)) else none else (if (μ.1 105 0 (μ.1 9 0 11).toNatClampNeg) = (24 : Int32) then z_let ((μ.1 105 0 (μ.1 9 0 11).toNatClampNeg) - (24 : Int32)) fun v61 => ((if v61 < 0 then (f9_fail (1 : Int32) μ).bind (fun qm66 => some qm66) else (if (27 : Int32) < (μ.1 105 0 (μ.1 9 0 11).toNatClampNeg) then (f9_fail (1 : Int32) μ).bind (fun qm69 => some qm69) else some μ)) : Option (zMem)).bind (fun jm71 => (if 0 < (jm71.1 9 0 13) then some jm71 else (f9_goesOn jm71).bind (fun qm73 => (f9_tellLaw v61 qm73).bind (fun qm75 => some qm75)))) else (if (μ.1 105 0 (μ.1 9 0 11).toNatClampNeg) = (25 : Int32) then z_let ((μ.1 105 0 (μ.1 9 0 11).toNatClampNeg) - (24 : Int32)) fun v78 => ((if v78 < 0 then (f9_fail (1 : Int32) μ).bind (fun qm83 => some qm83) else (if (27 : Int32) < (μ.1 105 0 (μ.1 9 0 11).toNatClampNeg) then (f9_fail (1 : Int32) μ).bind (fun qm86 => some qm86) else some μ)) : Option (zMem)).bind (fun jm88 => (if 0 < (jm88.1 9 0 13) then some jm88 else (f9_goesOn jm88).bind (fun qm90 => (f9_tellLaw v78 qm90).bind (fun qm92 => some qm92)))) else (if (μ.1 105 0 (μ.1 9 0 11).toNatClampNeg) = (26 : Int32) then z_let ((μ.1 105 0 (μ.1 9 0 11).toNatClampNeg) - (24 : Int32)) fun v95 => ((if v95 < 0 then (f9_fail (1 : Int32) μ).bind (fun qm100 => some qm100) else (if (27 : Int32) < (μ.1 105 0 (μ.1 9 0 11).toNatClampNeg) then (f9_fail (1 : Int32) μ).bind (fun qm103 => some qm103) else some μ)) : Option (zMem)).bind (fun jm105 => (if 0 < (jm105.1 9 0 13) then some jm105 else (f9_goesOn jm105).bind (fun qm107 => (f9_tellLaw v95 qm107).bind (fun qm109 => some qm109)))) else (if (μ.1 105 0 (μ.1 9 0 11).toNatClampNeg) = (27 : Int32) then z_let ((μ.1 105 0 (μ.1 9 0 11).toNatClampNeg) - (24 : Int32)) fun v112 => ((if v112 < 0 then (f9_fail (1 : Int32) μ).bind (fun qm117 => some qm117) else (if (27 : Int32) < (μ.1 105 0 (μ.1 9 0 11).toNatClampNeg) then (f9_fail (1 : Int32) μ).bind (fun qm120 => some qm120) else some μ)) : Option (zMem)).bind (fun jm122 => (if 0 < (jm122.1 9 0 13) then some jm122 else (f9_goesOn jm122).bind (fun qm124 => (f9_tellLaw v112 qm124).bind (fun qm126 => some qm126)))) else (if (μ.1 105 0 (μ.1 9 0 11).toNatClampNeg) = (28 : Int32) then (f9_goesOn μ).bind (fun qm129 => (f9_bounded (9999 : Int32) qm129).bind (z_u2 fun q131 qm132 => if z_in (qm129.1 9 0 19) 2 = true then z_let (z_sI qm132 131 0 (qm129.1 9 0 19).toNatClampNeg q131) fun m134 => (f9_must (4 : Int32) m134).bind (fun qm137 => some qm137) else none)) else z_let ((μ.1 105 0 (μ.1 9 0 11).toNatClampNeg) - (24 : Int32)) fun v139 => ((if v139 < 0 then (f9_fail (1 : Int32) μ).bind (fun qm144 => some qm144) else (if (27 : Int32) < (μ.1 105 0 (μ.1 9 0 11).toNatClampNeg) then (f9_fail (1 : Int32) μ).bind (fun qm147 => some qm147) else some μ)) : Option (zMem)).bind (fun jm149 => (if 0 < (jm149.1 9 0 13) then some jm149 else (f9_goesOn jm149).bind (fun qm151 => (f9_tellLaw v139 qm151).bind (fun qm153 => some qm153))))))))))))) else none
theorem s9_tellOne {P : zP} {μ : zMem} {μ' : zMem} (h : f9_tellOne μ = some μ') : z_Sp P y_9_tellOne M_9_tellOne 7 [zA 9 0] μ none μ' := by
  refine z_Sp.of (plainFor_of_name (by decide)) rfl (l0 := [some (zA 9 0), none]) rfl (Nat.le_of_ble_eq_true rfl) ?_
  unfold f9_tellOne at h
  refine zr_aload_n (i := 0) d_9_tellOne_0 rfl rfl ?_
  refine zr_gets (i' := 0) d_9_tellOne_1 fw_9_20 rfl ?_
  refine zr_aload_n (i := 0) d_9_tellOne_4 rfl rfl ?_
  refine zr_geti d_9_tellOne_5 fw_9_206 (by decide) ?_
  obtain ⟨hb1, h⟩ := z_gd h
  refine zr_iald d_9_tellOne_8 sa_105 rfl hb1 ?_
  by_cases hs2 : (μ.1 105 0 (μ.1 9 0 11).toNatClampNeg) = (20 : Int32)
  · replace h := z_ip h hs2
    refine zr_tbl (off := 51) (tgt := 60) hs2 d_9_tellOne_9 (by decide) (by decide) rfl rfl ?_
    refine zr_aload_n (i := 0) d_9_tellOne_60 rfl rfl ?_
    refine zr_aload_n (i := 0) d_9_tellOne_61 rfl rfl ?_
    refine zr_gets (i' := 0) d_9_tellOne_62 fw_9_46 rfl ?_
    refine zr_aload_n (i := 0) d_9_tellOne_65 rfl rfl ?_
    refine zr_geti d_9_tellOne_66 fw_9_236 (by decide) ?_
    obtain ⟨hb3, h⟩ := z_gd h
    refine zr_iald d_9_tellOne_69 sa_123 rfl hb3 ?_
    refine zr_iconst (v := (5 : Int32)) d_9_tellOne_70 rfl ?_
    obtain ⟨qm4, hq5, h⟩ := z_bd h
    refine zr_callVv (av := [zI (μ.1 123 0 (μ.1 9 0 19).toNatClampNeg), zI (5 : Int32)]) (st := []) d_9_tellOne_71 mw_9_roomFor ml_9_257 im_9_roomFor se_9_roomFor rfl rfl (Nat.le_of_ble_eq_true rfl) fit_3_3_7 rfl rfl rfl (s9_roomFor hq5) ?_
    refine zr_aload_n (i := 0) d_9_tellOne_74 rfl rfl ?_
    refine zr_geti d_9_tellOne_75 fw_9_203 (by decide) ?_
    refine zr_if_le (tgt := 82) d_9_tellOne_78 rfl (fun hc6 => ?_) (fun hc6 => ?_)
    · replace h := z_ip h hc6
      obtain rfl := Option.some.inj h
      exact ze_v d_9_tellOne_81 rfl
    · replace h := z_im h hc6
      refine zr_aload_n (i := 0) d_9_tellOne_82 rfl rfl ?_
      obtain ⟨⟨q7, qm8⟩, hq9, h⟩ := z_bd h
      replace h := z_h2 h
      refine zr_callVi (av := []) (st := []) d_9_tellOne_83 mw_9_named ml_9_261 im_9_named se_9_named rfl rfl (Nat.le_of_ble_eq_true rfl) fit_4_3_7 rfl rfl rfl (s9_named hq9) ?_
      refine zr_istore_n (i := 1) (l' := [some (zA 9 0), some (zI q7)]) d_9_tellOne_86 rfl (by decide) rfl ?_
      refine zr_aload_n (i := 0) d_9_tellOne_87 rfl rfl ?_
      refine zr_gets (i' := 0) d_9_tellOne_88 fw_9_49 rfl ?_
      refine zr_iconst (v := (5 : Int32)) d_9_tellOne_91 rfl ?_
      refine zr_aload_n (i := 0) d_9_tellOne_92 rfl rfl ?_
      refine zr_geti d_9_tellOne_93 fw_9_236 (by decide) ?_
      refine zr_imul d_9_tellOne_96 ?_
      refine zr_aload_n (i := 0) d_9_tellOne_97 rfl rfl ?_
      refine zr_gets (i' := 0) d_9_tellOne_98 fw_9_46 rfl ?_
      refine zr_aload_n (i := 0) d_9_tellOne_101 rfl rfl ?_
      refine zr_geti d_9_tellOne_102 fw_9_236 (by decide) ?_
      obtain ⟨hb10, h⟩ := z_gd h
      refine zr_iald d_9_tellOne_105 sa_123 rfl hb10 ?_
      refine zr_iadd d_9_tellOne_106 ?_
      refine zr_aload_n (i := 0) d_9_tellOne_107 rfl rfl ?_
      refine zr_bipush (v := (99 : Int32)) d_9_tellOne_108 rfl ?_
      obtain ⟨⟨q11, qm12⟩, hq13, h⟩ := z_bd h
      replace h := z_h2 h
      refine zr_callVi (av := [zI (99 : Int32)]) (st := [zI (((5 : Int32) * (qm8.1 9 0 19)) + (qm8.1 123 0 (qm8.1 9 0 19).toNatClampNeg)), zA 124 0]) d_9_tellOne_110 mw_9_bounded ml_9_265 im_9_bounded se_9_bounded rfl rfl (Nat.le_of_ble_eq_true rfl) fit_3_3_7 rfl rfl rfl (s9_bounded hq13) ?_
      obtain ⟨hb16, h⟩ := z_gd h
      obtain ⟨m14, hm15, h⟩ := z_lt h
      refine zr_iast d_9_tellOne_113 sa_124 rfl hb16 hm15 ?_
      refine zr_aload_n (i := 0) d_9_tellOne_114 rfl rfl ?_
      refine zr_iload_n (i := 1) d_9_tellOne_115 rfl rfl ?_
      refine zr_aload_n (i := 0) d_9_tellOne_116 rfl rfl ?_
      refine zr_gets (i' := 0) d_9_tellOne_117 fw_9_46 rfl ?_
      refine zr_aload_n (i := 0) d_9_tellOne_120 rfl rfl ?_
      refine zr_geti d_9_tellOne_121 fw_9_236 (by decide) ?_
      obtain ⟨hb17, h⟩ := z_gd h
      refine zr_iald d_9_tellOne_124 sa_123 rfl hb17 ?_
      obtain ⟨qm18, hq19, h⟩ := z_bd h
      refine zr_callVv (av := [zI q7, zI (m14.1 123 0 (m14.1 9 0 19).toNatClampNeg)]) (st := []) d_9_tellOne_125 mw_9_endsName ml_9_268 im_9_endsName se_9_endsName rfl rfl (Nat.le_of_ble_eq_true rfl) fit_4_3_7 rfl rfl rfl (s9_endsName hq19) ?_
      refine zr_aload_n (i := 0) d_9_tellOne_128 rfl rfl ?_
      refine zr_geti d_9_tellOne_129 fw_9_203 (by decide) ?_
      refine zr_if_ne (tgt := 386) d_9_tellOne_132 rfl (fun hc20 => ?_) (fun hc20 => ?_)
      · replace h := z_ip h hc20
        refine zr_aload_n (i := 0) d_9_tellOne_135 rfl rfl ?_
        refine zr_gets (i' := 0) d_9_tellOne_136 fw_9_46 rfl ?_
        refine zr_aload_n (i := 0) d_9_tellOne_139 rfl rfl ?_
        refine zr_geti d_9_tellOne_140 fw_9_236 (by decide) ?_
        refine zr_dup2 d_9_tellOne_143 ?_
        obtain ⟨hb21, h⟩ := z_gd h
        refine zr_iald d_9_tellOne_144 sa_123 rfl hb21 ?_
        refine zr_iconst (v := (1 : Int32)) d_9_tellOne_145 rfl ?_
        refine zr_iadd d_9_tellOne_146 ?_
        obtain ⟨m22, hm23, h⟩ := z_lt h
        refine zr_iast d_9_tellOne_147 sa_123 rfl hb21 hm23 ?_
        refine zr_goto (tgt := 386) d_9_tellOne_148 rfl ?_
        obtain rfl := Option.some.inj h
        exact ze_v d_9_tellOne_386 rfl
      · replace h := z_im h hc20
        obtain rfl := Option.some.inj h
        exact ze_v d_9_tellOne_386 rfl
  · replace h := z_im h hs2
    by_cases hs24 : (μ.1 105 0 (μ.1 9 0 11).toNatClampNeg) = (21 : Int32)
    · replace h := z_ip h hs24
      refine zr_tbl (off := 142) (tgt := 151) hs24 d_9_tellOne_9 (by decide) (by decide) rfl rfl ?_
      refine zr_aload_n (i := 0) d_9_tellOne_151 rfl rfl ?_
      refine zr_aload_n (i := 0) d_9_tellOne_152 rfl rfl ?_
      refine zr_gets (i' := 0) d_9_tellOne_153 fw_9_55 rfl ?_
      refine zr_aload_n (i := 0) d_9_tellOne_156 rfl rfl ?_
      refine zr_geti d_9_tellOne_157 fw_9_236 (by decide) ?_
      obtain ⟨hb25, h⟩ := z_gd h
      refine zr_iald d_9_tellOne_160 sa_126 rfl hb25 ?_
      refine zr_bipush (v := (7 : Int32)) d_9_tellOne_161 rfl ?_
      obtain ⟨qm26, hq27, h⟩ := z_bd h
      refine zr_callVv (av := [zI (μ.1 126 0 (μ.1 9 0 19).toNatClampNeg), zI (7 : Int32)]) (st := []) d_9_tellOne_163 mw_9_roomFor ml_9_257 im_9_roomFor se_9_roomFor rfl rfl (Nat.le_of_ble_eq_true rfl) fit_3_3_7 rfl rfl rfl (s9_roomFor hq27) ?_
      refine zr_aload_n (i := 0) d_9_tellOne_166 rfl rfl ?_
      refine zr_geti d_9_tellOne_167 fw_9_203 (by decide) ?_
      refine zr_if_le (tgt := 174) d_9_tellOne_170 rfl (fun hc28 => ?_) (fun hc28 => ?_)
      · replace h := z_ip h hc28
        obtain rfl := Option.some.inj h
        exact ze_v d_9_tellOne_173 rfl
      · replace h := z_im h hc28
        refine zr_aload_n (i := 0) d_9_tellOne_174 rfl rfl ?_
        obtain ⟨⟨q29, qm30⟩, hq31, h⟩ := z_bd h
        replace h := z_h2 h
        refine zr_callVi (av := []) (st := []) d_9_tellOne_175 mw_9_named ml_9_261 im_9_named se_9_named rfl rfl (Nat.le_of_ble_eq_true rfl) fit_4_3_7 rfl rfl rfl (s9_named hq31) ?_
        refine zr_istore_n (i := 1) (l' := [some (zA 9 0), some (zI q29)]) d_9_tellOne_178 rfl (by decide) rfl ?_
        refine zr_aload_n (i := 0) d_9_tellOne_179 rfl rfl ?_
        refine zr_gets (i' := 0) d_9_tellOne_180 fw_9_58 rfl ?_
        refine zr_bipush (v := (7 : Int32)) d_9_tellOne_183 rfl ?_
        refine zr_aload_n (i := 0) d_9_tellOne_185 rfl rfl ?_
        refine zr_geti d_9_tellOne_186 fw_9_236 (by decide) ?_
        refine zr_imul d_9_tellOne_189 ?_
        refine zr_aload_n (i := 0) d_9_tellOne_190 rfl rfl ?_
        refine zr_gets (i' := 0) d_9_tellOne_191 fw_9_55 rfl ?_
        refine zr_aload_n (i := 0) d_9_tellOne_194 rfl rfl ?_
        refine zr_geti d_9_tellOne_195 fw_9_236 (by decide) ?_
        obtain ⟨hb32, h⟩ := z_gd h
        refine zr_iald d_9_tellOne_198 sa_126 rfl hb32 ?_
        refine zr_iadd d_9_tellOne_199 ?_
        refine zr_aload_n (i := 0) d_9_tellOne_200 rfl rfl ?_
        refine zr_bipush (v := (99 : Int32)) d_9_tellOne_201 rfl ?_
        obtain ⟨⟨q33, qm34⟩, hq35, h⟩ := z_bd h
        replace h := z_h2 h
        refine zr_callVi (av := [zI (99 : Int32)]) (st := [zI (((7 : Int32) * (qm30.1 9 0 19)) + (qm30.1 126 0 (qm30.1 9 0 19).toNatClampNeg)), zA 127 0]) d_9_tellOne_203 mw_9_bounded ml_9_265 im_9_bounded se_9_bounded rfl rfl (Nat.le_of_ble_eq_true rfl) fit_3_3_7 rfl rfl rfl (s9_bounded hq35) ?_
        obtain ⟨hb38, h⟩ := z_gd h
        obtain ⟨m36, hm37, h⟩ := z_lt h
        refine zr_iast d_9_tellOne_206 sa_127 rfl hb38 hm37 ?_
        refine zr_aload_n (i := 0) d_9_tellOne_207 rfl rfl ?_
        refine zr_iload_n (i := 1) d_9_tellOne_208 rfl rfl ?_
        refine zr_bipush (v := (10 : Int32)) d_9_tellOne_209 rfl ?_
        refine zr_aload_n (i := 0) d_9_tellOne_211 rfl rfl ?_
        refine zr_gets (i' := 0) d_9_tellOne_212 fw_9_55 rfl ?_
        refine zr_aload_n (i := 0) d_9_tellOne_215 rfl rfl ?_
        refine zr_geti d_9_tellOne_216 fw_9_236 (by decide) ?_
        obtain ⟨hb39, h⟩ := z_gd h
        refine zr_iald d_9_tellOne_219 sa_126 rfl hb39 ?_
        refine zr_iadd d_9_tellOne_220 ?_
        obtain ⟨qm40, hq41, h⟩ := z_bd h
        refine zr_callVv (av := [zI q29, zI ((10 : Int32) + (m36.1 126 0 (m36.1 9 0 19).toNatClampNeg))]) (st := []) d_9_tellOne_221 mw_9_endsName ml_9_268 im_9_endsName se_9_endsName rfl rfl (Nat.le_of_ble_eq_true rfl) fit_4_3_7 rfl rfl rfl (s9_endsName hq41) ?_
        refine zr_aload_n (i := 0) d_9_tellOne_224 rfl rfl ?_
        refine zr_geti d_9_tellOne_225 fw_9_203 (by decide) ?_
        refine zr_if_ne (tgt := 386) d_9_tellOne_228 rfl (fun hc42 => ?_) (fun hc42 => ?_)
        · replace h := z_ip h hc42
          refine zr_aload_n (i := 0) d_9_tellOne_231 rfl rfl ?_
          refine zr_gets (i' := 0) d_9_tellOne_232 fw_9_55 rfl ?_
          refine zr_aload_n (i := 0) d_9_tellOne_235 rfl rfl ?_
          refine zr_geti d_9_tellOne_236 fw_9_236 (by decide) ?_
          refine zr_dup2 d_9_tellOne_239 ?_
          obtain ⟨hb43, h⟩ := z_gd h
          refine zr_iald d_9_tellOne_240 sa_126 rfl hb43 ?_
          refine zr_iconst (v := (1 : Int32)) d_9_tellOne_241 rfl ?_
          refine zr_iadd d_9_tellOne_242 ?_
          obtain ⟨m44, hm45, h⟩ := z_lt h
          refine zr_iast d_9_tellOne_243 sa_126 rfl hb43 hm45 ?_
          refine zr_goto (tgt := 386) d_9_tellOne_244 rfl ?_
          obtain rfl := Option.some.inj h
          exact ze_v d_9_tellOne_386 rfl
        · replace h := z_im h hc42
          obtain rfl := Option.some.inj h
          exact ze_v d_9_tellOne_386 rfl
    · replace h := z_im h hs24
      by_cases hs46 : (μ.1 105 0 (μ.1 9 0 11).toNatClampNeg) = (22 : Int32)
      · replace h := z_ip h hs46
        refine zr_tbl (off := 238) (tgt := 247) hs46 d_9_tellOne_9 (by decide) (by decide) rfl rfl ?_
        refine zr_aload_n (i := 0) d_9_tellOne_247 rfl rfl ?_
        refine zr_aload_n (i := 0) d_9_tellOne_248 rfl rfl ?_
        refine zr_gets (i' := 0) d_9_tellOne_249 fw_9_64 rfl ?_
        refine zr_aload_n (i := 0) d_9_tellOne_252 rfl rfl ?_
        refine zr_geti d_9_tellOne_253 fw_9_236 (by decide) ?_
        obtain ⟨hb47, h⟩ := z_gd h
        refine zr_iald d_9_tellOne_256 sa_129 rfl hb47 ?_
        refine zr_bipush (v := (20 : Int32)) d_9_tellOne_257 rfl ?_
        obtain ⟨qm48, hq49, h⟩ := z_bd h
        refine zr_callVv (av := [zI (μ.1 129 0 (μ.1 9 0 19).toNatClampNeg), zI (20 : Int32)]) (st := []) d_9_tellOne_259 mw_9_roomFor ml_9_257 im_9_roomFor se_9_roomFor rfl rfl (Nat.le_of_ble_eq_true rfl) fit_3_3_7 rfl rfl rfl (s9_roomFor hq49) ?_
        refine zr_aload_n (i := 0) d_9_tellOne_262 rfl rfl ?_
        refine zr_geti d_9_tellOne_263 fw_9_203 (by decide) ?_
        refine zr_if_ne (tgt := 386) d_9_tellOne_266 rfl (fun hc50 => ?_) (fun hc50 => ?_)
        · replace h := z_ip h hc50
          refine zr_aload_n (i := 0) d_9_tellOne_269 rfl rfl ?_
          obtain ⟨qm51, hq52, h⟩ := z_bd h
          refine zr_callVv (av := []) (st := []) d_9_tellOne_270 mw_9_tellRight ml_9_271 im_9_tellRight se_9_tellRight rfl rfl (Nat.le_of_ble_eq_true rfl) fit_5_5_7 rfl rfl rfl (s9_tellRight hq52) ?_
          refine zr_goto (tgt := 386) d_9_tellOne_273 rfl ?_
          obtain rfl := Option.some.inj h
          exact ze_v d_9_tellOne_386 rfl
        · replace h := z_im h hc50
          obtain rfl := Option.some.inj h
          exact ze_v d_9_tellOne_386 rfl
      · replace h := z_im h hs46
        by_cases hs53 : (μ.1 105 0 (μ.1 9 0 11).toNatClampNeg) = (23 : Int32)
        · replace h := z_ip h hs53
          refine zr_tbl (off := 267) (tgt := 276) hs53 d_9_tellOne_9 (by decide) (by decide) rfl rfl ?_
          refine zr_aload_n (i := 0) d_9_tellOne_276 rfl rfl ?_
          refine zr_aload_n (i := 0) d_9_tellOne_277 rfl rfl ?_
          refine zr_gets (i' := 0) d_9_tellOne_278 fw_9_67 rfl ?_
          refine zr_aload_n (i := 0) d_9_tellOne_281 rfl rfl ?_
          refine zr_geti d_9_tellOne_282 fw_9_236 (by decide) ?_
          obtain ⟨hb54, h⟩ := z_gd h
          refine zr_iald d_9_tellOne_285 sa_130 rfl hb54 ?_
          refine zr_bipush (v := (7 : Int32)) d_9_tellOne_286 rfl ?_
          obtain ⟨qm55, hq56, h⟩ := z_bd h
          refine zr_callVv (av := [zI (μ.1 130 0 (μ.1 9 0 19).toNatClampNeg), zI (7 : Int32)]) (st := []) d_9_tellOne_288 mw_9_roomFor ml_9_257 im_9_roomFor se_9_roomFor rfl rfl (Nat.le_of_ble_eq_true rfl) fit_3_3_7 rfl rfl rfl (s9_roomFor hq56) ?_
          refine zr_aload_n (i := 0) d_9_tellOne_291 rfl rfl ?_
          refine zr_geti d_9_tellOne_292 fw_9_203 (by decide) ?_
          refine zr_if_ne (tgt := 386) d_9_tellOne_295 rfl (fun hc57 => ?_) (fun hc57 => ?_)
          · replace h := z_ip h hc57
            refine zr_aload_n (i := 0) d_9_tellOne_298 rfl rfl ?_
            obtain ⟨qm58, hq59, h⟩ := z_bd h
            refine zr_callVv (av := []) (st := []) d_9_tellOne_299 mw_9_tellAway ml_9_274 im_9_tellAway se_9_tellAway rfl rfl (Nat.le_of_ble_eq_true rfl) fit_5_3_7 rfl rfl rfl (s9_tellAway hq59) ?_
            refine zr_goto (tgt := 386) d_9_tellOne_302 rfl ?_
            obtain rfl := Option.some.inj h
            exact ze_v d_9_tellOne_386 rfl
          · replace h := z_im h hc57
            obtain rfl := Option.some.inj h
            exact ze_v d_9_tellOne_386 rfl
        · replace h := z_im h hs53
          by_cases hs60 : (μ.1 105 0 (μ.1 9 0 11).toNatClampNeg) = (24 : Int32)
          · replace h := z_ip h hs60
            refine zr_tbl (off := 324) (tgt := 333) hs60 d_9_tellOne_9 (by decide) (by decide) rfl rfl ?_
            refine zr_aload_n (i := 0) d_9_tellOne_333 rfl rfl ?_
            refine zr_gets (i' := 0) d_9_tellOne_334 fw_9_20 rfl ?_
            refine zr_aload_n (i := 0) d_9_tellOne_337 rfl rfl ?_
            refine zr_geti d_9_tellOne_338 fw_9_206 (by decide) ?_
            refine zr_iald d_9_tellOne_341 sa_105 rfl hb1 ?_
            refine zr_bipush (v := (24 : Int32)) d_9_tellOne_342 rfl ?_
            refine zr_isub d_9_tellOne_344 ?_
            obtain ⟨v61, hv62, h⟩ := z_lt h
            refine zr_nm hv62 ?_
            refine zr_istore_n (i := 1) (l' := [some (zA 9 0), some (zI v61)]) d_9_tellOne_345 rfl (by decide) rfl ?_
            refine zr_iload_n (i := 1) d_9_tellOne_346 rfl rfl ?_
            obtain ⟨jm71, hT63, h⟩ := z_bd h
            have hJ64 : z_RQ P M_9_tellOne (z_rm 7) (z_mq P none μ') 0 0 369 [some (zA 9 0), some (zI v61)] [] jm71 := by
              refine zr_aload_n (i := 0) d_9_tellOne_369 rfl rfl ?_
              refine zr_geti d_9_tellOne_370 fw_9_203 (by decide) ?_
              refine zr_if_le (tgt := 377) d_9_tellOne_373 rfl (fun hc72 => ?_) (fun hc72 => ?_)
              · replace h := z_ip h hc72
                obtain rfl := Option.some.inj h
                exact ze_v d_9_tellOne_376 rfl
              · replace h := z_im h hc72
                refine zr_aload_n (i := 0) d_9_tellOne_377 rfl rfl ?_
                obtain ⟨qm73, hq74, h⟩ := z_bd h
                refine zr_callVv (av := []) (st := []) d_9_tellOne_378 mw_9_goesOn ml_9_224 im_9_goesOn se_9_goesOn rfl rfl (Nat.le_of_ble_eq_true rfl) fit_2_1_7 rfl rfl rfl (s9_goesOn hq74) ?_
                refine zr_aload_n (i := 0) d_9_tellOne_381 rfl rfl ?_
                refine zr_iload_n (i := 1) d_9_tellOne_382 rfl rfl ?_
                obtain ⟨qm75, hq76, h⟩ := z_bd h
                refine zr_callVv (av := [zI v61]) (st := []) d_9_tellOne_383 mw_9_tellLaw ml_9_280 im_9_tellLaw se_9_tellLaw rfl rfl (Nat.le_of_ble_eq_true rfl) fit_6_4_7 rfl rfl rfl (s9_tellLaw hq76) ?_
                obtain rfl := Option.some.inj h
                exact ze_v d_9_tellOne_386 rfl
            refine zr_if_lt (tgt := 364) d_9_tellOne_347 rfl (fun hc65 => ?_) (fun hc65 => ?_)
            · replace hT63 := z_ip hT63 hc65
              refine zr_aload_n (i := 0) d_9_tellOne_364 rfl rfl ?_
              refine zr_iconst (v := (1 : Int32)) d_9_tellOne_365 rfl ?_
              obtain ⟨qm66, hq67, hT63⟩ := z_bd hT63
              refine zr_callVv (av := [zI (1 : Int32)]) (st := []) d_9_tellOne_366 mw_9_fail ml_9_218 im_9_fail se_9_fail rfl rfl (Nat.le_of_ble_eq_true rfl) fit_1_2_7 rfl rfl rfl (s9_fail hq67) ?_
              obtain rfl := Option.some.inj hT63
              exact zr_wk2 hJ64 ⟨rfl, ⟨rfl, trivial⟩⟩
            · replace hT63 := z_im hT63 hc65
              refine zr_aload_n (i := 0) d_9_tellOne_350 rfl rfl ?_
              refine zr_gets (i' := 0) d_9_tellOne_351 fw_9_20 rfl ?_
              refine zr_aload_n (i := 0) d_9_tellOne_354 rfl rfl ?_
              refine zr_geti d_9_tellOne_355 fw_9_206 (by decide) ?_
              refine zr_iald d_9_tellOne_358 sa_105 rfl hb1 ?_
              refine zr_bipush (v := (27 : Int32)) d_9_tellOne_359 rfl ?_
              refine zr_icmp_le (tgt := 369) d_9_tellOne_361 rfl (fun hc68 => ?_) (fun hc68 => ?_)
              · replace hT63 := z_ip hT63 hc68
                refine zr_aload_n (i := 0) d_9_tellOne_364 rfl rfl ?_
                refine zr_iconst (v := (1 : Int32)) d_9_tellOne_365 rfl ?_
                obtain ⟨qm69, hq70, hT63⟩ := z_bd hT63
                refine zr_callVv (av := [zI (1 : Int32)]) (st := []) d_9_tellOne_366 mw_9_fail ml_9_218 im_9_fail se_9_fail rfl rfl (Nat.le_of_ble_eq_true rfl) fit_1_2_7 rfl rfl rfl (s9_fail hq70) ?_
                obtain rfl := Option.some.inj hT63
                exact zr_wk2 hJ64 ⟨rfl, ⟨rfl, trivial⟩⟩
              · replace hT63 := z_im hT63 hc68
                obtain rfl := Option.some.inj hT63
                exact zr_wk2 hJ64 ⟨rfl, ⟨rfl, trivial⟩⟩
          · replace h := z_im h hs60
            by_cases hs77 : (μ.1 105 0 (μ.1 9 0 11).toNatClampNeg) = (25 : Int32)
            · replace h := z_ip h hs77
              refine zr_tbl (off := 324) (tgt := 333) hs77 d_9_tellOne_9 (by decide) (by decide) rfl rfl ?_
              refine zr_aload_n (i := 0) d_9_tellOne_333 rfl rfl ?_
              refine zr_gets (i' := 0) d_9_tellOne_334 fw_9_20 rfl ?_
              refine zr_aload_n (i := 0) d_9_tellOne_337 rfl rfl ?_
              refine zr_geti d_9_tellOne_338 fw_9_206 (by decide) ?_
              refine zr_iald d_9_tellOne_341 sa_105 rfl hb1 ?_
              refine zr_bipush (v := (24 : Int32)) d_9_tellOne_342 rfl ?_
              refine zr_isub d_9_tellOne_344 ?_
              obtain ⟨v78, hv79, h⟩ := z_lt h
              refine zr_nm hv79 ?_
              refine zr_istore_n (i := 1) (l' := [some (zA 9 0), some (zI v78)]) d_9_tellOne_345 rfl (by decide) rfl ?_
              refine zr_iload_n (i := 1) d_9_tellOne_346 rfl rfl ?_
              obtain ⟨jm88, hT80, h⟩ := z_bd h
              have hJ81 : z_RQ P M_9_tellOne (z_rm 7) (z_mq P none μ') 0 0 369 [some (zA 9 0), some (zI v78)] [] jm88 := by
                refine zr_aload_n (i := 0) d_9_tellOne_369 rfl rfl ?_
                refine zr_geti d_9_tellOne_370 fw_9_203 (by decide) ?_
                refine zr_if_le (tgt := 377) d_9_tellOne_373 rfl (fun hc89 => ?_) (fun hc89 => ?_)
                · replace h := z_ip h hc89
                  obtain rfl := Option.some.inj h
                  exact ze_v d_9_tellOne_376 rfl
                · replace h := z_im h hc89
                  refine zr_aload_n (i := 0) d_9_tellOne_377 rfl rfl ?_
                  obtain ⟨qm90, hq91, h⟩ := z_bd h
                  refine zr_callVv (av := []) (st := []) d_9_tellOne_378 mw_9_goesOn ml_9_224 im_9_goesOn se_9_goesOn rfl rfl (Nat.le_of_ble_eq_true rfl) fit_2_1_7 rfl rfl rfl (s9_goesOn hq91) ?_
                  refine zr_aload_n (i := 0) d_9_tellOne_381 rfl rfl ?_
                  refine zr_iload_n (i := 1) d_9_tellOne_382 rfl rfl ?_
                  obtain ⟨qm92, hq93, h⟩ := z_bd h
                  refine zr_callVv (av := [zI v78]) (st := []) d_9_tellOne_383 mw_9_tellLaw ml_9_280 im_9_tellLaw se_9_tellLaw rfl rfl (Nat.le_of_ble_eq_true rfl) fit_6_4_7 rfl rfl rfl (s9_tellLaw hq93) ?_
                  obtain rfl := Option.some.inj h
                  exact ze_v d_9_tellOne_386 rfl
              refine zr_if_lt (tgt := 364) d_9_tellOne_347 rfl (fun hc82 => ?_) (fun hc82 => ?_)
              · replace hT80 := z_ip hT80 hc82
                refine zr_aload_n (i := 0) d_9_tellOne_364 rfl rfl ?_
                refine zr_iconst (v := (1 : Int32)) d_9_tellOne_365 rfl ?_
                obtain ⟨qm83, hq84, hT80⟩ := z_bd hT80
                refine zr_callVv (av := [zI (1 : Int32)]) (st := []) d_9_tellOne_366 mw_9_fail ml_9_218 im_9_fail se_9_fail rfl rfl (Nat.le_of_ble_eq_true rfl) fit_1_2_7 rfl rfl rfl (s9_fail hq84) ?_
                obtain rfl := Option.some.inj hT80
                exact zr_wk2 hJ81 ⟨rfl, ⟨rfl, trivial⟩⟩
              · replace hT80 := z_im hT80 hc82
                refine zr_aload_n (i := 0) d_9_tellOne_350 rfl rfl ?_
                refine zr_gets (i' := 0) d_9_tellOne_351 fw_9_20 rfl ?_
                refine zr_aload_n (i := 0) d_9_tellOne_354 rfl rfl ?_
                refine zr_geti d_9_tellOne_355 fw_9_206 (by decide) ?_
                refine zr_iald d_9_tellOne_358 sa_105 rfl hb1 ?_
                refine zr_bipush (v := (27 : Int32)) d_9_tellOne_359 rfl ?_
                refine zr_icmp_le (tgt := 369) d_9_tellOne_361 rfl (fun hc85 => ?_) (fun hc85 => ?_)
                · replace hT80 := z_ip hT80 hc85
                  refine zr_aload_n (i := 0) d_9_tellOne_364 rfl rfl ?_
                  refine zr_iconst (v := (1 : Int32)) d_9_tellOne_365 rfl ?_
                  obtain ⟨qm86, hq87, hT80⟩ := z_bd hT80
                  refine zr_callVv (av := [zI (1 : Int32)]) (st := []) d_9_tellOne_366 mw_9_fail ml_9_218 im_9_fail se_9_fail rfl rfl (Nat.le_of_ble_eq_true rfl) fit_1_2_7 rfl rfl rfl (s9_fail hq87) ?_
                  obtain rfl := Option.some.inj hT80
                  exact zr_wk2 hJ81 ⟨rfl, ⟨rfl, trivial⟩⟩
                · replace hT80 := z_im hT80 hc85
                  obtain rfl := Option.some.inj hT80
                  exact zr_wk2 hJ81 ⟨rfl, ⟨rfl, trivial⟩⟩
            · replace h := z_im h hs77
              by_cases hs94 : (μ.1 105 0 (μ.1 9 0 11).toNatClampNeg) = (26 : Int32)
              · replace h := z_ip h hs94
                refine zr_tbl (off := 324) (tgt := 333) hs94 d_9_tellOne_9 (by decide) (by decide) rfl rfl ?_
                refine zr_aload_n (i := 0) d_9_tellOne_333 rfl rfl ?_
                refine zr_gets (i' := 0) d_9_tellOne_334 fw_9_20 rfl ?_
                refine zr_aload_n (i := 0) d_9_tellOne_337 rfl rfl ?_
                refine zr_geti d_9_tellOne_338 fw_9_206 (by decide) ?_
                refine zr_iald d_9_tellOne_341 sa_105 rfl hb1 ?_
                refine zr_bipush (v := (24 : Int32)) d_9_tellOne_342 rfl ?_
                refine zr_isub d_9_tellOne_344 ?_
                obtain ⟨v95, hv96, h⟩ := z_lt h
                refine zr_nm hv96 ?_
                refine zr_istore_n (i := 1) (l' := [some (zA 9 0), some (zI v95)]) d_9_tellOne_345 rfl (by decide) rfl ?_
                refine zr_iload_n (i := 1) d_9_tellOne_346 rfl rfl ?_
                obtain ⟨jm105, hT97, h⟩ := z_bd h
                have hJ98 : z_RQ P M_9_tellOne (z_rm 7) (z_mq P none μ') 0 0 369 [some (zA 9 0), some (zI v95)] [] jm105 := by
                  refine zr_aload_n (i := 0) d_9_tellOne_369 rfl rfl ?_
                  refine zr_geti d_9_tellOne_370 fw_9_203 (by decide) ?_
                  refine zr_if_le (tgt := 377) d_9_tellOne_373 rfl (fun hc106 => ?_) (fun hc106 => ?_)
                  · replace h := z_ip h hc106
                    obtain rfl := Option.some.inj h
                    exact ze_v d_9_tellOne_376 rfl
                  · replace h := z_im h hc106
                    refine zr_aload_n (i := 0) d_9_tellOne_377 rfl rfl ?_
                    obtain ⟨qm107, hq108, h⟩ := z_bd h
                    refine zr_callVv (av := []) (st := []) d_9_tellOne_378 mw_9_goesOn ml_9_224 im_9_goesOn se_9_goesOn rfl rfl (Nat.le_of_ble_eq_true rfl) fit_2_1_7 rfl rfl rfl (s9_goesOn hq108) ?_
                    refine zr_aload_n (i := 0) d_9_tellOne_381 rfl rfl ?_
                    refine zr_iload_n (i := 1) d_9_tellOne_382 rfl rfl ?_
                    obtain ⟨qm109, hq110, h⟩ := z_bd h
                    refine zr_callVv (av := [zI v95]) (st := []) d_9_tellOne_383 mw_9_tellLaw ml_9_280 im_9_tellLaw se_9_tellLaw rfl rfl (Nat.le_of_ble_eq_true rfl) fit_6_4_7 rfl rfl rfl (s9_tellLaw hq110) ?_
                    obtain rfl := Option.some.inj h
                    exact ze_v d_9_tellOne_386 rfl
                refine zr_if_lt (tgt := 364) d_9_tellOne_347 rfl (fun hc99 => ?_) (fun hc99 => ?_)
                · replace hT97 := z_ip hT97 hc99
                  refine zr_aload_n (i := 0) d_9_tellOne_364 rfl rfl ?_
                  refine zr_iconst (v := (1 : Int32)) d_9_tellOne_365 rfl ?_
                  obtain ⟨qm100, hq101, hT97⟩ := z_bd hT97
                  refine zr_callVv (av := [zI (1 : Int32)]) (st := []) d_9_tellOne_366 mw_9_fail ml_9_218 im_9_fail se_9_fail rfl rfl (Nat.le_of_ble_eq_true rfl) fit_1_2_7 rfl rfl rfl (s9_fail hq101) ?_
                  obtain rfl := Option.some.inj hT97
                  exact zr_wk2 hJ98 ⟨rfl, ⟨rfl, trivial⟩⟩
                · replace hT97 := z_im hT97 hc99
                  refine zr_aload_n (i := 0) d_9_tellOne_350 rfl rfl ?_
                  refine zr_gets (i' := 0) d_9_tellOne_351 fw_9_20 rfl ?_
                  refine zr_aload_n (i := 0) d_9_tellOne_354 rfl rfl ?_
                  refine zr_geti d_9_tellOne_355 fw_9_206 (by decide) ?_
                  refine zr_iald d_9_tellOne_358 sa_105 rfl hb1 ?_
                  refine zr_bipush (v := (27 : Int32)) d_9_tellOne_359 rfl ?_
                  refine zr_icmp_le (tgt := 369) d_9_tellOne_361 rfl (fun hc102 => ?_) (fun hc102 => ?_)
                  · replace hT97 := z_ip hT97 hc102
                    refine zr_aload_n (i := 0) d_9_tellOne_364 rfl rfl ?_
                    refine zr_iconst (v := (1 : Int32)) d_9_tellOne_365 rfl ?_
                    obtain ⟨qm103, hq104, hT97⟩ := z_bd hT97
                    refine zr_callVv (av := [zI (1 : Int32)]) (st := []) d_9_tellOne_366 mw_9_fail ml_9_218 im_9_fail se_9_fail rfl rfl (Nat.le_of_ble_eq_true rfl) fit_1_2_7 rfl rfl rfl (s9_fail hq104) ?_
                    obtain rfl := Option.some.inj hT97
                    exact zr_wk2 hJ98 ⟨rfl, ⟨rfl, trivial⟩⟩
                  · replace hT97 := z_im hT97 hc102
                    obtain rfl := Option.some.inj hT97
                    exact zr_wk2 hJ98 ⟨rfl, ⟨rfl, trivial⟩⟩
              · replace h := z_im h hs94
                by_cases hs111 : (μ.1 105 0 (μ.1 9 0 11).toNatClampNeg) = (27 : Int32)
                · replace h := z_ip h hs111
                  refine zr_tbl (off := 324) (tgt := 333) hs111 d_9_tellOne_9 (by decide) (by decide) rfl rfl ?_
                  refine zr_aload_n (i := 0) d_9_tellOne_333 rfl rfl ?_
                  refine zr_gets (i' := 0) d_9_tellOne_334 fw_9_20 rfl ?_
                  refine zr_aload_n (i := 0) d_9_tellOne_337 rfl rfl ?_
                  refine zr_geti d_9_tellOne_338 fw_9_206 (by decide) ?_
                  refine zr_iald d_9_tellOne_341 sa_105 rfl hb1 ?_
                  refine zr_bipush (v := (24 : Int32)) d_9_tellOne_342 rfl ?_
                  refine zr_isub d_9_tellOne_344 ?_
                  obtain ⟨v112, hv113, h⟩ := z_lt h
                  refine zr_nm hv113 ?_
                  refine zr_istore_n (i := 1) (l' := [some (zA 9 0), some (zI v112)]) d_9_tellOne_345 rfl (by decide) rfl ?_
                  refine zr_iload_n (i := 1) d_9_tellOne_346 rfl rfl ?_
                  obtain ⟨jm122, hT114, h⟩ := z_bd h
                  have hJ115 : z_RQ P M_9_tellOne (z_rm 7) (z_mq P none μ') 0 0 369 [some (zA 9 0), some (zI v112)] [] jm122 := by
                    refine zr_aload_n (i := 0) d_9_tellOne_369 rfl rfl ?_
                    refine zr_geti d_9_tellOne_370 fw_9_203 (by decide) ?_
                    refine zr_if_le (tgt := 377) d_9_tellOne_373 rfl (fun hc123 => ?_) (fun hc123 => ?_)
                    · replace h := z_ip h hc123
                      obtain rfl := Option.some.inj h
                      exact ze_v d_9_tellOne_376 rfl
                    · replace h := z_im h hc123
                      refine zr_aload_n (i := 0) d_9_tellOne_377 rfl rfl ?_
                      obtain ⟨qm124, hq125, h⟩ := z_bd h
                      refine zr_callVv (av := []) (st := []) d_9_tellOne_378 mw_9_goesOn ml_9_224 im_9_goesOn se_9_goesOn rfl rfl (Nat.le_of_ble_eq_true rfl) fit_2_1_7 rfl rfl rfl (s9_goesOn hq125) ?_
                      refine zr_aload_n (i := 0) d_9_tellOne_381 rfl rfl ?_
                      refine zr_iload_n (i := 1) d_9_tellOne_382 rfl rfl ?_
                      obtain ⟨qm126, hq127, h⟩ := z_bd h
                      refine zr_callVv (av := [zI v112]) (st := []) d_9_tellOne_383 mw_9_tellLaw ml_9_280 im_9_tellLaw se_9_tellLaw rfl rfl (Nat.le_of_ble_eq_true rfl) fit_6_4_7 rfl rfl rfl (s9_tellLaw hq127) ?_
                      obtain rfl := Option.some.inj h
                      exact ze_v d_9_tellOne_386 rfl
                  refine zr_if_lt (tgt := 364) d_9_tellOne_347 rfl (fun hc116 => ?_) (fun hc116 => ?_)
                  · replace hT114 := z_ip hT114 hc116
                    refine zr_aload_n (i := 0) d_9_tellOne_364 rfl rfl ?_
                    refine zr_iconst (v := (1 : Int32)) d_9_tellOne_365 rfl ?_
                    obtain ⟨qm117, hq118, hT114⟩ := z_bd hT114
                    refine zr_callVv (av := [zI (1 : Int32)]) (st := []) d_9_tellOne_366 mw_9_fail ml_9_218 im_9_fail se_9_fail rfl rfl (Nat.le_of_ble_eq_true rfl) fit_1_2_7 rfl rfl rfl (s9_fail hq118) ?_
                    obtain rfl := Option.some.inj hT114
                    exact zr_wk2 hJ115 ⟨rfl, ⟨rfl, trivial⟩⟩
                  · replace hT114 := z_im hT114 hc116
                    refine zr_aload_n (i := 0) d_9_tellOne_350 rfl rfl ?_
                    refine zr_gets (i' := 0) d_9_tellOne_351 fw_9_20 rfl ?_
                    refine zr_aload_n (i := 0) d_9_tellOne_354 rfl rfl ?_
                    refine zr_geti d_9_tellOne_355 fw_9_206 (by decide) ?_
                    refine zr_iald d_9_tellOne_358 sa_105 rfl hb1 ?_
                    refine zr_bipush (v := (27 : Int32)) d_9_tellOne_359 rfl ?_
                    refine zr_icmp_le (tgt := 369) d_9_tellOne_361 rfl (fun hc119 => ?_) (fun hc119 => ?_)
                    · replace hT114 := z_ip hT114 hc119
                      refine zr_aload_n (i := 0) d_9_tellOne_364 rfl rfl ?_
                      refine zr_iconst (v := (1 : Int32)) d_9_tellOne_365 rfl ?_
                      obtain ⟨qm120, hq121, hT114⟩ := z_bd hT114
                      refine zr_callVv (av := [zI (1 : Int32)]) (st := []) d_9_tellOne_366 mw_9_fail ml_9_218 im_9_fail se_9_fail rfl rfl (Nat.le_of_ble_eq_true rfl) fit_1_2_7 rfl rfl rfl (s9_fail hq121) ?_
                      obtain rfl := Option.some.inj hT114
                      exact zr_wk2 hJ115 ⟨rfl, ⟨rfl, trivial⟩⟩
                    · replace hT114 := z_im hT114 hc119
                      obtain rfl := Option.some.inj hT114
                      exact zr_wk2 hJ115 ⟨rfl, ⟨rfl, trivial⟩⟩
                · replace h := z_im h hs111
                  by_cases hs128 : (μ.1 105 0 (μ.1 9 0 11).toNatClampNeg) = (28 : Int32)
                  · replace h := z_ip h hs128
                    refine zr_tbl (off := 296) (tgt := 305) hs128 d_9_tellOne_9 (by decide) (by decide) rfl rfl ?_
                    refine zr_aload_n (i := 0) d_9_tellOne_305 rfl rfl ?_
                    obtain ⟨qm129, hq130, h⟩ := z_bd h
                    refine zr_callVv (av := []) (st := []) d_9_tellOne_306 mw_9_goesOn ml_9_224 im_9_goesOn se_9_goesOn rfl rfl (Nat.le_of_ble_eq_true rfl) fit_2_1_7 rfl rfl rfl (s9_goesOn hq130) ?_
                    refine zr_aload_n (i := 0) d_9_tellOne_309 rfl rfl ?_
                    refine zr_gets (i' := 0) d_9_tellOne_310 fw_9_70 rfl ?_
                    refine zr_aload_n (i := 0) d_9_tellOne_313 rfl rfl ?_
                    refine zr_geti d_9_tellOne_314 fw_9_236 (by decide) ?_
                    refine zr_aload_n (i := 0) d_9_tellOne_317 rfl rfl ?_
                    refine zr_sipush (v := (9999 : Int32)) d_9_tellOne_318 rfl ?_
                    obtain ⟨⟨q131, qm132⟩, hq133, h⟩ := z_bd h
                    replace h := z_h2 h
                    refine zr_callVi (av := [zI (9999 : Int32)]) (st := [zI (qm129.1 9 0 19), zA 131 0]) d_9_tellOne_321 mw_9_bounded ml_9_265 im_9_bounded se_9_bounded rfl rfl (Nat.le_of_ble_eq_true rfl) fit_3_3_7 rfl rfl rfl (s9_bounded hq133) ?_
                    obtain ⟨hb136, h⟩ := z_gd h
                    obtain ⟨m134, hm135, h⟩ := z_lt h
                    refine zr_iast d_9_tellOne_324 sa_131 rfl hb136 hm135 ?_
                    refine zr_aload_n (i := 0) d_9_tellOne_325 rfl rfl ?_
                    refine zr_iconst (v := (4 : Int32)) d_9_tellOne_326 rfl ?_
                    obtain ⟨qm137, hq138, h⟩ := z_bd h
                    refine zr_callVv (av := [zI (4 : Int32)]) (st := []) d_9_tellOne_327 mw_9_must ml_9_277 im_9_must se_9_must rfl rfl (Nat.le_of_ble_eq_true rfl) fit_3_2_7 rfl rfl rfl (s9_must hq138) ?_
                    refine zr_goto (tgt := 386) d_9_tellOne_330 rfl ?_
                    obtain rfl := Option.some.inj h
                    exact ze_v d_9_tellOne_386 rfl
                  · replace h := z_im h hs128
                    have hs2t := z_ti hs2
                    have hs24t := z_ti hs24
                    have hs46t := z_ti hs46
                    have hs53t := z_ti hs53
                    have hs60t := z_ti hs60
                    have hs77t := z_ti hs77
                    have hs94t := z_ti hs94
                    have hs111t := z_ti hs111
                    have hs128t := z_ti hs128
                    simp only [show ((20 : Int32)).toInt = 20 from rfl, show ((21 : Int32)).toInt = 21 from rfl, show ((22 : Int32)).toInt = 22 from rfl, show ((23 : Int32)).toInt = 23 from rfl, show ((24 : Int32)).toInt = 24 from rfl, show ((25 : Int32)).toInt = 25 from rfl, show ((26 : Int32)).toInt = 26 from rfl, show ((27 : Int32)).toInt = 27 from rfl, show ((28 : Int32)).toInt = 28 from rfl] at hs2t hs24t hs46t hs53t hs60t hs77t hs94t hs111t hs128t
                    refine zr_tableOut (tgt := 333) d_9_tellOne_9 (by omega) rfl ?_
                    refine zr_aload_n (i := 0) d_9_tellOne_333 rfl rfl ?_
                    refine zr_gets (i' := 0) d_9_tellOne_334 fw_9_20 rfl ?_
                    refine zr_aload_n (i := 0) d_9_tellOne_337 rfl rfl ?_
                    refine zr_geti d_9_tellOne_338 fw_9_206 (by decide) ?_
                    refine zr_iald d_9_tellOne_341 sa_105 rfl hb1 ?_
                    refine zr_bipush (v := (24 : Int32)) d_9_tellOne_342 rfl ?_
                    refine zr_isub d_9_tellOne_344 ?_
                    obtain ⟨v139, hv140, h⟩ := z_lt h
                    refine zr_nm hv140 ?_
                    refine zr_istore_n (i := 1) (l' := [some (zA 9 0), some (zI v139)]) d_9_tellOne_345 rfl (by decide) rfl ?_
                    refine zr_iload_n (i := 1) d_9_tellOne_346 rfl rfl ?_
                    obtain ⟨jm149, hT141, h⟩ := z_bd h
                    have hJ142 : z_RQ P M_9_tellOne (z_rm 7) (z_mq P none μ') 0 0 369 [some (zA 9 0), some (zI v139)] [] jm149 := by
                      refine zr_aload_n (i := 0) d_9_tellOne_369 rfl rfl ?_
                      refine zr_geti d_9_tellOne_370 fw_9_203 (by decide) ?_
                      refine zr_if_le (tgt := 377) d_9_tellOne_373 rfl (fun hc150 => ?_) (fun hc150 => ?_)
                      · replace h := z_ip h hc150
                        obtain rfl := Option.some.inj h
                        exact ze_v d_9_tellOne_376 rfl
                      · replace h := z_im h hc150
                        refine zr_aload_n (i := 0) d_9_tellOne_377 rfl rfl ?_
                        obtain ⟨qm151, hq152, h⟩ := z_bd h
                        refine zr_callVv (av := []) (st := []) d_9_tellOne_378 mw_9_goesOn ml_9_224 im_9_goesOn se_9_goesOn rfl rfl (Nat.le_of_ble_eq_true rfl) fit_2_1_7 rfl rfl rfl (s9_goesOn hq152) ?_
                        refine zr_aload_n (i := 0) d_9_tellOne_381 rfl rfl ?_
                        refine zr_iload_n (i := 1) d_9_tellOne_382 rfl rfl ?_
                        obtain ⟨qm153, hq154, h⟩ := z_bd h
                        refine zr_callVv (av := [zI v139]) (st := []) d_9_tellOne_383 mw_9_tellLaw ml_9_280 im_9_tellLaw se_9_tellLaw rfl rfl (Nat.le_of_ble_eq_true rfl) fit_6_4_7 rfl rfl rfl (s9_tellLaw hq154) ?_
                        obtain rfl := Option.some.inj h
                        exact ze_v d_9_tellOne_386 rfl
                    refine zr_if_lt (tgt := 364) d_9_tellOne_347 rfl (fun hc143 => ?_) (fun hc143 => ?_)
                    · replace hT141 := z_ip hT141 hc143
                      refine zr_aload_n (i := 0) d_9_tellOne_364 rfl rfl ?_
                      refine zr_iconst (v := (1 : Int32)) d_9_tellOne_365 rfl ?_
                      obtain ⟨qm144, hq145, hT141⟩ := z_bd hT141
                      refine zr_callVv (av := [zI (1 : Int32)]) (st := []) d_9_tellOne_366 mw_9_fail ml_9_218 im_9_fail se_9_fail rfl rfl (Nat.le_of_ble_eq_true rfl) fit_1_2_7 rfl rfl rfl (s9_fail hq145) ?_
                      obtain rfl := Option.some.inj hT141
                      exact zr_wk2 hJ142 ⟨rfl, ⟨rfl, trivial⟩⟩
                    · replace hT141 := z_im hT141 hc143
                      refine zr_aload_n (i := 0) d_9_tellOne_350 rfl rfl ?_
                      refine zr_gets (i' := 0) d_9_tellOne_351 fw_9_20 rfl ?_
                      refine zr_aload_n (i := 0) d_9_tellOne_354 rfl rfl ?_
                      refine zr_geti d_9_tellOne_355 fw_9_206 (by decide) ?_
                      refine zr_iald d_9_tellOne_358 sa_105 rfl hb1 ?_
                      refine zr_bipush (v := (27 : Int32)) d_9_tellOne_359 rfl ?_
                      refine zr_icmp_le (tgt := 369) d_9_tellOne_361 rfl (fun hc146 => ?_) (fun hc146 => ?_)
                      · replace hT141 := z_ip hT141 hc146
                        refine zr_aload_n (i := 0) d_9_tellOne_364 rfl rfl ?_
                        refine zr_iconst (v := (1 : Int32)) d_9_tellOne_365 rfl ?_
                        obtain ⟨qm147, hq148, hT141⟩ := z_bd hT141
                        refine zr_callVv (av := [zI (1 : Int32)]) (st := []) d_9_tellOne_366 mw_9_fail ml_9_218 im_9_fail se_9_fail rfl rfl (Nat.le_of_ble_eq_true rfl) fit_1_2_7 rfl rfl rfl (s9_fail hq148) ?_
                        obtain rfl := Option.some.inj hT141
                        exact zr_wk2 hJ142 ⟨rfl, ⟨rfl, trivial⟩⟩
                      · replace hT141 := z_im hT141 hc146
                        obtain rfl := Option.some.inj hT141
                        exact zr_wk2 hJ142 ⟨rfl, ⟨rfl, trivial⟩⟩
def f9_read_L3  : (Int32 × zMem) → Option ((Int32 × zMem) ⊕ (zMem)) := (z_u2 fun x4 xm5 => 
  (if x4 < (xm5.1 9 0 4) then if z_in x4 2000 = true then z_let (z_sI xm5 103 0 x4.toNatClampNeg (xm5.1 101 0 x4.toNatClampNeg).toInt8.toInt32) fun m8 => some (.inl ((x4 + (1 : Int32)), m8)) else none else some (.inr xm5)))
def f9_read_L34  : (zMem) → Option ((zMem) ⊕ (zMem)) := (fun xm35 => 
  (if (xm35.1 9 0 13) = 0 then (f9_is (0 : Int32) xm35).bind (fun q37 => (if q37 = 0 then (f9_tellOne xm35).bind (fun qm40 => some (.inl qm40)) else some (.inr xm35))) else some (.inr xm35)))
def f9_read_L63  : (Int32 × zMem) → Option ((Int32 × zMem) ⊕ (zMem)) := (z_u2 fun x64 xm65 => 
  (if x64 < (3 : Int32) then if z_in x64 3 = true then z_let (z_sI xm65 164 0 x64.toNatClampNeg (vp_nar .boolean (0 : Int32))) fun m67 => some (.inl ((x64 + (1 : Int32)), m67)) else none else some (.inr xm65)))
def f9_read  (μ : zMem) : Option (Int32 × zMem) :=
  z_let (z_sI μ 9 0 4 (μ.1 9 0 2)) fun m1 => (z_it (f9_read_L3) z_fu ((0 : Int32), m1)).bind (fun e10 => z_let (z_sI e10 9 0 2 (0 : Int32)) fun m12 => (f9_cut m12).bind (fun qm14 => z_let (z_sI qm14 9 0 11 (0 : Int32)) fun m16 => z_let (z_sI m16 9 0 12 (0 : Int32)) fun m18 => z_let (z_sI m18 9 0 13 (0 : Int32)) fun m20 => z_let (z_sI m20 9 0 15 (0 : Int32)) fun m22 => z_let (z_sI m22 9 0 19 ((1 : Int32) - (m22.1 9 0 18))) fun m24 => z_let (z_sI m24 9 0 20 (0 : Int32)) fun m26 => (f9_plain (m26.1 9 0 19) m26).bind (fun qm28 => z_let (z_sI qm28 9 0 34 ((130 : Int32) * (qm28.1 9 0 19))) fun m30 => z_let (z_sI m30 9 0 40 ((420 : Int32) * (m30.1 9 0 19))) fun m32 => (z_it (f9_read_L34) z_fu m32).bind (fun e42 => ((if 0 < (e42.1 9 0 13) then some (e42.1 9 0 14) else (if 0 < (e42.1 9 0 15) then some (e42.1 9 0 16) else some (-1 : Int32))) : Option (Int32)).bind (fun j48 => z_let (z_sI e42 9 0 17 j48) fun m49 => (if 0 < (m49.1 9 0 13) then some ((m49.1 9 0 13), m49) else (if 0 < (m49.1 9 0 15) then some ((m49.1 9 0 15), m49) else z_let (z_sI m49 9 0 18 (m49.1 9 0 19)) fun m53 => (f9_begins m53).bind (fun qm55 => (f9_keepsRow qm55).bind (fun qm57 => z_let (z_sI qm57 9 0 55 (0 : Int32)) fun m59 => z_let (z_sI m59 9 0 58 (0 : Int32)) fun m61 => (z_it (f9_read_L63) z_fu ((0 : Int32), m61)).bind (fun e70 => some ((0 : Int32), e70)))))))))))
theorem s9_read_L3 {P : zP} {ro : Option zV} {μo : zMem}  (x4 : Int32) (xm5 : zMem) (K : (Int32 × zMem) ⊕ (zMem)) (h : f9_read_L3  (x4, xm5) = some K) (hI : ∀ (y0 : Int32) (y1 : zMem), K = .inl (y0, y1) → z_RQ P M_9_read (z_rm 8) (z_mq P ro μo) 0 0 10 [some (zA 9 0), some (zI y0)] [] y1) (hE : ∀ (z0 : zMem), K = .inr z0 → z_RQ P M_9_read (z_rm 8) (z_mq P ro μo) 0 0 36 [some (zA 9 0), none] [] z0)  : z_RQ P M_9_read (z_rm 8) (z_mq P ro μo) 0 0 10 [some (zA 9 0), some (zI x4)] [] xm5 := by
  unfold f9_read_L3 at h
  replace h := z_h2 h
  refine zr_iload_n (i := 1) d_9_read_10 rfl rfl ?_
  refine zr_aload_n (i := 0) d_9_read_11 rfl rfl ?_
  refine zr_geti d_9_read_12 fw_9_172 (by decide) ?_
  refine zr_icmp_ge (tgt := 36) d_9_read_15 rfl (fun hc6 => ?_) (fun hc6 => ?_)
  · replace h := z_ip h hc6
    refine zr_aload_n (i := 0) d_9_read_18 rfl rfl ?_
    refine zr_gets (i' := 0) d_9_read_19 fw_9_17 rfl ?_
    refine zr_iload_n (i := 1) d_9_read_22 rfl rfl ?_
    refine zr_aload_n (i := 0) d_9_read_23 rfl rfl ?_
    refine zr_gets (i' := 0) d_9_read_24 fw_9_13 rfl ?_
    refine zr_iload_n (i := 1) d_9_read_27 rfl rfl ?_
    obtain ⟨hb7, h⟩ := z_gd h
    refine zr_bald d_9_read_28 sa_101 rfl hb7 ?_
    obtain ⟨m8, hm9, h⟩ := z_lt h
    refine zr_bast d_9_read_29 sa_103 rfl hb7 hm9 ?_
    refine zr_iinc (v := (x4 + (1 : Int32))) (l' := [some (zA 9 0), some (zI (x4 + (1 : Int32)))]) d_9_read_30 (by decide) rfl rfl rfl ?_
    refine zr_goto (tgt := 10) d_9_read_33 rfl ?_
    obtain rfl := Option.some.inj h
    exact zr_wk2 (hI (x4 + (1 : Int32)) m8 rfl) ⟨rfl, ⟨rfl, trivial⟩⟩
  · replace h := z_im h hc6
    obtain rfl := Option.some.inj h
    exact zr_wk2 (hE xm5 rfl) ⟨rfl, trivial⟩
theorem s9_read_L34 {P : zP} {ro : Option zV} {μo : zMem}  (xm35 : zMem) (K : (zMem) ⊕ (zMem)) (h : f9_read_L34  xm35 = some K) (hI : ∀ (y0 : zMem), K = .inl y0 → z_RQ P M_9_read (z_rm 8) (z_mq P ro μo) 0 0 112 [some (zA 9 0), none] [] y0) (hE : ∀ (z0 : zMem), K = .inr z0 → z_RQ P M_9_read (z_rm 8) (z_mq P ro μo) 0 0 134 [some (zA 9 0), none] [] z0)  : z_RQ P M_9_read (z_rm 8) (z_mq P ro μo) 0 0 112 [some (zA 9 0), none] [] xm35 := by
  unfold f9_read_L34 at h
  refine zr_aload_n (i := 0) d_9_read_112 rfl rfl ?_
  refine zr_geti d_9_read_113 fw_9_203 (by decide) ?_
  refine zr_if_ne (tgt := 134) d_9_read_116 rfl (fun hc36 => ?_) (fun hc36 => ?_)
  · replace h := z_ip h hc36
    refine zr_aload_n (i := 0) d_9_read_119 rfl rfl ?_
    refine zr_iconst (v := (0 : Int32)) d_9_read_120 rfl ?_
    obtain ⟨q37, hq38, h⟩ := z_bd h
    refine zr_callVi (av := [zI (0 : Int32)]) (st := []) d_9_read_121 mw_9_is ml_9_221 im_9_is se_9_is rfl rfl (Nat.le_of_ble_eq_true rfl) fit_1_2_8 rfl rfl rfl (s9_is hq38) ?_
    refine zr_if_ne (tgt := 134) d_9_read_124 rfl (fun hc39 => ?_) (fun hc39 => ?_)
    · replace h := z_ip h hc39
      refine zr_aload_n (i := 0) d_9_read_127 rfl rfl ?_
      obtain ⟨qm40, hq41, h⟩ := z_bd h
      refine zr_callVv (av := []) (st := []) d_9_read_128 mw_9_tellOne ml_9_248 im_9_tellOne se_9_tellOne rfl rfl (Nat.le_of_ble_eq_true rfl) fit_7_2_8 rfl rfl rfl (s9_tellOne hq41) ?_
      refine zr_goto (tgt := 112) d_9_read_131 rfl ?_
      obtain rfl := Option.some.inj h
      exact zr_wk2 (hI qm40 rfl) ⟨rfl, trivial⟩
    · replace h := z_im h hc39
      obtain rfl := Option.some.inj h
      exact zr_wk2 (hE xm35 rfl) ⟨rfl, trivial⟩
  · replace h := z_im h hc36
    obtain rfl := Option.some.inj h
    exact zr_wk2 (hE xm35 rfl) ⟨rfl, trivial⟩
theorem s9_read_L63 {P : zP} {ro : Option zV} {μo : zMem}  (x64 : Int32) (xm65 : zMem) (K : (Int32 × zMem) ⊕ (zMem)) (h : f9_read_L63  (x64, xm65) = some K) (hI : ∀ (y0 : Int32) (y1 : zMem), K = .inl (y0, y1) → z_RQ P M_9_read (z_rm 8) (z_mq P ro μo) 0 0 219 [some (zA 9 0), some (zI y0)] [] y1) (hE : ∀ (z0 : zMem), K = .inr z0 → z_RQ P M_9_read (z_rm 8) (z_mq P ro μo) 0 0 237 [none, none] [] z0)  : z_RQ P M_9_read (z_rm 8) (z_mq P ro μo) 0 0 219 [some (zA 9 0), some (zI x64)] [] xm65 := by
  unfold f9_read_L63 at h
  replace h := z_h2 h
  refine zr_iload_n (i := 1) d_9_read_219 rfl rfl ?_
  refine zr_iconst (v := (3 : Int32)) d_9_read_220 rfl ?_
  refine zr_icmp_ge (tgt := 237) d_9_read_221 rfl (fun hc66 => ?_) (fun hc66 => ?_)
  · replace h := z_ip h hc66
    refine zr_aload_n (i := 0) d_9_read_224 rfl rfl ?_
    refine zr_gets (i' := 0) d_9_read_225 fw_9_146 rfl ?_
    refine zr_iload_n (i := 1) d_9_read_228 rfl rfl ?_
    refine zr_iconst (v := (0 : Int32)) d_9_read_229 rfl ?_
    obtain ⟨hb69, h⟩ := z_gd h
    obtain ⟨m67, hm68, h⟩ := z_lt h
    refine zr_zast d_9_read_230 sa_164 rfl hb69 hm68 ?_
    refine zr_iinc (v := (x64 + (1 : Int32))) (l' := [some (zA 9 0), some (zI (x64 + (1 : Int32)))]) d_9_read_231 (by decide) rfl rfl rfl ?_
    refine zr_goto (tgt := 219) d_9_read_234 rfl ?_
    obtain rfl := Option.some.inj h
    exact zr_wk2 (hI (x64 + (1 : Int32)) m67 rfl) ⟨rfl, ⟨rfl, trivial⟩⟩
  · replace h := z_im h hc66
    obtain rfl := Option.some.inj h
    exact zr_wk2 (hE xm65 rfl) trivial
theorem s9_read {P : zP} {μ : zMem} {r : Int32} {μ' : zMem} (h : f9_read μ = some (r, μ')) : z_Sp P y_9_read M_9_read 8 [zA 9 0] μ (some (zI r)) μ' := by
  refine z_Sp.of (plainFor_of_name (by decide)) rfl (l0 := [some (zA 9 0), none]) rfl (Nat.le_of_ble_eq_true rfl) ?_
  unfold f9_read at h
  refine zr_aload_n (i := 0) d_9_read_0 rfl rfl ?_
  refine zr_aload_n (i := 0) d_9_read_1 rfl rfl ?_
  refine zr_geti d_9_read_2 fw_9_166 (by decide) ?_
  obtain ⟨m1, hm2, h⟩ := z_lt h
  refine zr_puti d_9_read_5 fw_9_172 pw_9_4 hm2 ?_
  refine zr_iconst (v := (0 : Int32)) d_9_read_8 rfl ?_
  refine zr_istore_n (i := 1) (l' := [some (zA 9 0), some (zI (0 : Int32))]) d_9_read_9 rfl (by decide) rfl ?_
  obtain ⟨e10, hl11, h⟩ := z_bd h
  refine zr_wk (l' := [some (zA 9 0), some (zI (0 : Int32))]) ⟨rfl, ⟨rfl, trivial⟩⟩ ?_
  refine z_loop (Hd := (z_u2 fun y0 y1 => z_RQ P M_9_read (z_rm 8) (z_mq P (some (zI r)) μ') 0 0 10 [some (zA 9 0), some (zI y0)] [] y1)) (Ex := (fun z0 => z_RQ P M_9_read (z_rm 8) (z_mq P (some (zI r)) μ') 0 0 36 [some (zA 9 0), none] [] z0)) (fun ⟨x4, xm5⟩ K h hI hE => s9_read_L3  x4 xm5 K h (fun y0 y1 e => hI (y0, y1) e) (fun z0 e => hE z0 e) ) _ _ _ hl11 ?_
  refine zr_aload_n (i := 0) d_9_read_36 rfl rfl ?_
  refine zr_iconst (v := (0 : Int32)) d_9_read_37 rfl ?_
  obtain ⟨m12, hm13, h⟩ := z_lt h
  refine zr_puti d_9_read_38 fw_9_166 pw_9_2 hm13 ?_
  refine zr_aload_n (i := 0) d_9_read_41 rfl rfl ?_
  obtain ⟨qm14, hq15, h⟩ := z_bd h
  refine zr_callVv (av := []) (st := []) d_9_read_42 mw_9_cut ml_9_227 im_9_cut se_9_cut rfl rfl (Nat.le_of_ble_eq_true rfl) fit_3_8_8 rfl rfl rfl (s9_cut hq15) ?_
  refine zr_aload_n (i := 0) d_9_read_45 rfl rfl ?_
  refine zr_iconst (v := (0 : Int32)) d_9_read_46 rfl ?_
  obtain ⟨m16, hm17, h⟩ := z_lt h
  refine zr_puti d_9_read_47 fw_9_206 pw_9_11 hm17 ?_
  refine zr_aload_n (i := 0) d_9_read_50 rfl rfl ?_
  refine zr_iconst (v := (0 : Int32)) d_9_read_51 rfl ?_
  obtain ⟨m18, hm19, h⟩ := z_lt h
  refine zr_puti d_9_read_52 fw_9_230 pw_9_12 hm19 ?_
  refine zr_aload_n (i := 0) d_9_read_55 rfl rfl ?_
  refine zr_iconst (v := (0 : Int32)) d_9_read_56 rfl ?_
  obtain ⟨m20, hm21, h⟩ := z_lt h
  refine zr_puti d_9_read_57 fw_9_203 pw_9_13 hm21 ?_
  refine zr_aload_n (i := 0) d_9_read_60 rfl rfl ?_
  refine zr_iconst (v := (0 : Int32)) d_9_read_61 rfl ?_
  obtain ⟨m22, hm23, h⟩ := z_lt h
  refine zr_puti d_9_read_62 fw_9_212 pw_9_15 hm23 ?_
  refine zr_aload_n (i := 0) d_9_read_65 rfl rfl ?_
  refine zr_iconst (v := (1 : Int32)) d_9_read_66 rfl ?_
  refine zr_aload_n (i := 0) d_9_read_67 rfl rfl ?_
  refine zr_geti d_9_read_68 fw_9_233 (by decide) ?_
  refine zr_isub d_9_read_71 ?_
  obtain ⟨m24, hm25, h⟩ := z_lt h
  refine zr_puti d_9_read_72 fw_9_236 pw_9_19 hm25 ?_
  refine zr_aload_n (i := 0) d_9_read_75 rfl rfl ?_
  refine zr_iconst (v := (0 : Int32)) d_9_read_76 rfl ?_
  obtain ⟨m26, hm27, h⟩ := z_lt h
  refine zr_puti d_9_read_77 fw_9_239 pw_9_20 hm27 ?_
  refine zr_aload_n (i := 0) d_9_read_80 rfl rfl ?_
  refine zr_aload_n (i := 0) d_9_read_81 rfl rfl ?_
  refine zr_geti d_9_read_82 fw_9_236 (by decide) ?_
  obtain ⟨qm28, hq29, h⟩ := z_bd h
  refine zr_callVv (av := [zI (m26.1 9 0 19)]) (st := []) d_9_read_85 mw_9_plain ml_9_152 im_9_plain se_9_plain rfl rfl (Nat.le_of_ble_eq_true rfl) fit_1_3_8 rfl rfl rfl (s9_plain hq29) ?_
  refine zr_aload_n (i := 0) d_9_read_88 rfl rfl ?_
  refine zr_sipush (v := (130 : Int32)) d_9_read_89 rfl ?_
  refine zr_aload_n (i := 0) d_9_read_92 rfl rfl ?_
  refine zr_geti d_9_read_93 fw_9_236 (by decide) ?_
  refine zr_imul d_9_read_96 ?_
  obtain ⟨m30, hm31, h⟩ := z_lt h
  refine zr_puti d_9_read_97 fw_9_242 pw_9_34 hm31 ?_
  refine zr_aload_n (i := 0) d_9_read_100 rfl rfl ?_
  refine zr_sipush (v := (420 : Int32)) d_9_read_101 rfl ?_
  refine zr_aload_n (i := 0) d_9_read_104 rfl rfl ?_
  refine zr_geti d_9_read_105 fw_9_236 (by decide) ?_
  refine zr_imul d_9_read_108 ?_
  obtain ⟨m32, hm33, h⟩ := z_lt h
  refine zr_puti d_9_read_109 fw_9_245 pw_9_40 hm33 ?_
  obtain ⟨e42, hl43, h⟩ := z_bd h
  refine zr_wk (l' := [some (zA 9 0), none]) ⟨rfl, trivial⟩ ?_
  refine z_loop (Hd := (fun y0 => z_RQ P M_9_read (z_rm 8) (z_mq P (some (zI r)) μ') 0 0 112 [some (zA 9 0), none] [] y0)) (Ex := (fun z0 => z_RQ P M_9_read (z_rm 8) (z_mq P (some (zI r)) μ') 0 0 134 [some (zA 9 0), none] [] z0)) (fun xm35 K h hI hE => s9_read_L34  xm35 K h (fun y0 e => hI y0 e) (fun z0 e => hE z0 e) ) _ _ _ hl43 ?_
  refine zr_aload_n (i := 0) d_9_read_134 rfl rfl ?_
  refine zr_aload_n (i := 0) d_9_read_135 rfl rfl ?_
  refine zr_geti d_9_read_136 fw_9_203 (by decide) ?_
  obtain ⟨j48, hT44, h⟩ := z_bd h
  have hJ45 : z_RQ P M_9_read (z_rm 8) (z_mq P (some (zI r)) μ') 0 0 164 [some (zA 9 0), none] [zI j48, zA 9 0] e42 := by
    obtain ⟨m49, hm50, h⟩ := z_lt h
    refine zr_puti d_9_read_164 fw_9_37 pw_9_17 hm50 ?_
    refine zr_aload_n (i := 0) d_9_read_167 rfl rfl ?_
    refine zr_geti d_9_read_168 fw_9_203 (by decide) ?_
    refine zr_if_le (tgt := 179) d_9_read_171 rfl (fun hc51 => ?_) (fun hc51 => ?_)
    · replace h := z_ip h hc51
      refine zr_aload_n (i := 0) d_9_read_174 rfl rfl ?_
      refine zr_geti d_9_read_175 fw_9_203 (by decide) ?_
      obtain ⟨rfl, rfl⟩ := Prod.mk.inj (Option.some.inj h)
      exact ze_i d_9_read_178 rfl
    · replace h := z_im h hc51
      refine zr_aload_n (i := 0) d_9_read_179 rfl rfl ?_
      refine zr_geti d_9_read_180 fw_9_212 (by decide) ?_
      refine zr_if_le (tgt := 191) d_9_read_183 rfl (fun hc52 => ?_) (fun hc52 => ?_)
      · replace h := z_ip h hc52
        refine zr_aload_n (i := 0) d_9_read_186 rfl rfl ?_
        refine zr_geti d_9_read_187 fw_9_212 (by decide) ?_
        obtain ⟨rfl, rfl⟩ := Prod.mk.inj (Option.some.inj h)
        exact ze_i d_9_read_190 rfl
      · replace h := z_im h hc52
        refine zr_aload_n (i := 0) d_9_read_191 rfl rfl ?_
        refine zr_aload_n (i := 0) d_9_read_192 rfl rfl ?_
        refine zr_geti d_9_read_193 fw_9_236 (by decide) ?_
        obtain ⟨m53, hm54, h⟩ := z_lt h
        refine zr_puti d_9_read_196 fw_9_233 pw_9_18 hm54 ?_
        refine zr_aload_n (i := 0) d_9_read_199 rfl rfl ?_
        obtain ⟨qm55, hq56, h⟩ := z_bd h
        refine zr_callVv (av := []) (st := []) d_9_read_200 mw_9_begins ml_9_160 im_9_begins se_9_begins rfl rfl (Nat.le_of_ble_eq_true rfl) fit_1_3_8 rfl rfl rfl (s9_begins hq56) ?_
        refine zr_aload_n (i := 0) d_9_read_203 rfl rfl ?_
        obtain ⟨qm57, hq58, h⟩ := z_bd h
        refine zr_callVv (av := []) (st := []) d_9_read_204 mw_9_keepsRow ml_9_163 im_9_keepsRow se_9_keepsRow rfl rfl (Nat.le_of_ble_eq_true rfl) fit_1_2_8 rfl rfl rfl (s9_keepsRow hq58) ?_
        refine zr_aload_n (i := 0) d_9_read_207 rfl rfl ?_
        refine zr_iconst (v := (0 : Int32)) d_9_read_208 rfl ?_
        obtain ⟨m59, hm60, h⟩ := z_lt h
        refine zr_puti d_9_read_209 fw_9_251 pw_9_55 hm60 ?_
        refine zr_aload_n (i := 0) d_9_read_212 rfl rfl ?_
        refine zr_iconst (v := (0 : Int32)) d_9_read_213 rfl ?_
        obtain ⟨m61, hm62, h⟩ := z_lt h
        refine zr_puti d_9_read_214 fw_9_254 pw_9_58 hm62 ?_
        refine zr_iconst (v := (0 : Int32)) d_9_read_217 rfl ?_
        refine zr_istore_n (i := 1) (l' := [some (zA 9 0), some (zI (0 : Int32))]) d_9_read_218 rfl (by decide) rfl ?_
        obtain ⟨e70, hl71, h⟩ := z_bd h
        refine zr_wk (l' := [some (zA 9 0), some (zI (0 : Int32))]) ⟨rfl, ⟨rfl, trivial⟩⟩ ?_
        refine z_loop (Hd := (z_u2 fun y0 y1 => z_RQ P M_9_read (z_rm 8) (z_mq P (some (zI r)) μ') 0 0 219 [some (zA 9 0), some (zI y0)] [] y1)) (Ex := (fun z0 => z_RQ P M_9_read (z_rm 8) (z_mq P (some (zI r)) μ') 0 0 237 [none, none] [] z0)) (fun ⟨x64, xm65⟩ K h hI hE => s9_read_L63  x64 xm65 K h (fun y0 y1 e => hI (y0, y1) e) (fun z0 e => hE z0 e) ) _ _ _ hl71 ?_
        refine zr_iconst (v := (0 : Int32)) d_9_read_237 rfl ?_
        obtain ⟨rfl, rfl⟩ := Prod.mk.inj (Option.some.inj h)
        exact ze_i d_9_read_238 rfl
  refine zr_if_le (tgt := 149) d_9_read_139 rfl (fun hc46 => ?_) (fun hc46 => ?_)
  · replace hT44 := z_ip hT44 hc46
    refine zr_aload_n (i := 0) d_9_read_142 rfl rfl ?_
    refine zr_geti d_9_read_143 fw_9_209 (by decide) ?_
    refine zr_goto (tgt := 164) d_9_read_146 rfl ?_
    obtain rfl := Option.some.inj hT44
    exact zr_wk2 hJ45 ⟨rfl, trivial⟩
  · replace hT44 := z_im hT44 hc46
    refine zr_aload_n (i := 0) d_9_read_149 rfl rfl ?_
    refine zr_geti d_9_read_150 fw_9_212 (by decide) ?_
    refine zr_if_le (tgt := 163) d_9_read_153 rfl (fun hc47 => ?_) (fun hc47 => ?_)
    · replace hT44 := z_ip hT44 hc47
      refine zr_aload_n (i := 0) d_9_read_156 rfl rfl ?_
      refine zr_geti d_9_read_157 fw_9_215 (by decide) ?_
      refine zr_goto (tgt := 164) d_9_read_160 rfl ?_
      obtain rfl := Option.some.inj hT44
      exact zr_wk2 hJ45 ⟨rfl, trivial⟩
    · replace hT44 := z_im hT44 hc47
      refine zr_iconst (v := (-1 : Int32)) d_9_read_163 rfl ?_
      obtain rfl := Option.some.inj hT44
      exact zr_wk2 hJ45 ⟨rfl, trivial⟩
def f9_place  (μ : zMem) : Int32 :=
  (μ.1 9 0 17)
theorem s9_place {P : zP} {μ : zMem} {r : Int32} (h : f9_place μ = r) : z_Sp P y_9_place M_9_place 1 [zA 9 0] μ (some (zI r)) μ := by
  refine z_Sp.of (plainFor_of_name (by decide)) rfl (l0 := [some (zA 9 0)]) rfl (Nat.le_of_ble_eq_true rfl) ?_
  unfold f9_place at h
  refine zr_aload_n (i := 0) d_9_place_0 rfl rfl ?_
  refine zr_geti d_9_place_1 fw_9_37 (by decide) ?_
  obtain rfl := h
  exact ze_i d_9_place_4 rfl
def f9_termOf_L1 (a2 : Int32) : (Int32 × Int32 × zMem) → Option ((Int32 × Int32 × zMem) ⊕ ((zMem) ⊕ (Int32 × zMem))) := (z_u3 fun x2 x3 xm4 => 
  (if x3 < a2 then if z_in x3 840 = true then z_let (xm4.1 141 0 x3.toNatClampNeg) fun v7 => (if v7 < (2 : Int32) then ((if v7 = 0 then some (xm4.1 142 0 x3.toNatClampNeg) else if z_in (xm4.1 142 0 x3.toNatClampNeg) 9 = true then some (xm4.1 145 0 (xm4.1 142 0 x3.toNatClampNeg).toNatClampNeg) else none) : Option (Int32)).bind (fun j14 => if z_in x2 400 = true then z_let (z_sI xm4 146 0 x2.toNatClampNeg j14) fun m15 => some (.inl ((x2 + (1 : Int32)), (x3 + (1 : Int32)), m15)) else none) else if z_in ((x2 + (-1 : Int32)) - (1 : Int32)) 400 = true then z_let (xm4.1 146 0 ((x2 + (-1 : Int32)) - (1 : Int32)).toNatClampNeg) fun v19 => if z_in (x2 + (-1 : Int32)) 400 = true then z_let (xm4.1 146 0 (x2 + (-1 : Int32)).toNatClampNeg) fun v22 => (if v7 = (5 : Int32) then (if v22 = 0 then z_let (z_sI xm4 9 0 47 (1 : Int32)) fun m26 => some (.inr (.inr ((0 : Int32), m26))) else ((if v7 = (2 : Int32) then some (v19 + v22) else (if v7 = (3 : Int32) then some (v19 - v22) else (if v7 = (4 : Int32) then some (v19 * v22) else if v22 = 0 then none else some (v19 / v22)))) : Option (Int32)).bind (fun j34 => z_let (z_sI xm4 146 0 ((x2 + (-1 : Int32)) - (1 : Int32)).toNatClampNeg j34) fun m35 => some (.inl ((x2 + (-1 : Int32)), (x3 + (1 : Int32)), m35)))) else ((if v7 = (2 : Int32) then some (v19 + v22) else (if v7 = (3 : Int32) then some (v19 - v22) else (if v7 = (4 : Int32) then some (v19 * v22) else if v22 = 0 then none else some (v19 / v22)))) : Option (Int32)).bind (fun j43 => z_let (z_sI xm4 146 0 ((x2 + (-1 : Int32)) - (1 : Int32)).toNatClampNeg j43) fun m44 => some (.inl ((x2 + (-1 : Int32)), (x3 + (1 : Int32)), m44)))) else none else none) else none else some (.inr (.inl xm4))))
def f9_termOf (a1 : Int32) (a2 : Int32) (μ : zMem) : Option (Int32 × zMem) :=
  (z_it (f9_termOf_L1 a2) z_fu ((0 : Int32), a1, μ)).bind (Sum.elim (fun e46 => some ((e46.1 146 0 (0 : Int32).toNatClampNeg), e46)) (z_u2 fun qr48 qr49 => some (qr48, qr49)))
theorem s9_termOf_L1 {P : zP} {ro : Option zV} {μo : zMem} (a2 : Int32) (x2 : Int32) (x3 : Int32) (xm4 : zMem) (K : (Int32 × Int32 × zMem) ⊕ ((zMem) ⊕ (Int32 × zMem))) (h : f9_termOf_L1 a2 (x2, x3, xm4) = some K) (hI : ∀ (y0 : Int32) (y1 : Int32) (y2 : zMem), K = .inl (y0, y1, y2) → z_RQ P M_9_termOf (z_rm 1) (z_mq P ro μo) 0 0 5 [some (zA 9 0), none, some (zI a2), some (zI y0), some (zI y1), none, none, none] [] y2) (hE : ∀ (z0 : zMem), K = .inr (.inl z0) → z_RQ P M_9_termOf (z_rm 1) (z_mq P ro μo) 0 0 165 [some (zA 9 0), none, none, none, none, none, none, none] [] z0) (hR : ∀ (qr : Int32) (qm : zMem), K = .inr (.inr (qr, qm)) → ro = some (zI qr) ∧ μo = qm) : z_RQ P M_9_termOf (z_rm 1) (z_mq P ro μo) 0 0 5 [some (zA 9 0), none, some (zI a2), some (zI x2), some (zI x3), none, none, none] [] xm4 := by
  unfold f9_termOf_L1 at h
  replace h := z_h3 h
  refine zr_iload d_9_termOf_5 rfl ?_
  refine zr_iload_n (i := 2) d_9_termOf_7 rfl rfl ?_
  refine zr_icmp_ge (tgt := 165) d_9_termOf_8 rfl (fun hc5 => ?_) (fun hc5 => ?_)
  · replace h := z_ip h hc5
    refine zr_aload_n (i := 0) d_9_termOf_11 rfl rfl ?_
    refine zr_gets (i' := 0) d_9_termOf_12 fw_9_95 rfl ?_
    refine zr_iload d_9_termOf_15 rfl ?_
    obtain ⟨hb6, h⟩ := z_gd h
    refine zr_iald d_9_termOf_17 sa_141 rfl hb6 ?_
    obtain ⟨v7, hv8, h⟩ := z_lt h
    refine zr_nm hv8 ?_
    refine zr_istore (i := 5) (l' := [some (zA 9 0), none, some (zI a2), some (zI x2), some (zI x3), some (zI v7), none, none]) d_9_termOf_18 (by decide) rfl ?_
    refine zr_iload d_9_termOf_20 rfl ?_
    refine zr_iconst (v := (2 : Int32)) d_9_termOf_22 rfl ?_
    refine zr_icmp_ge (tgt := 65) d_9_termOf_23 rfl (fun hc9 => ?_) (fun hc9 => ?_)
    · replace h := z_ip h hc9
      refine zr_aload_n (i := 0) d_9_termOf_26 rfl rfl ?_
      refine zr_gets (i' := 0) d_9_termOf_27 fw_9_107 rfl ?_
      refine zr_iload_n (i := 3) d_9_termOf_30 rfl rfl ?_
      refine zr_iload d_9_termOf_31 rfl ?_
      obtain ⟨j14, hT10, h⟩ := z_bd h
      have hJ11 : z_RQ P M_9_termOf (z_rm 1) (z_mq P ro μo) 0 0 58 [some (zA 9 0), none, some (zI a2), some (zI x2), some (zI x3), none, none, none] [zI j14, zI x2, zA 146 0] xm4 := by
        obtain ⟨hb17, h⟩ := z_gd h
        obtain ⟨m15, hm16, h⟩ := z_lt h
        refine zr_iast d_9_termOf_58 sa_146 rfl hb17 hm16 ?_
        refine zr_iinc (v := (x2 + (1 : Int32))) (l' := [some (zA 9 0), none, some (zI a2), some (zI (x2 + (1 : Int32))), some (zI x3), none, none, none]) d_9_termOf_59 (by decide) rfl rfl rfl ?_
        refine zr_goto (tgt := 159) d_9_termOf_62 rfl ?_
        refine zr_iinc (v := (x3 + (1 : Int32))) (l' := [some (zA 9 0), none, some (zI a2), some (zI (x2 + (1 : Int32))), some (zI (x3 + (1 : Int32))), none, none, none]) d_9_termOf_159 (by decide) rfl rfl rfl ?_
        refine zr_goto (tgt := 5) d_9_termOf_162 rfl ?_
        obtain rfl := Option.some.inj h
        exact zr_wk2 (hI (x2 + (1 : Int32)) (x3 + (1 : Int32)) m15 rfl) ⟨rfl, ⟨rfl, ⟨rfl, ⟨rfl, trivial⟩⟩⟩⟩
      refine zr_if_ne (tgt := 46) d_9_termOf_33 rfl (fun hc12 => ?_) (fun hc12 => ?_)
      · replace hT10 := z_ip hT10 hc12
        refine zr_aload_n (i := 0) d_9_termOf_36 rfl rfl ?_
        refine zr_gets (i' := 0) d_9_termOf_37 fw_9_98 rfl ?_
        refine zr_iload d_9_termOf_40 rfl ?_
        refine zr_iald d_9_termOf_42 sa_142 rfl hb6 ?_
        refine zr_goto (tgt := 58) d_9_termOf_43 rfl ?_
        obtain rfl := Option.some.inj hT10
        exact zr_wk2 hJ11 ⟨rfl, ⟨rfl, ⟨rfl, ⟨rfl, trivial⟩⟩⟩⟩
      · replace hT10 := z_im hT10 hc12
        refine zr_aload_n (i := 0) d_9_termOf_46 rfl rfl ?_
        refine zr_gets (i' := 0) d_9_termOf_47 fw_9_104 rfl ?_
        refine zr_aload_n (i := 0) d_9_termOf_50 rfl rfl ?_
        refine zr_gets (i' := 0) d_9_termOf_51 fw_9_98 rfl ?_
        refine zr_iload d_9_termOf_54 rfl ?_
        refine zr_iald d_9_termOf_56 sa_142 rfl hb6 ?_
        obtain ⟨hb13, hT10⟩ := z_gd hT10
        refine zr_iald d_9_termOf_57 sa_145 rfl hb13 ?_
        obtain rfl := Option.some.inj hT10
        exact zr_wk2 hJ11 ⟨rfl, ⟨rfl, ⟨rfl, ⟨rfl, trivial⟩⟩⟩⟩
    · replace h := z_im h hc9
      refine zr_iinc (v := (x2 + (-1 : Int32))) (l' := [some (zA 9 0), none, some (zI a2), some (zI (x2 + (-1 : Int32))), some (zI x3), some (zI v7), none, none]) d_9_termOf_65 (by decide) rfl (z_neg_1 _) rfl ?_
      refine zr_aload_n (i := 0) d_9_termOf_68 rfl rfl ?_
      refine zr_gets (i' := 0) d_9_termOf_69 fw_9_107 rfl ?_
      refine zr_iload_n (i := 3) d_9_termOf_72 rfl rfl ?_
      refine zr_iconst (v := (1 : Int32)) d_9_termOf_73 rfl ?_
      refine zr_isub d_9_termOf_74 ?_
      obtain ⟨hb18, h⟩ := z_gd h
      refine zr_iald d_9_termOf_75 sa_146 rfl hb18 ?_
      obtain ⟨v19, hv20, h⟩ := z_lt h
      refine zr_nm hv20 ?_
      refine zr_istore (i := 6) (l' := [some (zA 9 0), none, some (zI a2), some (zI (x2 + (-1 : Int32))), some (zI x3), some (zI v7), some (zI v19), none]) d_9_termOf_76 (by decide) rfl ?_
      refine zr_aload_n (i := 0) d_9_termOf_78 rfl rfl ?_
      refine zr_gets (i' := 0) d_9_termOf_79 fw_9_107 rfl ?_
      refine zr_iload_n (i := 3) d_9_termOf_82 rfl rfl ?_
      obtain ⟨hb21, h⟩ := z_gd h
      refine zr_iald d_9_termOf_83 sa_146 rfl hb21 ?_
      obtain ⟨v22, hv23, h⟩ := z_lt h
      refine zr_nm hv23 ?_
      refine zr_istore (i := 7) (l' := [some (zA 9 0), none, some (zI a2), some (zI (x2 + (-1 : Int32))), some (zI x3), some (zI v7), some (zI v19), some (zI v22)]) d_9_termOf_84 (by decide) rfl ?_
      refine zr_iload d_9_termOf_86 rfl ?_
      refine zr_iconst (v := (5 : Int32)) d_9_termOf_88 rfl ?_
      refine zr_icmp_ne (tgt := 104) d_9_termOf_89 rfl (fun hc24 => ?_) (fun hc24 => ?_)
      · replace h := z_ip h hc24
        refine zr_iload d_9_termOf_92 rfl ?_
        refine zr_if_ne (tgt := 104) d_9_termOf_94 rfl (fun hc25 => ?_) (fun hc25 => ?_)
        · replace h := z_ip h hc25
          refine zr_aload_n (i := 0) d_9_termOf_97 rfl rfl ?_
          refine zr_iconst (v := (1 : Int32)) d_9_termOf_98 rfl ?_
          obtain ⟨m26, hm27, h⟩ := z_lt h
          refine zr_putb d_9_termOf_99 fw_9_308 pw_9_47 rfl rfl hm27 ?_
          refine zr_iconst (v := (0 : Int32)) d_9_termOf_102 rfl ?_
          obtain rfl := Option.some.inj h
          obtain ⟨rfl, rfl⟩ := hR (0 : Int32) m26 rfl
          exact ze_i d_9_termOf_103 rfl
        · replace h := z_im h hc25
          refine zr_aload_n (i := 0) d_9_termOf_104 rfl rfl ?_
          refine zr_gets (i' := 0) d_9_termOf_105 fw_9_107 rfl ?_
          refine zr_iload_n (i := 3) d_9_termOf_108 rfl rfl ?_
          refine zr_iconst (v := (1 : Int32)) d_9_termOf_109 rfl ?_
          refine zr_isub d_9_termOf_110 ?_
          refine zr_iload d_9_termOf_111 rfl ?_
          refine zr_iconst (v := (2 : Int32)) d_9_termOf_113 rfl ?_
          obtain ⟨j34, hT28, h⟩ := z_bd h
          have hJ29 : z_RQ P M_9_termOf (z_rm 1) (z_mq P ro μo) 0 0 158 [some (zA 9 0), none, some (zI a2), some (zI (x2 + (-1 : Int32))), some (zI x3), none, none, none] [zI j34, zI ((x2 + (-1 : Int32)) - (1 : Int32)), zA 146 0] xm4 := by
            obtain ⟨m35, hm36, h⟩ := z_lt h
            refine zr_iast d_9_termOf_158 sa_146 rfl hb18 hm36 ?_
            refine zr_iinc (v := (x3 + (1 : Int32))) (l' := [some (zA 9 0), none, some (zI a2), some (zI (x2 + (-1 : Int32))), some (zI (x3 + (1 : Int32))), none, none, none]) d_9_termOf_159 (by decide) rfl rfl rfl ?_
            refine zr_goto (tgt := 5) d_9_termOf_162 rfl ?_
            obtain rfl := Option.some.inj h
            exact zr_wk2 (hI (x2 + (-1 : Int32)) (x3 + (1 : Int32)) m35 rfl) ⟨rfl, ⟨rfl, ⟨rfl, ⟨rfl, trivial⟩⟩⟩⟩
          refine zr_icmp_ne (tgt := 125) d_9_termOf_114 rfl (fun hc30 => ?_) (fun hc30 => ?_)
          · replace hT28 := z_ip hT28 hc30
            refine zr_iload d_9_termOf_117 rfl ?_
            refine zr_iload d_9_termOf_119 rfl ?_
            refine zr_iadd d_9_termOf_121 ?_
            refine zr_goto (tgt := 158) d_9_termOf_122 rfl ?_
            obtain rfl := Option.some.inj hT28
            exact zr_wk2 hJ29 ⟨rfl, ⟨rfl, ⟨rfl, ⟨rfl, trivial⟩⟩⟩⟩
          · replace hT28 := z_im hT28 hc30
            refine zr_iload d_9_termOf_125 rfl ?_
            refine zr_iconst (v := (3 : Int32)) d_9_termOf_127 rfl ?_
            refine zr_icmp_ne (tgt := 139) d_9_termOf_128 rfl (fun hc31 => ?_) (fun hc31 => ?_)
            · replace hT28 := z_ip hT28 hc31
              refine zr_iload d_9_termOf_131 rfl ?_
              refine zr_iload d_9_termOf_133 rfl ?_
              refine zr_isub d_9_termOf_135 ?_
              refine zr_goto (tgt := 158) d_9_termOf_136 rfl ?_
              obtain rfl := Option.some.inj hT28
              exact zr_wk2 hJ29 ⟨rfl, ⟨rfl, ⟨rfl, ⟨rfl, trivial⟩⟩⟩⟩
            · replace hT28 := z_im hT28 hc31
              refine zr_iload d_9_termOf_139 rfl ?_
              refine zr_iconst (v := (4 : Int32)) d_9_termOf_141 rfl ?_
              refine zr_icmp_ne (tgt := 153) d_9_termOf_142 rfl (fun hc32 => ?_) (fun hc32 => ?_)
              · replace hT28 := z_ip hT28 hc32
                refine zr_iload d_9_termOf_145 rfl ?_
                refine zr_iload d_9_termOf_147 rfl ?_
                refine zr_imul d_9_termOf_149 ?_
                refine zr_goto (tgt := 158) d_9_termOf_150 rfl ?_
                obtain rfl := Option.some.inj hT28
                exact zr_wk2 hJ29 ⟨rfl, ⟨rfl, ⟨rfl, ⟨rfl, trivial⟩⟩⟩⟩
              · replace hT28 := z_im hT28 hc32
                refine zr_iload d_9_termOf_153 rfl ?_
                refine zr_iload d_9_termOf_155 rfl ?_
                obtain ⟨hz33, hT28⟩ := z_nz hT28
                refine zr_idiv d_9_termOf_157 hz33 ?_
                obtain rfl := Option.some.inj hT28
                exact zr_wk2 hJ29 ⟨rfl, ⟨rfl, ⟨rfl, ⟨rfl, trivial⟩⟩⟩⟩
      · replace h := z_im h hc24
        refine zr_aload_n (i := 0) d_9_termOf_104 rfl rfl ?_
        refine zr_gets (i' := 0) d_9_termOf_105 fw_9_107 rfl ?_
        refine zr_iload_n (i := 3) d_9_termOf_108 rfl rfl ?_
        refine zr_iconst (v := (1 : Int32)) d_9_termOf_109 rfl ?_
        refine zr_isub d_9_termOf_110 ?_
        refine zr_iload d_9_termOf_111 rfl ?_
        refine zr_iconst (v := (2 : Int32)) d_9_termOf_113 rfl ?_
        obtain ⟨j43, hT37, h⟩ := z_bd h
        have hJ38 : z_RQ P M_9_termOf (z_rm 1) (z_mq P ro μo) 0 0 158 [some (zA 9 0), none, some (zI a2), some (zI (x2 + (-1 : Int32))), some (zI x3), none, none, none] [zI j43, zI ((x2 + (-1 : Int32)) - (1 : Int32)), zA 146 0] xm4 := by
          obtain ⟨m44, hm45, h⟩ := z_lt h
          refine zr_iast d_9_termOf_158 sa_146 rfl hb18 hm45 ?_
          refine zr_iinc (v := (x3 + (1 : Int32))) (l' := [some (zA 9 0), none, some (zI a2), some (zI (x2 + (-1 : Int32))), some (zI (x3 + (1 : Int32))), none, none, none]) d_9_termOf_159 (by decide) rfl rfl rfl ?_
          refine zr_goto (tgt := 5) d_9_termOf_162 rfl ?_
          obtain rfl := Option.some.inj h
          exact zr_wk2 (hI (x2 + (-1 : Int32)) (x3 + (1 : Int32)) m44 rfl) ⟨rfl, ⟨rfl, ⟨rfl, ⟨rfl, trivial⟩⟩⟩⟩
        refine zr_icmp_ne (tgt := 125) d_9_termOf_114 rfl (fun hc39 => ?_) (fun hc39 => ?_)
        · replace hT37 := z_ip hT37 hc39
          refine zr_iload d_9_termOf_117 rfl ?_
          refine zr_iload d_9_termOf_119 rfl ?_
          refine zr_iadd d_9_termOf_121 ?_
          refine zr_goto (tgt := 158) d_9_termOf_122 rfl ?_
          obtain rfl := Option.some.inj hT37
          exact zr_wk2 hJ38 ⟨rfl, ⟨rfl, ⟨rfl, ⟨rfl, trivial⟩⟩⟩⟩
        · replace hT37 := z_im hT37 hc39
          refine zr_iload d_9_termOf_125 rfl ?_
          refine zr_iconst (v := (3 : Int32)) d_9_termOf_127 rfl ?_
          refine zr_icmp_ne (tgt := 139) d_9_termOf_128 rfl (fun hc40 => ?_) (fun hc40 => ?_)
          · replace hT37 := z_ip hT37 hc40
            refine zr_iload d_9_termOf_131 rfl ?_
            refine zr_iload d_9_termOf_133 rfl ?_
            refine zr_isub d_9_termOf_135 ?_
            refine zr_goto (tgt := 158) d_9_termOf_136 rfl ?_
            obtain rfl := Option.some.inj hT37
            exact zr_wk2 hJ38 ⟨rfl, ⟨rfl, ⟨rfl, ⟨rfl, trivial⟩⟩⟩⟩
          · replace hT37 := z_im hT37 hc40
            refine zr_iload d_9_termOf_139 rfl ?_
            refine zr_iconst (v := (4 : Int32)) d_9_termOf_141 rfl ?_
            refine zr_icmp_ne (tgt := 153) d_9_termOf_142 rfl (fun hc41 => ?_) (fun hc41 => ?_)
            · replace hT37 := z_ip hT37 hc41
              refine zr_iload d_9_termOf_145 rfl ?_
              refine zr_iload d_9_termOf_147 rfl ?_
              refine zr_imul d_9_termOf_149 ?_
              refine zr_goto (tgt := 158) d_9_termOf_150 rfl ?_
              obtain rfl := Option.some.inj hT37
              exact zr_wk2 hJ38 ⟨rfl, ⟨rfl, ⟨rfl, ⟨rfl, trivial⟩⟩⟩⟩
            · replace hT37 := z_im hT37 hc41
              refine zr_iload d_9_termOf_153 rfl ?_
              refine zr_iload d_9_termOf_155 rfl ?_
              obtain ⟨hz42, hT37⟩ := z_nz hT37
              refine zr_idiv d_9_termOf_157 hz42 ?_
              obtain rfl := Option.some.inj hT37
              exact zr_wk2 hJ38 ⟨rfl, ⟨rfl, ⟨rfl, ⟨rfl, trivial⟩⟩⟩⟩
  · replace h := z_im h hc5
    obtain rfl := Option.some.inj h
    exact zr_wk2 (hE xm4 rfl) ⟨rfl, trivial⟩
theorem s9_termOf {P : zP} {μ : zMem} {a1 : Int32} {a2 : Int32} {r : Int32} {μ' : zMem} (h : f9_termOf a1 a2 μ = some (r, μ')) : z_Sp P y_9_termOf M_9_termOf 1 [zA 9 0, zI a1, zI a2] μ (some (zI r)) μ' := by
  refine z_Sp.of (plainFor_of_name (by decide)) rfl (l0 := [some (zA 9 0), some (zI a1), some (zI a2), none, none, none, none, none]) rfl (Nat.le_of_ble_eq_true rfl) ?_
  unfold f9_termOf at h
  refine zr_iconst (v := (0 : Int32)) d_9_termOf_0 rfl ?_
  refine zr_istore_n (i := 3) (l' := [some (zA 9 0), some (zI a1), some (zI a2), some (zI (0 : Int32)), none, none, none, none]) d_9_termOf_1 rfl (by decide) rfl ?_
  refine zr_iload_n (i := 1) d_9_termOf_2 rfl rfl ?_
  refine zr_istore (i := 4) (l' := [some (zA 9 0), some (zI a1), some (zI a2), some (zI (0 : Int32)), some (zI a1), none, none, none]) d_9_termOf_3 (by decide) rfl ?_
  rcases z_bs h with ⟨e46, hl47, h⟩ | ⟨⟨qr48, qr49⟩, hl47, h⟩
  · refine zr_wk (l' := [some (zA 9 0), none, some (zI a2), some (zI (0 : Int32)), some (zI a1), none, none, none]) ⟨rfl, ⟨rfl, ⟨rfl, ⟨rfl, trivial⟩⟩⟩⟩ ?_
    refine z_loop (Hd := (z_u3 fun y0 y1 y2 => z_RQ P M_9_termOf (z_rm 1) (z_mq P (some (zI r)) μ') 0 0 5 [some (zA 9 0), none, some (zI a2), some (zI y0), some (zI y1), none, none, none] [] y2)) (Ex := (Sum.elim (fun z0 => z_RQ P M_9_termOf (z_rm 1) (z_mq P (some (zI r)) μ') 0 0 165 [some (zA 9 0), none, none, none, none, none, none, none] [] z0) (z_u2 fun qr qm => (some (zI r)) = some (zI qr) ∧ μ' = qm))) (fun ⟨x2, x3, xm4⟩ K h hI hE => s9_termOf_L1 a2 x2 x3 xm4 K h (fun y0 y1 y2 e => hI (y0, y1, y2) e) (fun z0 e => hE (.inl z0) e) (fun qr qm e => hE (.inr (qr, qm)) e)) _ _ _ hl47 ?_
    refine zr_aload_n (i := 0) d_9_termOf_165 rfl rfl ?_
    refine zr_gets (i' := 0) d_9_termOf_166 fw_9_107 rfl ?_
    refine zr_iconst (v := (0 : Int32)) d_9_termOf_169 rfl ?_
    refine zr_iald d_9_termOf_170 sa_146 rfl rfl ?_
    obtain ⟨rfl, rfl⟩ := Prod.mk.inj (Option.some.inj h)
    exact ze_i d_9_termOf_171 rfl
  · replace h := z_h2 h
    refine zr_wk (l' := [some (zA 9 0), none, some (zI a2), some (zI (0 : Int32)), some (zI a1), none, none, none]) ⟨rfl, ⟨rfl, ⟨rfl, ⟨rfl, trivial⟩⟩⟩⟩ ?_
    refine z_loop (Hd := (z_u3 fun y0 y1 y2 => z_RQ P M_9_termOf (z_rm 1) (z_mq P (some (zI r)) μ') 0 0 5 [some (zA 9 0), none, some (zI a2), some (zI y0), some (zI y1), none, none, none] [] y2)) (Ex := (Sum.elim (fun z0 => z_RQ P M_9_termOf (z_rm 1) (z_mq P (some (zI r)) μ') 0 0 165 [some (zA 9 0), none, none, none, none, none, none, none] [] z0) (z_u2 fun qr qm => (some (zI r)) = some (zI qr) ∧ μ' = qm))) (fun ⟨x2, x3, xm4⟩ K h hI hE => s9_termOf_L1 a2 x2 x3 xm4 K h (fun y0 y1 y2 e => hI (y0, y1, y2) e) (fun z0 e => hE (.inl z0) e) (fun qr qm e => hE (.inr (qr, qm)) e)) _ _ _ hl47 ?_
    obtain ⟨rfl, rfl⟩ := Prod.mk.inj (Option.some.inj h)
    exact ⟨rfl, rfl⟩
