/-! 13.meth.lean.txt -/
def y_8_bound : MethodName := ⟨zR8, "bound", "(I)I"⟩
abbrev M_8_bound : zM := (zR8, prog_1_method_40_code, 6, (Option.some Jvm.ClassFile.FieldType.int))
def y_8_idle : MethodName := ⟨zR8, "idle", "()I"⟩
abbrev M_8_idle : zM := (zR8, prog_1_method_41_code, 3, (Option.some Jvm.ClassFile.FieldType.int))
def y_8_allRights : MethodName := ⟨zR8, "allRights", "()I"⟩
abbrev M_8_allRights : zM := (zR8, prog_1_method_43_code, 3, (Option.some Jvm.ClassFile.FieldType.int))
def y_8_share : MethodName := ⟨zR8, "share", "(I)I"⟩
abbrev M_8_share : zM := (zR8, prog_1_method_42_code, 3, (Option.some Jvm.ClassFile.FieldType.int))
def y_8_foresee : MethodName := ⟨zR8, "foresee", "(II)V"⟩
abbrev M_8_foresee : zM := (zR8, prog_1_method_48_code, 3, (Option.none : Option Jvm.ClassFile.FieldType))
def y_8_lordIn : MethodName := ⟨zR8, "lordIn", "(II)I"⟩
abbrev M_8_lordIn : zM := (zR8, prog_1_method_44_code, 3, (Option.some Jvm.ClassFile.FieldType.int))
def y_8_then : MethodName := ⟨zR8, "then", "(II)I"⟩
abbrev M_8_then : zM := (zR8, prog_1_method_45_code, 3, (Option.some Jvm.ClassFile.FieldType.int))
def y_8_gotIn : MethodName := ⟨zR8, "gotIn", "(II)I"⟩
abbrev M_8_gotIn : zM := (zR8, prog_1_method_46_code, 3, (Option.some Jvm.ClassFile.FieldType.int))
def y_8_year : MethodName := ⟨zR8, "year", "(III)I"⟩
abbrev M_8_year : zM := (zR8, prog_1_method_47_code, 6, (Option.some Jvm.ClassFile.FieldType.int))
def y_8_tell : MethodName := ⟨zR8, "tell", "(II)I"⟩
abbrev M_8_tell : zM := (zR8, prog_1_method_49_code, 3, (Option.some Jvm.ClassFile.FieldType.int))
def y_8_forget : MethodName := ⟨zR8, "forget", "()I"⟩
abbrev M_8_forget : zM := (zR8, prog_1_method_50_code, 2, (Option.some Jvm.ClassFile.FieldType.int))
def y_8_isKnown : MethodName := ⟨zR8, "isKnown", "(I)Z"⟩
abbrev M_8_isKnown : zM := (zR8, prog_1_method_71_code, 2, (Option.some Jvm.ClassFile.FieldType.boolean))
def y_8_orders : MethodName := ⟨zR8, "orders", "(I)I"⟩
abbrev M_8_orders : zM := (zR8, prog_1_method_51_code, 2, (Option.some Jvm.ClassFile.FieldType.int))
def y_8_first : MethodName := ⟨zR8, "first", "(II)I"⟩
abbrev M_8_first : zM := (zR8, prog_1_method_52_code, 4, (Option.some Jvm.ClassFile.FieldType.int))
def y_8_last : MethodName := ⟨zR8, "last", "(II)I"⟩
abbrev M_8_last : zM := (zR8, prog_1_method_53_code, 4, (Option.some Jvm.ClassFile.FieldType.int))
def y_8_placed : MethodName := ⟨zR8, "placed", "(III)I"⟩
abbrev M_8_placed : zM := (zR8, prog_1_method_54_code, 4, (Option.some Jvm.ClassFile.FieldType.int))
def y_8_before : MethodName := ⟨zR8, "before", "(III)I"⟩
abbrev M_8_before : zM := (zR8, prog_1_method_55_code, 4, (Option.some Jvm.ClassFile.FieldType.int))
def y_8_sum : MethodName := ⟨zR8, "sum", "(II)I"⟩
abbrev M_8_sum : zM := (zR8, prog_1_method_56_code, 5, (Option.some Jvm.ClassFile.FieldType.int))
def y_8_ahead : MethodName := ⟨zR8, "ahead", "(II)I"⟩
abbrev M_8_ahead : zM := (zR8, prog_1_method_57_code, 5, (Option.some Jvm.ClassFile.FieldType.int))
def y_8_foremost : MethodName := ⟨zR8, "foremost", "(I)I"⟩
abbrev M_8_foremost : zM := (zR8, prog_1_method_58_code, 6, (Option.some Jvm.ClassFile.FieldType.int))
def y_8_ask : MethodName := ⟨zR8, "ask", "(I)I"⟩
abbrev M_8_ask : zM := (zR8, prog_1_method_59_code, 9, (Option.some Jvm.ClassFile.FieldType.int))
def y_8_order : MethodName := ⟨zR8, "order", "(III)I"⟩
abbrev M_8_order : zM := (zR8, prog_1_method_60_code, 4, (Option.some Jvm.ClassFile.FieldType.int))
def y_8_hold : MethodName := ⟨zR8, "hold", "(I)Z"⟩
abbrev M_8_hold : zM := (zR8, prog_1_method_61_code, 2, (Option.some Jvm.ClassFile.FieldType.boolean))
def y_8_restore : MethodName := ⟨zR8, "restore", "(I)Z"⟩
abbrev M_8_restore : zM := (zR8, prog_1_method_62_code, 2, (Option.some Jvm.ClassFile.FieldType.boolean))
def y_8_allGot : MethodName := ⟨zR8, "allGot", "()I"⟩
abbrev M_8_allGot : zM := (zR8, prog_1_method_64_code, 3, (Option.some Jvm.ClassFile.FieldType.int))
def y_8_allRent : MethodName := ⟨zR8, "allRent", "()I"⟩
abbrev M_8_allRent : zM := (zR8, prog_1_method_65_code, 3, (Option.some Jvm.ClassFile.FieldType.int))
def y_8_allGone : MethodName := ⟨zR8, "allGone", "()I"⟩
abbrev M_8_allGone : zM := (zR8, prog_1_method_66_code, 3, (Option.some Jvm.ClassFile.FieldType.int))
def y_8_allRents : MethodName := ⟨zR8, "allRents", "()I"⟩
abbrev M_8_allRents : zM := (zR8, prog_1_method_67_code, 3, (Option.some Jvm.ClassFile.FieldType.int))
def y_8_whoHasNoRight : MethodName := ⟨zR8, "whoHasNoRight", "()I"⟩
abbrev M_8_whoHasNoRight : zM := (zR8, prog_1_method_68_code, 3, (Option.some Jvm.ClassFile.FieldType.int))
def y_8_count : MethodName := ⟨zR8, "count", "(I)I"⟩
abbrev M_8_count : zM := (zR8, prog_1_method_63_code, 2, (Option.some Jvm.ClassFile.FieldType.int))
def y_9_plain : MethodName := ⟨zR9, "plain", "(I)V"⟩
abbrev M_9_plain : zM := (zR9, prog_11_method_19_code, 3, (Option.none : Option Jvm.ClassFile.FieldType))
def y_9_appends : MethodName := ⟨zR9, "appends", "(JI)J"⟩
abbrev M_9_appends : zM := (zR9, prog_11_method_9_code, 3, (Option.some Jvm.ClassFile.FieldType.long))
def y_9_word : MethodName := ⟨zR9, "word", "(IIIIIII)J"⟩
abbrev M_9_word : zM := (zR9, prog_11_method_10_code, 7, (Option.some Jvm.ClassFile.FieldType.long))
def y_9_begins : MethodName := ⟨zR9, "begins", "()V"⟩
abbrev M_9_begins : zM := (zR9, prog_11_method_43_code, 3, (Option.none : Option Jvm.ClassFile.FieldType))
def y_9_keepsRow : MethodName := ⟨zR9, "keepsRow", "()V"⟩
abbrev M_9_keepsRow : zM := (zR9, prog_11_method_44_code, 2, (Option.none : Option Jvm.ClassFile.FieldType))
def y_9_put : MethodName := ⟨zR9, "put", "(I)V"⟩
abbrev M_9_put : zM := (zR9, prog_11_method_4_code, 3, (Option.none : Option Jvm.ClassFile.FieldType))
def y_9_feed : MethodName := ⟨zR9, "feed", "(IIIII)I"⟩
abbrev M_9_feed : zM := (zR9, prog_11_method_3_code, 6, (Option.some Jvm.ClassFile.FieldType.int))
def y_9_back : MethodName := ⟨zR9, "back", "(I)I"⟩
abbrev M_9_back : zM := (zR9, prog_11_method_5_code, 2, (Option.some Jvm.ClassFile.FieldType.int))
def y_9_byteAt : MethodName := ⟨zR9, "byteAt", "(I)I"⟩
abbrev M_9_byteAt : zM := (zR9, prog_11_method_6_code, 2, (Option.some Jvm.ClassFile.FieldType.int))
def y_9_isDigit : MethodName := ⟨zR9, "isDigit", "(I)Z"⟩
abbrev M_9_isDigit : zM := (zR9, prog_11_method_7_code, 1, (Option.some Jvm.ClassFile.FieldType.boolean))
def y_9_isLetter : MethodName := ⟨zR9, "isLetter", "(I)Z"⟩
abbrev M_9_isLetter : zM := (zR9, prog_11_method_8_code, 1, (Option.some Jvm.ClassFile.FieldType.boolean))
def y_9_token : MethodName := ⟨zR9, "token", "(IIIJ)V"⟩
abbrev M_9_token : zM := (zR9, prog_11_method_11_code, 6, (Option.none : Option Jvm.ClassFile.FieldType))
def y_9_sign : MethodName := ⟨zR9, "sign", "(III)I"⟩
abbrev M_9_sign : zM := (zR9, prog_11_method_13_code, 5, (Option.some Jvm.ClassFile.FieldType.int))
theorem mw_8_allRights : z_MW y_8_allRights M_8_allRights 0 := ⟨z_m1 (List.mem_of_getElem? (i := 1) rfl) rfl, z_m4 (List.mem_of_getElem? (i := 206) rfl) rfl, by decide, by decide, by decide +kernel⟩
theorem ml_8_263 : Cond.methodLink zR8 263 y_8_allRights ∈ lw_gd := z_m4 (List.mem_of_getElem? (i := 203) rfl) rfl
theorem im_8_allRights : Cond.instanceMethod y_8_allRights ∈ lw_gd := z_m4 (List.mem_of_getElem? (i := 205) rfl) rfl
theorem se_8_allRights : Cond.selects y_8_allRights.cls y_8_allRights y_8_allRights ∈ lw_gd := z_s (q := (y_8_allRights, _)) (List.mem_of_getElem? (i := 49) rfl)
theorem mw_8_foresee : z_MW y_8_foresee M_8_foresee 2 := ⟨z_m1 (List.mem_of_getElem? (i := 1) rfl) rfl, z_m4 (List.mem_of_getElem? (i := 214) rfl) rfl, by decide, by decide, by decide +kernel⟩
theorem ml_8_266 : Cond.methodLink zR8 266 y_8_foresee ∈ lw_gd := z_m4 (List.mem_of_getElem? (i := 211) rfl) rfl
theorem im_8_foresee : Cond.instanceMethod y_8_foresee ∈ lw_gd := z_m4 (List.mem_of_getElem? (i := 213) rfl) rfl
theorem se_8_foresee : Cond.selects y_8_foresee.cls y_8_foresee y_8_foresee ∈ lw_gd := z_s (q := (y_8_foresee, _)) (List.mem_of_getElem? (i := 50) rfl)
theorem fit_3_2_8 : z_fit (z_rm 8) 0 0 3 2 := ⟨by decide, by decide, by decide, by decide⟩
theorem mw_5_whoStands : z_MW y_5_whoStands M_5_whoStands 2 := ⟨z_m1 (List.mem_of_getElem? (i := 5) rfl) rfl, z_m4 (List.mem_of_getElem? (i := 222) rfl) rfl, by decide, by decide, by decide +kernel⟩
theorem fit_2_3_8 : z_fit (z_rm 8) 0 0 2 3 := ⟨by decide, by decide, by decide, by decide⟩
theorem ml_8_270 : Cond.methodLink zR8 270 y_5_whoStands ∈ lw_gd := z_m4 (List.mem_of_getElem? (i := 219) rfl) rfl
theorem im_5_whoStands : Cond.instanceMethod y_5_whoStands ∈ lw_gd := z_m4 (List.mem_of_getElem? (i := 220) rfl) rfl
theorem se_5_whoStands : Cond.selects y_5_whoStands.cls y_5_whoStands y_5_whoStands ∈ lw_gd := z_m4 (List.mem_of_getElem? (i := 221) rfl) rfl
theorem mw_5_allLandlords : z_MW y_5_allLandlords M_5_allLandlords 1 := ⟨z_m1 (List.mem_of_getElem? (i := 5) rfl) rfl, z_m4 (List.mem_of_getElem? (i := 235) rfl) rfl, by decide, by decide, by decide +kernel⟩
theorem fit_4_5_8 : z_fit (z_rm 8) 0 0 4 5 := ⟨by decide, by decide, by decide, by decide⟩
theorem ml_8_274 : Cond.methodLink zR8 274 y_5_allLandlords ∈ lw_gd := z_m4 (List.mem_of_getElem? (i := 232) rfl) rfl
theorem im_5_allLandlords : Cond.instanceMethod y_5_allLandlords ∈ lw_gd := z_m4 (List.mem_of_getElem? (i := 233) rfl) rfl
theorem se_5_allLandlords : Cond.selects y_5_allLandlords.cls y_5_allLandlords y_5_allLandlords ∈ lw_gd := z_m4 (List.mem_of_getElem? (i := 234) rfl) rfl
theorem mw_2_add : z_MW y_2_add M_2_add 2 := ⟨z_m1 (List.mem_of_getElem? (i := 9) rfl) rfl, z_m5 (List.mem_of_getElem? (i := 3) rfl) rfl, by decide, by decide, by decide +kernel⟩
theorem ml_8_278 : Cond.methodLink zR8 278 y_2_add ∈ lw_gd := z_m5 (List.mem_of_getElem? (i := 0) rfl) rfl
theorem im_2_add : Cond.instanceMethod y_2_add ∈ lw_gd := z_m5 (List.mem_of_getElem? (i := 1) rfl) rfl
theorem se_2_add : Cond.selects y_2_add.cls y_2_add y_2_add ∈ lw_gd := z_m5 (List.mem_of_getElem? (i := 2) rfl) rfl
theorem fw_8_281 : z_FW zR8 281 2 2 (0, 0, fun i => i) := ⟨_, _, rfl, rfl, rfl, by decide, z_m2 (List.mem_of_getElem? (i := 40) rfl) rfl⟩
theorem mw_8_isKnown : z_MW y_8_isKnown M_8_isKnown 1 := ⟨z_m1 (List.mem_of_getElem? (i := 1) rfl) rfl, z_m5 (List.mem_of_getElem? (i := 15) rfl) rfl, by decide, by decide, by decide +kernel⟩
theorem ml_8_284 : Cond.methodLink zR8 284 y_8_isKnown ∈ lw_gd := z_m5 (List.mem_of_getElem? (i := 12) rfl) rfl
theorem im_8_isKnown : Cond.instanceMethod y_8_isKnown ∈ lw_gd := z_m5 (List.mem_of_getElem? (i := 14) rfl) rfl
theorem se_8_isKnown : Cond.selects y_8_isKnown.cls y_8_isKnown y_8_isKnown ∈ lw_gd := z_s (q := (y_8_isKnown, _)) (List.mem_of_getElem? (i := 51) rfl)
theorem mw_2_weigh : z_MW y_2_weigh M_2_weigh 2 := ⟨z_m1 (List.mem_of_getElem? (i := 9) rfl) rfl, z_m5 (List.mem_of_getElem? (i := 19) rfl) rfl, by decide, by decide, by decide +kernel⟩
theorem fit_4_4_5 : z_fit (z_rm 5) 0 0 4 4 := ⟨by decide, by decide, by decide, by decide⟩
theorem ml_8_287 : Cond.methodLink zR8 287 y_2_weigh ∈ lw_gd := z_m5 (List.mem_of_getElem? (i := 16) rfl) rfl
theorem im_2_weigh : Cond.instanceMethod y_2_weigh ∈ lw_gd := z_m5 (List.mem_of_getElem? (i := 17) rfl) rfl
theorem se_2_weigh : Cond.selects y_2_weigh.cls y_2_weigh y_2_weigh ∈ lw_gd := z_m5 (List.mem_of_getElem? (i := 18) rfl) rfl
theorem mw_2_all : z_MW y_2_all M_2_all 0 := ⟨z_m1 (List.mem_of_getElem? (i := 9) rfl) rfl, z_m5 (List.mem_of_getElem? (i := 37) rfl) rfl, by decide, by decide, by decide +kernel⟩
theorem fit_1_1_5 : z_fit (z_rm 5) 0 0 1 1 := ⟨by decide, by decide, by decide, by decide⟩
theorem ml_8_290 : Cond.methodLink zR8 290 y_2_all ∈ lw_gd := z_m5 (List.mem_of_getElem? (i := 34) rfl) rfl
theorem im_2_all : Cond.instanceMethod y_2_all ∈ lw_gd := z_m5 (List.mem_of_getElem? (i := 35) rfl) rfl
theorem se_2_all : Cond.selects y_2_all.cls y_2_all y_2_all ∈ lw_gd := z_m5 (List.mem_of_getElem? (i := 36) rfl) rfl
theorem mw_2_timesAt : z_MW y_2_timesAt M_2_timesAt 2 := ⟨z_m1 (List.mem_of_getElem? (i := 9) rfl) rfl, z_m5 (List.mem_of_getElem? (i := 45) rfl) rfl, by decide, by decide, by decide +kernel⟩
theorem ml_8_293 : Cond.methodLink zR8 293 y_2_timesAt ∈ lw_gd := z_m5 (List.mem_of_getElem? (i := 42) rfl) rfl
theorem im_2_timesAt : Cond.instanceMethod y_2_timesAt ∈ lw_gd := z_m5 (List.mem_of_getElem? (i := 43) rfl) rfl
theorem se_2_timesAt : Cond.selects y_2_timesAt.cls y_2_timesAt y_2_timesAt ∈ lw_gd := z_m5 (List.mem_of_getElem? (i := 44) rfl) rfl
theorem mw_2_timesAhead : z_MW y_2_timesAhead M_2_timesAhead 2 := ⟨z_m1 (List.mem_of_getElem? (i := 9) rfl) rfl, z_m5 (List.mem_of_getElem? (i := 66) rfl) rfl, by decide, by decide, by decide +kernel⟩
theorem ml_8_296 : Cond.methodLink zR8 296 y_2_timesAhead ∈ lw_gd := z_m5 (List.mem_of_getElem? (i := 63) rfl) rfl
theorem im_2_timesAhead : Cond.instanceMethod y_2_timesAhead ∈ lw_gd := z_m5 (List.mem_of_getElem? (i := 64) rfl) rfl
theorem se_2_timesAhead : Cond.selects y_2_timesAhead.cls y_2_timesAhead y_2_timesAhead ∈ lw_gd := z_m5 (List.mem_of_getElem? (i := 65) rfl) rfl
theorem mw_2_whoIsAt : z_MW y_2_whoIsAt M_2_whoIsAt 2 := ⟨z_m1 (List.mem_of_getElem? (i := 9) rfl) rfl, z_m5 (List.mem_of_getElem? (i := 90) rfl) rfl, by decide, by decide, by decide +kernel⟩
theorem fit_3_9_5 : z_fit (z_rm 5) 0 0 3 9 := ⟨by decide, by decide, by decide, by decide⟩
theorem ml_8_299 : Cond.methodLink zR8 299 y_2_whoIsAt ∈ lw_gd := z_m5 (List.mem_of_getElem? (i := 87) rfl) rfl
theorem im_2_whoIsAt : Cond.instanceMethod y_2_whoIsAt ∈ lw_gd := z_m5 (List.mem_of_getElem? (i := 88) rfl) rfl
theorem se_2_whoIsAt : Cond.selects y_2_whoIsAt.cls y_2_whoIsAt y_2_whoIsAt ∈ lw_gd := z_m5 (List.mem_of_getElem? (i := 89) rfl) rfl
theorem fw_8_58 : z_FW zR8 58 8 10 (2, 37, fun i => i) := ⟨_, _, rfl, rfl, rfl, by decide, z_m2 (List.mem_of_getElem? (i := 70) rfl) rfl⟩
theorem sa_37 : z_SA 37 4 := ⟨rfl, rfl, by decide⟩
theorem ml_8_320 : Cond.methodLink zR8 320 y_8_everybody ∈ lw_gd := z_m5 (List.mem_of_getElem? (i := 123) rfl) rfl
theorem fit_2_3_6 : z_fit (z_rm 6) 0 0 2 3 := ⟨by decide, by decide, by decide, by decide⟩
theorem mw_8_allGot : z_MW y_8_allGot M_8_allGot 0 := ⟨z_m1 (List.mem_of_getElem? (i := 1) rfl) rfl, z_m5 (List.mem_of_getElem? (i := 106) rfl) rfl, by decide, by decide, by decide +kernel⟩
theorem fit_1_3_6 : z_fit (z_rm 6) 0 0 1 3 := ⟨by decide, by decide, by decide, by decide⟩
theorem ml_8_302 : Cond.methodLink zR8 302 y_8_allGot ∈ lw_gd := z_m5 (List.mem_of_getElem? (i := 103) rfl) rfl
theorem im_8_allGot : Cond.instanceMethod y_8_allGot ∈ lw_gd := z_m5 (List.mem_of_getElem? (i := 105) rfl) rfl
theorem se_8_allGot : Cond.selects y_8_allGot.cls y_8_allGot y_8_allGot ∈ lw_gd := z_s (q := (y_8_allGot, _)) (List.mem_of_getElem? (i := 56) rfl)
theorem fw_8_305 : z_FW zR8 305 3 2 (0, 0, fun i => i) := ⟨_, _, rfl, rfl, rfl, by decide, z_m1 (List.mem_of_getElem? (i := 229) rfl) rfl⟩
theorem mw_8_allRent : z_MW y_8_allRent M_8_allRent 0 := ⟨z_m1 (List.mem_of_getElem? (i := 1) rfl) rfl, z_m5 (List.mem_of_getElem? (i := 110) rfl) rfl, by decide, by decide, by decide +kernel⟩
theorem ml_8_308 : Cond.methodLink zR8 308 y_8_allRent ∈ lw_gd := z_m5 (List.mem_of_getElem? (i := 107) rfl) rfl
theorem im_8_allRent : Cond.instanceMethod y_8_allRent ∈ lw_gd := z_m5 (List.mem_of_getElem? (i := 109) rfl) rfl
theorem se_8_allRent : Cond.selects y_8_allRent.cls y_8_allRent y_8_allRent ∈ lw_gd := z_s (q := (y_8_allRent, _)) (List.mem_of_getElem? (i := 57) rfl)
theorem mw_8_allGone : z_MW y_8_allGone M_8_allGone 0 := ⟨z_m1 (List.mem_of_getElem? (i := 1) rfl) rfl, z_m5 (List.mem_of_getElem? (i := 114) rfl) rfl, by decide, by decide, by decide +kernel⟩
theorem ml_8_311 : Cond.methodLink zR8 311 y_8_allGone ∈ lw_gd := z_m5 (List.mem_of_getElem? (i := 111) rfl) rfl
theorem im_8_allGone : Cond.instanceMethod y_8_allGone ∈ lw_gd := z_m5 (List.mem_of_getElem? (i := 113) rfl) rfl
theorem se_8_allGone : Cond.selects y_8_allGone.cls y_8_allGone y_8_allGone ∈ lw_gd := z_s (q := (y_8_allGone, _)) (List.mem_of_getElem? (i := 58) rfl)
theorem mw_8_allRents : z_MW y_8_allRents M_8_allRents 0 := ⟨z_m1 (List.mem_of_getElem? (i := 1) rfl) rfl, z_m5 (List.mem_of_getElem? (i := 118) rfl) rfl, by decide, by decide, by decide +kernel⟩
theorem ml_8_314 : Cond.methodLink zR8 314 y_8_allRents ∈ lw_gd := z_m5 (List.mem_of_getElem? (i := 115) rfl) rfl
theorem im_8_allRents : Cond.instanceMethod y_8_allRents ∈ lw_gd := z_m5 (List.mem_of_getElem? (i := 117) rfl) rfl
theorem se_8_allRents : Cond.selects y_8_allRents.cls y_8_allRents y_8_allRents ∈ lw_gd := z_s (q := (y_8_allRents, _)) (List.mem_of_getElem? (i := 59) rfl)
theorem mw_8_whoHasNoRight : z_MW y_8_whoHasNoRight M_8_whoHasNoRight 0 := ⟨z_m1 (List.mem_of_getElem? (i := 1) rfl) rfl, z_m5 (List.mem_of_getElem? (i := 122) rfl) rfl, by decide, by decide, by decide +kernel⟩
theorem ml_8_317 : Cond.methodLink zR8 317 y_8_whoHasNoRight ∈ lw_gd := z_m5 (List.mem_of_getElem? (i := 119) rfl) rfl
theorem im_8_whoHasNoRight : Cond.instanceMethod y_8_whoHasNoRight ∈ lw_gd := z_m5 (List.mem_of_getElem? (i := 121) rfl) rfl
theorem se_8_whoHasNoRight : Cond.selects y_8_whoHasNoRight.cls y_8_whoHasNoRight y_8_whoHasNoRight ∈ lw_gd := z_s (q := (y_8_whoHasNoRight, _)) (List.mem_of_getElem? (i := 60) rfl)
theorem fw_9_46 : z_FW zR9 46 9 23 (2, 123, fun i => i) := ⟨_, _, rfl, rfl, rfl, by decide, z_m5 (List.mem_of_getElem? (i := 171) rfl) rfl⟩
theorem sa_123 : z_SA 123 0 := ⟨rfl, rfl, by decide⟩
theorem fw_9_55 : z_FW zR9 55 9 26 (2, 126, fun i => i) := ⟨_, _, rfl, rfl, rfl, by decide, z_m5 (List.mem_of_getElem? (i := 174) rfl) rfl⟩
theorem sa_126 : z_SA 126 0 := ⟨rfl, rfl, by decide⟩
theorem fw_9_64 : z_FW zR9 64 9 29 (2, 129, fun i => i) := ⟨_, _, rfl, rfl, rfl, by decide, z_m5 (List.mem_of_getElem? (i := 177) rfl) rfl⟩
theorem sa_129 : z_SA 129 0 := ⟨rfl, rfl, by decide⟩
theorem fw_9_67 : z_FW zR9 67 9 30 (2, 130, fun i => i) := ⟨_, _, rfl, rfl, rfl, by decide, z_m5 (List.mem_of_getElem? (i := 178) rfl) rfl⟩
theorem sa_130 : z_SA 130 0 := ⟨rfl, rfl, by decide⟩
theorem fw_9_70 : z_FW zR9 70 9 31 (2, 131, fun i => i) := ⟨_, _, rfl, rfl, rfl, by decide, z_m5 (List.mem_of_getElem? (i := 179) rfl) rfl⟩
theorem sa_131 : z_SA 131 0 := ⟨rfl, rfl, by decide⟩
theorem fw_9_52 : z_FW zR9 52 9 25 (2, 125, fun i => i) := ⟨_, _, rfl, rfl, rfl, by decide, z_m5 (List.mem_of_getElem? (i := 173) rfl) rfl⟩
theorem sa_125 : z_SA 125 0 := ⟨rfl, rfl, by decide⟩
theorem fw_9_61 : z_FW zR9 61 9 28 (2, 128, fun i => i) := ⟨_, _, rfl, rfl, rfl, by decide, z_m5 (List.mem_of_getElem? (i := 176) rfl) rfl⟩
theorem sa_128 : z_SA 128 0 := ⟨rfl, rfl, by decide⟩
theorem fw_9_73 : z_FW zR9 73 9 32 (2, 132, fun i => i) := ⟨_, _, rfl, rfl, rfl, by decide, z_m5 (List.mem_of_getElem? (i := 180) rfl) rfl⟩
theorem sa_132 : z_SA 132 0 := ⟨rfl, rfl, by decide⟩
theorem fw_9_76 : z_FW zR9 76 9 33 (2, 133, fun i => i) := ⟨_, _, rfl, rfl, rfl, by decide, z_m5 (List.mem_of_getElem? (i := 181) rfl) rfl⟩
theorem sa_133 : z_SA 133 0 := ⟨rfl, rfl, by decide⟩
theorem kc_9_175 : Cond.constantLong zR9 175 (27 : Int64) ∈ lw_gd := z_m5 (List.mem_of_getElem? (i := 140) rfl) rfl
theorem mw_9_appends : z_MW y_9_appends M_9_appends 2 := ⟨z_m1 (List.mem_of_getElem? (i := 10) rfl) rfl, z_m5 (List.mem_of_getElem? (i := 139) rfl) rfl, by decide, by decide, by decide +kernel⟩
theorem ml_9_177 : Cond.methodLink zR9 177 y_9_appends ∈ lw_gd := z_m5 (List.mem_of_getElem? (i := 137) rfl) rfl
theorem is_9_appends : Cond.static y_9_appends ∈ lw_gd := z_m5 (List.mem_of_getElem? (i := 138) rfl) rfl
theorem fw_9_113 : z_FW zR9 113 9 49 (2, 149, fun i => i) := ⟨_, _, rfl, rfl, rfl, by decide, z_m5 (List.mem_of_getElem? (i := 197) rfl) rfl⟩
theorem sa_149 : z_SA 149 0 := ⟨rfl, rfl, by decide⟩
theorem fw_9_233 : z_FW zR9 233 9 18 (0, 0, fun i => i) := ⟨_, _, rfl, rfl, rfl, by decide, z_m5 (List.mem_of_getElem? (i := 166) rfl) rfl⟩
theorem fw_9_319 : z_FW zR9 319 9 50 (0, 0, fun i => i) := ⟨_, _, rfl, rfl, rfl, by decide, z_m5 (List.mem_of_getElem? (i := 198) rfl) rfl⟩
theorem pw_9_50 : z_PW 9 50 (.int) := fun _ _ h1 h2 => by
  cases h1
  cases h2
  exact ⟨rfl, by decide +kernel⟩
theorem fw_9_322 : z_FW zR9 322 9 51 (1, 0, fun i => i) := ⟨_, _, rfl, rfl, rfl, by decide, z_m5 (List.mem_of_getElem? (i := 199) rfl) rfl⟩
theorem pw_9_51 : z_PW 9 51 (.boolean) := fun _ _ h1 h2 => by
  cases h1
  cases h2
  exact ⟨rfl, by decide +kernel⟩
theorem fw_9_110 : z_FW zR9 110 9 48 (2, 148, fun i => i) := ⟨_, _, rfl, rfl, rfl, by decide, z_m5 (List.mem_of_getElem? (i := 196) rfl) rfl⟩
theorem sa_148 : z_SA 148 0 := ⟨rfl, rfl, by decide⟩
theorem fw_9_13 : z_FW zR9 13 9 1 (2, 101, fun i => i) := ⟨_, _, rfl, rfl, rfl, by decide, z_m5 (List.mem_of_getElem? (i := 149) rfl) rfl⟩
theorem fw_9_166 : z_FW zR9 166 9 2 (0, 0, fun i => i) := ⟨_, _, rfl, rfl, rfl, by decide, z_m5 (List.mem_of_getElem? (i := 150) rfl) rfl⟩
theorem sa_101 : z_SA 101 1 := ⟨rfl, rfl, by decide⟩
theorem pw_9_2 : z_PW 9 2 (.int) := fun _ _ h1 h2 => by
  cases h1
  cases h2
  exact ⟨rfl, by decide +kernel⟩
theorem mw_9_put : z_MW y_9_put M_9_put 1 := ⟨z_m1 (List.mem_of_getElem? (i := 10) rfl) rfl, z_m6 (List.mem_of_getElem? (i := 115) rfl) rfl, by decide, by decide, by decide +kernel⟩
theorem ml_9_169 : Cond.methodLink zR9 169 y_9_put ∈ lw_gd := z_m6 (List.mem_of_getElem? (i := 112) rfl) rfl
theorem im_9_put : Cond.instanceMethod y_9_put ∈ lw_gd := z_m6 (List.mem_of_getElem? (i := 114) rfl) rfl
theorem se_9_put : Cond.selects y_9_put.cls y_9_put y_9_put ∈ lw_gd := z_s (q := (y_9_put, _)) (List.mem_of_getElem? (i := 64) rfl)
theorem fw_9_172 : z_FW zR9 172 9 4 (0, 0, fun i => i) := ⟨_, _, rfl, rfl, rfl, by decide, z_m5 (List.mem_of_getElem? (i := 152) rfl) rfl⟩
theorem fw_9_17 : z_FW zR9 17 9 3 (2, 103, fun i => i) := ⟨_, _, rfl, rfl, rfl, by decide, z_m5 (List.mem_of_getElem? (i := 151) rfl) rfl⟩
theorem sa_103 : z_SA 103 1 := ⟨rfl, rfl, by decide⟩
theorem fw_9_20 : z_FW zR9 20 9 5 (2, 105, fun i => i) := ⟨_, _, rfl, rfl, rfl, by decide, z_m5 (List.mem_of_getElem? (i := 153) rfl) rfl⟩
theorem fw_9_181 : z_FW zR9 181 9 10 (0, 0, fun i => i) := ⟨_, _, rfl, rfl, rfl, by decide, z_m5 (List.mem_of_getElem? (i := 158) rfl) rfl⟩
theorem sa_105 : z_SA 105 0 := ⟨rfl, rfl, by decide⟩
theorem fw_9_24 : z_FW zR9 24 9 6 (2, 106, fun i => i) := ⟨_, _, rfl, rfl, rfl, by decide, z_m5 (List.mem_of_getElem? (i := 154) rfl) rfl⟩
theorem sa_106 : z_SA 106 0 := ⟨rfl, rfl, by decide⟩
theorem fw_9_27 : z_FW zR9 27 9 7 (2, 107, fun i => i) := ⟨_, _, rfl, rfl, rfl, by decide, z_m5 (List.mem_of_getElem? (i := 155) rfl) rfl⟩
theorem sa_107 : z_SA 107 0 := ⟨rfl, rfl, by decide⟩
theorem fw_9_30 : z_FW zR9 30 9 8 (2, 108, fun i => i) := ⟨_, _, rfl, rfl, rfl, by decide, z_m5 (List.mem_of_getElem? (i := 156) rfl) rfl⟩
theorem sa_108 : z_SA 108 3 := ⟨rfl, rfl, by decide⟩
theorem pw_9_10 : z_PW 9 10 (.int) := fun _ _ h1 h2 => by
  cases h1
  cases h2
  exact ⟨rfl, by decide +kernel⟩
theorem mw_9_token : z_MW y_9_token M_9_token 4 := ⟨z_m1 (List.mem_of_getElem? (i := 10) rfl) rfl, z_m6 (List.mem_of_getElem? (i := 135) rfl) rfl, by decide, by decide, by decide +kernel⟩
theorem ml_9_188 : Cond.methodLink zR9 188 y_9_token ∈ lw_gd := z_m6 (List.mem_of_getElem? (i := 132) rfl) rfl
theorem im_9_token : Cond.instanceMethod y_9_token ∈ lw_gd := z_m6 (List.mem_of_getElem? (i := 134) rfl) rfl
theorem se_9_token : Cond.selects y_9_token.cls y_9_token y_9_token ∈ lw_gd := z_s (q := (y_9_token, _)) (List.mem_of_getElem? (i := 67) rfl)
theorem d_8_bound_0 : zD prog_1_method_40_code 0 (.aload_n 0) 1 1 := ⟨by decide +kernel, rfl⟩
theorem d_8_bound_1 : zD prog_1_method_40_code 1 (.iload_n 1) 1 2 := ⟨by decide +kernel, rfl⟩
theorem d_8_bound_2 : zD prog_1_method_40_code 2 (.invokevirtual 131) 3 5 := ⟨by decide +kernel, rfl⟩
theorem d_8_bound_5 : zD prog_1_method_40_code 5 (.ifCond .eq 17) 3 8 := ⟨by decide +kernel, rfl⟩
theorem d_8_bound_8 : zD prog_1_method_40_code 8 (.aload_n 0) 1 9 := ⟨by decide +kernel, rfl⟩
theorem d_8_bound_9 : zD prog_1_method_40_code 9 (.getfield 34) 3 12 := ⟨by decide +kernel, rfl⟩
theorem d_8_bound_12 : zD prog_1_method_40_code 12 (.invokevirtual 183) 3 15 := ⟨by decide +kernel, rfl⟩
theorem d_8_bound_15 : zD prog_1_method_40_code 15 (.iload_n 1) 1 16 := ⟨by decide +kernel, rfl⟩
theorem d_8_bound_16 : zD prog_1_method_40_code 16 (.invokestatic 159) 3 19 := ⟨by decide +kernel, rfl⟩
theorem d_8_bound_19 : zD prog_1_method_40_code 19 (.ifCond .ne 5) 3 22 := ⟨by decide +kernel, rfl⟩
theorem d_8_bound_22 : zD prog_1_method_40_code 22 (.iconst (-1)) 1 23 := ⟨by decide +kernel, rfl⟩
theorem d_8_bound_23 : zD prog_1_method_40_code 23 (.ireturn) 1 24 := ⟨by decide +kernel, rfl⟩
theorem d_8_bound_24 : zD prog_1_method_40_code 24 (.iconst 1) 1 25 := ⟨by decide +kernel, rfl⟩
theorem d_8_bound_25 : zD prog_1_method_40_code 25 (.iload_n 1) 1 26 := ⟨by decide +kernel, rfl⟩
theorem d_8_bound_26 : zD prog_1_method_40_code 26 (.ishl) 1 27 := ⟨by decide +kernel, rfl⟩
theorem d_8_bound_27 : zD prog_1_method_40_code 27 (.istore_n 2) 1 28 := ⟨by decide +kernel, rfl⟩
theorem d_8_bound_28 : zD prog_1_method_40_code 28 (.iconst 0) 1 29 := ⟨by decide +kernel, rfl⟩
theorem d_8_bound_29 : zD prog_1_method_40_code 29 (.istore_n 3) 1 30 := ⟨by decide +kernel, rfl⟩
theorem d_8_bound_30 : zD prog_1_method_40_code 30 (.iload_n 3) 1 31 := ⟨by decide +kernel, rfl⟩
theorem d_8_bound_31 : zD prog_1_method_40_code 31 (.bipush 7) 2 33 := ⟨by decide +kernel, rfl⟩
theorem d_8_bound_33 : zD prog_1_method_40_code 33 (.if_icmp .ge 62) 3 36 := ⟨by decide +kernel, rfl⟩
theorem d_8_bound_36 : zD prog_1_method_40_code 36 (.iconst 0) 1 37 := ⟨by decide +kernel, rfl⟩
theorem d_8_bound_37 : zD prog_1_method_40_code 37 (.istore 4) 2 39 := ⟨by decide +kernel, rfl⟩
theorem d_8_bound_39 : zD prog_1_method_40_code 39 (.iload 4) 2 41 := ⟨by decide +kernel, rfl⟩
theorem d_8_bound_41 : zD prog_1_method_40_code 41 (.aload_n 0) 1 42 := ⟨by decide +kernel, rfl⟩
theorem d_8_bound_42 : zD prog_1_method_40_code 42 (.getfield 27) 3 45 := ⟨by decide +kernel, rfl⟩
theorem d_8_bound_45 : zD prog_1_method_40_code 45 (.getfield 156) 3 48 := ⟨by decide +kernel, rfl⟩
theorem d_8_bound_48 : zD prog_1_method_40_code 48 (.if_icmp .ge 41) 3 51 := ⟨by decide +kernel, rfl⟩
theorem d_8_bound_51 : zD prog_1_method_40_code 51 (.aload_n 0) 1 52 := ⟨by decide +kernel, rfl⟩
theorem d_8_bound_52 : zD prog_1_method_40_code 52 (.getfield 34) 3 55 := ⟨by decide +kernel, rfl⟩
theorem d_8_bound_55 : zD prog_1_method_40_code 55 (.getfield 120) 3 58 := ⟨by decide +kernel, rfl⟩
theorem d_8_bound_58 : zD prog_1_method_40_code 58 (.iload 4) 2 60 := ⟨by decide +kernel, rfl⟩
theorem d_8_bound_60 : zD prog_1_method_40_code 60 (.iaload) 1 61 := ⟨by decide +kernel, rfl⟩
theorem d_8_bound_61 : zD prog_1_method_40_code 61 (.aload_n 0) 1 62 := ⟨by decide +kernel, rfl⟩
theorem d_8_bound_62 : zD prog_1_method_40_code 62 (.getfield 34) 3 65 := ⟨by decide +kernel, rfl⟩
theorem d_8_bound_65 : zD prog_1_method_40_code 65 (.invokevirtual 183) 3 68 := ⟨by decide +kernel, rfl⟩
theorem d_8_bound_68 : zD prog_1_method_40_code 68 (.iand) 1 69 := ⟨by decide +kernel, rfl⟩
theorem d_8_bound_69 : zD prog_1_method_40_code 69 (.istore 5) 2 71 := ⟨by decide +kernel, rfl⟩
theorem d_8_bound_71 : zD prog_1_method_40_code 71 (.iload 5) 2 73 := ⟨by decide +kernel, rfl⟩
theorem d_8_bound_73 : zD prog_1_method_40_code 73 (.iload_n 2) 1 74 := ⟨by decide +kernel, rfl⟩
theorem d_8_bound_74 : zD prog_1_method_40_code 74 (.iand) 1 75 := ⟨by decide +kernel, rfl⟩
theorem d_8_bound_75 : zD prog_1_method_40_code 75 (.ifCond .eq 8) 3 78 := ⟨by decide +kernel, rfl⟩
theorem d_8_bound_78 : zD prog_1_method_40_code 78 (.iload_n 2) 1 79 := ⟨by decide +kernel, rfl⟩
theorem d_8_bound_79 : zD prog_1_method_40_code 79 (.iload 5) 2 81 := ⟨by decide +kernel, rfl⟩
theorem d_8_bound_81 : zD prog_1_method_40_code 81 (.ior) 1 82 := ⟨by decide +kernel, rfl⟩
theorem d_8_bound_82 : zD prog_1_method_40_code 82 (.istore_n 2) 1 83 := ⟨by decide +kernel, rfl⟩
theorem d_8_bound_83 : zD prog_1_method_40_code 83 (.iinc 4 1) 3 86 := ⟨by decide +kernel, rfl⟩
theorem d_8_bound_86 : zD prog_1_method_40_code 86 (.goto (-47)) 3 89 := ⟨by decide +kernel, rfl⟩
theorem d_8_bound_89 : zD prog_1_method_40_code 89 (.iinc 3 1) 3 92 := ⟨by decide +kernel, rfl⟩
theorem d_8_bound_92 : zD prog_1_method_40_code 92 (.goto (-62)) 3 95 := ⟨by decide +kernel, rfl⟩
theorem d_8_bound_95 : zD prog_1_method_40_code 95 (.iload_n 2) 1 96 := ⟨by decide +kernel, rfl⟩
theorem d_8_bound_96 : zD prog_1_method_40_code 96 (.ireturn) 1 97 := ⟨by decide +kernel, rfl⟩
theorem d_8_idle_0 : zD prog_1_method_41_code 0 (.iconst 0) 1 1 := ⟨by decide +kernel, rfl⟩
theorem d_8_idle_1 : zD prog_1_method_41_code 1 (.istore_n 1) 1 2 := ⟨by decide +kernel, rfl⟩
theorem d_8_idle_2 : zD prog_1_method_41_code 2 (.iconst 0) 1 3 := ⟨by decide +kernel, rfl⟩
theorem d_8_idle_3 : zD prog_1_method_41_code 3 (.istore_n 2) 1 4 := ⟨by decide +kernel, rfl⟩
theorem d_8_idle_4 : zD prog_1_method_41_code 4 (.iload_n 2) 1 5 := ⟨by decide +kernel, rfl⟩
theorem d_8_idle_5 : zD prog_1_method_41_code 5 (.aload_n 0) 1 6 := ⟨by decide +kernel, rfl⟩
theorem d_8_idle_6 : zD prog_1_method_41_code 6 (.getfield 27) 3 9 := ⟨by decide +kernel, rfl⟩
theorem d_8_idle_9 : zD prog_1_method_41_code 9 (.getfield 156) 3 12 := ⟨by decide +kernel, rfl⟩
theorem d_8_idle_12 : zD prog_1_method_41_code 12 (.if_icmp .ge 26) 3 15 := ⟨by decide +kernel, rfl⟩
theorem d_8_idle_15 : zD prog_1_method_41_code 15 (.aload_n 0) 1 16 := ⟨by decide +kernel, rfl⟩
theorem d_8_idle_16 : zD prog_1_method_41_code 16 (.getfield 34) 3 19 := ⟨by decide +kernel, rfl⟩
theorem d_8_idle_19 : zD prog_1_method_41_code 19 (.iload_n 2) 1 20 := ⟨by decide +kernel, rfl⟩
theorem d_8_idle_20 : zD prog_1_method_41_code 20 (.invokevirtual 116) 3 23 := ⟨by decide +kernel, rfl⟩
theorem d_8_idle_23 : zD prog_1_method_41_code 23 (.ifCond .ge 9) 3 26 := ⟨by decide +kernel, rfl⟩
theorem d_8_idle_26 : zD prog_1_method_41_code 26 (.iload_n 1) 1 27 := ⟨by decide +kernel, rfl⟩
theorem d_8_idle_27 : zD prog_1_method_41_code 27 (.iconst 1) 1 28 := ⟨by decide +kernel, rfl⟩
theorem d_8_idle_28 : zD prog_1_method_41_code 28 (.iload_n 2) 1 29 := ⟨by decide +kernel, rfl⟩
theorem d_8_idle_29 : zD prog_1_method_41_code 29 (.ishl) 1 30 := ⟨by decide +kernel, rfl⟩
theorem d_8_idle_30 : zD prog_1_method_41_code 30 (.ior) 1 31 := ⟨by decide +kernel, rfl⟩
theorem d_8_idle_31 : zD prog_1_method_41_code 31 (.istore_n 1) 1 32 := ⟨by decide +kernel, rfl⟩
theorem d_8_idle_32 : zD prog_1_method_41_code 32 (.iinc 2 1) 3 35 := ⟨by decide +kernel, rfl⟩
theorem d_8_idle_35 : zD prog_1_method_41_code 35 (.goto (-31)) 3 38 := ⟨by decide +kernel, rfl⟩
theorem d_8_idle_38 : zD prog_1_method_41_code 38 (.iload_n 1) 1 39 := ⟨by decide +kernel, rfl⟩
theorem d_8_idle_39 : zD prog_1_method_41_code 39 (.ireturn) 1 40 := ⟨by decide +kernel, rfl⟩
theorem d_8_allRights_0 : zD prog_1_method_43_code 0 (.iconst 0) 1 1 := ⟨by decide +kernel, rfl⟩
theorem d_8_allRights_1 : zD prog_1_method_43_code 1 (.istore_n 1) 1 2 := ⟨by decide +kernel, rfl⟩
theorem d_8_allRights_2 : zD prog_1_method_43_code 2 (.iconst 0) 1 3 := ⟨by decide +kernel, rfl⟩
theorem d_8_allRights_3 : zD prog_1_method_43_code 3 (.istore_n 2) 1 4 := ⟨by decide +kernel, rfl⟩
theorem d_8_allRights_4 : zD prog_1_method_43_code 4 (.iload_n 2) 1 5 := ⟨by decide +kernel, rfl⟩
theorem d_8_allRights_5 : zD prog_1_method_43_code 5 (.aload_n 0) 1 6 := ⟨by decide +kernel, rfl⟩
theorem d_8_allRights_6 : zD prog_1_method_43_code 6 (.getfield 27) 3 9 := ⟨by decide +kernel, rfl⟩
theorem d_8_allRights_9 : zD prog_1_method_43_code 9 (.getfield 156) 3 12 := ⟨by decide +kernel, rfl⟩
theorem d_8_allRights_12 : zD prog_1_method_43_code 12 (.if_icmp .ge 24) 3 15 := ⟨by decide +kernel, rfl⟩
theorem d_8_allRights_15 : zD prog_1_method_43_code 15 (.iload_n 1) 1 16 := ⟨by decide +kernel, rfl⟩
theorem d_8_allRights_16 : zD prog_1_method_43_code 16 (.aload_n 0) 1 17 := ⟨by decide +kernel, rfl⟩
theorem d_8_allRights_17 : zD prog_1_method_43_code 17 (.getfield 34) 3 20 := ⟨by decide +kernel, rfl⟩
theorem d_8_allRights_20 : zD prog_1_method_43_code 20 (.getfield 120) 3 23 := ⟨by decide +kernel, rfl⟩
theorem d_8_allRights_23 : zD prog_1_method_43_code 23 (.iload_n 2) 1 24 := ⟨by decide +kernel, rfl⟩
theorem d_8_allRights_24 : zD prog_1_method_43_code 24 (.iaload) 1 25 := ⟨by decide +kernel, rfl⟩
theorem d_8_allRights_25 : zD prog_1_method_43_code 25 (.invokestatic 241) 3 28 := ⟨by decide +kernel, rfl⟩
theorem d_8_allRights_28 : zD prog_1_method_43_code 28 (.iadd) 1 29 := ⟨by decide +kernel, rfl⟩
theorem d_8_allRights_29 : zD prog_1_method_43_code 29 (.istore_n 1) 1 30 := ⟨by decide +kernel, rfl⟩
theorem d_8_allRights_30 : zD prog_1_method_43_code 30 (.iinc 2 1) 3 33 := ⟨by decide +kernel, rfl⟩
theorem d_8_allRights_33 : zD prog_1_method_43_code 33 (.goto (-29)) 3 36 := ⟨by decide +kernel, rfl⟩
theorem d_8_allRights_36 : zD prog_1_method_43_code 36 (.iload_n 1) 1 37 := ⟨by decide +kernel, rfl⟩
theorem d_8_allRights_37 : zD prog_1_method_43_code 37 (.ireturn) 1 38 := ⟨by decide +kernel, rfl⟩
theorem d_8_share_0 : zD prog_1_method_42_code 0 (.aload_n 0) 1 1 := ⟨by decide +kernel, rfl⟩
theorem d_8_share_1 : zD prog_1_method_42_code 1 (.iload_n 1) 1 2 := ⟨by decide +kernel, rfl⟩
theorem d_8_share_2 : zD prog_1_method_42_code 2 (.invokevirtual 131) 3 5 := ⟨by decide +kernel, rfl⟩
theorem d_8_share_5 : zD prog_1_method_42_code 5 (.ifCond .ne 5) 3 8 := ⟨by decide +kernel, rfl⟩
theorem d_8_share_8 : zD prog_1_method_42_code 8 (.iconst (-1)) 1 9 := ⟨by decide +kernel, rfl⟩
theorem d_8_share_9 : zD prog_1_method_42_code 9 (.ireturn) 1 10 := ⟨by decide +kernel, rfl⟩
theorem d_8_share_10 : zD prog_1_method_42_code 10 (.aload_n 0) 1 11 := ⟨by decide +kernel, rfl⟩
theorem d_8_share_11 : zD prog_1_method_42_code 11 (.invokevirtual 263) 3 14 := ⟨by decide +kernel, rfl⟩
theorem d_8_share_14 : zD prog_1_method_42_code 14 (.istore_n 2) 1 15 := ⟨by decide +kernel, rfl⟩
theorem d_8_share_15 : zD prog_1_method_42_code 15 (.iload_n 2) 1 16 := ⟨by decide +kernel, rfl⟩
theorem d_8_share_16 : zD prog_1_method_42_code 16 (.ifCond .ne 7) 3 19 := ⟨by decide +kernel, rfl⟩
theorem d_8_share_19 : zD prog_1_method_42_code 19 (.iconst 0) 1 20 := ⟨by decide +kernel, rfl⟩
theorem d_8_share_20 : zD prog_1_method_42_code 20 (.goto 17) 3 23 := ⟨by decide +kernel, rfl⟩
theorem d_8_share_23 : zD prog_1_method_42_code 23 (.aload_n 0) 1 24 := ⟨by decide +kernel, rfl⟩
theorem d_8_share_24 : zD prog_1_method_42_code 24 (.iload_n 1) 1 25 := ⟨by decide +kernel, rfl⟩
theorem d_8_share_25 : zD prog_1_method_42_code 25 (.invokevirtual 146) 3 28 := ⟨by decide +kernel, rfl⟩
theorem d_8_share_28 : zD prog_1_method_42_code 28 (.invokestatic 241) 3 31 := ⟨by decide +kernel, rfl⟩
theorem d_8_share_31 : zD prog_1_method_42_code 31 (.sipush 1000) 3 34 := ⟨by decide +kernel, rfl⟩
theorem d_8_share_34 : zD prog_1_method_42_code 34 (.imul) 1 35 := ⟨by decide +kernel, rfl⟩
theorem d_8_share_35 : zD prog_1_method_42_code 35 (.iload_n 2) 1 36 := ⟨by decide +kernel, rfl⟩
theorem d_8_share_36 : zD prog_1_method_42_code 36 (.idiv) 1 37 := ⟨by decide +kernel, rfl⟩
theorem d_8_share_37 : zD prog_1_method_42_code 37 (.ireturn) 1 38 := ⟨by decide +kernel, rfl⟩
theorem d_8_foresee_0 : zD prog_1_method_48_code 0 (.aload_n 0) 1 1 := ⟨by decide +kernel, rfl⟩
theorem d_8_foresee_1 : zD prog_1_method_48_code 1 (.getfield 38) 3 4 := ⟨by decide +kernel, rfl⟩
theorem d_8_foresee_4 : zD prog_1_method_48_code 4 (.aload_n 0) 1 5 := ⟨by decide +kernel, rfl⟩
theorem d_8_foresee_5 : zD prog_1_method_48_code 5 (.getfield 34) 3 8 := ⟨by decide +kernel, rfl⟩
theorem d_8_foresee_8 : zD prog_1_method_48_code 8 (.invokevirtual 210) 3 11 := ⟨by decide +kernel, rfl⟩
theorem d_8_foresee_11 : zD prog_1_method_48_code 11 (.aload_n 0) 1 12 := ⟨by decide +kernel, rfl⟩
theorem d_8_foresee_12 : zD prog_1_method_48_code 12 (.getfield 75) 3 15 := ⟨by decide +kernel, rfl⟩
theorem d_8_foresee_15 : zD prog_1_method_48_code 15 (.aload_n 0) 1 16 := ⟨by decide +kernel, rfl⟩
theorem d_8_foresee_16 : zD prog_1_method_48_code 16 (.getfield 27) 3 19 := ⟨by decide +kernel, rfl⟩
theorem d_8_foresee_19 : zD prog_1_method_48_code 19 (.aload_n 0) 1 20 := ⟨by decide +kernel, rfl⟩
theorem d_8_foresee_20 : zD prog_1_method_48_code 20 (.getfield 38) 3 23 := ⟨by decide +kernel, rfl⟩
theorem d_8_foresee_23 : zD prog_1_method_48_code 23 (.iload_n 1) 1 24 := ⟨by decide +kernel, rfl⟩
theorem d_8_foresee_24 : zD prog_1_method_48_code 24 (.iload_n 2) 1 25 := ⟨by decide +kernel, rfl⟩
theorem d_8_foresee_25 : zD prog_1_method_48_code 25 (.invokevirtual 196) 3 28 := ⟨by decide +kernel, rfl⟩
theorem d_8_foresee_28 : zD prog_1_method_48_code 28 (.return_) 1 29 := ⟨by decide +kernel, rfl⟩
theorem d_8_lordIn_0 : zD prog_1_method_44_code 0 (.aload_n 0) 1 1 := ⟨by decide +kernel, rfl⟩
theorem d_8_lordIn_1 : zD prog_1_method_44_code 1 (.iload_n 1) 1 2 := ⟨by decide +kernel, rfl⟩
theorem d_8_lordIn_2 : zD prog_1_method_44_code 2 (.invokevirtual 109) 3 5 := ⟨by decide +kernel, rfl⟩
theorem d_8_lordIn_5 : zD prog_1_method_44_code 5 (.ifCond .eq 11) 3 8 := ⟨by decide +kernel, rfl⟩
theorem d_8_lordIn_8 : zD prog_1_method_44_code 8 (.iload_n 2) 1 9 := ⟨by decide +kernel, rfl⟩
theorem d_8_lordIn_9 : zD prog_1_method_44_code 9 (.iconst 0) 1 10 := ⟨by decide +kernel, rfl⟩
theorem d_8_lordIn_10 : zD prog_1_method_44_code 10 (.invokestatic 190) 3 13 := ⟨by decide +kernel, rfl⟩
theorem d_8_lordIn_13 : zD prog_1_method_44_code 13 (.ifCond .ne 5) 3 16 := ⟨by decide +kernel, rfl⟩
theorem d_8_lordIn_16 : zD prog_1_method_44_code 16 (.iconst (-1)) 1 17 := ⟨by decide +kernel, rfl⟩
theorem d_8_lordIn_17 : zD prog_1_method_44_code 17 (.ireturn) 1 18 := ⟨by decide +kernel, rfl⟩
theorem d_8_lordIn_18 : zD prog_1_method_44_code 18 (.aload_n 0) 1 19 := ⟨by decide +kernel, rfl⟩
theorem d_8_lordIn_19 : zD prog_1_method_44_code 19 (.iload_n 2) 1 20 := ⟨by decide +kernel, rfl⟩
theorem d_8_lordIn_20 : zD prog_1_method_44_code 20 (.aload_n 0) 1 21 := ⟨by decide +kernel, rfl⟩
theorem d_8_lordIn_21 : zD prog_1_method_44_code 21 (.getfield 27) 3 24 := ⟨by decide +kernel, rfl⟩
theorem d_8_lordIn_24 : zD prog_1_method_44_code 24 (.getfield 193) 3 27 := ⟨by decide +kernel, rfl⟩
theorem d_8_lordIn_27 : zD prog_1_method_44_code 27 (.invokevirtual 266) 3 30 := ⟨by decide +kernel, rfl⟩
theorem d_8_lordIn_30 : zD prog_1_method_44_code 30 (.aload_n 0) 1 31 := ⟨by decide +kernel, rfl⟩
theorem d_8_lordIn_31 : zD prog_1_method_44_code 31 (.getfield 38) 3 34 := ⟨by decide +kernel, rfl⟩
theorem d_8_lordIn_34 : zD prog_1_method_44_code 34 (.iload_n 1) 1 35 := ⟨by decide +kernel, rfl⟩
theorem d_8_lordIn_35 : zD prog_1_method_44_code 35 (.invokevirtual 116) 3 38 := ⟨by decide +kernel, rfl⟩
theorem d_8_lordIn_38 : zD prog_1_method_44_code 38 (.ireturn) 1 39 := ⟨by decide +kernel, rfl⟩
theorem d_8_then_0 : zD prog_1_method_45_code 0 (.iload_n 1) 1 1 := ⟨by decide +kernel, rfl⟩
theorem d_8_then_1 : zD prog_1_method_45_code 1 (.iconst 0) 1 2 := ⟨by decide +kernel, rfl⟩
theorem d_8_then_2 : zD prog_1_method_45_code 2 (.invokestatic 190) 3 5 := ⟨by decide +kernel, rfl⟩
theorem d_8_then_5 : zD prog_1_method_45_code 5 (.ifCond .ne 5) 3 8 := ⟨by decide +kernel, rfl⟩
theorem d_8_then_8 : zD prog_1_method_45_code 8 (.iconst (-1)) 1 9 := ⟨by decide +kernel, rfl⟩
theorem d_8_then_9 : zD prog_1_method_45_code 9 (.ireturn) 1 10 := ⟨by decide +kernel, rfl⟩
theorem d_8_then_10 : zD prog_1_method_45_code 10 (.aload_n 0) 1 11 := ⟨by decide +kernel, rfl⟩
theorem d_8_then_11 : zD prog_1_method_45_code 11 (.iload_n 1) 1 12 := ⟨by decide +kernel, rfl⟩
theorem d_8_then_12 : zD prog_1_method_45_code 12 (.aload_n 0) 1 13 := ⟨by decide +kernel, rfl⟩
theorem d_8_then_13 : zD prog_1_method_45_code 13 (.getfield 27) 3 16 := ⟨by decide +kernel, rfl⟩
theorem d_8_then_16 : zD prog_1_method_45_code 16 (.getfield 193) 3 19 := ⟨by decide +kernel, rfl⟩
theorem d_8_then_19 : zD prog_1_method_45_code 19 (.invokevirtual 266) 3 22 := ⟨by decide +kernel, rfl⟩
theorem d_8_then_22 : zD prog_1_method_45_code 22 (.aload_n 0) 1 23 := ⟨by decide +kernel, rfl⟩
theorem d_8_then_23 : zD prog_1_method_45_code 23 (.getfield 38) 3 26 := ⟨by decide +kernel, rfl⟩
theorem d_8_then_26 : zD prog_1_method_45_code 26 (.aload_n 0) 1 27 := ⟨by decide +kernel, rfl⟩
theorem d_8_then_27 : zD prog_1_method_45_code 27 (.getfield 27) 3 30 := ⟨by decide +kernel, rfl⟩
theorem d_8_then_30 : zD prog_1_method_45_code 30 (.iload_n 2) 1 31 := ⟨by decide +kernel, rfl⟩
theorem d_8_then_31 : zD prog_1_method_45_code 31 (.invokevirtual 270) 3 34 := ⟨by decide +kernel, rfl⟩
theorem d_8_then_34 : zD prog_1_method_45_code 34 (.ireturn) 1 35 := ⟨by decide +kernel, rfl⟩
theorem d_8_gotIn_0 : zD prog_1_method_46_code 0 (.aload_n 0) 1 1 := ⟨by decide +kernel, rfl⟩
theorem d_8_gotIn_1 : zD prog_1_method_46_code 1 (.iload_n 1) 1 2 := ⟨by decide +kernel, rfl⟩
theorem d_8_gotIn_2 : zD prog_1_method_46_code 2 (.invokevirtual 131) 3 5 := ⟨by decide +kernel, rfl⟩
theorem d_8_gotIn_5 : zD prog_1_method_46_code 5 (.ifCond .eq 11) 3 8 := ⟨by decide +kernel, rfl⟩
theorem d_8_gotIn_8 : zD prog_1_method_46_code 8 (.iload_n 2) 1 9 := ⟨by decide +kernel, rfl⟩
theorem d_8_gotIn_9 : zD prog_1_method_46_code 9 (.iconst 0) 1 10 := ⟨by decide +kernel, rfl⟩
theorem d_8_gotIn_10 : zD prog_1_method_46_code 10 (.invokestatic 190) 3 13 := ⟨by decide +kernel, rfl⟩
theorem d_8_gotIn_13 : zD prog_1_method_46_code 13 (.ifCond .ne 5) 3 16 := ⟨by decide +kernel, rfl⟩
theorem d_8_gotIn_16 : zD prog_1_method_46_code 16 (.iconst (-1)) 1 17 := ⟨by decide +kernel, rfl⟩
theorem d_8_gotIn_17 : zD prog_1_method_46_code 17 (.ireturn) 1 18 := ⟨by decide +kernel, rfl⟩
theorem d_8_gotIn_18 : zD prog_1_method_46_code 18 (.aload_n 0) 1 19 := ⟨by decide +kernel, rfl⟩
theorem d_8_gotIn_19 : zD prog_1_method_46_code 19 (.iload_n 2) 1 20 := ⟨by decide +kernel, rfl⟩
theorem d_8_gotIn_20 : zD prog_1_method_46_code 20 (.aload_n 0) 1 21 := ⟨by decide +kernel, rfl⟩
theorem d_8_gotIn_21 : zD prog_1_method_46_code 21 (.getfield 27) 3 24 := ⟨by decide +kernel, rfl⟩
theorem d_8_gotIn_24 : zD prog_1_method_46_code 24 (.getfield 193) 3 27 := ⟨by decide +kernel, rfl⟩
theorem d_8_gotIn_27 : zD prog_1_method_46_code 27 (.invokevirtual 266) 3 30 := ⟨by decide +kernel, rfl⟩
theorem d_8_gotIn_30 : zD prog_1_method_46_code 30 (.aload_n 0) 1 31 := ⟨by decide +kernel, rfl⟩
theorem d_8_gotIn_31 : zD prog_1_method_46_code 31 (.getfield 38) 3 34 := ⟨by decide +kernel, rfl⟩
theorem d_8_gotIn_34 : zD prog_1_method_46_code 34 (.getfield 143) 3 37 := ⟨by decide +kernel, rfl⟩
theorem d_8_gotIn_37 : zD prog_1_method_46_code 37 (.iload_n 1) 1 38 := ⟨by decide +kernel, rfl⟩
theorem d_8_gotIn_38 : zD prog_1_method_46_code 38 (.iaload) 1 39 := ⟨by decide +kernel, rfl⟩
theorem d_8_gotIn_39 : zD prog_1_method_46_code 39 (.ireturn) 1 40 := ⟨by decide +kernel, rfl⟩
theorem d_8_year_0 : zD prog_1_method_47_code 0 (.aload_n 0) 1 1 := ⟨by decide +kernel, rfl⟩
theorem d_8_year_1 : zD prog_1_method_47_code 1 (.iload_n 1) 1 2 := ⟨by decide +kernel, rfl⟩
theorem d_8_year_2 : zD prog_1_method_47_code 2 (.invokevirtual 131) 3 5 := ⟨by decide +kernel, rfl⟩
theorem d_8_year_5 : zD prog_1_method_47_code 5 (.ifCond .eq 22) 3 8 := ⟨by decide +kernel, rfl⟩
theorem d_8_year_8 : zD prog_1_method_47_code 8 (.iload_n 2) 1 9 := ⟨by decide +kernel, rfl⟩
theorem d_8_year_9 : zD prog_1_method_47_code 9 (.iconst 0) 1 10 := ⟨by decide +kernel, rfl⟩
theorem d_8_year_10 : zD prog_1_method_47_code 10 (.invokestatic 190) 3 13 := ⟨by decide +kernel, rfl⟩
theorem d_8_year_13 : zD prog_1_method_47_code 13 (.ifCond .eq 14) 3 16 := ⟨by decide +kernel, rfl⟩
theorem d_8_year_16 : zD prog_1_method_47_code 16 (.iload_n 3) 1 17 := ⟨by decide +kernel, rfl⟩
theorem d_8_year_17 : zD prog_1_method_47_code 17 (.iconst 1) 1 18 := ⟨by decide +kernel, rfl⟩
theorem d_8_year_18 : zD prog_1_method_47_code 18 (.if_icmp .lt 9) 3 21 := ⟨by decide +kernel, rfl⟩
theorem d_8_year_21 : zD prog_1_method_47_code 21 (.iload_n 3) 1 22 := ⟨by decide +kernel, rfl⟩
theorem d_8_year_22 : zD prog_1_method_47_code 22 (.bipush 20) 2 24 := ⟨by decide +kernel, rfl⟩
theorem d_8_year_24 : zD prog_1_method_47_code 24 (.if_icmp .le 5) 3 27 := ⟨by decide +kernel, rfl⟩
theorem d_8_year_27 : zD prog_1_method_47_code 27 (.iconst (-1)) 1 28 := ⟨by decide +kernel, rfl⟩
theorem d_8_year_28 : zD prog_1_method_47_code 28 (.ireturn) 1 29 := ⟨by decide +kernel, rfl⟩
theorem d_8_year_29 : zD prog_1_method_47_code 29 (.iconst 0) 1 30 := ⟨by decide +kernel, rfl⟩
theorem d_8_year_30 : zD prog_1_method_47_code 30 (.istore 4) 2 32 := ⟨by decide +kernel, rfl⟩
theorem d_8_year_32 : zD prog_1_method_47_code 32 (.iconst 0) 1 33 := ⟨by decide +kernel, rfl⟩
theorem d_8_year_33 : zD prog_1_method_47_code 33 (.istore 5) 2 35 := ⟨by decide +kernel, rfl⟩
theorem d_8_year_35 : zD prog_1_method_47_code 35 (.iload 5) 2 37 := ⟨by decide +kernel, rfl⟩
theorem d_8_year_37 : zD prog_1_method_47_code 37 (.iload_n 3) 1 38 := ⟨by decide +kernel, rfl⟩
theorem d_8_year_38 : zD prog_1_method_47_code 38 (.if_icmp .ge 45) 3 41 := ⟨by decide +kernel, rfl⟩
theorem d_8_year_41 : zD prog_1_method_47_code 41 (.aload_n 0) 1 42 := ⟨by decide +kernel, rfl⟩
theorem d_8_year_42 : zD prog_1_method_47_code 42 (.iload_n 2) 1 43 := ⟨by decide +kernel, rfl⟩
theorem d_8_year_43 : zD prog_1_method_47_code 43 (.aload_n 0) 1 44 := ⟨by decide +kernel, rfl⟩
theorem d_8_year_44 : zD prog_1_method_47_code 44 (.getfield 27) 3 47 := ⟨by decide +kernel, rfl⟩
theorem d_8_year_47 : zD prog_1_method_47_code 47 (.getfield 193) 3 50 := ⟨by decide +kernel, rfl⟩
theorem d_8_year_50 : zD prog_1_method_47_code 50 (.iload 5) 2 52 := ⟨by decide +kernel, rfl⟩
theorem d_8_year_52 : zD prog_1_method_47_code 52 (.iadd) 1 53 := ⟨by decide +kernel, rfl⟩
theorem d_8_year_53 : zD prog_1_method_47_code 53 (.invokevirtual 266) 3 56 := ⟨by decide +kernel, rfl⟩
theorem d_8_year_56 : zD prog_1_method_47_code 56 (.aload_n 0) 1 57 := ⟨by decide +kernel, rfl⟩
theorem d_8_year_57 : zD prog_1_method_47_code 57 (.getfield 38) 3 60 := ⟨by decide +kernel, rfl⟩
theorem d_8_year_60 : zD prog_1_method_47_code 60 (.aload_n 0) 1 61 := ⟨by decide +kernel, rfl⟩
theorem d_8_year_61 : zD prog_1_method_47_code 61 (.getfield 27) 3 64 := ⟨by decide +kernel, rfl⟩
theorem d_8_year_64 : zD prog_1_method_47_code 64 (.invokevirtual 274) 3 67 := ⟨by decide +kernel, rfl⟩
theorem d_8_year_67 : zD prog_1_method_47_code 67 (.iload_n 1) 1 68 := ⟨by decide +kernel, rfl⟩
theorem d_8_year_68 : zD prog_1_method_47_code 68 (.invokestatic 159) 3 71 := ⟨by decide +kernel, rfl⟩
theorem d_8_year_71 : zD prog_1_method_47_code 71 (.ifCond .eq 6) 3 74 := ⟨by decide +kernel, rfl⟩
theorem d_8_year_74 : zD prog_1_method_47_code 74 (.iinc 4 1) 3 77 := ⟨by decide +kernel, rfl⟩
theorem d_8_year_77 : zD prog_1_method_47_code 77 (.iinc 5 1) 3 80 := ⟨by decide +kernel, rfl⟩
theorem d_8_year_80 : zD prog_1_method_47_code 80 (.goto (-45)) 3 83 := ⟨by decide +kernel, rfl⟩
theorem d_8_year_83 : zD prog_1_method_47_code 83 (.iload 4) 2 85 := ⟨by decide +kernel, rfl⟩
theorem d_8_year_85 : zD prog_1_method_47_code 85 (.ireturn) 1 86 := ⟨by decide +kernel, rfl⟩
theorem d_8_tell_0 : zD prog_1_method_49_code 0 (.aload_n 0) 1 1 := ⟨by decide +kernel, rfl⟩
theorem d_8_tell_1 : zD prog_1_method_49_code 1 (.iload_n 1) 1 2 := ⟨by decide +kernel, rfl⟩
theorem d_8_tell_2 : zD prog_1_method_49_code 2 (.invokevirtual 131) 3 5 := ⟨by decide +kernel, rfl⟩
theorem d_8_tell_5 : zD prog_1_method_49_code 5 (.ifCond .eq 16) 3 8 := ⟨by decide +kernel, rfl⟩
theorem d_8_tell_8 : zD prog_1_method_49_code 8 (.aload_n 0) 1 9 := ⟨by decide +kernel, rfl⟩
theorem d_8_tell_9 : zD prog_1_method_49_code 9 (.iload_n 2) 1 10 := ⟨by decide +kernel, rfl⟩
theorem d_8_tell_10 : zD prog_1_method_49_code 10 (.invokevirtual 131) 3 13 := ⟨by decide +kernel, rfl⟩
theorem d_8_tell_13 : zD prog_1_method_49_code 13 (.ifCond .eq 8) 3 16 := ⟨by decide +kernel, rfl⟩
theorem d_8_tell_16 : zD prog_1_method_49_code 16 (.iload_n 1) 1 17 := ⟨by decide +kernel, rfl⟩
theorem d_8_tell_17 : zD prog_1_method_49_code 17 (.iload_n 2) 1 18 := ⟨by decide +kernel, rfl⟩
theorem d_8_tell_18 : zD prog_1_method_49_code 18 (.if_icmp .ne 5) 3 21 := ⟨by decide +kernel, rfl⟩
theorem d_8_tell_21 : zD prog_1_method_49_code 21 (.iconst (-1)) 1 22 := ⟨by decide +kernel, rfl⟩
theorem d_8_tell_22 : zD prog_1_method_49_code 22 (.ireturn) 1 23 := ⟨by decide +kernel, rfl⟩
theorem d_8_tell_23 : zD prog_1_method_49_code 23 (.aload_n 0) 1 24 := ⟨by decide +kernel, rfl⟩
theorem d_8_tell_24 : zD prog_1_method_49_code 24 (.getfield 82) 3 27 := ⟨by decide +kernel, rfl⟩
theorem d_8_tell_27 : zD prog_1_method_49_code 27 (.iload_n 1) 1 28 := ⟨by decide +kernel, rfl⟩
theorem d_8_tell_28 : zD prog_1_method_49_code 28 (.iload_n 2) 1 29 := ⟨by decide +kernel, rfl⟩
theorem d_8_tell_29 : zD prog_1_method_49_code 29 (.invokevirtual 278) 3 32 := ⟨by decide +kernel, rfl⟩
theorem d_8_tell_32 : zD prog_1_method_49_code 32 (.ireturn) 1 33 := ⟨by decide +kernel, rfl⟩
theorem d_8_forget_0 : zD prog_1_method_50_code 0 (.aload_n 0) 1 1 := ⟨by decide +kernel, rfl⟩
theorem d_8_forget_1 : zD prog_1_method_50_code 1 (.getfield 82) 3 4 := ⟨by decide +kernel, rfl⟩
theorem d_8_forget_4 : zD prog_1_method_50_code 4 (.getfield 281) 3 7 := ⟨by decide +kernel, rfl⟩
theorem d_8_forget_7 : zD prog_1_method_50_code 7 (.istore_n 1) 1 8 := ⟨by decide +kernel, rfl⟩
theorem d_8_forget_8 : zD prog_1_method_50_code 8 (.aload_n 0) 1 9 := ⟨by decide +kernel, rfl⟩
theorem d_8_forget_9 : zD prog_1_method_50_code 9 (.getfield 82) 3 12 := ⟨by decide +kernel, rfl⟩
theorem d_8_forget_12 : zD prog_1_method_50_code 12 (.invokevirtual 105) 3 15 := ⟨by decide +kernel, rfl⟩
theorem d_8_forget_15 : zD prog_1_method_50_code 15 (.iload_n 1) 1 16 := ⟨by decide +kernel, rfl⟩
theorem d_8_forget_16 : zD prog_1_method_50_code 16 (.ireturn) 1 17 := ⟨by decide +kernel, rfl⟩
theorem d_8_isKnown_0 : zD prog_1_method_71_code 0 (.iload_n 1) 1 1 := ⟨by decide +kernel, rfl⟩
theorem d_8_isKnown_1 : zD prog_1_method_71_code 1 (.ifCond .lt 18) 3 4 := ⟨by decide +kernel, rfl⟩
theorem d_8_isKnown_4 : zD prog_1_method_71_code 4 (.iload_n 1) 1 5 := ⟨by decide +kernel, rfl⟩
theorem d_8_isKnown_5 : zD prog_1_method_71_code 5 (.aload_n 0) 1 6 := ⟨by decide +kernel, rfl⟩
theorem d_8_isKnown_6 : zD prog_1_method_71_code 6 (.getfield 82) 3 9 := ⟨by decide +kernel, rfl⟩
theorem d_8_isKnown_9 : zD prog_1_method_71_code 9 (.getfield 281) 3 12 := ⟨by decide +kernel, rfl⟩
theorem d_8_isKnown_12 : zD prog_1_method_71_code 12 (.if_icmp .gt 7) 3 15 := ⟨by decide +kernel, rfl⟩
theorem d_8_isKnown_15 : zD prog_1_method_71_code 15 (.iconst 1) 1 16 := ⟨by decide +kernel, rfl⟩
theorem d_8_isKnown_16 : zD prog_1_method_71_code 16 (.goto 4) 3 19 := ⟨by decide +kernel, rfl⟩
theorem d_8_isKnown_19 : zD prog_1_method_71_code 19 (.iconst 0) 1 20 := ⟨by decide +kernel, rfl⟩
theorem d_8_isKnown_20 : zD prog_1_method_71_code 20 (.ireturn) 1 21 := ⟨by decide +kernel, rfl⟩
theorem d_8_orders_0 : zD prog_1_method_51_code 0 (.aload_n 0) 1 1 := ⟨by decide +kernel, rfl⟩
theorem d_8_orders_1 : zD prog_1_method_51_code 1 (.iload_n 1) 1 2 := ⟨by decide +kernel, rfl⟩
theorem d_8_orders_2 : zD prog_1_method_51_code 2 (.invokevirtual 284) 3 5 := ⟨by decide +kernel, rfl⟩
theorem d_8_orders_5 : zD prog_1_method_51_code 5 (.ifCond .ne 5) 3 8 := ⟨by decide +kernel, rfl⟩
theorem d_8_orders_8 : zD prog_1_method_51_code 8 (.iconst (-1)) 1 9 := ⟨by decide +kernel, rfl⟩
theorem d_8_orders_9 : zD prog_1_method_51_code 9 (.ireturn) 1 10 := ⟨by decide +kernel, rfl⟩
theorem d_8_orders_10 : zD prog_1_method_51_code 10 (.aload_n 0) 1 11 := ⟨by decide +kernel, rfl⟩
theorem d_8_orders_11 : zD prog_1_method_51_code 11 (.getfield 82) 3 14 := ⟨by decide +kernel, rfl⟩
theorem d_8_orders_14 : zD prog_1_method_51_code 14 (.aload_n 0) 1 15 := ⟨by decide +kernel, rfl⟩
theorem d_8_orders_15 : zD prog_1_method_51_code 15 (.getfield 27) 3 18 := ⟨by decide +kernel, rfl⟩
theorem d_8_orders_18 : zD prog_1_method_51_code 18 (.getfield 224) 3 21 := ⟨by decide +kernel, rfl⟩
theorem d_8_orders_21 : zD prog_1_method_51_code 21 (.iload_n 1) 1 22 := ⟨by decide +kernel, rfl⟩
theorem d_8_orders_22 : zD prog_1_method_51_code 22 (.invokevirtual 287) 3 25 := ⟨by decide +kernel, rfl⟩
theorem d_8_orders_25 : zD prog_1_method_51_code 25 (.aload_n 0) 1 26 := ⟨by decide +kernel, rfl⟩
theorem d_8_orders_26 : zD prog_1_method_51_code 26 (.getfield 82) 3 29 := ⟨by decide +kernel, rfl⟩
theorem d_8_orders_29 : zD prog_1_method_51_code 29 (.invokevirtual 290) 3 32 := ⟨by decide +kernel, rfl⟩
theorem d_8_orders_32 : zD prog_1_method_51_code 32 (.ireturn) 1 33 := ⟨by decide +kernel, rfl⟩
theorem d_8_first_0 : zD prog_1_method_52_code 0 (.aload_n 0) 1 1 := ⟨by decide +kernel, rfl⟩
theorem d_8_first_1 : zD prog_1_method_52_code 1 (.iload_n 1) 1 2 := ⟨by decide +kernel, rfl⟩
theorem d_8_first_2 : zD prog_1_method_52_code 2 (.invokevirtual 284) 3 5 := ⟨by decide +kernel, rfl⟩
theorem d_8_first_5 : zD prog_1_method_52_code 5 (.ifCond .eq 11) 3 8 := ⟨by decide +kernel, rfl⟩
theorem d_8_first_8 : zD prog_1_method_52_code 8 (.aload_n 0) 1 9 := ⟨by decide +kernel, rfl⟩
theorem d_8_first_9 : zD prog_1_method_52_code 9 (.iload_n 2) 1 10 := ⟨by decide +kernel, rfl⟩
theorem d_8_first_10 : zD prog_1_method_52_code 10 (.invokevirtual 131) 3 13 := ⟨by decide +kernel, rfl⟩
theorem d_8_first_13 : zD prog_1_method_52_code 13 (.ifCond .ne 5) 3 16 := ⟨by decide +kernel, rfl⟩
theorem d_8_first_16 : zD prog_1_method_52_code 16 (.iconst (-1)) 1 17 := ⟨by decide +kernel, rfl⟩
theorem d_8_first_17 : zD prog_1_method_52_code 17 (.ireturn) 1 18 := ⟨by decide +kernel, rfl⟩
theorem d_8_first_18 : zD prog_1_method_52_code 18 (.aload_n 0) 1 19 := ⟨by decide +kernel, rfl⟩
theorem d_8_first_19 : zD prog_1_method_52_code 19 (.getfield 82) 3 22 := ⟨by decide +kernel, rfl⟩
theorem d_8_first_22 : zD prog_1_method_52_code 22 (.aload_n 0) 1 23 := ⟨by decide +kernel, rfl⟩
theorem d_8_first_23 : zD prog_1_method_52_code 23 (.getfield 27) 3 26 := ⟨by decide +kernel, rfl⟩
theorem d_8_first_26 : zD prog_1_method_52_code 26 (.getfield 224) 3 29 := ⟨by decide +kernel, rfl⟩
theorem d_8_first_29 : zD prog_1_method_52_code 29 (.iload_n 1) 1 30 := ⟨by decide +kernel, rfl⟩
theorem d_8_first_30 : zD prog_1_method_52_code 30 (.invokevirtual 287) 3 33 := ⟨by decide +kernel, rfl⟩
theorem d_8_first_33 : zD prog_1_method_52_code 33 (.iconst 0) 1 34 := ⟨by decide +kernel, rfl⟩
theorem d_8_first_34 : zD prog_1_method_52_code 34 (.istore_n 3) 1 35 := ⟨by decide +kernel, rfl⟩
theorem d_8_first_35 : zD prog_1_method_52_code 35 (.iload_n 3) 1 36 := ⟨by decide +kernel, rfl⟩
theorem d_8_first_36 : zD prog_1_method_52_code 36 (.aload_n 0) 1 37 := ⟨by decide +kernel, rfl⟩
theorem d_8_first_37 : zD prog_1_method_52_code 37 (.getfield 27) 3 40 := ⟨by decide +kernel, rfl⟩
theorem d_8_first_40 : zD prog_1_method_52_code 40 (.getfield 224) 3 43 := ⟨by decide +kernel, rfl⟩
theorem d_8_first_43 : zD prog_1_method_52_code 43 (.if_icmp .ge 23) 3 46 := ⟨by decide +kernel, rfl⟩
theorem d_8_first_46 : zD prog_1_method_52_code 46 (.aload_n 0) 1 47 := ⟨by decide +kernel, rfl⟩
theorem d_8_first_47 : zD prog_1_method_52_code 47 (.getfield 82) 3 50 := ⟨by decide +kernel, rfl⟩
theorem d_8_first_50 : zD prog_1_method_52_code 50 (.iload_n 2) 1 51 := ⟨by decide +kernel, rfl⟩
theorem d_8_first_51 : zD prog_1_method_52_code 51 (.iload_n 3) 1 52 := ⟨by decide +kernel, rfl⟩
theorem d_8_first_52 : zD prog_1_method_52_code 52 (.invokevirtual 293) 3 55 := ⟨by decide +kernel, rfl⟩
theorem d_8_first_55 : zD prog_1_method_52_code 55 (.ifCond .le 5) 3 58 := ⟨by decide +kernel, rfl⟩
theorem d_8_first_58 : zD prog_1_method_52_code 58 (.iload_n 3) 1 59 := ⟨by decide +kernel, rfl⟩
theorem d_8_first_59 : zD prog_1_method_52_code 59 (.ireturn) 1 60 := ⟨by decide +kernel, rfl⟩
theorem d_8_first_60 : zD prog_1_method_52_code 60 (.iinc 3 1) 3 63 := ⟨by decide +kernel, rfl⟩
theorem d_8_first_63 : zD prog_1_method_52_code 63 (.goto (-28)) 3 66 := ⟨by decide +kernel, rfl⟩
theorem d_8_first_66 : zD prog_1_method_52_code 66 (.bipush (-2)) 2 68 := ⟨by decide +kernel, rfl⟩
theorem d_8_first_68 : zD prog_1_method_52_code 68 (.ireturn) 1 69 := ⟨by decide +kernel, rfl⟩
theorem d_8_last_0 : zD prog_1_method_53_code 0 (.aload_n 0) 1 1 := ⟨by decide +kernel, rfl⟩
theorem d_8_last_1 : zD prog_1_method_53_code 1 (.iload_n 1) 1 2 := ⟨by decide +kernel, rfl⟩
theorem d_8_last_2 : zD prog_1_method_53_code 2 (.invokevirtual 284) 3 5 := ⟨by decide +kernel, rfl⟩
theorem d_8_last_5 : zD prog_1_method_53_code 5 (.ifCond .eq 11) 3 8 := ⟨by decide +kernel, rfl⟩
theorem d_8_last_8 : zD prog_1_method_53_code 8 (.aload_n 0) 1 9 := ⟨by decide +kernel, rfl⟩
theorem d_8_last_9 : zD prog_1_method_53_code 9 (.iload_n 2) 1 10 := ⟨by decide +kernel, rfl⟩
theorem d_8_last_10 : zD prog_1_method_53_code 10 (.invokevirtual 131) 3 13 := ⟨by decide +kernel, rfl⟩
theorem d_8_last_13 : zD prog_1_method_53_code 13 (.ifCond .ne 5) 3 16 := ⟨by decide +kernel, rfl⟩
theorem d_8_last_16 : zD prog_1_method_53_code 16 (.iconst (-1)) 1 17 := ⟨by decide +kernel, rfl⟩
theorem d_8_last_17 : zD prog_1_method_53_code 17 (.ireturn) 1 18 := ⟨by decide +kernel, rfl⟩
theorem d_8_last_18 : zD prog_1_method_53_code 18 (.aload_n 0) 1 19 := ⟨by decide +kernel, rfl⟩
theorem d_8_last_19 : zD prog_1_method_53_code 19 (.getfield 82) 3 22 := ⟨by decide +kernel, rfl⟩
theorem d_8_last_22 : zD prog_1_method_53_code 22 (.aload_n 0) 1 23 := ⟨by decide +kernel, rfl⟩
theorem d_8_last_23 : zD prog_1_method_53_code 23 (.getfield 27) 3 26 := ⟨by decide +kernel, rfl⟩
theorem d_8_last_26 : zD prog_1_method_53_code 26 (.getfield 224) 3 29 := ⟨by decide +kernel, rfl⟩
theorem d_8_last_29 : zD prog_1_method_53_code 29 (.iload_n 1) 1 30 := ⟨by decide +kernel, rfl⟩
theorem d_8_last_30 : zD prog_1_method_53_code 30 (.invokevirtual 287) 3 33 := ⟨by decide +kernel, rfl⟩
theorem d_8_last_33 : zD prog_1_method_53_code 33 (.aload_n 0) 1 34 := ⟨by decide +kernel, rfl⟩
theorem d_8_last_34 : zD prog_1_method_53_code 34 (.getfield 27) 3 37 := ⟨by decide +kernel, rfl⟩
theorem d_8_last_37 : zD prog_1_method_53_code 37 (.getfield 224) 3 40 := ⟨by decide +kernel, rfl⟩
theorem d_8_last_40 : zD prog_1_method_53_code 40 (.iconst 1) 1 41 := ⟨by decide +kernel, rfl⟩
theorem d_8_last_41 : zD prog_1_method_53_code 41 (.isub) 1 42 := ⟨by decide +kernel, rfl⟩
theorem d_8_last_42 : zD prog_1_method_53_code 42 (.istore_n 3) 1 43 := ⟨by decide +kernel, rfl⟩
theorem d_8_last_43 : zD prog_1_method_53_code 43 (.iload_n 3) 1 44 := ⟨by decide +kernel, rfl⟩
theorem d_8_last_44 : zD prog_1_method_53_code 44 (.ifCond .lt 23) 3 47 := ⟨by decide +kernel, rfl⟩
theorem d_8_last_47 : zD prog_1_method_53_code 47 (.aload_n 0) 1 48 := ⟨by decide +kernel, rfl⟩
theorem d_8_last_48 : zD prog_1_method_53_code 48 (.getfield 82) 3 51 := ⟨by decide +kernel, rfl⟩
theorem d_8_last_51 : zD prog_1_method_53_code 51 (.iload_n 2) 1 52 := ⟨by decide +kernel, rfl⟩
theorem d_8_last_52 : zD prog_1_method_53_code 52 (.iload_n 3) 1 53 := ⟨by decide +kernel, rfl⟩
theorem d_8_last_53 : zD prog_1_method_53_code 53 (.invokevirtual 293) 3 56 := ⟨by decide +kernel, rfl⟩
theorem d_8_last_56 : zD prog_1_method_53_code 56 (.ifCond .le 5) 3 59 := ⟨by decide +kernel, rfl⟩
theorem d_8_last_59 : zD prog_1_method_53_code 59 (.iload_n 3) 1 60 := ⟨by decide +kernel, rfl⟩
theorem d_8_last_60 : zD prog_1_method_53_code 60 (.ireturn) 1 61 := ⟨by decide +kernel, rfl⟩
theorem d_8_last_61 : zD prog_1_method_53_code 61 (.iinc 3 (-1)) 3 64 := ⟨by decide +kernel, rfl⟩
theorem d_8_last_64 : zD prog_1_method_53_code 64 (.goto (-21)) 3 67 := ⟨by decide +kernel, rfl⟩
theorem d_8_last_67 : zD prog_1_method_53_code 67 (.bipush (-2)) 2 69 := ⟨by decide +kernel, rfl⟩
theorem d_8_last_69 : zD prog_1_method_53_code 69 (.ireturn) 1 70 := ⟨by decide +kernel, rfl⟩
theorem d_8_placed_0 : zD prog_1_method_54_code 0 (.aload_n 0) 1 1 := ⟨by decide +kernel, rfl⟩
theorem d_8_placed_1 : zD prog_1_method_54_code 1 (.iload_n 1) 1 2 := ⟨by decide +kernel, rfl⟩
theorem d_8_placed_2 : zD prog_1_method_54_code 2 (.invokevirtual 284) 3 5 := ⟨by decide +kernel, rfl⟩
theorem d_8_placed_5 : zD prog_1_method_54_code 5 (.ifCond .eq 26) 3 8 := ⟨by decide +kernel, rfl⟩
theorem d_8_placed_8 : zD prog_1_method_54_code 8 (.aload_n 0) 1 9 := ⟨by decide +kernel, rfl⟩
theorem d_8_placed_9 : zD prog_1_method_54_code 9 (.iload_n 2) 1 10 := ⟨by decide +kernel, rfl⟩
theorem d_8_placed_10 : zD prog_1_method_54_code 10 (.invokevirtual 131) 3 13 := ⟨by decide +kernel, rfl⟩
theorem d_8_placed_13 : zD prog_1_method_54_code 13 (.ifCond .eq 18) 3 16 := ⟨by decide +kernel, rfl⟩
theorem d_8_placed_16 : zD prog_1_method_54_code 16 (.iload_n 3) 1 17 := ⟨by decide +kernel, rfl⟩
theorem d_8_placed_17 : zD prog_1_method_54_code 17 (.ifCond .lt 14) 3 20 := ⟨by decide +kernel, rfl⟩
theorem d_8_placed_20 : zD prog_1_method_54_code 20 (.iload_n 3) 1 21 := ⟨by decide +kernel, rfl⟩
theorem d_8_placed_21 : zD prog_1_method_54_code 21 (.aload_n 0) 1 22 := ⟨by decide +kernel, rfl⟩
theorem d_8_placed_22 : zD prog_1_method_54_code 22 (.getfield 27) 3 25 := ⟨by decide +kernel, rfl⟩
theorem d_8_placed_25 : zD prog_1_method_54_code 25 (.getfield 224) 3 28 := ⟨by decide +kernel, rfl⟩
theorem d_8_placed_28 : zD prog_1_method_54_code 28 (.if_icmp .lt 5) 3 31 := ⟨by decide +kernel, rfl⟩
theorem d_8_placed_31 : zD prog_1_method_54_code 31 (.iconst (-1)) 1 32 := ⟨by decide +kernel, rfl⟩
theorem d_8_placed_32 : zD prog_1_method_54_code 32 (.ireturn) 1 33 := ⟨by decide +kernel, rfl⟩
theorem d_8_placed_33 : zD prog_1_method_54_code 33 (.aload_n 0) 1 34 := ⟨by decide +kernel, rfl⟩
theorem d_8_placed_34 : zD prog_1_method_54_code 34 (.getfield 82) 3 37 := ⟨by decide +kernel, rfl⟩
theorem d_8_placed_37 : zD prog_1_method_54_code 37 (.aload_n 0) 1 38 := ⟨by decide +kernel, rfl⟩
theorem d_8_placed_38 : zD prog_1_method_54_code 38 (.getfield 27) 3 41 := ⟨by decide +kernel, rfl⟩
theorem d_8_placed_41 : zD prog_1_method_54_code 41 (.getfield 224) 3 44 := ⟨by decide +kernel, rfl⟩
theorem d_8_placed_44 : zD prog_1_method_54_code 44 (.iload_n 1) 1 45 := ⟨by decide +kernel, rfl⟩
theorem d_8_placed_45 : zD prog_1_method_54_code 45 (.invokevirtual 287) 3 48 := ⟨by decide +kernel, rfl⟩
theorem d_8_placed_48 : zD prog_1_method_54_code 48 (.aload_n 0) 1 49 := ⟨by decide +kernel, rfl⟩
theorem d_8_placed_49 : zD prog_1_method_54_code 49 (.getfield 82) 3 52 := ⟨by decide +kernel, rfl⟩
theorem d_8_placed_52 : zD prog_1_method_54_code 52 (.iload_n 2) 1 53 := ⟨by decide +kernel, rfl⟩
theorem d_8_placed_53 : zD prog_1_method_54_code 53 (.iload_n 3) 1 54 := ⟨by decide +kernel, rfl⟩
theorem d_8_placed_54 : zD prog_1_method_54_code 54 (.invokevirtual 293) 3 57 := ⟨by decide +kernel, rfl⟩
theorem d_8_placed_57 : zD prog_1_method_54_code 57 (.ireturn) 1 58 := ⟨by decide +kernel, rfl⟩
theorem d_8_before_0 : zD prog_1_method_55_code 0 (.aload_n 0) 1 1 := ⟨by decide +kernel, rfl⟩
theorem d_8_before_1 : zD prog_1_method_55_code 1 (.iload_n 1) 1 2 := ⟨by decide +kernel, rfl⟩
theorem d_8_before_2 : zD prog_1_method_55_code 2 (.invokevirtual 284) 3 5 := ⟨by decide +kernel, rfl⟩
theorem d_8_before_5 : zD prog_1_method_55_code 5 (.ifCond .eq 24) 3 8 := ⟨by decide +kernel, rfl⟩
theorem d_8_before_8 : zD prog_1_method_55_code 8 (.aload_n 0) 1 9 := ⟨by decide +kernel, rfl⟩
theorem d_8_before_9 : zD prog_1_method_55_code 9 (.iload_n 2) 1 10 := ⟨by decide +kernel, rfl⟩
theorem d_8_before_10 : zD prog_1_method_55_code 10 (.invokevirtual 131) 3 13 := ⟨by decide +kernel, rfl⟩
theorem d_8_before_13 : zD prog_1_method_55_code 13 (.ifCond .eq 16) 3 16 := ⟨by decide +kernel, rfl⟩
theorem d_8_before_16 : zD prog_1_method_55_code 16 (.aload_n 0) 1 17 := ⟨by decide +kernel, rfl⟩
theorem d_8_before_17 : zD prog_1_method_55_code 17 (.iload_n 3) 1 18 := ⟨by decide +kernel, rfl⟩
theorem d_8_before_18 : zD prog_1_method_55_code 18 (.invokevirtual 131) 3 21 := ⟨by decide +kernel, rfl⟩
theorem d_8_before_21 : zD prog_1_method_55_code 21 (.ifCond .eq 8) 3 24 := ⟨by decide +kernel, rfl⟩
theorem d_8_before_24 : zD prog_1_method_55_code 24 (.iload_n 2) 1 25 := ⟨by decide +kernel, rfl⟩
theorem d_8_before_25 : zD prog_1_method_55_code 25 (.iload_n 3) 1 26 := ⟨by decide +kernel, rfl⟩
theorem d_8_before_26 : zD prog_1_method_55_code 26 (.if_icmp .ne 5) 3 29 := ⟨by decide +kernel, rfl⟩
theorem d_8_before_29 : zD prog_1_method_55_code 29 (.iconst (-1)) 1 30 := ⟨by decide +kernel, rfl⟩
theorem d_8_before_30 : zD prog_1_method_55_code 30 (.ireturn) 1 31 := ⟨by decide +kernel, rfl⟩
theorem d_8_before_31 : zD prog_1_method_55_code 31 (.aload_n 0) 1 32 := ⟨by decide +kernel, rfl⟩
theorem d_8_before_32 : zD prog_1_method_55_code 32 (.getfield 82) 3 35 := ⟨by decide +kernel, rfl⟩
theorem d_8_before_35 : zD prog_1_method_55_code 35 (.aload_n 0) 1 36 := ⟨by decide +kernel, rfl⟩
theorem d_8_before_36 : zD prog_1_method_55_code 36 (.getfield 27) 3 39 := ⟨by decide +kernel, rfl⟩
theorem d_8_before_39 : zD prog_1_method_55_code 39 (.getfield 224) 3 42 := ⟨by decide +kernel, rfl⟩
theorem d_8_before_42 : zD prog_1_method_55_code 42 (.iload_n 1) 1 43 := ⟨by decide +kernel, rfl⟩
theorem d_8_before_43 : zD prog_1_method_55_code 43 (.invokevirtual 287) 3 46 := ⟨by decide +kernel, rfl⟩
theorem d_8_before_46 : zD prog_1_method_55_code 46 (.aload_n 0) 1 47 := ⟨by decide +kernel, rfl⟩
theorem d_8_before_47 : zD prog_1_method_55_code 47 (.getfield 82) 3 50 := ⟨by decide +kernel, rfl⟩
theorem d_8_before_50 : zD prog_1_method_55_code 50 (.iload_n 2) 1 51 := ⟨by decide +kernel, rfl⟩
theorem d_8_before_51 : zD prog_1_method_55_code 51 (.iload_n 3) 1 52 := ⟨by decide +kernel, rfl⟩
theorem d_8_before_52 : zD prog_1_method_55_code 52 (.invokevirtual 296) 3 55 := ⟨by decide +kernel, rfl⟩
theorem d_8_before_55 : zD prog_1_method_55_code 55 (.ireturn) 1 56 := ⟨by decide +kernel, rfl⟩
theorem d_8_sum_0 : zD prog_1_method_56_code 0 (.aload_n 0) 1 1 := ⟨by decide +kernel, rfl⟩
theorem d_8_sum_1 : zD prog_1_method_56_code 1 (.iload_n 1) 1 2 := ⟨by decide +kernel, rfl⟩
theorem d_8_sum_2 : zD prog_1_method_56_code 2 (.invokevirtual 284) 3 5 := ⟨by decide +kernel, rfl⟩
theorem d_8_sum_5 : zD prog_1_method_56_code 5 (.ifCond .eq 11) 3 8 := ⟨by decide +kernel, rfl⟩
theorem d_8_sum_8 : zD prog_1_method_56_code 8 (.aload_n 0) 1 9 := ⟨by decide +kernel, rfl⟩
theorem d_8_sum_9 : zD prog_1_method_56_code 9 (.iload_n 2) 1 10 := ⟨by decide +kernel, rfl⟩
theorem d_8_sum_10 : zD prog_1_method_56_code 10 (.invokevirtual 131) 3 13 := ⟨by decide +kernel, rfl⟩
theorem d_8_sum_13 : zD prog_1_method_56_code 13 (.ifCond .ne 5) 3 16 := ⟨by decide +kernel, rfl⟩
theorem d_8_sum_16 : zD prog_1_method_56_code 16 (.iconst (-1)) 1 17 := ⟨by decide +kernel, rfl⟩
theorem d_8_sum_17 : zD prog_1_method_56_code 17 (.ireturn) 1 18 := ⟨by decide +kernel, rfl⟩
theorem d_8_sum_18 : zD prog_1_method_56_code 18 (.aload_n 0) 1 19 := ⟨by decide +kernel, rfl⟩
theorem d_8_sum_19 : zD prog_1_method_56_code 19 (.getfield 82) 3 22 := ⟨by decide +kernel, rfl⟩
theorem d_8_sum_22 : zD prog_1_method_56_code 22 (.aload_n 0) 1 23 := ⟨by decide +kernel, rfl⟩
theorem d_8_sum_23 : zD prog_1_method_56_code 23 (.getfield 27) 3 26 := ⟨by decide +kernel, rfl⟩
theorem d_8_sum_26 : zD prog_1_method_56_code 26 (.getfield 224) 3 29 := ⟨by decide +kernel, rfl⟩
theorem d_8_sum_29 : zD prog_1_method_56_code 29 (.iload_n 1) 1 30 := ⟨by decide +kernel, rfl⟩
theorem d_8_sum_30 : zD prog_1_method_56_code 30 (.invokevirtual 287) 3 33 := ⟨by decide +kernel, rfl⟩
theorem d_8_sum_33 : zD prog_1_method_56_code 33 (.iconst 0) 1 34 := ⟨by decide +kernel, rfl⟩
theorem d_8_sum_34 : zD prog_1_method_56_code 34 (.istore_n 3) 1 35 := ⟨by decide +kernel, rfl⟩
theorem d_8_sum_35 : zD prog_1_method_56_code 35 (.iconst 0) 1 36 := ⟨by decide +kernel, rfl⟩
theorem d_8_sum_36 : zD prog_1_method_56_code 36 (.istore 4) 2 38 := ⟨by decide +kernel, rfl⟩
theorem d_8_sum_38 : zD prog_1_method_56_code 38 (.iload 4) 2 40 := ⟨by decide +kernel, rfl⟩
theorem d_8_sum_40 : zD prog_1_method_56_code 40 (.aload_n 0) 1 41 := ⟨by decide +kernel, rfl⟩
theorem d_8_sum_41 : zD prog_1_method_56_code 41 (.getfield 27) 3 44 := ⟨by decide +kernel, rfl⟩
theorem d_8_sum_44 : zD prog_1_method_56_code 44 (.getfield 224) 3 47 := ⟨by decide +kernel, rfl⟩
theorem d_8_sum_47 : zD prog_1_method_56_code 47 (.if_icmp .ge 25) 3 50 := ⟨by decide +kernel, rfl⟩
theorem d_8_sum_50 : zD prog_1_method_56_code 50 (.iload_n 3) 1 51 := ⟨by decide +kernel, rfl⟩
theorem d_8_sum_51 : zD prog_1_method_56_code 51 (.iload 4) 2 53 := ⟨by decide +kernel, rfl⟩
theorem d_8_sum_53 : zD prog_1_method_56_code 53 (.aload_n 0) 1 54 := ⟨by decide +kernel, rfl⟩
theorem d_8_sum_54 : zD prog_1_method_56_code 54 (.getfield 82) 3 57 := ⟨by decide +kernel, rfl⟩
theorem d_8_sum_57 : zD prog_1_method_56_code 57 (.iload_n 2) 1 58 := ⟨by decide +kernel, rfl⟩
theorem d_8_sum_58 : zD prog_1_method_56_code 58 (.iload 4) 2 60 := ⟨by decide +kernel, rfl⟩
theorem d_8_sum_60 : zD prog_1_method_56_code 60 (.invokevirtual 293) 3 63 := ⟨by decide +kernel, rfl⟩
theorem d_8_sum_63 : zD prog_1_method_56_code 63 (.imul) 1 64 := ⟨by decide +kernel, rfl⟩
theorem d_8_sum_64 : zD prog_1_method_56_code 64 (.iadd) 1 65 := ⟨by decide +kernel, rfl⟩
theorem d_8_sum_65 : zD prog_1_method_56_code 65 (.istore_n 3) 1 66 := ⟨by decide +kernel, rfl⟩
theorem d_8_sum_66 : zD prog_1_method_56_code 66 (.iinc 4 1) 3 69 := ⟨by decide +kernel, rfl⟩
theorem d_8_sum_69 : zD prog_1_method_56_code 69 (.goto (-31)) 3 72 := ⟨by decide +kernel, rfl⟩
theorem d_8_sum_72 : zD prog_1_method_56_code 72 (.iload_n 3) 1 73 := ⟨by decide +kernel, rfl⟩
theorem d_8_sum_73 : zD prog_1_method_56_code 73 (.ireturn) 1 74 := ⟨by decide +kernel, rfl⟩
theorem d_8_ahead_0 : zD prog_1_method_57_code 0 (.aload_n 0) 1 1 := ⟨by decide +kernel, rfl⟩
theorem d_8_ahead_1 : zD prog_1_method_57_code 1 (.iload_n 1) 1 2 := ⟨by decide +kernel, rfl⟩
theorem d_8_ahead_2 : zD prog_1_method_57_code 2 (.invokevirtual 284) 3 5 := ⟨by decide +kernel, rfl⟩
theorem d_8_ahead_5 : zD prog_1_method_57_code 5 (.ifCond .eq 11) 3 8 := ⟨by decide +kernel, rfl⟩
theorem d_8_ahead_8 : zD prog_1_method_57_code 8 (.aload_n 0) 1 9 := ⟨by decide +kernel, rfl⟩
theorem d_8_ahead_9 : zD prog_1_method_57_code 9 (.iload_n 2) 1 10 := ⟨by decide +kernel, rfl⟩
theorem d_8_ahead_10 : zD prog_1_method_57_code 10 (.invokevirtual 131) 3 13 := ⟨by decide +kernel, rfl⟩
theorem d_8_ahead_13 : zD prog_1_method_57_code 13 (.ifCond .ne 5) 3 16 := ⟨by decide +kernel, rfl⟩
theorem d_8_ahead_16 : zD prog_1_method_57_code 16 (.iconst (-1)) 1 17 := ⟨by decide +kernel, rfl⟩
theorem d_8_ahead_17 : zD prog_1_method_57_code 17 (.ireturn) 1 18 := ⟨by decide +kernel, rfl⟩
theorem d_8_ahead_18 : zD prog_1_method_57_code 18 (.aload_n 0) 1 19 := ⟨by decide +kernel, rfl⟩
theorem d_8_ahead_19 : zD prog_1_method_57_code 19 (.getfield 82) 3 22 := ⟨by decide +kernel, rfl⟩
theorem d_8_ahead_22 : zD prog_1_method_57_code 22 (.aload_n 0) 1 23 := ⟨by decide +kernel, rfl⟩
theorem d_8_ahead_23 : zD prog_1_method_57_code 23 (.getfield 27) 3 26 := ⟨by decide +kernel, rfl⟩
theorem d_8_ahead_26 : zD prog_1_method_57_code 26 (.getfield 224) 3 29 := ⟨by decide +kernel, rfl⟩
theorem d_8_ahead_29 : zD prog_1_method_57_code 29 (.iload_n 1) 1 30 := ⟨by decide +kernel, rfl⟩
theorem d_8_ahead_30 : zD prog_1_method_57_code 30 (.invokevirtual 287) 3 33 := ⟨by decide +kernel, rfl⟩
theorem d_8_ahead_33 : zD prog_1_method_57_code 33 (.aload_n 0) 1 34 := ⟨by decide +kernel, rfl⟩
theorem d_8_ahead_34 : zD prog_1_method_57_code 34 (.getfield 82) 3 37 := ⟨by decide +kernel, rfl⟩
theorem d_8_ahead_37 : zD prog_1_method_57_code 37 (.invokevirtual 290) 3 40 := ⟨by decide +kernel, rfl⟩
theorem d_8_ahead_40 : zD prog_1_method_57_code 40 (.ifCond .ne 6) 3 43 := ⟨by decide +kernel, rfl⟩
theorem d_8_ahead_43 : zD prog_1_method_57_code 43 (.bipush (-2)) 2 45 := ⟨by decide +kernel, rfl⟩
theorem d_8_ahead_45 : zD prog_1_method_57_code 45 (.ireturn) 1 46 := ⟨by decide +kernel, rfl⟩
theorem d_8_ahead_46 : zD prog_1_method_57_code 46 (.iconst 0) 1 47 := ⟨by decide +kernel, rfl⟩
theorem d_8_ahead_47 : zD prog_1_method_57_code 47 (.istore_n 3) 1 48 := ⟨by decide +kernel, rfl⟩
theorem d_8_ahead_48 : zD prog_1_method_57_code 48 (.iconst 0) 1 49 := ⟨by decide +kernel, rfl⟩
theorem d_8_ahead_49 : zD prog_1_method_57_code 49 (.istore 4) 2 51 := ⟨by decide +kernel, rfl⟩
theorem d_8_ahead_51 : zD prog_1_method_57_code 51 (.iload 4) 2 53 := ⟨by decide +kernel, rfl⟩
theorem d_8_ahead_53 : zD prog_1_method_57_code 53 (.aload_n 0) 1 54 := ⟨by decide +kernel, rfl⟩
theorem d_8_ahead_54 : zD prog_1_method_57_code 54 (.getfield 27) 3 57 := ⟨by decide +kernel, rfl⟩
theorem d_8_ahead_57 : zD prog_1_method_57_code 57 (.getfield 224) 3 60 := ⟨by decide +kernel, rfl⟩
theorem d_8_ahead_60 : zD prog_1_method_57_code 60 (.if_icmp .ge 42) 3 63 := ⟨by decide +kernel, rfl⟩
theorem d_8_ahead_63 : zD prog_1_method_57_code 63 (.iload 4) 2 65 := ⟨by decide +kernel, rfl⟩
theorem d_8_ahead_65 : zD prog_1_method_57_code 65 (.iload_n 2) 1 66 := ⟨by decide +kernel, rfl⟩
theorem d_8_ahead_66 : zD prog_1_method_57_code 66 (.if_icmp .eq 30) 3 69 := ⟨by decide +kernel, rfl⟩
theorem d_8_ahead_69 : zD prog_1_method_57_code 69 (.aload_n 0) 1 70 := ⟨by decide +kernel, rfl⟩
theorem d_8_ahead_70 : zD prog_1_method_57_code 70 (.getfield 82) 3 73 := ⟨by decide +kernel, rfl⟩
theorem d_8_ahead_73 : zD prog_1_method_57_code 73 (.iload 4) 2 75 := ⟨by decide +kernel, rfl⟩
theorem d_8_ahead_75 : zD prog_1_method_57_code 75 (.iload_n 2) 1 76 := ⟨by decide +kernel, rfl⟩
theorem d_8_ahead_76 : zD prog_1_method_57_code 76 (.invokevirtual 296) 3 79 := ⟨by decide +kernel, rfl⟩
theorem d_8_ahead_79 : zD prog_1_method_57_code 79 (.aload_n 0) 1 80 := ⟨by decide +kernel, rfl⟩
theorem d_8_ahead_80 : zD prog_1_method_57_code 80 (.getfield 82) 3 83 := ⟨by decide +kernel, rfl⟩
theorem d_8_ahead_83 : zD prog_1_method_57_code 83 (.invokevirtual 290) 3 86 := ⟨by decide +kernel, rfl⟩
theorem d_8_ahead_86 : zD prog_1_method_57_code 86 (.if_icmp .ne 10) 3 89 := ⟨by decide +kernel, rfl⟩
theorem d_8_ahead_89 : zD prog_1_method_57_code 89 (.iload_n 3) 1 90 := ⟨by decide +kernel, rfl⟩
theorem d_8_ahead_90 : zD prog_1_method_57_code 90 (.iconst 1) 1 91 := ⟨by decide +kernel, rfl⟩
theorem d_8_ahead_91 : zD prog_1_method_57_code 91 (.iload 4) 2 93 := ⟨by decide +kernel, rfl⟩
theorem d_8_ahead_93 : zD prog_1_method_57_code 93 (.ishl) 1 94 := ⟨by decide +kernel, rfl⟩
theorem d_8_ahead_94 : zD prog_1_method_57_code 94 (.ior) 1 95 := ⟨by decide +kernel, rfl⟩
theorem d_8_ahead_95 : zD prog_1_method_57_code 95 (.istore_n 3) 1 96 := ⟨by decide +kernel, rfl⟩
theorem d_8_ahead_96 : zD prog_1_method_57_code 96 (.iinc 4 1) 3 99 := ⟨by decide +kernel, rfl⟩
theorem d_8_ahead_99 : zD prog_1_method_57_code 99 (.goto (-48)) 3 102 := ⟨by decide +kernel, rfl⟩
theorem d_8_ahead_102 : zD prog_1_method_57_code 102 (.iload_n 3) 1 103 := ⟨by decide +kernel, rfl⟩
theorem d_8_ahead_103 : zD prog_1_method_57_code 103 (.ireturn) 1 104 := ⟨by decide +kernel, rfl⟩
theorem d_8_foremost_0 : zD prog_1_method_58_code 0 (.aload_n 0) 1 1 := ⟨by decide +kernel, rfl⟩
theorem d_8_foremost_1 : zD prog_1_method_58_code 1 (.iload_n 1) 1 2 := ⟨by decide +kernel, rfl⟩
theorem d_8_foremost_2 : zD prog_1_method_58_code 2 (.invokevirtual 284) 3 5 := ⟨by decide +kernel, rfl⟩
theorem d_8_foremost_5 : zD prog_1_method_58_code 5 (.ifCond .ne 5) 3 8 := ⟨by decide +kernel, rfl⟩
theorem d_8_foremost_8 : zD prog_1_method_58_code 8 (.iconst (-1)) 1 9 := ⟨by decide +kernel, rfl⟩
theorem d_8_foremost_9 : zD prog_1_method_58_code 9 (.ireturn) 1 10 := ⟨by decide +kernel, rfl⟩
theorem d_8_foremost_10 : zD prog_1_method_58_code 10 (.aload_n 0) 1 11 := ⟨by decide +kernel, rfl⟩
theorem d_8_foremost_11 : zD prog_1_method_58_code 11 (.getfield 82) 3 14 := ⟨by decide +kernel, rfl⟩
theorem d_8_foremost_14 : zD prog_1_method_58_code 14 (.aload_n 0) 1 15 := ⟨by decide +kernel, rfl⟩
theorem d_8_foremost_15 : zD prog_1_method_58_code 15 (.getfield 27) 3 18 := ⟨by decide +kernel, rfl⟩
theorem d_8_foremost_18 : zD prog_1_method_58_code 18 (.getfield 224) 3 21 := ⟨by decide +kernel, rfl⟩
theorem d_8_foremost_21 : zD prog_1_method_58_code 21 (.iload_n 1) 1 22 := ⟨by decide +kernel, rfl⟩
theorem d_8_foremost_22 : zD prog_1_method_58_code 22 (.invokevirtual 287) 3 25 := ⟨by decide +kernel, rfl⟩
theorem d_8_foremost_25 : zD prog_1_method_58_code 25 (.bipush (-2)) 2 27 := ⟨by decide +kernel, rfl⟩
theorem d_8_foremost_27 : zD prog_1_method_58_code 27 (.istore_n 2) 1 28 := ⟨by decide +kernel, rfl⟩
theorem d_8_foremost_28 : zD prog_1_method_58_code 28 (.iconst 0) 1 29 := ⟨by decide +kernel, rfl⟩
theorem d_8_foremost_29 : zD prog_1_method_58_code 29 (.istore_n 3) 1 30 := ⟨by decide +kernel, rfl⟩
theorem d_8_foremost_30 : zD prog_1_method_58_code 30 (.iconst 0) 1 31 := ⟨by decide +kernel, rfl⟩
theorem d_8_foremost_31 : zD prog_1_method_58_code 31 (.istore 4) 2 33 := ⟨by decide +kernel, rfl⟩
theorem d_8_foremost_33 : zD prog_1_method_58_code 33 (.iload 4) 2 35 := ⟨by decide +kernel, rfl⟩
theorem d_8_foremost_35 : zD prog_1_method_58_code 35 (.aload_n 0) 1 36 := ⟨by decide +kernel, rfl⟩
theorem d_8_foremost_36 : zD prog_1_method_58_code 36 (.getfield 27) 3 39 := ⟨by decide +kernel, rfl⟩
theorem d_8_foremost_39 : zD prog_1_method_58_code 39 (.getfield 224) 3 42 := ⟨by decide +kernel, rfl⟩
theorem d_8_foremost_42 : zD prog_1_method_58_code 42 (.if_icmp .ge 33) 3 45 := ⟨by decide +kernel, rfl⟩
theorem d_8_foremost_45 : zD prog_1_method_58_code 45 (.aload_n 0) 1 46 := ⟨by decide +kernel, rfl⟩
theorem d_8_foremost_46 : zD prog_1_method_58_code 46 (.getfield 82) 3 49 := ⟨by decide +kernel, rfl⟩
theorem d_8_foremost_49 : zD prog_1_method_58_code 49 (.iload 4) 2 51 := ⟨by decide +kernel, rfl⟩
theorem d_8_foremost_51 : zD prog_1_method_58_code 51 (.iconst 0) 1 52 := ⟨by decide +kernel, rfl⟩
theorem d_8_foremost_52 : zD prog_1_method_58_code 52 (.invokevirtual 293) 3 55 := ⟨by decide +kernel, rfl⟩
theorem d_8_foremost_55 : zD prog_1_method_58_code 55 (.istore 5) 2 57 := ⟨by decide +kernel, rfl⟩
theorem d_8_foremost_57 : zD prog_1_method_58_code 57 (.iload 5) 2 59 := ⟨by decide +kernel, rfl⟩
theorem d_8_foremost_59 : zD prog_1_method_58_code 59 (.iload_n 3) 1 60 := ⟨by decide +kernel, rfl⟩
theorem d_8_foremost_60 : zD prog_1_method_58_code 60 (.if_icmp .le 9) 3 63 := ⟨by decide +kernel, rfl⟩
theorem d_8_foremost_63 : zD prog_1_method_58_code 63 (.iload 4) 2 65 := ⟨by decide +kernel, rfl⟩
theorem d_8_foremost_65 : zD prog_1_method_58_code 65 (.istore_n 2) 1 66 := ⟨by decide +kernel, rfl⟩
theorem d_8_foremost_66 : zD prog_1_method_58_code 66 (.iload 5) 2 68 := ⟨by decide +kernel, rfl⟩
theorem d_8_foremost_68 : zD prog_1_method_58_code 68 (.istore_n 3) 1 69 := ⟨by decide +kernel, rfl⟩
theorem d_8_foremost_69 : zD prog_1_method_58_code 69 (.iinc 4 1) 3 72 := ⟨by decide +kernel, rfl⟩
theorem d_8_foremost_72 : zD prog_1_method_58_code 72 (.goto (-39)) 3 75 := ⟨by decide +kernel, rfl⟩
theorem d_8_foremost_75 : zD prog_1_method_58_code 75 (.iload_n 2) 1 76 := ⟨by decide +kernel, rfl⟩
theorem d_8_foremost_76 : zD prog_1_method_58_code 76 (.ireturn) 1 77 := ⟨by decide +kernel, rfl⟩
theorem d_8_ask_0 : zD prog_1_method_59_code 0 (.aload_n 0) 1 1 := ⟨by decide +kernel, rfl⟩
theorem d_8_ask_1 : zD prog_1_method_59_code 1 (.iload_n 1) 1 2 := ⟨by decide +kernel, rfl⟩
theorem d_8_ask_2 : zD prog_1_method_59_code 2 (.invokevirtual 284) 3 5 := ⟨by decide +kernel, rfl⟩
theorem d_8_ask_5 : zD prog_1_method_59_code 5 (.ifCond .ne 5) 3 8 := ⟨by decide +kernel, rfl⟩
theorem d_8_ask_8 : zD prog_1_method_59_code 8 (.iconst (-1)) 1 9 := ⟨by decide +kernel, rfl⟩
theorem d_8_ask_9 : zD prog_1_method_59_code 9 (.ireturn) 1 10 := ⟨by decide +kernel, rfl⟩
theorem d_8_ask_10 : zD prog_1_method_59_code 10 (.aload_n 0) 1 11 := ⟨by decide +kernel, rfl⟩
theorem d_8_ask_11 : zD prog_1_method_59_code 11 (.getfield 82) 3 14 := ⟨by decide +kernel, rfl⟩
theorem d_8_ask_14 : zD prog_1_method_59_code 14 (.aload_n 0) 1 15 := ⟨by decide +kernel, rfl⟩
theorem d_8_ask_15 : zD prog_1_method_59_code 15 (.getfield 27) 3 18 := ⟨by decide +kernel, rfl⟩
theorem d_8_ask_18 : zD prog_1_method_59_code 18 (.getfield 224) 3 21 := ⟨by decide +kernel, rfl⟩
theorem d_8_ask_21 : zD prog_1_method_59_code 21 (.iload_n 1) 1 22 := ⟨by decide +kernel, rfl⟩
theorem d_8_ask_22 : zD prog_1_method_59_code 22 (.invokevirtual 287) 3 25 := ⟨by decide +kernel, rfl⟩
theorem d_8_ask_25 : zD prog_1_method_59_code 25 (.aload_n 0) 1 26 := ⟨by decide +kernel, rfl⟩
theorem d_8_ask_26 : zD prog_1_method_59_code 26 (.getfield 82) 3 29 := ⟨by decide +kernel, rfl⟩
theorem d_8_ask_29 : zD prog_1_method_59_code 29 (.invokevirtual 290) 3 32 := ⟨by decide +kernel, rfl⟩
theorem d_8_ask_32 : zD prog_1_method_59_code 32 (.istore_n 2) 1 33 := ⟨by decide +kernel, rfl⟩
theorem d_8_ask_33 : zD prog_1_method_59_code 33 (.bipush (-2)) 2 35 := ⟨by decide +kernel, rfl⟩
theorem d_8_ask_35 : zD prog_1_method_59_code 35 (.istore_n 3) 1 36 := ⟨by decide +kernel, rfl⟩
theorem d_8_ask_36 : zD prog_1_method_59_code 36 (.iload_n 2) 1 37 := ⟨by decide +kernel, rfl⟩
theorem d_8_ask_37 : zD prog_1_method_59_code 37 (.istore 4) 2 39 := ⟨by decide +kernel, rfl⟩
theorem d_8_ask_39 : zD prog_1_method_59_code 39 (.iconst 0) 1 40 := ⟨by decide +kernel, rfl⟩
theorem d_8_ask_40 : zD prog_1_method_59_code 40 (.istore 5) 2 42 := ⟨by decide +kernel, rfl⟩
theorem d_8_ask_42 : zD prog_1_method_59_code 42 (.iload_n 2) 1 43 := ⟨by decide +kernel, rfl⟩
theorem d_8_ask_43 : zD prog_1_method_59_code 43 (.ifCond .le 95) 3 46 := ⟨by decide +kernel, rfl⟩
theorem d_8_ask_46 : zD prog_1_method_59_code 46 (.iload 5) 2 48 := ⟨by decide +kernel, rfl⟩
theorem d_8_ask_48 : zD prog_1_method_59_code 48 (.aload_n 0) 1 49 := ⟨by decide +kernel, rfl⟩
theorem d_8_ask_49 : zD prog_1_method_59_code 49 (.getfield 27) 3 52 := ⟨by decide +kernel, rfl⟩
theorem d_8_ask_52 : zD prog_1_method_59_code 52 (.getfield 224) 3 55 := ⟨by decide +kernel, rfl⟩
theorem d_8_ask_55 : zD prog_1_method_59_code 55 (.if_icmp .ge 83) 3 58 := ⟨by decide +kernel, rfl⟩
theorem d_8_ask_58 : zD prog_1_method_59_code 58 (.iload 5) 2 60 := ⟨by decide +kernel, rfl⟩
theorem d_8_ask_60 : zD prog_1_method_59_code 60 (.iconst 1) 1 61 := ⟨by decide +kernel, rfl⟩
theorem d_8_ask_61 : zD prog_1_method_59_code 61 (.iadd) 1 62 := ⟨by decide +kernel, rfl⟩
theorem d_8_ask_62 : zD prog_1_method_59_code 62 (.istore 6) 2 64 := ⟨by decide +kernel, rfl⟩
theorem d_8_ask_64 : zD prog_1_method_59_code 64 (.iload 6) 2 66 := ⟨by decide +kernel, rfl⟩
theorem d_8_ask_66 : zD prog_1_method_59_code 66 (.aload_n 0) 1 67 := ⟨by decide +kernel, rfl⟩
theorem d_8_ask_67 : zD prog_1_method_59_code 67 (.getfield 27) 3 70 := ⟨by decide +kernel, rfl⟩
theorem d_8_ask_70 : zD prog_1_method_59_code 70 (.getfield 224) 3 73 := ⟨by decide +kernel, rfl⟩
theorem d_8_ask_73 : zD prog_1_method_59_code 73 (.if_icmp .ge 59) 3 76 := ⟨by decide +kernel, rfl⟩
theorem d_8_ask_76 : zD prog_1_method_59_code 76 (.aload_n 0) 1 77 := ⟨by decide +kernel, rfl⟩
theorem d_8_ask_77 : zD prog_1_method_59_code 77 (.getfield 82) 3 80 := ⟨by decide +kernel, rfl⟩
theorem d_8_ask_80 : zD prog_1_method_59_code 80 (.iload 5) 2 82 := ⟨by decide +kernel, rfl⟩
theorem d_8_ask_82 : zD prog_1_method_59_code 82 (.iload 6) 2 84 := ⟨by decide +kernel, rfl⟩
theorem d_8_ask_84 : zD prog_1_method_59_code 84 (.invokevirtual 296) 3 87 := ⟨by decide +kernel, rfl⟩
theorem d_8_ask_87 : zD prog_1_method_59_code 87 (.istore 7) 2 89 := ⟨by decide +kernel, rfl⟩
theorem d_8_ask_89 : zD prog_1_method_59_code 89 (.iload 7) 2 91 := ⟨by decide +kernel, rfl⟩
theorem d_8_ask_91 : zD prog_1_method_59_code 91 (.iload_n 2) 1 92 := ⟨by decide +kernel, rfl⟩
theorem d_8_ask_92 : zD prog_1_method_59_code 92 (.iload 7) 2 94 := ⟨by decide +kernel, rfl⟩
theorem d_8_ask_94 : zD prog_1_method_59_code 94 (.isub) 1 95 := ⟨by decide +kernel, rfl⟩
theorem d_8_ask_95 : zD prog_1_method_59_code 95 (.invokestatic 258) 3 98 := ⟨by decide +kernel, rfl⟩
theorem d_8_ask_98 : zD prog_1_method_59_code 98 (.istore 8) 2 100 := ⟨by decide +kernel, rfl⟩
theorem d_8_ask_100 : zD prog_1_method_59_code 100 (.iload_n 3) 1 101 := ⟨by decide +kernel, rfl⟩
theorem d_8_ask_101 : zD prog_1_method_59_code 101 (.bipush (-2)) 2 103 := ⟨by decide +kernel, rfl⟩
theorem d_8_ask_103 : zD prog_1_method_59_code 103 (.if_icmp .eq 10) 3 106 := ⟨by decide +kernel, rfl⟩
theorem d_8_ask_106 : zD prog_1_method_59_code 106 (.iload 8) 2 108 := ⟨by decide +kernel, rfl⟩
theorem d_8_ask_108 : zD prog_1_method_59_code 108 (.iload 4) 2 110 := ⟨by decide +kernel, rfl⟩
theorem d_8_ask_110 : zD prog_1_method_59_code 110 (.if_icmp .ge 16) 3 113 := ⟨by decide +kernel, rfl⟩
theorem d_8_ask_113 : zD prog_1_method_59_code 113 (.bipush 10) 2 115 := ⟨by decide +kernel, rfl⟩
theorem d_8_ask_115 : zD prog_1_method_59_code 115 (.iload 5) 2 117 := ⟨by decide +kernel, rfl⟩
theorem d_8_ask_117 : zD prog_1_method_59_code 117 (.imul) 1 118 := ⟨by decide +kernel, rfl⟩
theorem d_8_ask_118 : zD prog_1_method_59_code 118 (.iload 6) 2 120 := ⟨by decide +kernel, rfl⟩
theorem d_8_ask_120 : zD prog_1_method_59_code 120 (.iadd) 1 121 := ⟨by decide +kernel, rfl⟩
theorem d_8_ask_121 : zD prog_1_method_59_code 121 (.istore_n 3) 1 122 := ⟨by decide +kernel, rfl⟩
theorem d_8_ask_122 : zD prog_1_method_59_code 122 (.iload 8) 2 124 := ⟨by decide +kernel, rfl⟩
theorem d_8_ask_124 : zD prog_1_method_59_code 124 (.istore 4) 2 126 := ⟨by decide +kernel, rfl⟩
theorem d_8_ask_126 : zD prog_1_method_59_code 126 (.iinc 6 1) 3 129 := ⟨by decide +kernel, rfl⟩
theorem d_8_ask_129 : zD prog_1_method_59_code 129 (.goto (-65)) 3 132 := ⟨by decide +kernel, rfl⟩
theorem d_8_ask_132 : zD prog_1_method_59_code 132 (.iinc 5 1) 3 135 := ⟨by decide +kernel, rfl⟩
theorem d_8_ask_135 : zD prog_1_method_59_code 135 (.goto (-93)) 3 138 := ⟨by decide +kernel, rfl⟩
theorem d_8_ask_138 : zD prog_1_method_59_code 138 (.iload_n 3) 1 139 := ⟨by decide +kernel, rfl⟩
theorem d_8_ask_139 : zD prog_1_method_59_code 139 (.ireturn) 1 140 := ⟨by decide +kernel, rfl⟩
theorem d_8_order_0 : zD prog_1_method_60_code 0 (.aload_n 0) 1 1 := ⟨by decide +kernel, rfl⟩
theorem d_8_order_1 : zD prog_1_method_60_code 1 (.iload_n 1) 1 2 := ⟨by decide +kernel, rfl⟩
theorem d_8_order_2 : zD prog_1_method_60_code 2 (.invokevirtual 284) 3 5 := ⟨by decide +kernel, rfl⟩
theorem d_8_order_5 : zD prog_1_method_60_code 5 (.ifCond .eq 22) 3 8 := ⟨by decide +kernel, rfl⟩
theorem d_8_order_8 : zD prog_1_method_60_code 8 (.iload_n 3) 1 9 := ⟨by decide +kernel, rfl⟩
theorem d_8_order_9 : zD prog_1_method_60_code 9 (.ifCond .lt 18) 3 12 := ⟨by decide +kernel, rfl⟩
theorem d_8_order_12 : zD prog_1_method_60_code 12 (.iload_n 3) 1 13 := ⟨by decide +kernel, rfl⟩
theorem d_8_order_13 : zD prog_1_method_60_code 13 (.aload_n 0) 1 14 := ⟨by decide +kernel, rfl⟩
theorem d_8_order_14 : zD prog_1_method_60_code 14 (.getfield 27) 3 17 := ⟨by decide +kernel, rfl⟩
theorem d_8_order_17 : zD prog_1_method_60_code 17 (.getfield 224) 3 20 := ⟨by decide +kernel, rfl⟩
theorem d_8_order_20 : zD prog_1_method_60_code 20 (.if_icmp .ge 7) 3 23 := ⟨by decide +kernel, rfl⟩
theorem d_8_order_23 : zD prog_1_method_60_code 23 (.iload_n 2) 1 24 := ⟨by decide +kernel, rfl⟩
theorem d_8_order_24 : zD prog_1_method_60_code 24 (.ifCond .ge 5) 3 27 := ⟨by decide +kernel, rfl⟩
theorem d_8_order_27 : zD prog_1_method_60_code 27 (.iconst (-1)) 1 28 := ⟨by decide +kernel, rfl⟩
theorem d_8_order_28 : zD prog_1_method_60_code 28 (.ireturn) 1 29 := ⟨by decide +kernel, rfl⟩
theorem d_8_order_29 : zD prog_1_method_60_code 29 (.aload_n 0) 1 30 := ⟨by decide +kernel, rfl⟩
theorem d_8_order_30 : zD prog_1_method_60_code 30 (.getfield 82) 3 33 := ⟨by decide +kernel, rfl⟩
theorem d_8_order_33 : zD prog_1_method_60_code 33 (.aload_n 0) 1 34 := ⟨by decide +kernel, rfl⟩
theorem d_8_order_34 : zD prog_1_method_60_code 34 (.getfield 27) 3 37 := ⟨by decide +kernel, rfl⟩
theorem d_8_order_37 : zD prog_1_method_60_code 37 (.getfield 224) 3 40 := ⟨by decide +kernel, rfl⟩
theorem d_8_order_40 : zD prog_1_method_60_code 40 (.iload_n 1) 1 41 := ⟨by decide +kernel, rfl⟩
theorem d_8_order_41 : zD prog_1_method_60_code 41 (.invokevirtual 287) 3 44 := ⟨by decide +kernel, rfl⟩
theorem d_8_order_44 : zD prog_1_method_60_code 44 (.iload_n 2) 1 45 := ⟨by decide +kernel, rfl⟩
theorem d_8_order_45 : zD prog_1_method_60_code 45 (.aload_n 0) 1 46 := ⟨by decide +kernel, rfl⟩
theorem d_8_order_46 : zD prog_1_method_60_code 46 (.getfield 82) 3 49 := ⟨by decide +kernel, rfl⟩
theorem d_8_order_49 : zD prog_1_method_60_code 49 (.invokevirtual 290) 3 52 := ⟨by decide +kernel, rfl⟩
theorem d_8_order_52 : zD prog_1_method_60_code 52 (.if_icmp .lt 7) 3 55 := ⟨by decide +kernel, rfl⟩
theorem d_8_order_55 : zD prog_1_method_60_code 55 (.iconst (-1)) 1 56 := ⟨by decide +kernel, rfl⟩
theorem d_8_order_56 : zD prog_1_method_60_code 56 (.goto 12) 3 59 := ⟨by decide +kernel, rfl⟩
theorem d_8_order_59 : zD prog_1_method_60_code 59 (.aload_n 0) 1 60 := ⟨by decide +kernel, rfl⟩
theorem d_8_order_60 : zD prog_1_method_60_code 60 (.getfield 82) 3 63 := ⟨by decide +kernel, rfl⟩
theorem d_8_order_63 : zD prog_1_method_60_code 63 (.iload_n 2) 1 64 := ⟨by decide +kernel, rfl⟩
theorem d_8_order_64 : zD prog_1_method_60_code 64 (.iload_n 3) 1 65 := ⟨by decide +kernel, rfl⟩
theorem d_8_order_65 : zD prog_1_method_60_code 65 (.invokevirtual 299) 3 68 := ⟨by decide +kernel, rfl⟩
theorem d_8_order_68 : zD prog_1_method_60_code 68 (.ireturn) 1 69 := ⟨by decide +kernel, rfl⟩
theorem d_8_hold_0 : zD prog_1_method_61_code 0 (.iload_n 1) 1 1 := ⟨by decide +kernel, rfl⟩
theorem d_8_hold_1 : zD prog_1_method_61_code 1 (.ifCond .lt 8) 3 4 := ⟨by decide +kernel, rfl⟩
theorem d_8_hold_4 : zD prog_1_method_61_code 4 (.iload_n 1) 1 5 := ⟨by decide +kernel, rfl⟩
theorem d_8_hold_5 : zD prog_1_method_61_code 5 (.iconst 3) 1 6 := ⟨by decide +kernel, rfl⟩
theorem d_8_hold_6 : zD prog_1_method_61_code 6 (.if_icmp .lt 5) 3 9 := ⟨by decide +kernel, rfl⟩
theorem d_8_hold_9 : zD prog_1_method_61_code 9 (.iconst 0) 1 10 := ⟨by decide +kernel, rfl⟩
theorem d_8_hold_10 : zD prog_1_method_61_code 10 (.ireturn) 1 11 := ⟨by decide +kernel, rfl⟩
theorem d_8_hold_11 : zD prog_1_method_61_code 11 (.aload_n 0) 1 12 := ⟨by decide +kernel, rfl⟩
theorem d_8_hold_12 : zD prog_1_method_61_code 12 (.getfield 58) 3 15 := ⟨by decide +kernel, rfl⟩
theorem d_8_hold_15 : zD prog_1_method_61_code 15 (.iload_n 1) 1 16 := ⟨by decide +kernel, rfl⟩
theorem d_8_hold_16 : zD prog_1_method_61_code 16 (.aaload) 1 17 := ⟨by decide +kernel, rfl⟩
theorem d_8_hold_17 : zD prog_1_method_61_code 17 (.aload_n 0) 1 18 := ⟨by decide +kernel, rfl⟩
theorem d_8_hold_18 : zD prog_1_method_61_code 18 (.getfield 34) 3 21 := ⟨by decide +kernel, rfl⟩
theorem d_8_hold_21 : zD prog_1_method_61_code 21 (.invokevirtual 210) 3 24 := ⟨by decide +kernel, rfl⟩
theorem d_8_hold_24 : zD prog_1_method_61_code 24 (.aload_n 0) 1 25 := ⟨by decide +kernel, rfl⟩
theorem d_8_hold_25 : zD prog_1_method_61_code 25 (.dup) 1 26 := ⟨by decide +kernel, rfl⟩
theorem d_8_hold_26 : zD prog_1_method_61_code 26 (.getfield 62) 3 29 := ⟨by decide +kernel, rfl⟩
theorem d_8_hold_29 : zD prog_1_method_61_code 29 (.iconst 1) 1 30 := ⟨by decide +kernel, rfl⟩
theorem d_8_hold_30 : zD prog_1_method_61_code 30 (.iload_n 1) 1 31 := ⟨by decide +kernel, rfl⟩
theorem d_8_hold_31 : zD prog_1_method_61_code 31 (.ishl) 1 32 := ⟨by decide +kernel, rfl⟩
theorem d_8_hold_32 : zD prog_1_method_61_code 32 (.ior) 1 33 := ⟨by decide +kernel, rfl⟩
theorem d_8_hold_33 : zD prog_1_method_61_code 33 (.putfield 62) 3 36 := ⟨by decide +kernel, rfl⟩
theorem d_8_hold_36 : zD prog_1_method_61_code 36 (.iconst 1) 1 37 := ⟨by decide +kernel, rfl⟩
theorem d_8_hold_37 : zD prog_1_method_61_code 37 (.ireturn) 1 38 := ⟨by decide +kernel, rfl⟩
theorem d_8_restore_0 : zD prog_1_method_62_code 0 (.iload_n 1) 1 1 := ⟨by decide +kernel, rfl⟩
theorem d_8_restore_1 : zD prog_1_method_62_code 1 (.ifCond .lt 19) 3 4 := ⟨by decide +kernel, rfl⟩
theorem d_8_restore_4 : zD prog_1_method_62_code 4 (.iload_n 1) 1 5 := ⟨by decide +kernel, rfl⟩
theorem d_8_restore_5 : zD prog_1_method_62_code 5 (.iconst 3) 1 6 := ⟨by decide +kernel, rfl⟩
theorem d_8_restore_6 : zD prog_1_method_62_code 6 (.if_icmp .ge 14) 3 9 := ⟨by decide +kernel, rfl⟩
theorem d_8_restore_9 : zD prog_1_method_62_code 9 (.aload_n 0) 1 10 := ⟨by decide +kernel, rfl⟩
theorem d_8_restore_10 : zD prog_1_method_62_code 10 (.getfield 62) 3 13 := ⟨by decide +kernel, rfl⟩
theorem d_8_restore_13 : zD prog_1_method_62_code 13 (.iload_n 1) 1 14 := ⟨by decide +kernel, rfl⟩
theorem d_8_restore_14 : zD prog_1_method_62_code 14 (.invokestatic 159) 3 17 := ⟨by decide +kernel, rfl⟩
theorem d_8_restore_17 : zD prog_1_method_62_code 17 (.ifCond .ne 5) 3 20 := ⟨by decide +kernel, rfl⟩
theorem d_8_restore_20 : zD prog_1_method_62_code 20 (.iconst 0) 1 21 := ⟨by decide +kernel, rfl⟩
theorem d_8_restore_21 : zD prog_1_method_62_code 21 (.ireturn) 1 22 := ⟨by decide +kernel, rfl⟩
theorem d_8_restore_22 : zD prog_1_method_62_code 22 (.aload_n 0) 1 23 := ⟨by decide +kernel, rfl⟩
theorem d_8_restore_23 : zD prog_1_method_62_code 23 (.getfield 34) 3 26 := ⟨by decide +kernel, rfl⟩
theorem d_8_restore_26 : zD prog_1_method_62_code 26 (.aload_n 0) 1 27 := ⟨by decide +kernel, rfl⟩
theorem d_8_restore_27 : zD prog_1_method_62_code 27 (.getfield 58) 3 30 := ⟨by decide +kernel, rfl⟩
theorem d_8_restore_30 : zD prog_1_method_62_code 30 (.iload_n 1) 1 31 := ⟨by decide +kernel, rfl⟩
theorem d_8_restore_31 : zD prog_1_method_62_code 31 (.aaload) 1 32 := ⟨by decide +kernel, rfl⟩
theorem d_8_restore_32 : zD prog_1_method_62_code 32 (.invokevirtual 210) 3 35 := ⟨by decide +kernel, rfl⟩
theorem d_8_restore_35 : zD prog_1_method_62_code 35 (.aload_n 0) 1 36 := ⟨by decide +kernel, rfl⟩
theorem d_8_restore_36 : zD prog_1_method_62_code 36 (.getfield 54) 3 39 := ⟨by decide +kernel, rfl⟩
theorem d_8_restore_39 : zD prog_1_method_62_code 39 (.invokevirtual 102) 3 42 := ⟨by decide +kernel, rfl⟩
theorem d_8_restore_42 : zD prog_1_method_62_code 42 (.iconst 1) 1 43 := ⟨by decide +kernel, rfl⟩
theorem d_8_restore_43 : zD prog_1_method_62_code 43 (.ireturn) 1 44 := ⟨by decide +kernel, rfl⟩
theorem d_8_allGot_0 : zD prog_1_method_64_code 0 (.iconst 0) 1 1 := ⟨by decide +kernel, rfl⟩
theorem d_8_allGot_1 : zD prog_1_method_64_code 1 (.istore_n 1) 1 2 := ⟨by decide +kernel, rfl⟩
theorem d_8_allGot_2 : zD prog_1_method_64_code 2 (.iconst 0) 1 3 := ⟨by decide +kernel, rfl⟩
theorem d_8_allGot_3 : zD prog_1_method_64_code 3 (.istore_n 2) 1 4 := ⟨by decide +kernel, rfl⟩
theorem d_8_allGot_4 : zD prog_1_method_64_code 4 (.iload_n 2) 1 5 := ⟨by decide +kernel, rfl⟩
theorem d_8_allGot_5 : zD prog_1_method_64_code 5 (.aload_n 0) 1 6 := ⟨by decide +kernel, rfl⟩
theorem d_8_allGot_6 : zD prog_1_method_64_code 6 (.getfield 27) 3 9 := ⟨by decide +kernel, rfl⟩
theorem d_8_allGot_9 : zD prog_1_method_64_code 9 (.getfield 224) 3 12 := ⟨by decide +kernel, rfl⟩
theorem d_8_allGot_12 : zD prog_1_method_64_code 12 (.if_icmp .ge 21) 3 15 := ⟨by decide +kernel, rfl⟩
theorem d_8_allGot_15 : zD prog_1_method_64_code 15 (.iload_n 1) 1 16 := ⟨by decide +kernel, rfl⟩
theorem d_8_allGot_16 : zD prog_1_method_64_code 16 (.aload_n 0) 1 17 := ⟨by decide +kernel, rfl⟩
theorem d_8_allGot_17 : zD prog_1_method_64_code 17 (.getfield 34) 3 20 := ⟨by decide +kernel, rfl⟩
theorem d_8_allGot_20 : zD prog_1_method_64_code 20 (.getfield 143) 3 23 := ⟨by decide +kernel, rfl⟩
theorem d_8_allGot_23 : zD prog_1_method_64_code 23 (.iload_n 2) 1 24 := ⟨by decide +kernel, rfl⟩
theorem d_8_allGot_24 : zD prog_1_method_64_code 24 (.iaload) 1 25 := ⟨by decide +kernel, rfl⟩
theorem d_8_allGot_25 : zD prog_1_method_64_code 25 (.iadd) 1 26 := ⟨by decide +kernel, rfl⟩
theorem d_8_allGot_26 : zD prog_1_method_64_code 26 (.istore_n 1) 1 27 := ⟨by decide +kernel, rfl⟩
theorem d_8_allGot_27 : zD prog_1_method_64_code 27 (.iinc 2 1) 3 30 := ⟨by decide +kernel, rfl⟩
theorem d_8_allGot_30 : zD prog_1_method_64_code 30 (.goto (-26)) 3 33 := ⟨by decide +kernel, rfl⟩
theorem d_8_allGot_33 : zD prog_1_method_64_code 33 (.iload_n 1) 1 34 := ⟨by decide +kernel, rfl⟩
theorem d_8_allGot_34 : zD prog_1_method_64_code 34 (.ireturn) 1 35 := ⟨by decide +kernel, rfl⟩
theorem d_8_allRent_0 : zD prog_1_method_65_code 0 (.iconst 0) 1 1 := ⟨by decide +kernel, rfl⟩
theorem d_8_allRent_1 : zD prog_1_method_65_code 1 (.istore_n 1) 1 2 := ⟨by decide +kernel, rfl⟩
theorem d_8_allRent_2 : zD prog_1_method_65_code 2 (.iconst 0) 1 3 := ⟨by decide +kernel, rfl⟩
theorem d_8_allRent_3 : zD prog_1_method_65_code 3 (.istore_n 2) 1 4 := ⟨by decide +kernel, rfl⟩
theorem d_8_allRent_4 : zD prog_1_method_65_code 4 (.iload_n 2) 1 5 := ⟨by decide +kernel, rfl⟩
theorem d_8_allRent_5 : zD prog_1_method_65_code 5 (.aload_n 0) 1 6 := ⟨by decide +kernel, rfl⟩
theorem d_8_allRent_6 : zD prog_1_method_65_code 6 (.getfield 27) 3 9 := ⟨by decide +kernel, rfl⟩
theorem d_8_allRent_9 : zD prog_1_method_65_code 9 (.getfield 156) 3 12 := ⟨by decide +kernel, rfl⟩
theorem d_8_allRent_12 : zD prog_1_method_65_code 12 (.if_icmp .ge 21) 3 15 := ⟨by decide +kernel, rfl⟩
theorem d_8_allRent_15 : zD prog_1_method_65_code 15 (.iload_n 1) 1 16 := ⟨by decide +kernel, rfl⟩
theorem d_8_allRent_16 : zD prog_1_method_65_code 16 (.aload_n 0) 1 17 := ⟨by decide +kernel, rfl⟩
theorem d_8_allRent_17 : zD prog_1_method_65_code 17 (.getfield 27) 3 20 := ⟨by decide +kernel, rfl⟩
theorem d_8_allRent_20 : zD prog_1_method_65_code 20 (.getfield 113) 3 23 := ⟨by decide +kernel, rfl⟩
theorem d_8_allRent_23 : zD prog_1_method_65_code 23 (.iload_n 2) 1 24 := ⟨by decide +kernel, rfl⟩
theorem d_8_allRent_24 : zD prog_1_method_65_code 24 (.iaload) 1 25 := ⟨by decide +kernel, rfl⟩
theorem d_8_allRent_25 : zD prog_1_method_65_code 25 (.iadd) 1 26 := ⟨by decide +kernel, rfl⟩
theorem d_8_allRent_26 : zD prog_1_method_65_code 26 (.istore_n 1) 1 27 := ⟨by decide +kernel, rfl⟩
theorem d_8_allRent_27 : zD prog_1_method_65_code 27 (.iinc 2 1) 3 30 := ⟨by decide +kernel, rfl⟩
theorem d_8_allRent_30 : zD prog_1_method_65_code 30 (.goto (-26)) 3 33 := ⟨by decide +kernel, rfl⟩
theorem d_8_allRent_33 : zD prog_1_method_65_code 33 (.iload_n 1) 1 34 := ⟨by decide +kernel, rfl⟩
theorem d_8_allRent_34 : zD prog_1_method_65_code 34 (.ireturn) 1 35 := ⟨by decide +kernel, rfl⟩
theorem d_8_allGone_0 : zD prog_1_method_66_code 0 (.iconst 0) 1 1 := ⟨by decide +kernel, rfl⟩
theorem d_8_allGone_1 : zD prog_1_method_66_code 1 (.istore_n 1) 1 2 := ⟨by decide +kernel, rfl⟩
theorem d_8_allGone_2 : zD prog_1_method_66_code 2 (.iconst 0) 1 3 := ⟨by decide +kernel, rfl⟩
theorem d_8_allGone_3 : zD prog_1_method_66_code 3 (.istore_n 2) 1 4 := ⟨by decide +kernel, rfl⟩
theorem d_8_allGone_4 : zD prog_1_method_66_code 4 (.iload_n 2) 1 5 := ⟨by decide +kernel, rfl⟩
theorem d_8_allGone_5 : zD prog_1_method_66_code 5 (.aload_n 0) 1 6 := ⟨by decide +kernel, rfl⟩
theorem d_8_allGone_6 : zD prog_1_method_66_code 6 (.getfield 27) 3 9 := ⟨by decide +kernel, rfl⟩
theorem d_8_allGone_9 : zD prog_1_method_66_code 9 (.getfield 224) 3 12 := ⟨by decide +kernel, rfl⟩
theorem d_8_allGone_12 : zD prog_1_method_66_code 12 (.if_icmp .ge 21) 3 15 := ⟨by decide +kernel, rfl⟩
theorem d_8_allGone_15 : zD prog_1_method_66_code 15 (.iload_n 1) 1 16 := ⟨by decide +kernel, rfl⟩
theorem d_8_allGone_16 : zD prog_1_method_66_code 16 (.aload_n 0) 1 17 := ⟨by decide +kernel, rfl⟩
theorem d_8_allGone_17 : zD prog_1_method_66_code 17 (.getfield 34) 3 20 := ⟨by decide +kernel, rfl⟩
theorem d_8_allGone_20 : zD prog_1_method_66_code 20 (.getfield 140) 3 23 := ⟨by decide +kernel, rfl⟩
theorem d_8_allGone_23 : zD prog_1_method_66_code 23 (.iload_n 2) 1 24 := ⟨by decide +kernel, rfl⟩
theorem d_8_allGone_24 : zD prog_1_method_66_code 24 (.iaload) 1 25 := ⟨by decide +kernel, rfl⟩
theorem d_8_allGone_25 : zD prog_1_method_66_code 25 (.iadd) 1 26 := ⟨by decide +kernel, rfl⟩
theorem d_8_allGone_26 : zD prog_1_method_66_code 26 (.istore_n 1) 1 27 := ⟨by decide +kernel, rfl⟩
theorem d_8_allGone_27 : zD prog_1_method_66_code 27 (.iinc 2 1) 3 30 := ⟨by decide +kernel, rfl⟩
theorem d_8_allGone_30 : zD prog_1_method_66_code 30 (.goto (-26)) 3 33 := ⟨by decide +kernel, rfl⟩
theorem d_8_allGone_33 : zD prog_1_method_66_code 33 (.iload_n 1) 1 34 := ⟨by decide +kernel, rfl⟩
theorem d_8_allGone_34 : zD prog_1_method_66_code 34 (.ireturn) 1 35 := ⟨by decide +kernel, rfl⟩
theorem d_8_allRents_0 : zD prog_1_method_67_code 0 (.aload_n 0) 1 1 := ⟨by decide +kernel, rfl⟩
theorem d_8_allRents_1 : zD prog_1_method_67_code 1 (.getfield 68) 3 4 := ⟨by decide +kernel, rfl⟩
theorem d_8_allRents_4 : zD prog_1_method_67_code 4 (.aload_n 0) 1 5 := ⟨by decide +kernel, rfl⟩
theorem d_8_allRents_5 : zD prog_1_method_67_code 5 (.getfield 27) 3 8 := ⟨by decide +kernel, rfl⟩
theorem d_8_allRents_8 : zD prog_1_method_67_code 8 (.aload_n 0) 1 9 := ⟨by decide +kernel, rfl⟩
theorem d_8_allRents_9 : zD prog_1_method_67_code 9 (.getfield 34) 3 12 := ⟨by decide +kernel, rfl⟩
theorem d_8_allRents_12 : zD prog_1_method_67_code 12 (.invokevirtual 123) 3 15 := ⟨by decide +kernel, rfl⟩
theorem d_8_allRents_15 : zD prog_1_method_67_code 15 (.iconst 0) 1 16 := ⟨by decide +kernel, rfl⟩
theorem d_8_allRents_16 : zD prog_1_method_67_code 16 (.istore_n 1) 1 17 := ⟨by decide +kernel, rfl⟩
theorem d_8_allRents_17 : zD prog_1_method_67_code 17 (.iconst 0) 1 18 := ⟨by decide +kernel, rfl⟩
theorem d_8_allRents_18 : zD prog_1_method_67_code 18 (.istore_n 2) 1 19 := ⟨by decide +kernel, rfl⟩
theorem d_8_allRents_19 : zD prog_1_method_67_code 19 (.iload_n 2) 1 20 := ⟨by decide +kernel, rfl⟩
theorem d_8_allRents_20 : zD prog_1_method_67_code 20 (.aload_n 0) 1 21 := ⟨by decide +kernel, rfl⟩
theorem d_8_allRents_21 : zD prog_1_method_67_code 21 (.getfield 27) 3 24 := ⟨by decide +kernel, rfl⟩
theorem d_8_allRents_24 : zD prog_1_method_67_code 24 (.getfield 156) 3 27 := ⟨by decide +kernel, rfl⟩
theorem d_8_allRents_27 : zD prog_1_method_67_code 27 (.if_icmp .ge 28) 3 30 := ⟨by decide +kernel, rfl⟩
theorem d_8_allRents_30 : zD prog_1_method_67_code 30 (.iload_n 1) 1 31 := ⟨by decide +kernel, rfl⟩
theorem d_8_allRents_31 : zD prog_1_method_67_code 31 (.aload_n 0) 1 32 := ⟨by decide +kernel, rfl⟩
theorem d_8_allRents_32 : zD prog_1_method_67_code 32 (.getfield 68) 3 35 := ⟨by decide +kernel, rfl⟩
theorem d_8_allRents_35 : zD prog_1_method_67_code 35 (.aload_n 0) 1 36 := ⟨by decide +kernel, rfl⟩
theorem d_8_allRents_36 : zD prog_1_method_67_code 36 (.getfield 27) 3 39 := ⟨by decide +kernel, rfl⟩
theorem d_8_allRents_39 : zD prog_1_method_67_code 39 (.aload_n 0) 1 40 := ⟨by decide +kernel, rfl⟩
theorem d_8_allRents_40 : zD prog_1_method_67_code 40 (.getfield 34) 3 43 := ⟨by decide +kernel, rfl⟩
theorem d_8_allRents_43 : zD prog_1_method_67_code 43 (.iload_n 2) 1 44 := ⟨by decide +kernel, rfl⟩
theorem d_8_allRents_44 : zD prog_1_method_67_code 44 (.invokevirtual 127) 3 47 := ⟨by decide +kernel, rfl⟩
theorem d_8_allRents_47 : zD prog_1_method_67_code 47 (.iadd) 1 48 := ⟨by decide +kernel, rfl⟩
theorem d_8_allRents_48 : zD prog_1_method_67_code 48 (.istore_n 1) 1 49 := ⟨by decide +kernel, rfl⟩
theorem d_8_allRents_49 : zD prog_1_method_67_code 49 (.iinc 2 1) 3 52 := ⟨by decide +kernel, rfl⟩
theorem d_8_allRents_52 : zD prog_1_method_67_code 52 (.goto (-33)) 3 55 := ⟨by decide +kernel, rfl⟩
theorem d_8_allRents_55 : zD prog_1_method_67_code 55 (.iload_n 1) 1 56 := ⟨by decide +kernel, rfl⟩
theorem d_8_allRents_56 : zD prog_1_method_67_code 56 (.ireturn) 1 57 := ⟨by decide +kernel, rfl⟩
theorem d_8_whoHasNoRight_0 : zD prog_1_method_68_code 0 (.aload_n 0) 1 1 := ⟨by decide +kernel, rfl⟩
theorem d_8_whoHasNoRight_1 : zD prog_1_method_68_code 1 (.getfield 27) 3 4 := ⟨by decide +kernel, rfl⟩
theorem d_8_whoHasNoRight_4 : zD prog_1_method_68_code 4 (.getfield 224) 3 7 := ⟨by decide +kernel, rfl⟩
theorem d_8_whoHasNoRight_7 : zD prog_1_method_68_code 7 (.invokestatic 320) 3 10 := ⟨by decide +kernel, rfl⟩
theorem d_8_whoHasNoRight_10 : zD prog_1_method_68_code 10 (.istore_n 1) 1 11 := ⟨by decide +kernel, rfl⟩
theorem d_8_whoHasNoRight_11 : zD prog_1_method_68_code 11 (.iconst 0) 1 12 := ⟨by decide +kernel, rfl⟩
theorem d_8_whoHasNoRight_12 : zD prog_1_method_68_code 12 (.istore_n 2) 1 13 := ⟨by decide +kernel, rfl⟩
theorem d_8_whoHasNoRight_13 : zD prog_1_method_68_code 13 (.iload_n 2) 1 14 := ⟨by decide +kernel, rfl⟩
theorem d_8_whoHasNoRight_14 : zD prog_1_method_68_code 14 (.aload_n 0) 1 15 := ⟨by decide +kernel, rfl⟩
theorem d_8_whoHasNoRight_15 : zD prog_1_method_68_code 15 (.getfield 27) 3 18 := ⟨by decide +kernel, rfl⟩
theorem d_8_whoHasNoRight_18 : zD prog_1_method_68_code 18 (.getfield 156) 3 21 := ⟨by decide +kernel, rfl⟩
theorem d_8_whoHasNoRight_21 : zD prog_1_method_68_code 21 (.if_icmp .ge 23) 3 24 := ⟨by decide +kernel, rfl⟩
theorem d_8_whoHasNoRight_24 : zD prog_1_method_68_code 24 (.iload_n 1) 1 25 := ⟨by decide +kernel, rfl⟩
theorem d_8_whoHasNoRight_25 : zD prog_1_method_68_code 25 (.aload_n 0) 1 26 := ⟨by decide +kernel, rfl⟩
theorem d_8_whoHasNoRight_26 : zD prog_1_method_68_code 26 (.getfield 34) 3 29 := ⟨by decide +kernel, rfl⟩
theorem d_8_whoHasNoRight_29 : zD prog_1_method_68_code 29 (.getfield 120) 3 32 := ⟨by decide +kernel, rfl⟩
theorem d_8_whoHasNoRight_32 : zD prog_1_method_68_code 32 (.iload_n 2) 1 33 := ⟨by decide +kernel, rfl⟩
theorem d_8_whoHasNoRight_33 : zD prog_1_method_68_code 33 (.iaload) 1 34 := ⟨by decide +kernel, rfl⟩
theorem d_8_whoHasNoRight_34 : zD prog_1_method_68_code 34 (.iconst (-1)) 1 35 := ⟨by decide +kernel, rfl⟩
theorem d_8_whoHasNoRight_35 : zD prog_1_method_68_code 35 (.ixor) 1 36 := ⟨by decide +kernel, rfl⟩
theorem d_8_whoHasNoRight_36 : zD prog_1_method_68_code 36 (.iand) 1 37 := ⟨by decide +kernel, rfl⟩
theorem d_8_whoHasNoRight_37 : zD prog_1_method_68_code 37 (.istore_n 1) 1 38 := ⟨by decide +kernel, rfl⟩
theorem d_8_whoHasNoRight_38 : zD prog_1_method_68_code 38 (.iinc 2 1) 3 41 := ⟨by decide +kernel, rfl⟩
theorem d_8_whoHasNoRight_41 : zD prog_1_method_68_code 41 (.goto (-28)) 3 44 := ⟨by decide +kernel, rfl⟩
theorem d_8_whoHasNoRight_44 : zD prog_1_method_68_code 44 (.iload_n 1) 1 45 := ⟨by decide +kernel, rfl⟩
theorem d_8_whoHasNoRight_45 : zD prog_1_method_68_code 45 (.ireturn) 1 46 := ⟨by decide +kernel, rfl⟩
theorem d_8_count_0 : zD prog_1_method_63_code 0 (.iload_n 1) 1 1 := ⟨by decide +kernel, rfl⟩
theorem d_8_count_1 : zD prog_1_method_63_code 1 (.tableswitch 193 0 16 #[83, 91, 99, 107, 107, 107, 122, 134, 139, 144, 152, 160, 168, 173, 178, 183, 188]) 83 84 := ⟨by decide +kernel, rfl⟩
theorem d_8_count_84 : zD prog_1_method_63_code 84 (.aload_n 0) 1 85 := ⟨by decide +kernel, rfl⟩
theorem d_8_count_85 : zD prog_1_method_63_code 85 (.getfield 27) 3 88 := ⟨by decide +kernel, rfl⟩
theorem d_8_count_88 : zD prog_1_method_63_code 88 (.getfield 156) 3 91 := ⟨by decide +kernel, rfl⟩
theorem d_8_count_91 : zD prog_1_method_63_code 91 (.ireturn) 1 92 := ⟨by decide +kernel, rfl⟩
theorem d_8_count_92 : zD prog_1_method_63_code 92 (.aload_n 0) 1 93 := ⟨by decide +kernel, rfl⟩
theorem d_8_count_93 : zD prog_1_method_63_code 93 (.getfield 27) 3 96 := ⟨by decide +kernel, rfl⟩
theorem d_8_count_96 : zD prog_1_method_63_code 96 (.getfield 224) 3 99 := ⟨by decide +kernel, rfl⟩
theorem d_8_count_99 : zD prog_1_method_63_code 99 (.ireturn) 1 100 := ⟨by decide +kernel, rfl⟩
theorem d_8_count_100 : zD prog_1_method_63_code 100 (.aload_n 0) 1 101 := ⟨by decide +kernel, rfl⟩
theorem d_8_count_101 : zD prog_1_method_63_code 101 (.getfield 34) 3 104 := ⟨by decide +kernel, rfl⟩
theorem d_8_count_104 : zD prog_1_method_63_code 104 (.getfield 200) 3 107 := ⟨by decide +kernel, rfl⟩
theorem d_8_count_107 : zD prog_1_method_63_code 107 (.ireturn) 1 108 := ⟨by decide +kernel, rfl⟩
theorem d_8_count_108 : zD prog_1_method_63_code 108 (.aload_n 0) 1 109 := ⟨by decide +kernel, rfl⟩
theorem d_8_count_109 : zD prog_1_method_63_code 109 (.getfield 34) 3 112 := ⟨by decide +kernel, rfl⟩
theorem d_8_count_112 : zD prog_1_method_63_code 112 (.aload_n 0) 1 113 := ⟨by decide +kernel, rfl⟩
theorem d_8_count_113 : zD prog_1_method_63_code 113 (.getfield 27) 3 116 := ⟨by decide +kernel, rfl⟩
theorem d_8_count_116 : zD prog_1_method_63_code 116 (.iload_n 1) 1 117 := ⟨by decide +kernel, rfl⟩
theorem d_8_count_117 : zD prog_1_method_63_code 117 (.iconst 3) 1 118 := ⟨by decide +kernel, rfl⟩
theorem d_8_count_118 : zD prog_1_method_63_code 118 (.isub) 1 119 := ⟨by decide +kernel, rfl⟩
theorem d_8_count_119 : zD prog_1_method_63_code 119 (.invokevirtual 270) 3 122 := ⟨by decide +kernel, rfl⟩
theorem d_8_count_122 : zD prog_1_method_63_code 122 (.ireturn) 1 123 := ⟨by decide +kernel, rfl⟩
theorem d_8_count_123 : zD prog_1_method_63_code 123 (.aload_n 0) 1 124 := ⟨by decide +kernel, rfl⟩
theorem d_8_count_124 : zD prog_1_method_63_code 124 (.getfield 34) 3 127 := ⟨by decide +kernel, rfl⟩
theorem d_8_count_127 : zD prog_1_method_63_code 127 (.aload_n 0) 1 128 := ⟨by decide +kernel, rfl⟩
theorem d_8_count_128 : zD prog_1_method_63_code 128 (.getfield 27) 3 131 := ⟨by decide +kernel, rfl⟩
theorem d_8_count_131 : zD prog_1_method_63_code 131 (.invokevirtual 274) 3 134 := ⟨by decide +kernel, rfl⟩
theorem d_8_count_134 : zD prog_1_method_63_code 134 (.ireturn) 1 135 := ⟨by decide +kernel, rfl⟩
theorem d_8_count_135 : zD prog_1_method_63_code 135 (.aload_n 0) 1 136 := ⟨by decide +kernel, rfl⟩
theorem d_8_count_136 : zD prog_1_method_63_code 136 (.invokevirtual 302) 3 139 := ⟨by decide +kernel, rfl⟩
theorem d_8_count_139 : zD prog_1_method_63_code 139 (.ireturn) 1 140 := ⟨by decide +kernel, rfl⟩
theorem d_8_count_140 : zD prog_1_method_63_code 140 (.aload_n 0) 1 141 := ⟨by decide +kernel, rfl⟩
theorem d_8_count_141 : zD prog_1_method_63_code 141 (.getfield 13) 3 144 := ⟨by decide +kernel, rfl⟩
theorem d_8_count_144 : zD prog_1_method_63_code 144 (.ireturn) 1 145 := ⟨by decide +kernel, rfl⟩
theorem d_8_count_145 : zD prog_1_method_63_code 145 (.aload_n 0) 1 146 := ⟨by decide +kernel, rfl⟩
theorem d_8_count_146 : zD prog_1_method_63_code 146 (.getfield 54) 3 149 := ⟨by decide +kernel, rfl⟩
theorem d_8_count_149 : zD prog_1_method_63_code 149 (.getfield 305) 3 152 := ⟨by decide +kernel, rfl⟩
theorem d_8_count_152 : zD prog_1_method_63_code 152 (.ireturn) 1 153 := ⟨by decide +kernel, rfl⟩
theorem d_8_count_153 : zD prog_1_method_63_code 153 (.aload_n 0) 1 154 := ⟨by decide +kernel, rfl⟩
theorem d_8_count_154 : zD prog_1_method_63_code 154 (.getfield 82) 3 157 := ⟨by decide +kernel, rfl⟩
theorem d_8_count_157 : zD prog_1_method_63_code 157 (.getfield 281) 3 160 := ⟨by decide +kernel, rfl⟩
theorem d_8_count_160 : zD prog_1_method_63_code 160 (.ireturn) 1 161 := ⟨by decide +kernel, rfl⟩
theorem d_8_count_161 : zD prog_1_method_63_code 161 (.aload_n 0) 1 162 := ⟨by decide +kernel, rfl⟩
theorem d_8_count_162 : zD prog_1_method_63_code 162 (.getfield 62) 3 165 := ⟨by decide +kernel, rfl⟩
theorem d_8_count_165 : zD prog_1_method_63_code 165 (.invokestatic 241) 3 168 := ⟨by decide +kernel, rfl⟩
theorem d_8_count_168 : zD prog_1_method_63_code 168 (.ireturn) 1 169 := ⟨by decide +kernel, rfl⟩
theorem d_8_count_169 : zD prog_1_method_63_code 169 (.aload_n 0) 1 170 := ⟨by decide +kernel, rfl⟩
theorem d_8_count_170 : zD prog_1_method_63_code 170 (.invokevirtual 263) 3 173 := ⟨by decide +kernel, rfl⟩
theorem d_8_count_173 : zD prog_1_method_63_code 173 (.ireturn) 1 174 := ⟨by decide +kernel, rfl⟩
theorem d_8_count_174 : zD prog_1_method_63_code 174 (.aload_n 0) 1 175 := ⟨by decide +kernel, rfl⟩
theorem d_8_count_175 : zD prog_1_method_63_code 175 (.invokevirtual 308) 3 178 := ⟨by decide +kernel, rfl⟩
theorem d_8_count_178 : zD prog_1_method_63_code 178 (.ireturn) 1 179 := ⟨by decide +kernel, rfl⟩
theorem d_8_count_179 : zD prog_1_method_63_code 179 (.aload_n 0) 1 180 := ⟨by decide +kernel, rfl⟩
theorem d_8_count_180 : zD prog_1_method_63_code 180 (.invokevirtual 311) 3 183 := ⟨by decide +kernel, rfl⟩
theorem d_8_count_183 : zD prog_1_method_63_code 183 (.ireturn) 1 184 := ⟨by decide +kernel, rfl⟩
theorem d_8_count_184 : zD prog_1_method_63_code 184 (.aload_n 0) 1 185 := ⟨by decide +kernel, rfl⟩
theorem d_8_count_185 : zD prog_1_method_63_code 185 (.invokevirtual 314) 3 188 := ⟨by decide +kernel, rfl⟩
theorem d_8_count_188 : zD prog_1_method_63_code 188 (.ireturn) 1 189 := ⟨by decide +kernel, rfl⟩
theorem d_8_count_189 : zD prog_1_method_63_code 189 (.aload_n 0) 1 190 := ⟨by decide +kernel, rfl⟩
theorem d_8_count_190 : zD prog_1_method_63_code 190 (.invokevirtual 317) 3 193 := ⟨by decide +kernel, rfl⟩
theorem d_8_count_193 : zD prog_1_method_63_code 193 (.ireturn) 1 194 := ⟨by decide +kernel, rfl⟩
theorem d_8_count_194 : zD prog_1_method_63_code 194 (.iconst (-1)) 1 195 := ⟨by decide +kernel, rfl⟩
theorem d_8_count_195 : zD prog_1_method_63_code 195 (.ireturn) 1 196 := ⟨by decide +kernel, rfl⟩
theorem d_9_plain_0 : zD prog_11_method_19_code 0 (.aload_n 0) 1 1 := ⟨by decide +kernel, rfl⟩
theorem d_9_plain_1 : zD prog_11_method_19_code 1 (.getfield 46) 3 4 := ⟨by decide +kernel, rfl⟩
theorem d_9_plain_4 : zD prog_11_method_19_code 4 (.iload_n 1) 1 5 := ⟨by decide +kernel, rfl⟩
theorem d_9_plain_5 : zD prog_11_method_19_code 5 (.iconst 0) 1 6 := ⟨by decide +kernel, rfl⟩
theorem d_9_plain_6 : zD prog_11_method_19_code 6 (.iastore) 1 7 := ⟨by decide +kernel, rfl⟩
theorem d_9_plain_7 : zD prog_11_method_19_code 7 (.aload_n 0) 1 8 := ⟨by decide +kernel, rfl⟩
theorem d_9_plain_8 : zD prog_11_method_19_code 8 (.getfield 55) 3 11 := ⟨by decide +kernel, rfl⟩
theorem d_9_plain_11 : zD prog_11_method_19_code 11 (.iload_n 1) 1 12 := ⟨by decide +kernel, rfl⟩
theorem d_9_plain_12 : zD prog_11_method_19_code 12 (.iconst 0) 1 13 := ⟨by decide +kernel, rfl⟩
theorem d_9_plain_13 : zD prog_11_method_19_code 13 (.iastore) 1 14 := ⟨by decide +kernel, rfl⟩
theorem d_9_plain_14 : zD prog_11_method_19_code 14 (.aload_n 0) 1 15 := ⟨by decide +kernel, rfl⟩
theorem d_9_plain_15 : zD prog_11_method_19_code 15 (.getfield 64) 3 18 := ⟨by decide +kernel, rfl⟩
theorem d_9_plain_18 : zD prog_11_method_19_code 18 (.iload_n 1) 1 19 := ⟨by decide +kernel, rfl⟩
theorem d_9_plain_19 : zD prog_11_method_19_code 19 (.iconst 0) 1 20 := ⟨by decide +kernel, rfl⟩
theorem d_9_plain_20 : zD prog_11_method_19_code 20 (.iastore) 1 21 := ⟨by decide +kernel, rfl⟩
theorem d_9_plain_21 : zD prog_11_method_19_code 21 (.aload_n 0) 1 22 := ⟨by decide +kernel, rfl⟩
theorem d_9_plain_22 : zD prog_11_method_19_code 22 (.getfield 67) 3 25 := ⟨by decide +kernel, rfl⟩
theorem d_9_plain_25 : zD prog_11_method_19_code 25 (.iload_n 1) 1 26 := ⟨by decide +kernel, rfl⟩
theorem d_9_plain_26 : zD prog_11_method_19_code 26 (.iconst 0) 1 27 := ⟨by decide +kernel, rfl⟩
theorem d_9_plain_27 : zD prog_11_method_19_code 27 (.iastore) 1 28 := ⟨by decide +kernel, rfl⟩
theorem d_9_plain_28 : zD prog_11_method_19_code 28 (.aload_n 0) 1 29 := ⟨by decide +kernel, rfl⟩
theorem d_9_plain_29 : zD prog_11_method_19_code 29 (.getfield 70) 3 32 := ⟨by decide +kernel, rfl⟩
theorem d_9_plain_32 : zD prog_11_method_19_code 32 (.iload_n 1) 1 33 := ⟨by decide +kernel, rfl⟩
theorem d_9_plain_33 : zD prog_11_method_19_code 33 (.iconst 0) 1 34 := ⟨by decide +kernel, rfl⟩
theorem d_9_plain_34 : zD prog_11_method_19_code 34 (.iastore) 1 35 := ⟨by decide +kernel, rfl⟩
theorem d_9_plain_35 : zD prog_11_method_19_code 35 (.iconst 0) 1 36 := ⟨by decide +kernel, rfl⟩
theorem d_9_plain_36 : zD prog_11_method_19_code 36 (.istore_n 2) 1 37 := ⟨by decide +kernel, rfl⟩
theorem d_9_plain_37 : zD prog_11_method_19_code 37 (.iload_n 2) 1 38 := ⟨by decide +kernel, rfl⟩
theorem d_9_plain_38 : zD prog_11_method_19_code 38 (.iconst 5) 1 39 := ⟨by decide +kernel, rfl⟩
theorem d_9_plain_39 : zD prog_11_method_19_code 39 (.if_icmp .ge 20) 3 42 := ⟨by decide +kernel, rfl⟩
theorem d_9_plain_42 : zD prog_11_method_19_code 42 (.aload_n 0) 1 43 := ⟨by decide +kernel, rfl⟩
theorem d_9_plain_43 : zD prog_11_method_19_code 43 (.getfield 52) 3 46 := ⟨by decide +kernel, rfl⟩
theorem d_9_plain_46 : zD prog_11_method_19_code 46 (.iconst 5) 1 47 := ⟨by decide +kernel, rfl⟩
theorem d_9_plain_47 : zD prog_11_method_19_code 47 (.iload_n 1) 1 48 := ⟨by decide +kernel, rfl⟩
theorem d_9_plain_48 : zD prog_11_method_19_code 48 (.imul) 1 49 := ⟨by decide +kernel, rfl⟩
theorem d_9_plain_49 : zD prog_11_method_19_code 49 (.iload_n 2) 1 50 := ⟨by decide +kernel, rfl⟩
theorem d_9_plain_50 : zD prog_11_method_19_code 50 (.iadd) 1 51 := ⟨by decide +kernel, rfl⟩
theorem d_9_plain_51 : zD prog_11_method_19_code 51 (.iconst 0) 1 52 := ⟨by decide +kernel, rfl⟩
theorem d_9_plain_52 : zD prog_11_method_19_code 52 (.iastore) 1 53 := ⟨by decide +kernel, rfl⟩
theorem d_9_plain_53 : zD prog_11_method_19_code 53 (.iinc 2 1) 3 56 := ⟨by decide +kernel, rfl⟩
theorem d_9_plain_56 : zD prog_11_method_19_code 56 (.goto (-19)) 3 59 := ⟨by decide +kernel, rfl⟩
theorem d_9_plain_59 : zD prog_11_method_19_code 59 (.iconst 0) 1 60 := ⟨by decide +kernel, rfl⟩
theorem d_9_plain_60 : zD prog_11_method_19_code 60 (.istore_n 2) 1 61 := ⟨by decide +kernel, rfl⟩
theorem d_9_plain_61 : zD prog_11_method_19_code 61 (.iload_n 2) 1 62 := ⟨by decide +kernel, rfl⟩
theorem d_9_plain_62 : zD prog_11_method_19_code 62 (.bipush 7) 2 64 := ⟨by decide +kernel, rfl⟩
theorem d_9_plain_64 : zD prog_11_method_19_code 64 (.if_icmp .ge 21) 3 67 := ⟨by decide +kernel, rfl⟩
theorem d_9_plain_67 : zD prog_11_method_19_code 67 (.aload_n 0) 1 68 := ⟨by decide +kernel, rfl⟩
theorem d_9_plain_68 : zD prog_11_method_19_code 68 (.getfield 61) 3 71 := ⟨by decide +kernel, rfl⟩
theorem d_9_plain_71 : zD prog_11_method_19_code 71 (.bipush 7) 2 73 := ⟨by decide +kernel, rfl⟩
theorem d_9_plain_73 : zD prog_11_method_19_code 73 (.iload_n 1) 1 74 := ⟨by decide +kernel, rfl⟩
theorem d_9_plain_74 : zD prog_11_method_19_code 74 (.imul) 1 75 := ⟨by decide +kernel, rfl⟩
theorem d_9_plain_75 : zD prog_11_method_19_code 75 (.iload_n 2) 1 76 := ⟨by decide +kernel, rfl⟩
theorem d_9_plain_76 : zD prog_11_method_19_code 76 (.iadd) 1 77 := ⟨by decide +kernel, rfl⟩
theorem d_9_plain_77 : zD prog_11_method_19_code 77 (.iconst (-1)) 1 78 := ⟨by decide +kernel, rfl⟩
theorem d_9_plain_78 : zD prog_11_method_19_code 78 (.iastore) 1 79 := ⟨by decide +kernel, rfl⟩
theorem d_9_plain_79 : zD prog_11_method_19_code 79 (.iinc 2 1) 3 82 := ⟨by decide +kernel, rfl⟩
theorem d_9_plain_82 : zD prog_11_method_19_code 82 (.goto (-21)) 3 85 := ⟨by decide +kernel, rfl⟩
theorem d_9_plain_85 : zD prog_11_method_19_code 85 (.iconst 0) 1 86 := ⟨by decide +kernel, rfl⟩
theorem d_9_plain_86 : zD prog_11_method_19_code 86 (.istore_n 2) 1 87 := ⟨by decide +kernel, rfl⟩
theorem d_9_plain_87 : zD prog_11_method_19_code 87 (.iload_n 2) 1 88 := ⟨by decide +kernel, rfl⟩
theorem d_9_plain_88 : zD prog_11_method_19_code 88 (.iconst 4) 1 89 := ⟨by decide +kernel, rfl⟩
theorem d_9_plain_89 : zD prog_11_method_19_code 89 (.if_icmp .ge 31) 3 92 := ⟨by decide +kernel, rfl⟩
theorem d_9_plain_92 : zD prog_11_method_19_code 92 (.aload_n 0) 1 93 := ⟨by decide +kernel, rfl⟩
theorem d_9_plain_93 : zD prog_11_method_19_code 93 (.getfield 73) 3 96 := ⟨by decide +kernel, rfl⟩
theorem d_9_plain_96 : zD prog_11_method_19_code 96 (.iconst 4) 1 97 := ⟨by decide +kernel, rfl⟩
theorem d_9_plain_97 : zD prog_11_method_19_code 97 (.iload_n 1) 1 98 := ⟨by decide +kernel, rfl⟩
theorem d_9_plain_98 : zD prog_11_method_19_code 98 (.imul) 1 99 := ⟨by decide +kernel, rfl⟩
theorem d_9_plain_99 : zD prog_11_method_19_code 99 (.iload_n 2) 1 100 := ⟨by decide +kernel, rfl⟩
theorem d_9_plain_100 : zD prog_11_method_19_code 100 (.iadd) 1 101 := ⟨by decide +kernel, rfl⟩
theorem d_9_plain_101 : zD prog_11_method_19_code 101 (.iconst 0) 1 102 := ⟨by decide +kernel, rfl⟩
theorem d_9_plain_102 : zD prog_11_method_19_code 102 (.iastore) 1 103 := ⟨by decide +kernel, rfl⟩
theorem d_9_plain_103 : zD prog_11_method_19_code 103 (.aload_n 0) 1 104 := ⟨by decide +kernel, rfl⟩
theorem d_9_plain_104 : zD prog_11_method_19_code 104 (.getfield 76) 3 107 := ⟨by decide +kernel, rfl⟩
theorem d_9_plain_107 : zD prog_11_method_19_code 107 (.iconst 4) 1 108 := ⟨by decide +kernel, rfl⟩
theorem d_9_plain_108 : zD prog_11_method_19_code 108 (.iload_n 1) 1 109 := ⟨by decide +kernel, rfl⟩
theorem d_9_plain_109 : zD prog_11_method_19_code 109 (.imul) 1 110 := ⟨by decide +kernel, rfl⟩
theorem d_9_plain_110 : zD prog_11_method_19_code 110 (.iload_n 2) 1 111 := ⟨by decide +kernel, rfl⟩
theorem d_9_plain_111 : zD prog_11_method_19_code 111 (.iadd) 1 112 := ⟨by decide +kernel, rfl⟩
theorem d_9_plain_112 : zD prog_11_method_19_code 112 (.iconst 0) 1 113 := ⟨by decide +kernel, rfl⟩
theorem d_9_plain_113 : zD prog_11_method_19_code 113 (.iastore) 1 114 := ⟨by decide +kernel, rfl⟩
theorem d_9_plain_114 : zD prog_11_method_19_code 114 (.iinc 2 1) 3 117 := ⟨by decide +kernel, rfl⟩
theorem d_9_plain_117 : zD prog_11_method_19_code 117 (.goto (-30)) 3 120 := ⟨by decide +kernel, rfl⟩
theorem d_9_plain_120 : zD prog_11_method_19_code 120 (.return_) 1 121 := ⟨by decide +kernel, rfl⟩
theorem d_9_appends_0 : zD prog_11_method_9_code 0 (.iload_n 2) 1 1 := ⟨by decide +kernel, rfl⟩
theorem d_9_appends_1 : zD prog_11_method_9_code 1 (.ifCond .ne 7) 3 4 := ⟨by decide +kernel, rfl⟩
theorem d_9_appends_4 : zD prog_11_method_9_code 4 (.lload_n 0) 1 5 := ⟨by decide +kernel, rfl⟩
theorem d_9_appends_5 : zD prog_11_method_9_code 5 (.goto 16) 3 8 := ⟨by decide +kernel, rfl⟩
theorem d_9_appends_8 : zD prog_11_method_9_code 8 (.ldc2_w 175) 3 11 := ⟨by decide +kernel, rfl⟩
theorem d_9_appends_11 : zD prog_11_method_9_code 11 (.lload_n 0) 1 12 := ⟨by decide +kernel, rfl⟩
theorem d_9_appends_12 : zD prog_11_method_9_code 12 (.lmul) 1 13 := ⟨by decide +kernel, rfl⟩
theorem d_9_appends_13 : zD prog_11_method_9_code 13 (.iload_n 2) 1 14 := ⟨by decide +kernel, rfl⟩
theorem d_9_appends_14 : zD prog_11_method_9_code 14 (.bipush 97) 2 16 := ⟨by decide +kernel, rfl⟩
theorem d_9_appends_16 : zD prog_11_method_9_code 16 (.isub) 1 17 := ⟨by decide +kernel, rfl⟩
theorem d_9_appends_17 : zD prog_11_method_9_code 17 (.iconst 1) 1 18 := ⟨by decide +kernel, rfl⟩
theorem d_9_appends_18 : zD prog_11_method_9_code 18 (.iadd) 1 19 := ⟨by decide +kernel, rfl⟩
theorem d_9_appends_19 : zD prog_11_method_9_code 19 (.i2l) 1 20 := ⟨by decide +kernel, rfl⟩
theorem d_9_appends_20 : zD prog_11_method_9_code 20 (.ladd) 1 21 := ⟨by decide +kernel, rfl⟩
theorem d_9_appends_21 : zD prog_11_method_9_code 21 (.lreturn) 1 22 := ⟨by decide +kernel, rfl⟩
theorem d_9_word_0 : zD prog_11_method_10_code 0 (.lconst 0) 1 1 := ⟨by decide +kernel, rfl⟩
theorem d_9_word_1 : zD prog_11_method_10_code 1 (.iload_n 0) 1 2 := ⟨by decide +kernel, rfl⟩
theorem d_9_word_2 : zD prog_11_method_10_code 2 (.invokestatic 177) 3 5 := ⟨by decide +kernel, rfl⟩
theorem d_9_word_5 : zD prog_11_method_10_code 5 (.iload_n 1) 1 6 := ⟨by decide +kernel, rfl⟩
theorem d_9_word_6 : zD prog_11_method_10_code 6 (.invokestatic 177) 3 9 := ⟨by decide +kernel, rfl⟩
theorem d_9_word_9 : zD prog_11_method_10_code 9 (.iload_n 2) 1 10 := ⟨by decide +kernel, rfl⟩
theorem d_9_word_10 : zD prog_11_method_10_code 10 (.invokestatic 177) 3 13 := ⟨by decide +kernel, rfl⟩
theorem d_9_word_13 : zD prog_11_method_10_code 13 (.iload_n 3) 1 14 := ⟨by decide +kernel, rfl⟩
theorem d_9_word_14 : zD prog_11_method_10_code 14 (.invokestatic 177) 3 17 := ⟨by decide +kernel, rfl⟩
theorem d_9_word_17 : zD prog_11_method_10_code 17 (.iload 4) 2 19 := ⟨by decide +kernel, rfl⟩
theorem d_9_word_19 : zD prog_11_method_10_code 19 (.invokestatic 177) 3 22 := ⟨by decide +kernel, rfl⟩
theorem d_9_word_22 : zD prog_11_method_10_code 22 (.iload 5) 2 24 := ⟨by decide +kernel, rfl⟩
theorem d_9_word_24 : zD prog_11_method_10_code 24 (.invokestatic 177) 3 27 := ⟨by decide +kernel, rfl⟩
theorem d_9_word_27 : zD prog_11_method_10_code 27 (.iload 6) 2 29 := ⟨by decide +kernel, rfl⟩
theorem d_9_word_29 : zD prog_11_method_10_code 29 (.invokestatic 177) 3 32 := ⟨by decide +kernel, rfl⟩
theorem d_9_word_32 : zD prog_11_method_10_code 32 (.lreturn) 1 33 := ⟨by decide +kernel, rfl⟩
theorem d_9_begins_0 : zD prog_11_method_43_code 0 (.iconst 0) 1 1 := ⟨by decide +kernel, rfl⟩
theorem d_9_begins_1 : zD prog_11_method_43_code 1 (.istore_n 1) 1 2 := ⟨by decide +kernel, rfl⟩
theorem d_9_begins_2 : zD prog_11_method_43_code 2 (.iload_n 1) 1 3 := ⟨by decide +kernel, rfl⟩
theorem d_9_begins_3 : zD prog_11_method_43_code 3 (.bipush 34) 2 5 := ⟨by decide +kernel, rfl⟩
theorem d_9_begins_5 : zD prog_11_method_43_code 5 (.if_icmp .ge 16) 3 8 := ⟨by decide +kernel, rfl⟩
theorem d_9_begins_8 : zD prog_11_method_43_code 8 (.aload_n 0) 1 9 := ⟨by decide +kernel, rfl⟩
theorem d_9_begins_9 : zD prog_11_method_43_code 9 (.getfield 113) 3 12 := ⟨by decide +kernel, rfl⟩
theorem d_9_begins_12 : zD prog_11_method_43_code 12 (.iload_n 1) 1 13 := ⟨by decide +kernel, rfl⟩
theorem d_9_begins_13 : zD prog_11_method_43_code 13 (.iconst 0) 1 14 := ⟨by decide +kernel, rfl⟩
theorem d_9_begins_14 : zD prog_11_method_43_code 14 (.iastore) 1 15 := ⟨by decide +kernel, rfl⟩
theorem d_9_begins_15 : zD prog_11_method_43_code 15 (.iinc 1 1) 3 18 := ⟨by decide +kernel, rfl⟩
theorem d_9_begins_18 : zD prog_11_method_43_code 18 (.goto (-16)) 3 21 := ⟨by decide +kernel, rfl⟩
theorem d_9_begins_21 : zD prog_11_method_43_code 21 (.iconst 0) 1 22 := ⟨by decide +kernel, rfl⟩
theorem d_9_begins_22 : zD prog_11_method_43_code 22 (.istore_n 1) 1 23 := ⟨by decide +kernel, rfl⟩
theorem d_9_begins_23 : zD prog_11_method_43_code 23 (.iload_n 1) 1 24 := ⟨by decide +kernel, rfl⟩
theorem d_9_begins_24 : zD prog_11_method_43_code 24 (.aload_n 0) 1 25 := ⟨by decide +kernel, rfl⟩
theorem d_9_begins_25 : zD prog_11_method_43_code 25 (.getfield 55) 3 28 := ⟨by decide +kernel, rfl⟩
theorem d_9_begins_28 : zD prog_11_method_43_code 28 (.aload_n 0) 1 29 := ⟨by decide +kernel, rfl⟩
theorem d_9_begins_29 : zD prog_11_method_43_code 29 (.getfield 233) 3 32 := ⟨by decide +kernel, rfl⟩
theorem d_9_begins_32 : zD prog_11_method_43_code 32 (.iaload) 1 33 := ⟨by decide +kernel, rfl⟩
theorem d_9_begins_33 : zD prog_11_method_43_code 33 (.if_icmp .ge 57) 3 36 := ⟨by decide +kernel, rfl⟩
theorem d_9_begins_36 : zD prog_11_method_43_code 36 (.aload_n 0) 1 37 := ⟨by decide +kernel, rfl⟩
theorem d_9_begins_37 : zD prog_11_method_43_code 37 (.getfield 61) 3 40 := ⟨by decide +kernel, rfl⟩
theorem d_9_begins_40 : zD prog_11_method_43_code 40 (.bipush 7) 2 42 := ⟨by decide +kernel, rfl⟩
theorem d_9_begins_42 : zD prog_11_method_43_code 42 (.aload_n 0) 1 43 := ⟨by decide +kernel, rfl⟩
theorem d_9_begins_43 : zD prog_11_method_43_code 43 (.getfield 233) 3 46 := ⟨by decide +kernel, rfl⟩
theorem d_9_begins_46 : zD prog_11_method_43_code 46 (.imul) 1 47 := ⟨by decide +kernel, rfl⟩
theorem d_9_begins_47 : zD prog_11_method_43_code 47 (.iload_n 1) 1 48 := ⟨by decide +kernel, rfl⟩
theorem d_9_begins_48 : zD prog_11_method_43_code 48 (.iadd) 1 49 := ⟨by decide +kernel, rfl⟩
theorem d_9_begins_49 : zD prog_11_method_43_code 49 (.iaload) 1 50 := ⟨by decide +kernel, rfl⟩
theorem d_9_begins_50 : zD prog_11_method_43_code 50 (.istore_n 2) 1 51 := ⟨by decide +kernel, rfl⟩
theorem d_9_begins_51 : zD prog_11_method_43_code 51 (.aload_n 0) 1 52 := ⟨by decide +kernel, rfl⟩
theorem d_9_begins_52 : zD prog_11_method_43_code 52 (.getfield 113) 3 55 := ⟨by decide +kernel, rfl⟩
theorem d_9_begins_55 : zD prog_11_method_43_code 55 (.iload_n 1) 1 56 := ⟨by decide +kernel, rfl⟩
theorem d_9_begins_56 : zD prog_11_method_43_code 56 (.iload_n 2) 1 57 := ⟨by decide +kernel, rfl⟩
theorem d_9_begins_57 : zD prog_11_method_43_code 57 (.ifCond .ge 7) 3 60 := ⟨by decide +kernel, rfl⟩
theorem d_9_begins_60 : zD prog_11_method_43_code 60 (.iconst 0) 1 61 := ⟨by decide +kernel, rfl⟩
theorem d_9_begins_61 : zD prog_11_method_43_code 61 (.goto 4) 3 64 := ⟨by decide +kernel, rfl⟩
theorem d_9_begins_64 : zD prog_11_method_43_code 64 (.iconst 1) 1 65 := ⟨by decide +kernel, rfl⟩
theorem d_9_begins_65 : zD prog_11_method_43_code 65 (.iastore) 1 66 := ⟨by decide +kernel, rfl⟩
theorem d_9_begins_66 : zD prog_11_method_43_code 66 (.aload_n 0) 1 67 := ⟨by decide +kernel, rfl⟩
theorem d_9_begins_67 : zD prog_11_method_43_code 67 (.getfield 113) 3 70 := ⟨by decide +kernel, rfl⟩
theorem d_9_begins_70 : zD prog_11_method_43_code 70 (.bipush 7) 2 72 := ⟨by decide +kernel, rfl⟩
theorem d_9_begins_72 : zD prog_11_method_43_code 72 (.iload_n 1) 1 73 := ⟨by decide +kernel, rfl⟩
theorem d_9_begins_73 : zD prog_11_method_43_code 73 (.iadd) 1 74 := ⟨by decide +kernel, rfl⟩
theorem d_9_begins_74 : zD prog_11_method_43_code 74 (.iload_n 2) 1 75 := ⟨by decide +kernel, rfl⟩
theorem d_9_begins_75 : zD prog_11_method_43_code 75 (.ifCond .ge 7) 3 78 := ⟨by decide +kernel, rfl⟩
theorem d_9_begins_78 : zD prog_11_method_43_code 78 (.iconst 0) 1 79 := ⟨by decide +kernel, rfl⟩
theorem d_9_begins_79 : zD prog_11_method_43_code 79 (.goto 4) 3 82 := ⟨by decide +kernel, rfl⟩
theorem d_9_begins_82 : zD prog_11_method_43_code 82 (.iload_n 2) 1 83 := ⟨by decide +kernel, rfl⟩
theorem d_9_begins_83 : zD prog_11_method_43_code 83 (.iastore) 1 84 := ⟨by decide +kernel, rfl⟩
theorem d_9_begins_84 : zD prog_11_method_43_code 84 (.iinc 1 1) 3 87 := ⟨by decide +kernel, rfl⟩
theorem d_9_begins_87 : zD prog_11_method_43_code 87 (.goto (-64)) 3 90 := ⟨by decide +kernel, rfl⟩
theorem d_9_begins_90 : zD prog_11_method_43_code 90 (.iconst 0) 1 91 := ⟨by decide +kernel, rfl⟩
theorem d_9_begins_91 : zD prog_11_method_43_code 91 (.istore_n 1) 1 92 := ⟨by decide +kernel, rfl⟩
theorem d_9_begins_92 : zD prog_11_method_43_code 92 (.iload_n 1) 1 93 := ⟨by decide +kernel, rfl⟩
theorem d_9_begins_93 : zD prog_11_method_43_code 93 (.aload_n 0) 1 94 := ⟨by decide +kernel, rfl⟩
theorem d_9_begins_94 : zD prog_11_method_43_code 94 (.getfield 46) 3 97 := ⟨by decide +kernel, rfl⟩
theorem d_9_begins_97 : zD prog_11_method_43_code 97 (.aload_n 0) 1 98 := ⟨by decide +kernel, rfl⟩
theorem d_9_begins_98 : zD prog_11_method_43_code 98 (.getfield 233) 3 101 := ⟨by decide +kernel, rfl⟩
theorem d_9_begins_101 : zD prog_11_method_43_code 101 (.iaload) 1 102 := ⟨by decide +kernel, rfl⟩
theorem d_9_begins_102 : zD prog_11_method_43_code 102 (.if_icmp .ge 31) 3 105 := ⟨by decide +kernel, rfl⟩
theorem d_9_begins_105 : zD prog_11_method_43_code 105 (.aload_n 0) 1 106 := ⟨by decide +kernel, rfl⟩
theorem d_9_begins_106 : zD prog_11_method_43_code 106 (.getfield 113) 3 109 := ⟨by decide +kernel, rfl⟩
theorem d_9_begins_109 : zD prog_11_method_43_code 109 (.bipush 28) 2 111 := ⟨by decide +kernel, rfl⟩
theorem d_9_begins_111 : zD prog_11_method_43_code 111 (.iload_n 1) 1 112 := ⟨by decide +kernel, rfl⟩
theorem d_9_begins_112 : zD prog_11_method_43_code 112 (.iadd) 1 113 := ⟨by decide +kernel, rfl⟩
theorem d_9_begins_113 : zD prog_11_method_43_code 113 (.aload_n 0) 1 114 := ⟨by decide +kernel, rfl⟩
theorem d_9_begins_114 : zD prog_11_method_43_code 114 (.getfield 52) 3 117 := ⟨by decide +kernel, rfl⟩
theorem d_9_begins_117 : zD prog_11_method_43_code 117 (.iconst 5) 1 118 := ⟨by decide +kernel, rfl⟩
theorem d_9_begins_118 : zD prog_11_method_43_code 118 (.aload_n 0) 1 119 := ⟨by decide +kernel, rfl⟩
theorem d_9_begins_119 : zD prog_11_method_43_code 119 (.getfield 233) 3 122 := ⟨by decide +kernel, rfl⟩
theorem d_9_begins_122 : zD prog_11_method_43_code 122 (.imul) 1 123 := ⟨by decide +kernel, rfl⟩
theorem d_9_begins_123 : zD prog_11_method_43_code 123 (.iload_n 1) 1 124 := ⟨by decide +kernel, rfl⟩
theorem d_9_begins_124 : zD prog_11_method_43_code 124 (.iadd) 1 125 := ⟨by decide +kernel, rfl⟩
theorem d_9_begins_125 : zD prog_11_method_43_code 125 (.iaload) 1 126 := ⟨by decide +kernel, rfl⟩
theorem d_9_begins_126 : zD prog_11_method_43_code 126 (.iastore) 1 127 := ⟨by decide +kernel, rfl⟩
theorem d_9_begins_127 : zD prog_11_method_43_code 127 (.iinc 1 1) 3 130 := ⟨by decide +kernel, rfl⟩
theorem d_9_begins_130 : zD prog_11_method_43_code 130 (.goto (-38)) 3 133 := ⟨by decide +kernel, rfl⟩
theorem d_9_begins_133 : zD prog_11_method_43_code 133 (.aload_n 0) 1 134 := ⟨by decide +kernel, rfl⟩
theorem d_9_begins_134 : zD prog_11_method_43_code 134 (.aload_n 0) 1 135 := ⟨by decide +kernel, rfl⟩
theorem d_9_begins_135 : zD prog_11_method_43_code 135 (.getfield 70) 3 138 := ⟨by decide +kernel, rfl⟩
theorem d_9_begins_138 : zD prog_11_method_43_code 138 (.aload_n 0) 1 139 := ⟨by decide +kernel, rfl⟩
theorem d_9_begins_139 : zD prog_11_method_43_code 139 (.getfield 233) 3 142 := ⟨by decide +kernel, rfl⟩
theorem d_9_begins_142 : zD prog_11_method_43_code 142 (.iaload) 1 143 := ⟨by decide +kernel, rfl⟩
theorem d_9_begins_143 : zD prog_11_method_43_code 143 (.putfield 319) 3 146 := ⟨by decide +kernel, rfl⟩
theorem d_9_begins_146 : zD prog_11_method_43_code 146 (.aload_n 0) 1 147 := ⟨by decide +kernel, rfl⟩
theorem d_9_begins_147 : zD prog_11_method_43_code 147 (.iconst 0) 1 148 := ⟨by decide +kernel, rfl⟩
theorem d_9_begins_148 : zD prog_11_method_43_code 148 (.putfield 322) 3 151 := ⟨by decide +kernel, rfl⟩
theorem d_9_begins_151 : zD prog_11_method_43_code 151 (.return_) 1 152 := ⟨by decide +kernel, rfl⟩
theorem d_9_keepsRow_0 : zD prog_11_method_44_code 0 (.iconst 0) 1 1 := ⟨by decide +kernel, rfl⟩
theorem d_9_keepsRow_1 : zD prog_11_method_44_code 1 (.istore_n 1) 1 2 := ⟨by decide +kernel, rfl⟩
theorem d_9_keepsRow_2 : zD prog_11_method_44_code 2 (.iload_n 1) 1 3 := ⟨by decide +kernel, rfl⟩
theorem d_9_keepsRow_3 : zD prog_11_method_44_code 3 (.bipush 34) 2 5 := ⟨by decide +kernel, rfl⟩
theorem d_9_keepsRow_5 : zD prog_11_method_44_code 5 (.if_icmp .ge 21) 3 8 := ⟨by decide +kernel, rfl⟩
theorem d_9_keepsRow_8 : zD prog_11_method_44_code 8 (.aload_n 0) 1 9 := ⟨by decide +kernel, rfl⟩
theorem d_9_keepsRow_9 : zD prog_11_method_44_code 9 (.getfield 110) 3 12 := ⟨by decide +kernel, rfl⟩
theorem d_9_keepsRow_12 : zD prog_11_method_44_code 12 (.iload_n 1) 1 13 := ⟨by decide +kernel, rfl⟩
theorem d_9_keepsRow_13 : zD prog_11_method_44_code 13 (.aload_n 0) 1 14 := ⟨by decide +kernel, rfl⟩
theorem d_9_keepsRow_14 : zD prog_11_method_44_code 14 (.getfield 113) 3 17 := ⟨by decide +kernel, rfl⟩
theorem d_9_keepsRow_17 : zD prog_11_method_44_code 17 (.iload_n 1) 1 18 := ⟨by decide +kernel, rfl⟩
theorem d_9_keepsRow_18 : zD prog_11_method_44_code 18 (.iaload) 1 19 := ⟨by decide +kernel, rfl⟩
theorem d_9_keepsRow_19 : zD prog_11_method_44_code 19 (.iastore) 1 20 := ⟨by decide +kernel, rfl⟩
theorem d_9_keepsRow_20 : zD prog_11_method_44_code 20 (.iinc 1 1) 3 23 := ⟨by decide +kernel, rfl⟩
theorem d_9_keepsRow_23 : zD prog_11_method_44_code 23 (.goto (-21)) 3 26 := ⟨by decide +kernel, rfl⟩
theorem d_9_keepsRow_26 : zD prog_11_method_44_code 26 (.return_) 1 27 := ⟨by decide +kernel, rfl⟩
theorem d_9_put_0 : zD prog_11_method_4_code 0 (.bipush 24) 2 2 := ⟨by decide +kernel, rfl⟩
theorem d_9_put_2 : zD prog_11_method_4_code 2 (.istore_n 2) 1 3 := ⟨by decide +kernel, rfl⟩
theorem d_9_put_3 : zD prog_11_method_4_code 3 (.iload_n 2) 1 4 := ⟨by decide +kernel, rfl⟩
theorem d_9_put_4 : zD prog_11_method_4_code 4 (.ifCond .lt 32) 3 7 := ⟨by decide +kernel, rfl⟩
theorem d_9_put_7 : zD prog_11_method_4_code 7 (.aload_n 0) 1 8 := ⟨by decide +kernel, rfl⟩
theorem d_9_put_8 : zD prog_11_method_4_code 8 (.getfield 13) 3 11 := ⟨by decide +kernel, rfl⟩
theorem d_9_put_11 : zD prog_11_method_4_code 11 (.aload_n 0) 1 12 := ⟨by decide +kernel, rfl⟩
theorem d_9_put_12 : zD prog_11_method_4_code 12 (.getfield 166) 3 15 := ⟨by decide +kernel, rfl⟩
theorem d_9_put_15 : zD prog_11_method_4_code 15 (.iload_n 1) 1 16 := ⟨by decide +kernel, rfl⟩
theorem d_9_put_16 : zD prog_11_method_4_code 16 (.iload_n 2) 1 17 := ⟨by decide +kernel, rfl⟩
theorem d_9_put_17 : zD prog_11_method_4_code 17 (.ishr) 1 18 := ⟨by decide +kernel, rfl⟩
theorem d_9_put_18 : zD prog_11_method_4_code 18 (.i2b) 1 19 := ⟨by decide +kernel, rfl⟩
theorem d_9_put_19 : zD prog_11_method_4_code 19 (.bastore) 1 20 := ⟨by decide +kernel, rfl⟩
theorem d_9_put_20 : zD prog_11_method_4_code 20 (.aload_n 0) 1 21 := ⟨by decide +kernel, rfl⟩
theorem d_9_put_21 : zD prog_11_method_4_code 21 (.dup) 1 22 := ⟨by decide +kernel, rfl⟩
theorem d_9_put_22 : zD prog_11_method_4_code 22 (.getfield 166) 3 25 := ⟨by decide +kernel, rfl⟩
theorem d_9_put_25 : zD prog_11_method_4_code 25 (.iconst 1) 1 26 := ⟨by decide +kernel, rfl⟩
theorem d_9_put_26 : zD prog_11_method_4_code 26 (.iadd) 1 27 := ⟨by decide +kernel, rfl⟩
theorem d_9_put_27 : zD prog_11_method_4_code 27 (.putfield 166) 3 30 := ⟨by decide +kernel, rfl⟩
theorem d_9_put_30 : zD prog_11_method_4_code 30 (.iinc 2 (-8)) 3 33 := ⟨by decide +kernel, rfl⟩
theorem d_9_put_33 : zD prog_11_method_4_code 33 (.goto (-30)) 3 36 := ⟨by decide +kernel, rfl⟩
theorem d_9_put_36 : zD prog_11_method_4_code 36 (.return_) 1 37 := ⟨by decide +kernel, rfl⟩
theorem d_9_feed_0 : zD prog_11_method_3_code 0 (.aload_n 0) 1 1 := ⟨by decide +kernel, rfl⟩
theorem d_9_feed_1 : zD prog_11_method_3_code 1 (.getfield 166) 3 4 := ⟨by decide +kernel, rfl⟩
theorem d_9_feed_4 : zD prog_11_method_3_code 4 (.bipush 20) 2 6 := ⟨by decide +kernel, rfl⟩
theorem d_9_feed_6 : zD prog_11_method_3_code 6 (.iadd) 1 7 := ⟨by decide +kernel, rfl⟩
theorem d_9_feed_7 : zD prog_11_method_3_code 7 (.sipush 2000) 3 10 := ⟨by decide +kernel, rfl⟩
theorem d_9_feed_10 : zD prog_11_method_3_code 10 (.if_icmp .le 5) 3 13 := ⟨by decide +kernel, rfl⟩
theorem d_9_feed_13 : zD prog_11_method_3_code 13 (.iconst (-1)) 1 14 := ⟨by decide +kernel, rfl⟩
theorem d_9_feed_14 : zD prog_11_method_3_code 14 (.ireturn) 1 15 := ⟨by decide +kernel, rfl⟩
theorem d_9_feed_15 : zD prog_11_method_3_code 15 (.aload_n 0) 1 16 := ⟨by decide +kernel, rfl⟩
theorem d_9_feed_16 : zD prog_11_method_3_code 16 (.iload_n 1) 1 17 := ⟨by decide +kernel, rfl⟩
theorem d_9_feed_17 : zD prog_11_method_3_code 17 (.invokevirtual 169) 3 20 := ⟨by decide +kernel, rfl⟩
theorem d_9_feed_20 : zD prog_11_method_3_code 20 (.aload_n 0) 1 21 := ⟨by decide +kernel, rfl⟩
theorem d_9_feed_21 : zD prog_11_method_3_code 21 (.iload_n 2) 1 22 := ⟨by decide +kernel, rfl⟩
theorem d_9_feed_22 : zD prog_11_method_3_code 22 (.invokevirtual 169) 3 25 := ⟨by decide +kernel, rfl⟩
theorem d_9_feed_25 : zD prog_11_method_3_code 25 (.aload_n 0) 1 26 := ⟨by decide +kernel, rfl⟩
theorem d_9_feed_26 : zD prog_11_method_3_code 26 (.iload_n 3) 1 27 := ⟨by decide +kernel, rfl⟩
theorem d_9_feed_27 : zD prog_11_method_3_code 27 (.invokevirtual 169) 3 30 := ⟨by decide +kernel, rfl⟩
theorem d_9_feed_30 : zD prog_11_method_3_code 30 (.aload_n 0) 1 31 := ⟨by decide +kernel, rfl⟩
theorem d_9_feed_31 : zD prog_11_method_3_code 31 (.iload 4) 2 33 := ⟨by decide +kernel, rfl⟩
theorem d_9_feed_33 : zD prog_11_method_3_code 33 (.invokevirtual 169) 3 36 := ⟨by decide +kernel, rfl⟩
theorem d_9_feed_36 : zD prog_11_method_3_code 36 (.aload_n 0) 1 37 := ⟨by decide +kernel, rfl⟩
theorem d_9_feed_37 : zD prog_11_method_3_code 37 (.iload 5) 2 39 := ⟨by decide +kernel, rfl⟩
theorem d_9_feed_39 : zD prog_11_method_3_code 39 (.invokevirtual 169) 3 42 := ⟨by decide +kernel, rfl⟩
theorem d_9_feed_42 : zD prog_11_method_3_code 42 (.aload_n 0) 1 43 := ⟨by decide +kernel, rfl⟩
theorem d_9_feed_43 : zD prog_11_method_3_code 43 (.getfield 166) 3 46 := ⟨by decide +kernel, rfl⟩
theorem d_9_feed_46 : zD prog_11_method_3_code 46 (.ireturn) 1 47 := ⟨by decide +kernel, rfl⟩
theorem d_9_back_0 : zD prog_11_method_5_code 0 (.iload_n 1) 1 1 := ⟨by decide +kernel, rfl⟩
theorem d_9_back_1 : zD prog_11_method_5_code 1 (.ifCond .lt 11) 3 4 := ⟨by decide +kernel, rfl⟩
theorem d_9_back_4 : zD prog_11_method_5_code 4 (.iload_n 1) 1 5 := ⟨by decide +kernel, rfl⟩
theorem d_9_back_5 : zD prog_11_method_5_code 5 (.aload_n 0) 1 6 := ⟨by decide +kernel, rfl⟩
theorem d_9_back_6 : zD prog_11_method_5_code 6 (.getfield 166) 3 9 := ⟨by decide +kernel, rfl⟩
theorem d_9_back_9 : zD prog_11_method_5_code 9 (.if_icmp .le 5) 3 12 := ⟨by decide +kernel, rfl⟩
theorem d_9_back_12 : zD prog_11_method_5_code 12 (.iconst (-1)) 1 13 := ⟨by decide +kernel, rfl⟩
theorem d_9_back_13 : zD prog_11_method_5_code 13 (.ireturn) 1 14 := ⟨by decide +kernel, rfl⟩
theorem d_9_back_14 : zD prog_11_method_5_code 14 (.aload_n 0) 1 15 := ⟨by decide +kernel, rfl⟩
theorem d_9_back_15 : zD prog_11_method_5_code 15 (.dup) 1 16 := ⟨by decide +kernel, rfl⟩
theorem d_9_back_16 : zD prog_11_method_5_code 16 (.getfield 166) 3 19 := ⟨by decide +kernel, rfl⟩
theorem d_9_back_19 : zD prog_11_method_5_code 19 (.iload_n 1) 1 20 := ⟨by decide +kernel, rfl⟩
theorem d_9_back_20 : zD prog_11_method_5_code 20 (.isub) 1 21 := ⟨by decide +kernel, rfl⟩
theorem d_9_back_21 : zD prog_11_method_5_code 21 (.putfield 166) 3 24 := ⟨by decide +kernel, rfl⟩
theorem d_9_back_24 : zD prog_11_method_5_code 24 (.aload_n 0) 1 25 := ⟨by decide +kernel, rfl⟩
theorem d_9_back_25 : zD prog_11_method_5_code 25 (.getfield 166) 3 28 := ⟨by decide +kernel, rfl⟩
theorem d_9_back_28 : zD prog_11_method_5_code 28 (.ireturn) 1 29 := ⟨by decide +kernel, rfl⟩
theorem d_9_byteAt_0 : zD prog_11_method_6_code 0 (.iload_n 1) 1 1 := ⟨by decide +kernel, rfl⟩
theorem d_9_byteAt_1 : zD prog_11_method_6_code 1 (.aload_n 0) 1 2 := ⟨by decide +kernel, rfl⟩
theorem d_9_byteAt_2 : zD prog_11_method_6_code 2 (.getfield 172) 3 5 := ⟨by decide +kernel, rfl⟩
theorem d_9_byteAt_5 : zD prog_11_method_6_code 5 (.if_icmp .ge 16) 3 8 := ⟨by decide +kernel, rfl⟩
theorem d_9_byteAt_8 : zD prog_11_method_6_code 8 (.aload_n 0) 1 9 := ⟨by decide +kernel, rfl⟩
theorem d_9_byteAt_9 : zD prog_11_method_6_code 9 (.getfield 17) 3 12 := ⟨by decide +kernel, rfl⟩
theorem d_9_byteAt_12 : zD prog_11_method_6_code 12 (.iload_n 1) 1 13 := ⟨by decide +kernel, rfl⟩
theorem d_9_byteAt_13 : zD prog_11_method_6_code 13 (.baload) 1 14 := ⟨by decide +kernel, rfl⟩
theorem d_9_byteAt_14 : zD prog_11_method_6_code 14 (.sipush 255) 3 17 := ⟨by decide +kernel, rfl⟩
theorem d_9_byteAt_17 : zD prog_11_method_6_code 17 (.iand) 1 18 := ⟨by decide +kernel, rfl⟩
theorem d_9_byteAt_18 : zD prog_11_method_6_code 18 (.goto 4) 3 21 := ⟨by decide +kernel, rfl⟩
theorem d_9_byteAt_21 : zD prog_11_method_6_code 21 (.iconst 0) 1 22 := ⟨by decide +kernel, rfl⟩
theorem d_9_byteAt_22 : zD prog_11_method_6_code 22 (.ireturn) 1 23 := ⟨by decide +kernel, rfl⟩
theorem d_9_isDigit_0 : zD prog_11_method_7_code 0 (.iload_n 0) 1 1 := ⟨by decide +kernel, rfl⟩
theorem d_9_isDigit_1 : zD prog_11_method_7_code 1 (.bipush 48) 2 3 := ⟨by decide +kernel, rfl⟩
theorem d_9_isDigit_3 : zD prog_11_method_7_code 3 (.if_icmp .lt 13) 3 6 := ⟨by decide +kernel, rfl⟩
theorem d_9_isDigit_6 : zD prog_11_method_7_code 6 (.iload_n 0) 1 7 := ⟨by decide +kernel, rfl⟩
theorem d_9_isDigit_7 : zD prog_11_method_7_code 7 (.bipush 57) 2 9 := ⟨by decide +kernel, rfl⟩
theorem d_9_isDigit_9 : zD prog_11_method_7_code 9 (.if_icmp .gt 7) 3 12 := ⟨by decide +kernel, rfl⟩
theorem d_9_isDigit_12 : zD prog_11_method_7_code 12 (.iconst 1) 1 13 := ⟨by decide +kernel, rfl⟩
theorem d_9_isDigit_13 : zD prog_11_method_7_code 13 (.goto 4) 3 16 := ⟨by decide +kernel, rfl⟩
theorem d_9_isDigit_16 : zD prog_11_method_7_code 16 (.iconst 0) 1 17 := ⟨by decide +kernel, rfl⟩
theorem d_9_isDigit_17 : zD prog_11_method_7_code 17 (.ireturn) 1 18 := ⟨by decide +kernel, rfl⟩
theorem d_9_isLetter_0 : zD prog_11_method_8_code 0 (.iload_n 0) 1 1 := ⟨by decide +kernel, rfl⟩
theorem d_9_isLetter_1 : zD prog_11_method_8_code 1 (.bipush 97) 2 3 := ⟨by decide +kernel, rfl⟩
theorem d_9_isLetter_3 : zD prog_11_method_8_code 3 (.if_icmp .lt 13) 3 6 := ⟨by decide +kernel, rfl⟩
theorem d_9_isLetter_6 : zD prog_11_method_8_code 6 (.iload_n 0) 1 7 := ⟨by decide +kernel, rfl⟩
theorem d_9_isLetter_7 : zD prog_11_method_8_code 7 (.bipush 122) 2 9 := ⟨by decide +kernel, rfl⟩
theorem d_9_isLetter_9 : zD prog_11_method_8_code 9 (.if_icmp .gt 7) 3 12 := ⟨by decide +kernel, rfl⟩
theorem d_9_isLetter_12 : zD prog_11_method_8_code 12 (.iconst 1) 1 13 := ⟨by decide +kernel, rfl⟩
theorem d_9_isLetter_13 : zD prog_11_method_8_code 13 (.goto 4) 3 16 := ⟨by decide +kernel, rfl⟩
theorem d_9_isLetter_16 : zD prog_11_method_8_code 16 (.iconst 0) 1 17 := ⟨by decide +kernel, rfl⟩
theorem d_9_isLetter_17 : zD prog_11_method_8_code 17 (.ireturn) 1 18 := ⟨by decide +kernel, rfl⟩
theorem d_9_token_0 : zD prog_11_method_11_code 0 (.aload_n 0) 1 1 := ⟨by decide +kernel, rfl⟩
theorem d_9_token_1 : zD prog_11_method_11_code 1 (.getfield 20) 3 4 := ⟨by decide +kernel, rfl⟩
theorem d_9_token_4 : zD prog_11_method_11_code 4 (.aload_n 0) 1 5 := ⟨by decide +kernel, rfl⟩
theorem d_9_token_5 : zD prog_11_method_11_code 5 (.getfield 181) 3 8 := ⟨by decide +kernel, rfl⟩
theorem d_9_token_8 : zD prog_11_method_11_code 8 (.iload_n 1) 1 9 := ⟨by decide +kernel, rfl⟩
theorem d_9_token_9 : zD prog_11_method_11_code 9 (.iastore) 1 10 := ⟨by decide +kernel, rfl⟩
theorem d_9_token_10 : zD prog_11_method_11_code 10 (.aload_n 0) 1 11 := ⟨by decide +kernel, rfl⟩
theorem d_9_token_11 : zD prog_11_method_11_code 11 (.getfield 24) 3 14 := ⟨by decide +kernel, rfl⟩
theorem d_9_token_14 : zD prog_11_method_11_code 14 (.aload_n 0) 1 15 := ⟨by decide +kernel, rfl⟩
theorem d_9_token_15 : zD prog_11_method_11_code 15 (.getfield 181) 3 18 := ⟨by decide +kernel, rfl⟩
theorem d_9_token_18 : zD prog_11_method_11_code 18 (.iload_n 2) 1 19 := ⟨by decide +kernel, rfl⟩
theorem d_9_token_19 : zD prog_11_method_11_code 19 (.iastore) 1 20 := ⟨by decide +kernel, rfl⟩
theorem d_9_token_20 : zD prog_11_method_11_code 20 (.aload_n 0) 1 21 := ⟨by decide +kernel, rfl⟩
theorem d_9_token_21 : zD prog_11_method_11_code 21 (.getfield 27) 3 24 := ⟨by decide +kernel, rfl⟩
theorem d_9_token_24 : zD prog_11_method_11_code 24 (.aload_n 0) 1 25 := ⟨by decide +kernel, rfl⟩
theorem d_9_token_25 : zD prog_11_method_11_code 25 (.getfield 181) 3 28 := ⟨by decide +kernel, rfl⟩
theorem d_9_token_28 : zD prog_11_method_11_code 28 (.iload_n 3) 1 29 := ⟨by decide +kernel, rfl⟩
theorem d_9_token_29 : zD prog_11_method_11_code 29 (.iastore) 1 30 := ⟨by decide +kernel, rfl⟩
theorem d_9_token_30 : zD prog_11_method_11_code 30 (.aload_n 0) 1 31 := ⟨by decide +kernel, rfl⟩
theorem d_9_token_31 : zD prog_11_method_11_code 31 (.getfield 30) 3 34 := ⟨by decide +kernel, rfl⟩
theorem d_9_token_34 : zD prog_11_method_11_code 34 (.aload_n 0) 1 35 := ⟨by decide +kernel, rfl⟩
theorem d_9_token_35 : zD prog_11_method_11_code 35 (.getfield 181) 3 38 := ⟨by decide +kernel, rfl⟩
theorem d_9_token_38 : zD prog_11_method_11_code 38 (.lload 4) 2 40 := ⟨by decide +kernel, rfl⟩
theorem d_9_token_40 : zD prog_11_method_11_code 40 (.lastore) 1 41 := ⟨by decide +kernel, rfl⟩
theorem d_9_token_41 : zD prog_11_method_11_code 41 (.aload_n 0) 1 42 := ⟨by decide +kernel, rfl⟩
theorem d_9_token_42 : zD prog_11_method_11_code 42 (.dup) 1 43 := ⟨by decide +kernel, rfl⟩
theorem d_9_token_43 : zD prog_11_method_11_code 43 (.getfield 181) 3 46 := ⟨by decide +kernel, rfl⟩
theorem d_9_token_46 : zD prog_11_method_11_code 46 (.iconst 1) 1 47 := ⟨by decide +kernel, rfl⟩
theorem d_9_token_47 : zD prog_11_method_11_code 47 (.iadd) 1 48 := ⟨by decide +kernel, rfl⟩
theorem d_9_token_48 : zD prog_11_method_11_code 48 (.putfield 181) 3 51 := ⟨by decide +kernel, rfl⟩
theorem d_9_token_51 : zD prog_11_method_11_code 51 (.return_) 1 52 := ⟨by decide +kernel, rfl⟩
theorem d_9_sign_0 : zD prog_11_method_13_code 0 (.iload_n 2) 1 1 := ⟨by decide +kernel, rfl⟩
theorem d_9_sign_1 : zD prog_11_method_13_code 1 (.bipush 59) 2 3 := ⟨by decide +kernel, rfl⟩
theorem d_9_sign_3 : zD prog_11_method_13_code 3 (.if_icmp .ne 7) 3 6 := ⟨by decide +kernel, rfl⟩
theorem d_9_sign_6 : zD prog_11_method_13_code 6 (.iconst 4) 1 7 := ⟨by decide +kernel, rfl⟩
theorem d_9_sign_7 : zD prog_11_method_13_code 7 (.goto 36) 3 10 := ⟨by decide +kernel, rfl⟩
theorem d_9_sign_10 : zD prog_11_method_13_code 10 (.iload_n 2) 1 11 := ⟨by decide +kernel, rfl⟩
theorem d_9_sign_11 : zD prog_11_method_13_code 11 (.bipush 61) 2 13 := ⟨by decide +kernel, rfl⟩
theorem d_9_sign_13 : zD prog_11_method_13_code 13 (.if_icmp .ne 7) 3 16 := ⟨by decide +kernel, rfl⟩
theorem d_9_sign_16 : zD prog_11_method_13_code 16 (.iconst 5) 1 17 := ⟨by decide +kernel, rfl⟩
theorem d_9_sign_17 : zD prog_11_method_13_code 17 (.goto 26) 3 20 := ⟨by decide +kernel, rfl⟩
theorem d_9_sign_20 : zD prog_11_method_13_code 20 (.iload_n 2) 1 21 := ⟨by decide +kernel, rfl⟩
theorem d_9_sign_21 : zD prog_11_method_13_code 21 (.bipush 40) 2 23 := ⟨by decide +kernel, rfl⟩
theorem d_9_sign_23 : zD prog_11_method_13_code 23 (.if_icmp .ne 8) 3 26 := ⟨by decide +kernel, rfl⟩
theorem d_9_sign_26 : zD prog_11_method_13_code 26 (.bipush 6) 2 28 := ⟨by decide +kernel, rfl⟩
theorem d_9_sign_28 : zD prog_11_method_13_code 28 (.goto 15) 3 31 := ⟨by decide +kernel, rfl⟩
theorem d_9_sign_31 : zD prog_11_method_13_code 31 (.iload_n 2) 1 32 := ⟨by decide +kernel, rfl⟩
theorem d_9_sign_32 : zD prog_11_method_13_code 32 (.bipush 41) 2 34 := ⟨by decide +kernel, rfl⟩
theorem d_9_sign_34 : zD prog_11_method_13_code 34 (.if_icmp .ne 8) 3 37 := ⟨by decide +kernel, rfl⟩
theorem d_9_sign_37 : zD prog_11_method_13_code 37 (.bipush 7) 2 39 := ⟨by decide +kernel, rfl⟩
theorem d_9_sign_39 : zD prog_11_method_13_code 39 (.goto 4) 3 42 := ⟨by decide +kernel, rfl⟩
theorem d_9_sign_42 : zD prog_11_method_13_code 42 (.iconst 3) 1 43 := ⟨by decide +kernel, rfl⟩
theorem d_9_sign_43 : zD prog_11_method_13_code 43 (.istore 4) 2 45 := ⟨by decide +kernel, rfl⟩
theorem d_9_sign_45 : zD prog_11_method_13_code 45 (.iload_n 2) 1 46 := ⟨by decide +kernel, rfl⟩
theorem d_9_sign_46 : zD prog_11_method_13_code 46 (.bipush 43) 2 48 := ⟨by decide +kernel, rfl⟩
theorem d_9_sign_48 : zD prog_11_method_13_code 48 (.if_icmp .ne 7) 3 51 := ⟨by decide +kernel, rfl⟩
theorem d_9_sign_51 : zD prog_11_method_13_code 51 (.bipush 8) 2 53 := ⟨by decide +kernel, rfl⟩
theorem d_9_sign_53 : zD prog_11_method_13_code 53 (.istore 4) 2 55 := ⟨by decide +kernel, rfl⟩
theorem d_9_sign_55 : zD prog_11_method_13_code 55 (.iload_n 2) 1 56 := ⟨by decide +kernel, rfl⟩
theorem d_9_sign_56 : zD prog_11_method_13_code 56 (.bipush 45) 2 58 := ⟨by decide +kernel, rfl⟩
theorem d_9_sign_58 : zD prog_11_method_13_code 58 (.if_icmp .ne 7) 3 61 := ⟨by decide +kernel, rfl⟩
theorem d_9_sign_61 : zD prog_11_method_13_code 61 (.bipush 9) 2 63 := ⟨by decide +kernel, rfl⟩
theorem d_9_sign_63 : zD prog_11_method_13_code 63 (.istore 4) 2 65 := ⟨by decide +kernel, rfl⟩
theorem d_9_sign_65 : zD prog_11_method_13_code 65 (.iload_n 2) 1 66 := ⟨by decide +kernel, rfl⟩
theorem d_9_sign_66 : zD prog_11_method_13_code 66 (.bipush 42) 2 68 := ⟨by decide +kernel, rfl⟩
theorem d_9_sign_68 : zD prog_11_method_13_code 68 (.if_icmp .ne 7) 3 71 := ⟨by decide +kernel, rfl⟩
theorem d_9_sign_71 : zD prog_11_method_13_code 71 (.bipush 10) 2 73 := ⟨by decide +kernel, rfl⟩
theorem d_9_sign_73 : zD prog_11_method_13_code 73 (.istore 4) 2 75 := ⟨by decide +kernel, rfl⟩
theorem d_9_sign_75 : zD prog_11_method_13_code 75 (.iload_n 2) 1 76 := ⟨by decide +kernel, rfl⟩
theorem d_9_sign_76 : zD prog_11_method_13_code 76 (.bipush 47) 2 78 := ⟨by decide +kernel, rfl⟩
theorem d_9_sign_78 : zD prog_11_method_13_code 78 (.if_icmp .ne 7) 3 81 := ⟨by decide +kernel, rfl⟩
theorem d_9_sign_81 : zD prog_11_method_13_code 81 (.bipush 15) 2 83 := ⟨by decide +kernel, rfl⟩
theorem d_9_sign_83 : zD prog_11_method_13_code 83 (.istore 4) 2 85 := ⟨by decide +kernel, rfl⟩
theorem d_9_sign_85 : zD prog_11_method_13_code 85 (.iload_n 2) 1 86 := ⟨by decide +kernel, rfl⟩
theorem d_9_sign_86 : zD prog_11_method_13_code 86 (.bipush 60) 2 88 := ⟨by decide +kernel, rfl⟩
theorem d_9_sign_88 : zD prog_11_method_13_code 88 (.if_icmp .ne 7) 3 91 := ⟨by decide +kernel, rfl⟩
theorem d_9_sign_91 : zD prog_11_method_13_code 91 (.bipush 13) 2 93 := ⟨by decide +kernel, rfl⟩
theorem d_9_sign_93 : zD prog_11_method_13_code 93 (.istore 4) 2 95 := ⟨by decide +kernel, rfl⟩
theorem d_9_sign_95 : zD prog_11_method_13_code 95 (.aload_n 0) 1 96 := ⟨by decide +kernel, rfl⟩
theorem d_9_sign_96 : zD prog_11_method_13_code 96 (.iload 4) 2 98 := ⟨by decide +kernel, rfl⟩
theorem d_9_sign_98 : zD prog_11_method_13_code 98 (.iload_n 1) 1 99 := ⟨by decide +kernel, rfl⟩
theorem d_9_sign_99 : zD prog_11_method_13_code 99 (.iconst 0) 1 100 := ⟨by decide +kernel, rfl⟩
theorem d_9_sign_100 : zD prog_11_method_13_code 100 (.lconst 0) 1 101 := ⟨by decide +kernel, rfl⟩
theorem d_9_sign_101 : zD prog_11_method_13_code 101 (.invokevirtual 188) 3 104 := ⟨by decide +kernel, rfl⟩
theorem d_9_sign_104 : zD prog_11_method_13_code 104 (.iconst 1) 1 105 := ⟨by decide +kernel, rfl⟩
theorem d_9_sign_105 : zD prog_11_method_13_code 105 (.ireturn) 1 106 := ⟨by decide +kernel, rfl⟩
def f8_bound_L12 (μ : zMem) : (Int32 × Int32) → Option ((Int32 × Int32) ⊕ (Int32)) := (z_u2 fun x13 x14 => 
  (if x14 < (μ.1 6 (μ.2.2 8 0 3) 0) then if z_in x14 5 = true then z_let ((μ.1 25 0 x14.toNatClampNeg) &&& (f5_alive 0 μ)) fun v18 => ((if (v18 &&& x13) = 0 then some x13 else some (x13 ||| v18)) : Option (Int32)).bind (fun j23 => some (.inl (j23, (x14 + (1 : Int32))))) else none else some (.inr x13)))
def f8_bound_L8 (μ : zMem) : (Int32 × Int32) → Option ((Int32 × Int32) ⊕ (Int32)) := (z_u2 fun x9 x10 => 
  (if x10 < (7 : Int32) then (z_it (f8_bound_L12 μ) z_fu (x9, (0 : Int32))).bind (fun e24 => some (.inl (e24, (x10 + (1 : Int32))))) else some (.inr x9)))
def f8_bound (a1 : Int32) (μ : zMem) : Option (Int32) :=
  (if (f8_isPerson a1 μ) = 0 then some (-1 : Int32) else (if (f8_has (f5_alive 0 μ) a1) = 0 then some (-1 : Int32) else z_let ((1 : Int32) <<< (a1 &&& 31)) fun v6 => (z_it (f8_bound_L8 μ) z_fu (v6, (0 : Int32))).bind (fun e26 => some e26)))
theorem s8_bound_L12 {P : zP} {ro : Option zV} {μo : zMem} (μ : zMem) (x10 : Int32) (x13 : Int32) (x14 : Int32) (K : (Int32 × Int32) ⊕ (Int32)) (h : f8_bound_L12 μ (x13, x14) = some K) (hI : ∀ (y0 : Int32) (y1 : Int32), K = .inl (y0, y1) → z_RQ P M_8_bound (z_rm 2) (z_mq P ro μo) 0 0 39 [some (zA 8 0), none, some (zI y0), some (zI x10), some (zI y1), none] [] μ) (hE : ∀ (z0 : Int32), K = .inr z0 → z_RQ P M_8_bound (z_rm 2) (z_mq P ro μo) 0 0 89 [some (zA 8 0), none, some (zI z0), some (zI x10), none, none] [] μ)  : z_RQ P M_8_bound (z_rm 2) (z_mq P ro μo) 0 0 39 [some (zA 8 0), none, some (zI x13), some (zI x10), some (zI x14), none] [] μ := by
  unfold f8_bound_L12 at h
  replace h := z_h2 h
  refine zr_iload d_8_bound_39 rfl ?_
  refine zr_aload_n (i := 0) d_8_bound_41 rfl rfl ?_
  refine zr_getd d_8_bound_42 fw_8_27 ?_
  refine zr_geti d_8_bound_45 fw_8_156 (by decide) ?_
  refine zr_icmp_ge (tgt := 89) d_8_bound_48 rfl (fun hc15 => ?_) (fun hc15 => ?_)
  · replace h := z_ip h hc15
    refine zr_aload_n (i := 0) d_8_bound_51 rfl rfl ?_
    refine zr_gets (i' := 0) d_8_bound_52 fw_8_34 rfl ?_
    refine zr_gets (i' := 0) d_8_bound_55 fw_8_120 rfl ?_
    refine zr_iload d_8_bound_58 rfl ?_
    obtain ⟨hb16, h⟩ := z_gd h
    refine zr_iald d_8_bound_60 sa_25 rfl hb16 ?_
    refine zr_aload_n (i := 0) d_8_bound_61 rfl rfl ?_
    refine zr_gets (i' := 0) d_8_bound_62 fw_8_34 rfl ?_
    refine zr_callVi (av := []) (st := [zI (μ.1 25 0 x14.toNatClampNeg)]) d_8_bound_65 mw_5_alive ml_8_183 im_5_alive se_5_alive rfl rfl (Nat.le_of_ble_eq_true rfl) fit_1_1_2 rfl rfl rfl (s5_alive rfl) ?_
    refine zr_iand d_8_bound_68 ?_
    obtain ⟨v18, hv19, h⟩ := z_lt h
    refine zr_nm hv19 ?_
    refine zr_istore (i := 5) (l' := [some (zA 8 0), none, some (zI x13), some (zI x10), some (zI x14), some (zI v18)]) d_8_bound_69 (by decide) rfl ?_
    refine zr_iload d_8_bound_71 rfl ?_
    refine zr_iload_n (i := 2) d_8_bound_73 rfl rfl ?_
    refine zr_iand d_8_bound_74 ?_
    obtain ⟨j23, hT20, h⟩ := z_bd h
    have hJ21 : z_RQ P M_8_bound (z_rm 2) (z_mq P ro μo) 0 0 83 [some (zA 8 0), none, some (zI j23), some (zI x10), some (zI x14), none] [] μ := by
      refine zr_iinc (v := (x14 + (1 : Int32))) (l' := [some (zA 8 0), none, some (zI j23), some (zI x10), some (zI (x14 + (1 : Int32))), none]) d_8_bound_83 (by decide) rfl rfl rfl ?_
      refine zr_goto (tgt := 39) d_8_bound_86 rfl ?_
      obtain rfl := Option.some.inj h
      exact zr_wk2 (hI j23 (x14 + (1 : Int32)) rfl) ⟨rfl, ⟨rfl, ⟨rfl, ⟨rfl, trivial⟩⟩⟩⟩
    refine zr_if_eq (tgt := 83) d_8_bound_75 rfl (fun hc22 => ?_) (fun hc22 => ?_)
    · replace hT20 := z_ip hT20 hc22
      obtain rfl := Option.some.inj hT20
      exact zr_wk2 hJ21 ⟨rfl, ⟨rfl, ⟨rfl, ⟨rfl, trivial⟩⟩⟩⟩
    · replace hT20 := z_im hT20 hc22
      refine zr_iload_n (i := 2) d_8_bound_78 rfl rfl ?_
      refine zr_iload d_8_bound_79 rfl ?_
      refine zr_ior d_8_bound_81 ?_
      refine zr_istore_n (i := 2) (l' := [some (zA 8 0), none, some (zI (x13 ||| v18)), some (zI x10), some (zI x14), some (zI v18)]) d_8_bound_82 rfl (by decide) rfl ?_
      obtain rfl := Option.some.inj hT20
      exact zr_wk2 hJ21 ⟨rfl, ⟨rfl, ⟨rfl, ⟨rfl, trivial⟩⟩⟩⟩
  · replace h := z_im h hc15
    obtain rfl := Option.some.inj h
    exact zr_wk2 (hE x13 rfl) ⟨rfl, ⟨rfl, ⟨rfl, trivial⟩⟩⟩
theorem s8_bound_L8 {P : zP} {ro : Option zV} {μo : zMem} (μ : zMem) (x9 : Int32) (x10 : Int32) (K : (Int32 × Int32) ⊕ (Int32)) (h : f8_bound_L8 μ (x9, x10) = some K) (hI : ∀ (y0 : Int32) (y1 : Int32), K = .inl (y0, y1) → z_RQ P M_8_bound (z_rm 2) (z_mq P ro μo) 0 0 30 [some (zA 8 0), none, some (zI y0), some (zI y1), none, none] [] μ) (hE : ∀ (z0 : Int32), K = .inr z0 → z_RQ P M_8_bound (z_rm 2) (z_mq P ro μo) 0 0 95 [none, none, some (zI z0), none, none, none] [] μ)  : z_RQ P M_8_bound (z_rm 2) (z_mq P ro μo) 0 0 30 [some (zA 8 0), none, some (zI x9), some (zI x10), none, none] [] μ := by
  unfold f8_bound_L8 at h
  replace h := z_h2 h
  refine zr_iload_n (i := 3) d_8_bound_30 rfl rfl ?_
  refine zr_bipush (v := (7 : Int32)) d_8_bound_31 rfl ?_
  refine zr_icmp_ge (tgt := 95) d_8_bound_33 rfl (fun hc11 => ?_) (fun hc11 => ?_)
  · replace h := z_ip h hc11
    refine zr_iconst (v := (0 : Int32)) d_8_bound_36 rfl ?_
    refine zr_istore (i := 4) (l' := [some (zA 8 0), none, some (zI x9), some (zI x10), some (zI (0 : Int32)), none]) d_8_bound_37 (by decide) rfl ?_
    obtain ⟨e24, hl25, h⟩ := z_bd h
    refine zr_wk (l' := [some (zA 8 0), none, some (zI x9), some (zI x10), some (zI (0 : Int32)), none]) ⟨rfl, ⟨rfl, ⟨rfl, ⟨rfl, trivial⟩⟩⟩⟩ ?_
    refine z_loop (Hd := (z_u2 fun y0 y1 => z_RQ P M_8_bound (z_rm 2) (z_mq P ro μo) 0 0 39 [some (zA 8 0), none, some (zI y0), some (zI x10), some (zI y1), none] [] μ)) (Ex := (fun z0 => z_RQ P M_8_bound (z_rm 2) (z_mq P ro μo) 0 0 89 [some (zA 8 0), none, some (zI z0), some (zI x10), none, none] [] μ)) (fun ⟨x13, x14⟩ K h hI hE => s8_bound_L12 μ x10 x13 x14 K h (fun y0 y1 e => hI (y0, y1) e) (fun z0 e => hE z0 e) ) _ _ _ hl25 ?_
    refine zr_iinc (v := (x10 + (1 : Int32))) (l' := [some (zA 8 0), none, some (zI e24), some (zI (x10 + (1 : Int32))), none, none]) d_8_bound_89 (by decide) rfl rfl rfl ?_
    refine zr_goto (tgt := 30) d_8_bound_92 rfl ?_
    obtain rfl := Option.some.inj h
    exact zr_wk2 (hI e24 (x10 + (1 : Int32)) rfl) ⟨rfl, ⟨rfl, ⟨rfl, trivial⟩⟩⟩
  · replace h := z_im h hc11
    obtain rfl := Option.some.inj h
    exact zr_wk2 (hE x9 rfl) ⟨rfl, trivial⟩
theorem s8_bound {P : zP} {μ : zMem} {a1 : Int32} {r : Int32} (h : f8_bound a1 μ = some r) : z_Sp P y_8_bound M_8_bound 2 [zA 8 0, zI a1] μ (some (zI r)) μ := by
  refine z_Sp.of (plainFor_of_name (by decide)) rfl (l0 := [some (zA 8 0), some (zI a1), none, none, none, none]) rfl (Nat.le_of_ble_eq_true rfl) ?_
  unfold f8_bound at h
  refine zr_aload_n (i := 0) d_8_bound_0 rfl rfl ?_
  refine zr_iload_n (i := 1) d_8_bound_1 rfl rfl ?_
  refine zr_callVi (av := [zI a1]) (st := []) d_8_bound_2 mw_8_isPerson ml_8_131 im_8_isPerson se_8_isPerson rfl rfl (Nat.le_of_ble_eq_true rfl) fit_1_2_2 rfl rfl rfl (s8_isPerson rfl) ?_
  refine zr_if_eq (tgt := 22) d_8_bound_5 rfl (fun hc2 => ?_) (fun hc2 => ?_)
  · replace h := z_ip h hc2
    refine zr_iconst (v := (-1 : Int32)) d_8_bound_22 rfl ?_
    obtain rfl := Option.some.inj h
    exact ze_i d_8_bound_23 rfl
  · replace h := z_im h hc2
    refine zr_aload_n (i := 0) d_8_bound_8 rfl rfl ?_
    refine zr_gets (i' := 0) d_8_bound_9 fw_8_34 rfl ?_
    refine zr_callVi (av := []) (st := []) d_8_bound_12 mw_5_alive ml_8_183 im_5_alive se_5_alive rfl rfl (Nat.le_of_ble_eq_true rfl) fit_1_1_2 rfl rfl rfl (s5_alive rfl) ?_
    refine zr_iload_n (i := 1) d_8_bound_15 rfl rfl ?_
    refine zr_callSi (av := [zI (f5_alive 0 μ), zI a1]) (st := []) d_8_bound_16 mw_8_has ml_8_159 is_8_has rfl rfl (Nat.le_of_ble_eq_true rfl) fit_1_2_2 (s8_has rfl) ?_
    refine zr_if_ne (tgt := 24) d_8_bound_19 rfl (fun hc5 => ?_) (fun hc5 => ?_)
    · replace h := z_ip h hc5
      refine zr_iconst (v := (-1 : Int32)) d_8_bound_22 rfl ?_
      obtain rfl := Option.some.inj h
      exact ze_i d_8_bound_23 rfl
    · replace h := z_im h hc5
      refine zr_iconst (v := (1 : Int32)) d_8_bound_24 rfl ?_
      refine zr_iload_n (i := 1) d_8_bound_25 rfl rfl ?_
      refine zr_ishl d_8_bound_26 ?_
      obtain ⟨v6, hv7, h⟩ := z_lt h
      refine zr_nm hv7 ?_
      refine zr_istore_n (i := 2) (l' := [some (zA 8 0), some (zI a1), some (zI v6), none, none, none]) d_8_bound_27 rfl (by decide) rfl ?_
      refine zr_iconst (v := (0 : Int32)) d_8_bound_28 rfl ?_
      refine zr_istore_n (i := 3) (l' := [some (zA 8 0), some (zI a1), some (zI v6), some (zI (0 : Int32)), none, none]) d_8_bound_29 rfl (by decide) rfl ?_
      obtain ⟨e26, hl27, h⟩ := z_bd h
      refine zr_wk (l' := [some (zA 8 0), none, some (zI v6), some (zI (0 : Int32)), none, none]) ⟨rfl, ⟨rfl, ⟨rfl, trivial⟩⟩⟩ ?_
      refine z_loop (Hd := (z_u2 fun y0 y1 => z_RQ P M_8_bound (z_rm 2) (z_mq P (some (zI r)) μ) 0 0 30 [some (zA 8 0), none, some (zI y0), some (zI y1), none, none] [] μ)) (Ex := (fun z0 => z_RQ P M_8_bound (z_rm 2) (z_mq P (some (zI r)) μ) 0 0 95 [none, none, some (zI z0), none, none, none] [] μ)) (fun ⟨x9, x10⟩ K h hI hE => s8_bound_L8 μ x9 x10 K h (fun y0 y1 e => hI (y0, y1) e) (fun z0 e => hE z0 e) ) _ _ _ hl27 ?_
      refine zr_iload_n (i := 2) d_8_bound_95 rfl rfl ?_
      obtain rfl := Option.some.inj h
      exact ze_i d_8_bound_96 rfl
def f8_idle_L1 (μ : zMem) : (Int32 × Int32) → Option ((Int32 × Int32) ⊕ (Int32)) := (z_u2 fun x2 x3 => 
  (if x3 < (μ.1 6 (μ.2.2 8 0 3) 0) then (f5_landlordOf 0 x3 μ).bind (fun q5 => ((if q5 < 0 then z_let (x2 ||| ((1 : Int32) <<< (x3 &&& 31))) fun v10 => some v10 else some x2) : Option (Int32)).bind (fun j12 => some (.inl (j12, (x3 + (1 : Int32)))))) else some (.inr x2)))
def f8_idle  (μ : zMem) : Option (Int32) :=
  (z_it (f8_idle_L1 μ) z_fu ((0 : Int32), (0 : Int32))).bind (fun e13 => some e13)
theorem s8_idle_L1 {P : zP} {ro : Option zV} {μo : zMem} (μ : zMem) (x2 : Int32) (x3 : Int32) (K : (Int32 × Int32) ⊕ (Int32)) (h : f8_idle_L1 μ (x2, x3) = some K) (hI : ∀ (y0 : Int32) (y1 : Int32), K = .inl (y0, y1) → z_RQ P M_8_idle (z_rm 4) (z_mq P ro μo) 0 0 4 [some (zA 8 0), some (zI y0), some (zI y1)] [] μ) (hE : ∀ (z0 : Int32), K = .inr z0 → z_RQ P M_8_idle (z_rm 4) (z_mq P ro μo) 0 0 38 [none, some (zI z0), none] [] μ)  : z_RQ P M_8_idle (z_rm 4) (z_mq P ro μo) 0 0 4 [some (zA 8 0), some (zI x2), some (zI x3)] [] μ := by
  unfold f8_idle_L1 at h
  replace h := z_h2 h
  refine zr_iload_n (i := 2) d_8_idle_4 rfl rfl ?_
  refine zr_aload_n (i := 0) d_8_idle_5 rfl rfl ?_
  refine zr_getd d_8_idle_6 fw_8_27 ?_
  refine zr_geti d_8_idle_9 fw_8_156 (by decide) ?_
  refine zr_icmp_ge (tgt := 38) d_8_idle_12 rfl (fun hc4 => ?_) (fun hc4 => ?_)
  · replace h := z_ip h hc4
    refine zr_aload_n (i := 0) d_8_idle_15 rfl rfl ?_
    refine zr_gets (i' := 0) d_8_idle_16 fw_8_34 rfl ?_
    refine zr_iload_n (i := 2) d_8_idle_19 rfl rfl ?_
    obtain ⟨q5, hq6, h⟩ := z_bd h
    refine zr_callVi (av := [zI x3]) (st := []) d_8_idle_20 mw_5_landlordOf ml_8_116 im_5_landlordOf se_5_landlordOf rfl rfl (Nat.le_of_ble_eq_true rfl) fit_3_2_4 rfl rfl rfl (s5_landlordOf hq6) ?_
    obtain ⟨j12, hT7, h⟩ := z_bd h
    have hJ8 : z_RQ P M_8_idle (z_rm 4) (z_mq P ro μo) 0 0 32 [some (zA 8 0), some (zI j12), some (zI x3)] [] μ := by
      refine zr_iinc (v := (x3 + (1 : Int32))) (l' := [some (zA 8 0), some (zI j12), some (zI (x3 + (1 : Int32)))]) d_8_idle_32 (by decide) rfl rfl rfl ?_
      refine zr_goto (tgt := 4) d_8_idle_35 rfl ?_
      obtain rfl := Option.some.inj h
      exact zr_wk2 (hI j12 (x3 + (1 : Int32)) rfl) ⟨rfl, ⟨rfl, ⟨rfl, trivial⟩⟩⟩
    refine zr_if_ge (tgt := 32) d_8_idle_23 rfl (fun hc9 => ?_) (fun hc9 => ?_)
    · replace hT7 := z_ip hT7 hc9
      refine zr_iload_n (i := 1) d_8_idle_26 rfl rfl ?_
      refine zr_iconst (v := (1 : Int32)) d_8_idle_27 rfl ?_
      refine zr_iload_n (i := 2) d_8_idle_28 rfl rfl ?_
      refine zr_ishl d_8_idle_29 ?_
      refine zr_ior d_8_idle_30 ?_
      obtain ⟨v10, hv11, hT7⟩ := z_lt hT7
      refine zr_nm hv11 ?_
      refine zr_istore_n (i := 1) (l' := [some (zA 8 0), some (zI v10), some (zI x3)]) d_8_idle_31 rfl (by decide) rfl ?_
      obtain rfl := Option.some.inj hT7
      exact zr_wk2 hJ8 ⟨rfl, ⟨rfl, ⟨rfl, trivial⟩⟩⟩
    · replace hT7 := z_im hT7 hc9
      obtain rfl := Option.some.inj hT7
      exact zr_wk2 hJ8 ⟨rfl, ⟨rfl, ⟨rfl, trivial⟩⟩⟩
  · replace h := z_im h hc4
    obtain rfl := Option.some.inj h
    exact zr_wk2 (hE x2 rfl) ⟨rfl, trivial⟩
theorem s8_idle {P : zP} {μ : zMem} {r : Int32} (h : f8_idle μ = some r) : z_Sp P y_8_idle M_8_idle 4 [zA 8 0] μ (some (zI r)) μ := by
  refine z_Sp.of (plainFor_of_name (by decide)) rfl (l0 := [some (zA 8 0), none, none]) rfl (Nat.le_of_ble_eq_true rfl) ?_
  unfold f8_idle at h
  refine zr_iconst (v := (0 : Int32)) d_8_idle_0 rfl ?_
  refine zr_istore_n (i := 1) (l' := [some (zA 8 0), some (zI (0 : Int32)), none]) d_8_idle_1 rfl (by decide) rfl ?_
  refine zr_iconst (v := (0 : Int32)) d_8_idle_2 rfl ?_
  refine zr_istore_n (i := 2) (l' := [some (zA 8 0), some (zI (0 : Int32)), some (zI (0 : Int32))]) d_8_idle_3 rfl (by decide) rfl ?_
  obtain ⟨e13, hl14, h⟩ := z_bd h
  refine zr_wk (l' := [some (zA 8 0), some (zI (0 : Int32)), some (zI (0 : Int32))]) ⟨rfl, ⟨rfl, ⟨rfl, trivial⟩⟩⟩ ?_
  refine z_loop (Hd := (z_u2 fun y0 y1 => z_RQ P M_8_idle (z_rm 4) (z_mq P (some (zI r)) μ) 0 0 4 [some (zA 8 0), some (zI y0), some (zI y1)] [] μ)) (Ex := (fun z0 => z_RQ P M_8_idle (z_rm 4) (z_mq P (some (zI r)) μ) 0 0 38 [none, some (zI z0), none] [] μ)) (fun ⟨x2, x3⟩ K h hI hE => s8_idle_L1 μ x2 x3 K h (fun y0 y1 e => hI (y0, y1) e) (fun z0 e => hE z0 e) ) _ _ _ hl14 ?_
  refine zr_iload_n (i := 1) d_8_idle_38 rfl rfl ?_
  obtain rfl := Option.some.inj h
  exact ze_i d_8_idle_39 rfl
def f8_allRights_L1 (μ : zMem) : (Int32 × Int32) → Option ((Int32 × Int32) ⊕ (Int32)) := (z_u2 fun x2 x3 => 
  (if x3 < (μ.1 6 (μ.2.2 8 0 3) 0) then if z_in x3 5 = true then z_let (x2 + (fj6_bitCount_0f7a4 (μ.1 25 0 x3.toNatClampNeg))) fun v7 => some (.inl (v7, (x3 + (1 : Int32)))) else none else some (.inr x2)))
def f8_allRights  (μ : zMem) : Option (Int32) :=
  (z_it (f8_allRights_L1 μ) z_fu ((0 : Int32), (0 : Int32))).bind (fun e9 => some e9)
theorem s8_allRights_L1 {P : zP} {ro : Option zV} {μo : zMem} (μ : zMem) (x2 : Int32) (x3 : Int32) (K : (Int32 × Int32) ⊕ (Int32)) (h : f8_allRights_L1 μ (x2, x3) = some K) (hI : ∀ (y0 : Int32) (y1 : Int32), K = .inl (y0, y1) → z_RQ P M_8_allRights (z_rm 2) (z_mq P ro μo) 0 0 4 [some (zA 8 0), some (zI y0), some (zI y1)] [] μ) (hE : ∀ (z0 : Int32), K = .inr z0 → z_RQ P M_8_allRights (z_rm 2) (z_mq P ro μo) 0 0 36 [none, some (zI z0), none] [] μ)  : z_RQ P M_8_allRights (z_rm 2) (z_mq P ro μo) 0 0 4 [some (zA 8 0), some (zI x2), some (zI x3)] [] μ := by
  unfold f8_allRights_L1 at h
  replace h := z_h2 h
  refine zr_iload_n (i := 2) d_8_allRights_4 rfl rfl ?_
  refine zr_aload_n (i := 0) d_8_allRights_5 rfl rfl ?_
  refine zr_getd d_8_allRights_6 fw_8_27 ?_
  refine zr_geti d_8_allRights_9 fw_8_156 (by decide) ?_
  refine zr_icmp_ge (tgt := 36) d_8_allRights_12 rfl (fun hc4 => ?_) (fun hc4 => ?_)
  · replace h := z_ip h hc4
    refine zr_iload_n (i := 1) d_8_allRights_15 rfl rfl ?_
    refine zr_aload_n (i := 0) d_8_allRights_16 rfl rfl ?_
    refine zr_gets (i' := 0) d_8_allRights_17 fw_8_34 rfl ?_
    refine zr_gets (i' := 0) d_8_allRights_20 fw_8_120 rfl ?_
    refine zr_iload_n (i := 2) d_8_allRights_23 rfl rfl ?_
    obtain ⟨hb5, h⟩ := z_gd h
    refine zr_iald d_8_allRights_24 sa_25 rfl hb5 ?_
    refine zr_callSi (av := [zI (μ.1 25 0 x3.toNatClampNeg)]) (st := [zI x2]) d_8_allRights_25 mw_j6_bitCount_0f7a4 ml_8_241 is_j6_bitCount_0f7a4 rfl rfl (Nat.le_of_ble_eq_true rfl) fit_1_1_2 (sj6_bitCount_0f7a4 rfl) ?_
    refine zr_iadd d_8_allRights_28 ?_
    obtain ⟨v7, hv8, h⟩ := z_lt h
    refine zr_nm hv8 ?_
    refine zr_istore_n (i := 1) (l' := [some (zA 8 0), some (zI v7), some (zI x3)]) d_8_allRights_29 rfl (by decide) rfl ?_
    refine zr_iinc (v := (x3 + (1 : Int32))) (l' := [some (zA 8 0), some (zI v7), some (zI (x3 + (1 : Int32)))]) d_8_allRights_30 (by decide) rfl rfl rfl ?_
    refine zr_goto (tgt := 4) d_8_allRights_33 rfl ?_
    obtain rfl := Option.some.inj h
    exact zr_wk2 (hI v7 (x3 + (1 : Int32)) rfl) ⟨rfl, ⟨rfl, ⟨rfl, trivial⟩⟩⟩
  · replace h := z_im h hc4
    obtain rfl := Option.some.inj h
    exact zr_wk2 (hE x2 rfl) ⟨rfl, trivial⟩
theorem s8_allRights {P : zP} {μ : zMem} {r : Int32} (h : f8_allRights μ = some r) : z_Sp P y_8_allRights M_8_allRights 2 [zA 8 0] μ (some (zI r)) μ := by
  refine z_Sp.of (plainFor_of_name (by decide)) rfl (l0 := [some (zA 8 0), none, none]) rfl (Nat.le_of_ble_eq_true rfl) ?_
  unfold f8_allRights at h
  refine zr_iconst (v := (0 : Int32)) d_8_allRights_0 rfl ?_
  refine zr_istore_n (i := 1) (l' := [some (zA 8 0), some (zI (0 : Int32)), none]) d_8_allRights_1 rfl (by decide) rfl ?_
  refine zr_iconst (v := (0 : Int32)) d_8_allRights_2 rfl ?_
  refine zr_istore_n (i := 2) (l' := [some (zA 8 0), some (zI (0 : Int32)), some (zI (0 : Int32))]) d_8_allRights_3 rfl (by decide) rfl ?_
  obtain ⟨e9, hl10, h⟩ := z_bd h
  refine zr_wk (l' := [some (zA 8 0), some (zI (0 : Int32)), some (zI (0 : Int32))]) ⟨rfl, ⟨rfl, ⟨rfl, trivial⟩⟩⟩ ?_
  refine z_loop (Hd := (z_u2 fun y0 y1 => z_RQ P M_8_allRights (z_rm 2) (z_mq P (some (zI r)) μ) 0 0 4 [some (zA 8 0), some (zI y0), some (zI y1)] [] μ)) (Ex := (fun z0 => z_RQ P M_8_allRights (z_rm 2) (z_mq P (some (zI r)) μ) 0 0 36 [none, some (zI z0), none] [] μ)) (fun ⟨x2, x3⟩ K h hI hE => s8_allRights_L1 μ x2 x3 K h (fun y0 y1 e => hI (y0, y1) e) (fun z0 e => hE z0 e) ) _ _ _ hl10 ?_
  refine zr_iload_n (i := 1) d_8_allRights_36 rfl rfl ?_
  obtain rfl := Option.some.inj h
  exact ze_i d_8_allRights_37 rfl
def f8_share (a1 : Int32) (μ : zMem) : Option (Int32) :=
  (if (f8_isPerson a1 μ) = 0 then some (-1 : Int32) else (f8_allRights μ).bind (fun q3 => (if q3 = 0 then some (0 : Int32) else (f8_rightsOf a1 μ).bind (fun q6 => if q3 = 0 then none else some (((fj6_bitCount_0f7a4 q6) * (1000 : Int32)) / q3)))))
theorem s8_share {P : zP} {μ : zMem} {a1 : Int32} {r : Int32} (h : f8_share a1 μ = some r) : z_Sp P y_8_share M_8_share 3 [zA 8 0, zI a1] μ (some (zI r)) μ := by
  refine z_Sp.of (plainFor_of_name (by decide)) rfl (l0 := [some (zA 8 0), some (zI a1), none]) rfl (Nat.le_of_ble_eq_true rfl) ?_
  unfold f8_share at h
  refine zr_aload_n (i := 0) d_8_share_0 rfl rfl ?_
  refine zr_iload_n (i := 1) d_8_share_1 rfl rfl ?_
  refine zr_callVi (av := [zI a1]) (st := []) d_8_share_2 mw_8_isPerson ml_8_131 im_8_isPerson se_8_isPerson rfl rfl (Nat.le_of_ble_eq_true rfl) fit_1_2_3 rfl rfl rfl (s8_isPerson rfl) ?_
  refine zr_if_ne (tgt := 10) d_8_share_5 rfl (fun hc2 => ?_) (fun hc2 => ?_)
  · replace h := z_ip h hc2
    refine zr_iconst (v := (-1 : Int32)) d_8_share_8 rfl ?_
    obtain rfl := Option.some.inj h
    exact ze_i d_8_share_9 rfl
  · replace h := z_im h hc2
    refine zr_aload_n (i := 0) d_8_share_10 rfl rfl ?_
    obtain ⟨q3, hq4, h⟩ := z_bd h
    refine zr_callVi (av := []) (st := []) d_8_share_11 mw_8_allRights ml_8_263 im_8_allRights se_8_allRights rfl rfl (Nat.le_of_ble_eq_true rfl) fit_2_3_3 rfl rfl rfl (s8_allRights hq4) ?_
    refine zr_istore_n (i := 2) (l' := [some (zA 8 0), some (zI a1), some (zI q3)]) d_8_share_14 rfl (by decide) rfl ?_
    refine zr_iload_n (i := 2) d_8_share_15 rfl rfl ?_
    refine zr_if_ne (tgt := 23) d_8_share_16 rfl (fun hc5 => ?_) (fun hc5 => ?_)
    · replace h := z_ip h hc5
      refine zr_iconst (v := (0 : Int32)) d_8_share_19 rfl ?_
      refine zr_goto (tgt := 37) d_8_share_20 rfl ?_
      obtain rfl := Option.some.inj h
      exact ze_i d_8_share_37 rfl
    · replace h := z_im h hc5
      refine zr_aload_n (i := 0) d_8_share_23 rfl rfl ?_
      refine zr_iload_n (i := 1) d_8_share_24 rfl rfl ?_
      obtain ⟨q6, hq7, h⟩ := z_bd h
      refine zr_callVi (av := [zI a1]) (st := []) d_8_share_25 mw_8_rightsOf ml_8_146 im_8_rightsOf se_8_rightsOf rfl rfl (Nat.le_of_ble_eq_true rfl) fit_2_4_3 rfl rfl rfl (s8_rightsOf hq7) ?_
      refine zr_callSi (av := [zI q6]) (st := []) d_8_share_28 mw_j6_bitCount_0f7a4 ml_8_241 is_j6_bitCount_0f7a4 rfl rfl (Nat.le_of_ble_eq_true rfl) fit_1_1_3 (sj6_bitCount_0f7a4 rfl) ?_
      refine zr_sipush (v := (1000 : Int32)) d_8_share_31 rfl ?_
      refine zr_imul d_8_share_34 ?_
      refine zr_iload_n (i := 2) d_8_share_35 rfl rfl ?_
      obtain ⟨hz9, h⟩ := z_nz h
      refine zr_idiv d_8_share_36 hz9 ?_
      obtain rfl := Option.some.inj h
      exact ze_i d_8_share_37 rfl
def f8_foresee (a1 : Int32) (a2 : Int32) (μ : zMem) : Option (zMem) :=
  z_let (f5_copyFrom 1 0 μ) (fun qm1 => (f0_goOn (qm1.2.2 8 0 3) 1 a1 a2 qm1).bind (fun qm3 => some qm3))
theorem s8_foresee {P : zP} {μ : zMem} {a1 : Int32} {a2 : Int32} {μ' : zMem} (h : f8_foresee a1 a2 μ = some μ') : z_Sp P y_8_foresee M_8_foresee 7 [zA 8 0, zI a1, zI a2] μ none μ' := by
  refine z_Sp.of (plainFor_of_name (by decide)) rfl (l0 := [some (zA 8 0), some (zI a1), some (zI a2)]) rfl (Nat.le_of_ble_eq_true rfl) ?_
  unfold f8_foresee at h
  refine zr_aload_n (i := 0) d_8_foresee_0 rfl rfl ?_
  refine zr_gets (i' := 1) d_8_foresee_1 fw_8_38 rfl ?_
  refine zr_aload_n (i := 0) d_8_foresee_4 rfl rfl ?_
  refine zr_gets (i' := 0) d_8_foresee_5 fw_8_34 rfl ?_
  obtain ⟨qm1, hq2, h⟩ := z_lt h
  refine zr_callVv (av := [zA 5 0]) (st := []) d_8_foresee_8 mw_5_copyFrom ml_8_210 im_5_copyFrom se_5_copyFrom rfl rfl (Nat.le_of_ble_eq_true rfl) fit_1_2_7 rfl rfl rfl (s5_copyFrom hq2.symm) ?_
  refine zr_aload_n (i := 0) d_8_foresee_11 rfl rfl ?_
  refine zr_gets (i' := 0) d_8_foresee_12 fw_8_75 rfl ?_
  refine zr_aload_n (i := 0) d_8_foresee_15 rfl rfl ?_
  refine zr_getd d_8_foresee_16 fw_8_27 ?_
  refine zr_aload_n (i := 0) d_8_foresee_19 rfl rfl ?_
  refine zr_gets (i' := 1) d_8_foresee_20 fw_8_38 rfl ?_
  refine zr_iload_n (i := 1) d_8_foresee_23 rfl rfl ?_
  refine zr_iload_n (i := 2) d_8_foresee_24 rfl rfl ?_
  obtain ⟨qm3, hq4, h⟩ := z_bd h
  refine zr_callVv (av := [zA 6 (qm1.2.2 8 0 3), zA 5 1, zI a1, zI a2]) (st := []) d_8_foresee_25 mw_0_goOn ml_8_196 im_0_goOn se_0_goOn rfl rfl (Nat.le_of_ble_eq_true rfl) fit_6_9_7 rfl rfl rfl (s0_goOn hq4) ?_
  obtain rfl := Option.some.inj h
  exact ze_v d_8_foresee_28 rfl
def f8_lordIn (a1 : Int32) (a2 : Int32) (μ : zMem) : Option (Int32 × zMem) :=
  (if (f8_isHouse a1 μ) = 0 then some ((-1 : Int32), μ) else (if (f8_areYears a2 (0 : Int32)) = 0 then some ((-1 : Int32), μ) else (f8_foresee a2 (μ.1 6 (μ.2.2 8 0 3) 2) μ).bind (fun qm5 => (f5_landlordOf 1 a1 qm5).bind (fun q7 => some (q7, qm5)))))
theorem s8_lordIn {P : zP} {μ : zMem} {a1 : Int32} {a2 : Int32} {r : Int32} {μ' : zMem} (h : f8_lordIn a1 a2 μ = some (r, μ')) : z_Sp P y_8_lordIn M_8_lordIn 8 [zA 8 0, zI a1, zI a2] μ (some (zI r)) μ' := by
  refine z_Sp.of (plainFor_of_name (by decide)) rfl (l0 := [some (zA 8 0), some (zI a1), some (zI a2)]) rfl (Nat.le_of_ble_eq_true rfl) ?_
  unfold f8_lordIn at h
  refine zr_aload_n (i := 0) d_8_lordIn_0 rfl rfl ?_
  refine zr_iload_n (i := 1) d_8_lordIn_1 rfl rfl ?_
  refine zr_callVi (av := [zI a1]) (st := []) d_8_lordIn_2 mw_8_isHouse ml_8_109 im_8_isHouse se_8_isHouse rfl rfl (Nat.le_of_ble_eq_true rfl) fit_1_2_8 rfl rfl rfl (s8_isHouse rfl) ?_
  refine zr_if_eq (tgt := 16) d_8_lordIn_5 rfl (fun hc2 => ?_) (fun hc2 => ?_)
  · replace h := z_ip h hc2
    refine zr_iconst (v := (-1 : Int32)) d_8_lordIn_16 rfl ?_
    obtain ⟨rfl, rfl⟩ := Prod.mk.inj (Option.some.inj h)
    exact ze_i d_8_lordIn_17 rfl
  · replace h := z_im h hc2
    refine zr_iload_n (i := 2) d_8_lordIn_8 rfl rfl ?_
    refine zr_iconst (v := (0 : Int32)) d_8_lordIn_9 rfl ?_
    refine zr_callSi (av := [zI a2, zI (0 : Int32)]) (st := []) d_8_lordIn_10 mw_8_areYears ml_8_190 is_8_areYears rfl rfl (Nat.le_of_ble_eq_true rfl) fit_1_2_8 (s8_areYears rfl) ?_
    refine zr_if_ne (tgt := 18) d_8_lordIn_13 rfl (fun hc4 => ?_) (fun hc4 => ?_)
    · replace h := z_ip h hc4
      refine zr_iconst (v := (-1 : Int32)) d_8_lordIn_16 rfl ?_
      obtain ⟨rfl, rfl⟩ := Prod.mk.inj (Option.some.inj h)
      exact ze_i d_8_lordIn_17 rfl
    · replace h := z_im h hc4
      refine zr_aload_n (i := 0) d_8_lordIn_18 rfl rfl ?_
      refine zr_iload_n (i := 2) d_8_lordIn_19 rfl rfl ?_
      refine zr_aload_n (i := 0) d_8_lordIn_20 rfl rfl ?_
      refine zr_getd d_8_lordIn_21 fw_8_27 ?_
      refine zr_geti d_8_lordIn_24 fw_8_193 (by decide) ?_
      obtain ⟨qm5, hq6, h⟩ := z_bd h
      refine zr_callVv (av := [zI a2, zI (μ.1 6 (μ.2.2 8 0 3) 2)]) (st := []) d_8_lordIn_27 mw_8_foresee ml_8_266 im_8_foresee se_8_foresee rfl rfl (Nat.le_of_ble_eq_true rfl) fit_7_3_8 rfl rfl rfl (s8_foresee hq6) ?_
      refine zr_aload_n (i := 0) d_8_lordIn_30 rfl rfl ?_
      refine zr_gets (i' := 1) d_8_lordIn_31 fw_8_38 rfl ?_
      refine zr_iload_n (i := 1) d_8_lordIn_34 rfl rfl ?_
      obtain ⟨q7, hq8, h⟩ := z_bd h
      refine zr_callVi (av := [zI a1]) (st := []) d_8_lordIn_35 mw_5_landlordOf ml_8_116 im_5_landlordOf se_5_landlordOf rfl rfl (Nat.le_of_ble_eq_true rfl) fit_3_2_8 rfl rfl rfl (s5_landlordOf hq8) ?_
      obtain ⟨rfl, rfl⟩ := Prod.mk.inj (Option.some.inj h)
      exact ze_i d_8_lordIn_38 rfl
def f8_then (a1 : Int32) (a2 : Int32) (μ : zMem) : Option (Int32 × zMem) :=
  (if (f8_areYears a1 (0 : Int32)) = 0 then some ((-1 : Int32), μ) else (f8_foresee a1 (μ.1 6 (μ.2.2 8 0 3) 2) μ).bind (fun qm3 => some ((f5_whoStands 1 (qm3.2.2 8 0 3) a2 qm3), qm3)))
theorem s8_then {P : zP} {μ : zMem} {a1 : Int32} {a2 : Int32} {r : Int32} {μ' : zMem} (h : f8_then a1 a2 μ = some (r, μ')) : z_Sp P y_8_then M_8_then 8 [zA 8 0, zI a1, zI a2] μ (some (zI r)) μ' := by
  refine z_Sp.of (plainFor_of_name (by decide)) rfl (l0 := [some (zA 8 0), some (zI a1), some (zI a2)]) rfl (Nat.le_of_ble_eq_true rfl) ?_
  unfold f8_then at h
  refine zr_iload_n (i := 1) d_8_then_0 rfl rfl ?_
  refine zr_iconst (v := (0 : Int32)) d_8_then_1 rfl ?_
  refine zr_callSi (av := [zI a1, zI (0 : Int32)]) (st := []) d_8_then_2 mw_8_areYears ml_8_190 is_8_areYears rfl rfl (Nat.le_of_ble_eq_true rfl) fit_1_2_8 (s8_areYears rfl) ?_
  refine zr_if_ne (tgt := 10) d_8_then_5 rfl (fun hc2 => ?_) (fun hc2 => ?_)
  · replace h := z_ip h hc2
    refine zr_iconst (v := (-1 : Int32)) d_8_then_8 rfl ?_
    obtain ⟨rfl, rfl⟩ := Prod.mk.inj (Option.some.inj h)
    exact ze_i d_8_then_9 rfl
  · replace h := z_im h hc2
    refine zr_aload_n (i := 0) d_8_then_10 rfl rfl ?_
    refine zr_iload_n (i := 1) d_8_then_11 rfl rfl ?_
    refine zr_aload_n (i := 0) d_8_then_12 rfl rfl ?_
    refine zr_getd d_8_then_13 fw_8_27 ?_
    refine zr_geti d_8_then_16 fw_8_193 (by decide) ?_
    obtain ⟨qm3, hq4, h⟩ := z_bd h
    refine zr_callVv (av := [zI a1, zI (μ.1 6 (μ.2.2 8 0 3) 2)]) (st := []) d_8_then_19 mw_8_foresee ml_8_266 im_8_foresee se_8_foresee rfl rfl (Nat.le_of_ble_eq_true rfl) fit_7_3_8 rfl rfl rfl (s8_foresee hq4) ?_
    refine zr_aload_n (i := 0) d_8_then_22 rfl rfl ?_
    refine zr_gets (i' := 1) d_8_then_23 fw_8_38 rfl ?_
    refine zr_aload_n (i := 0) d_8_then_26 rfl rfl ?_
    refine zr_getd d_8_then_27 fw_8_27 ?_
    refine zr_iload_n (i := 2) d_8_then_30 rfl rfl ?_
    refine zr_callVi (av := [zA 6 (qm3.2.2 8 0 3), zI a2]) (st := []) d_8_then_31 mw_5_whoStands ml_8_270 im_5_whoStands se_5_whoStands rfl rfl (Nat.le_of_ble_eq_true rfl) fit_2_3_8 rfl rfl rfl (s5_whoStands rfl) ?_
    obtain ⟨rfl, rfl⟩ := Prod.mk.inj (Option.some.inj h)
    exact ze_i d_8_then_34 rfl
def f8_gotIn (a1 : Int32) (a2 : Int32) (μ : zMem) : Option (Int32 × zMem) :=
  (if (f8_isPerson a1 μ) = 0 then some ((-1 : Int32), μ) else (if (f8_areYears a2 (0 : Int32)) = 0 then some ((-1 : Int32), μ) else (f8_foresee a2 (μ.1 6 (μ.2.2 8 0 3) 2) μ).bind (fun qm5 => if z_in a1 7 = true then some ((qm5.1 23 1 a1.toNatClampNeg), qm5) else none)))
theorem s8_gotIn {P : zP} {μ : zMem} {a1 : Int32} {a2 : Int32} {r : Int32} {μ' : zMem} (h : f8_gotIn a1 a2 μ = some (r, μ')) : z_Sp P y_8_gotIn M_8_gotIn 8 [zA 8 0, zI a1, zI a2] μ (some (zI r)) μ' := by
  refine z_Sp.of (plainFor_of_name (by decide)) rfl (l0 := [some (zA 8 0), some (zI a1), some (zI a2)]) rfl (Nat.le_of_ble_eq_true rfl) ?_
  unfold f8_gotIn at h
  refine zr_aload_n (i := 0) d_8_gotIn_0 rfl rfl ?_
  refine zr_iload_n (i := 1) d_8_gotIn_1 rfl rfl ?_
  refine zr_callVi (av := [zI a1]) (st := []) d_8_gotIn_2 mw_8_isPerson ml_8_131 im_8_isPerson se_8_isPerson rfl rfl (Nat.le_of_ble_eq_true rfl) fit_1_2_8 rfl rfl rfl (s8_isPerson rfl) ?_
  refine zr_if_eq (tgt := 16) d_8_gotIn_5 rfl (fun hc2 => ?_) (fun hc2 => ?_)
  · replace h := z_ip h hc2
    refine zr_iconst (v := (-1 : Int32)) d_8_gotIn_16 rfl ?_
    obtain ⟨rfl, rfl⟩ := Prod.mk.inj (Option.some.inj h)
    exact ze_i d_8_gotIn_17 rfl
  · replace h := z_im h hc2
    refine zr_iload_n (i := 2) d_8_gotIn_8 rfl rfl ?_
    refine zr_iconst (v := (0 : Int32)) d_8_gotIn_9 rfl ?_
    refine zr_callSi (av := [zI a2, zI (0 : Int32)]) (st := []) d_8_gotIn_10 mw_8_areYears ml_8_190 is_8_areYears rfl rfl (Nat.le_of_ble_eq_true rfl) fit_1_2_8 (s8_areYears rfl) ?_
    refine zr_if_ne (tgt := 18) d_8_gotIn_13 rfl (fun hc4 => ?_) (fun hc4 => ?_)
    · replace h := z_ip h hc4
      refine zr_iconst (v := (-1 : Int32)) d_8_gotIn_16 rfl ?_
      obtain ⟨rfl, rfl⟩ := Prod.mk.inj (Option.some.inj h)
      exact ze_i d_8_gotIn_17 rfl
    · replace h := z_im h hc4
      refine zr_aload_n (i := 0) d_8_gotIn_18 rfl rfl ?_
      refine zr_iload_n (i := 2) d_8_gotIn_19 rfl rfl ?_
      refine zr_aload_n (i := 0) d_8_gotIn_20 rfl rfl ?_
      refine zr_getd d_8_gotIn_21 fw_8_27 ?_
      refine zr_geti d_8_gotIn_24 fw_8_193 (by decide) ?_
      obtain ⟨qm5, hq6, h⟩ := z_bd h
      refine zr_callVv (av := [zI a2, zI (μ.1 6 (μ.2.2 8 0 3) 2)]) (st := []) d_8_gotIn_27 mw_8_foresee ml_8_266 im_8_foresee se_8_foresee rfl rfl (Nat.le_of_ble_eq_true rfl) fit_7_3_8 rfl rfl rfl (s8_foresee hq6) ?_
      refine zr_aload_n (i := 0) d_8_gotIn_30 rfl rfl ?_
      refine zr_gets (i' := 1) d_8_gotIn_31 fw_8_38 rfl ?_
      refine zr_gets (i' := 1) d_8_gotIn_34 fw_8_143 rfl ?_
      refine zr_iload_n (i := 1) d_8_gotIn_37 rfl rfl ?_
      obtain ⟨hb7, h⟩ := z_gd h
      refine zr_iald d_8_gotIn_38 sa_23 rfl hb7 ?_
      obtain ⟨rfl, rfl⟩ := Prod.mk.inj (Option.some.inj h)
      exact ze_i d_8_gotIn_39 rfl
def f8_year_L7 (a1 : Int32) (a2 : Int32) (a3 : Int32) : (Int32 × Int32 × zMem) → Option ((Int32 × Int32 × zMem) ⊕ (Int32 × zMem)) := (z_u3 fun x8 x9 xm10 => 
  (if x9 < a3 then (f8_foresee a2 ((xm10.1 6 (xm10.2.2 8 0 3) 2) + x9) xm10).bind (fun qm12 => (f5_allLandlords 1 (qm12.2.2 8 0 3) qm12).bind (fun q14 => ((if (f8_has q14 a1) = 0 then some x8 else some (x8 + (1 : Int32))) : Option (Int32)).bind (fun j20 => some (.inl (j20, (x9 + (1 : Int32)), qm12))))) else some (.inr (x8, xm10))))
def f8_year (a1 : Int32) (a2 : Int32) (a3 : Int32) (μ : zMem) : Option (Int32 × zMem) :=
  (if (f8_isPerson a1 μ) = 0 then some ((-1 : Int32), μ) else (if (f8_areYears a2 (0 : Int32)) = 0 then some ((-1 : Int32), μ) else (if a3 < (1 : Int32) then some ((-1 : Int32), μ) else (if (20 : Int32) < a3 then some ((-1 : Int32), μ) else (z_it (f8_year_L7 a1 a2 a3) z_fu ((0 : Int32), (0 : Int32), μ)).bind (z_u2 fun e21 e22 => some (e21, e22))))))
theorem s8_year_L7 {P : zP} {ro : Option zV} {μo : zMem} (a1 : Int32) (a2 : Int32) (a3 : Int32) (x8 : Int32) (x9 : Int32) (xm10 : zMem) (K : (Int32 × Int32 × zMem) ⊕ (Int32 × zMem)) (h : f8_year_L7 a1 a2 a3 (x8, x9, xm10) = some K) (hI : ∀ (y0 : Int32) (y1 : Int32) (y2 : zMem), K = .inl (y0, y1, y2) → z_RQ P M_8_year (z_rm 8) (z_mq P ro μo) 0 0 35 [some (zA 8 0), some (zI a1), some (zI a2), some (zI a3), some (zI y0), some (zI y1)] [] y2) (hE : ∀ (z0 : Int32) (z1 : zMem), K = .inr (z0, z1) → z_RQ P M_8_year (z_rm 8) (z_mq P ro μo) 0 0 83 [none, none, none, none, some (zI z0), none] [] z1)  : z_RQ P M_8_year (z_rm 8) (z_mq P ro μo) 0 0 35 [some (zA 8 0), some (zI a1), some (zI a2), some (zI a3), some (zI x8), some (zI x9)] [] xm10 := by
  unfold f8_year_L7 at h
  replace h := z_h3 h
  refine zr_iload d_8_year_35 rfl ?_
  refine zr_iload_n (i := 3) d_8_year_37 rfl rfl ?_
  refine zr_icmp_ge (tgt := 83) d_8_year_38 rfl (fun hc11 => ?_) (fun hc11 => ?_)
  · replace h := z_ip h hc11
    refine zr_aload_n (i := 0) d_8_year_41 rfl rfl ?_
    refine zr_iload_n (i := 2) d_8_year_42 rfl rfl ?_
    refine zr_aload_n (i := 0) d_8_year_43 rfl rfl ?_
    refine zr_getd d_8_year_44 fw_8_27 ?_
    refine zr_geti d_8_year_47 fw_8_193 (by decide) ?_
    refine zr_iload d_8_year_50 rfl ?_
    refine zr_iadd d_8_year_52 ?_
    obtain ⟨qm12, hq13, h⟩ := z_bd h
    refine zr_callVv (av := [zI a2, zI ((xm10.1 6 (xm10.2.2 8 0 3) 2) + x9)]) (st := []) d_8_year_53 mw_8_foresee ml_8_266 im_8_foresee se_8_foresee rfl rfl (Nat.le_of_ble_eq_true rfl) fit_7_3_8 rfl rfl rfl (s8_foresee hq13) ?_
    refine zr_aload_n (i := 0) d_8_year_56 rfl rfl ?_
    refine zr_gets (i' := 1) d_8_year_57 fw_8_38 rfl ?_
    refine zr_aload_n (i := 0) d_8_year_60 rfl rfl ?_
    refine zr_getd d_8_year_61 fw_8_27 ?_
    obtain ⟨q14, hq15, h⟩ := z_bd h
    refine zr_callVi (av := [zA 6 (qm12.2.2 8 0 3)]) (st := []) d_8_year_64 mw_5_allLandlords ml_8_274 im_5_allLandlords se_5_allLandlords rfl rfl (Nat.le_of_ble_eq_true rfl) fit_4_5_8 rfl rfl rfl (s5_allLandlords hq15) ?_
    refine zr_iload_n (i := 1) d_8_year_67 rfl rfl ?_
    refine zr_callSi (av := [zI q14, zI a1]) (st := []) d_8_year_68 mw_8_has ml_8_159 is_8_has rfl rfl (Nat.le_of_ble_eq_true rfl) fit_1_2_8 (s8_has rfl) ?_
    obtain ⟨j20, hT17, h⟩ := z_bd h
    have hJ18 : z_RQ P M_8_year (z_rm 8) (z_mq P ro μo) 0 0 77 [some (zA 8 0), some (zI a1), some (zI a2), some (zI a3), some (zI j20), some (zI x9)] [] qm12 := by
      refine zr_iinc (v := (x9 + (1 : Int32))) (l' := [some (zA 8 0), some (zI a1), some (zI a2), some (zI a3), some (zI j20), some (zI (x9 + (1 : Int32)))]) d_8_year_77 (by decide) rfl rfl rfl ?_
      refine zr_goto (tgt := 35) d_8_year_80 rfl ?_
      obtain rfl := Option.some.inj h
      exact zr_wk2 (hI j20 (x9 + (1 : Int32)) qm12 rfl) ⟨rfl, ⟨rfl, ⟨rfl, ⟨rfl, ⟨rfl, ⟨rfl, trivial⟩⟩⟩⟩⟩⟩
    refine zr_if_eq (tgt := 77) d_8_year_71 rfl (fun hc19 => ?_) (fun hc19 => ?_)
    · replace hT17 := z_ip hT17 hc19
      obtain rfl := Option.some.inj hT17
      exact zr_wk2 hJ18 ⟨rfl, ⟨rfl, ⟨rfl, ⟨rfl, ⟨rfl, ⟨rfl, trivial⟩⟩⟩⟩⟩⟩
    · replace hT17 := z_im hT17 hc19
      refine zr_iinc (v := (x8 + (1 : Int32))) (l' := [some (zA 8 0), some (zI a1), some (zI a2), some (zI a3), some (zI (x8 + (1 : Int32))), some (zI x9)]) d_8_year_74 (by decide) rfl rfl rfl ?_
      obtain rfl := Option.some.inj hT17
      exact zr_wk2 hJ18 ⟨rfl, ⟨rfl, ⟨rfl, ⟨rfl, ⟨rfl, ⟨rfl, trivial⟩⟩⟩⟩⟩⟩
  · replace h := z_im h hc11
    obtain rfl := Option.some.inj h
    exact zr_wk2 (hE x8 xm10 rfl) ⟨rfl, trivial⟩
theorem s8_year {P : zP} {μ : zMem} {a1 : Int32} {a2 : Int32} {a3 : Int32} {r : Int32} {μ' : zMem} (h : f8_year a1 a2 a3 μ = some (r, μ')) : z_Sp P y_8_year M_8_year 8 [zA 8 0, zI a1, zI a2, zI a3] μ (some (zI r)) μ' := by
  refine z_Sp.of (plainFor_of_name (by decide)) rfl (l0 := [some (zA 8 0), some (zI a1), some (zI a2), some (zI a3), none, none]) rfl (Nat.le_of_ble_eq_true rfl) ?_
  unfold f8_year at h
  refine zr_aload_n (i := 0) d_8_year_0 rfl rfl ?_
  refine zr_iload_n (i := 1) d_8_year_1 rfl rfl ?_
  refine zr_callVi (av := [zI a1]) (st := []) d_8_year_2 mw_8_isPerson ml_8_131 im_8_isPerson se_8_isPerson rfl rfl (Nat.le_of_ble_eq_true rfl) fit_1_2_8 rfl rfl rfl (s8_isPerson rfl) ?_
  refine zr_if_eq (tgt := 27) d_8_year_5 rfl (fun hc2 => ?_) (fun hc2 => ?_)
  · replace h := z_ip h hc2
    refine zr_iconst (v := (-1 : Int32)) d_8_year_27 rfl ?_
    obtain ⟨rfl, rfl⟩ := Prod.mk.inj (Option.some.inj h)
    exact ze_i d_8_year_28 rfl
  · replace h := z_im h hc2
    refine zr_iload_n (i := 2) d_8_year_8 rfl rfl ?_
    refine zr_iconst (v := (0 : Int32)) d_8_year_9 rfl ?_
    refine zr_callSi (av := [zI a2, zI (0 : Int32)]) (st := []) d_8_year_10 mw_8_areYears ml_8_190 is_8_areYears rfl rfl (Nat.le_of_ble_eq_true rfl) fit_1_2_8 (s8_areYears rfl) ?_
    refine zr_if_eq (tgt := 27) d_8_year_13 rfl (fun hc4 => ?_) (fun hc4 => ?_)
    · replace h := z_ip h hc4
      refine zr_iconst (v := (-1 : Int32)) d_8_year_27 rfl ?_
      obtain ⟨rfl, rfl⟩ := Prod.mk.inj (Option.some.inj h)
      exact ze_i d_8_year_28 rfl
    · replace h := z_im h hc4
      refine zr_iload_n (i := 3) d_8_year_16 rfl rfl ?_
      refine zr_iconst (v := (1 : Int32)) d_8_year_17 rfl ?_
      refine zr_icmp_lt (tgt := 27) d_8_year_18 rfl (fun hc5 => ?_) (fun hc5 => ?_)
      · replace h := z_ip h hc5
        refine zr_iconst (v := (-1 : Int32)) d_8_year_27 rfl ?_
        obtain ⟨rfl, rfl⟩ := Prod.mk.inj (Option.some.inj h)
        exact ze_i d_8_year_28 rfl
      · replace h := z_im h hc5
        refine zr_iload_n (i := 3) d_8_year_21 rfl rfl ?_
        refine zr_bipush (v := (20 : Int32)) d_8_year_22 rfl ?_
        refine zr_icmp_le (tgt := 29) d_8_year_24 rfl (fun hc6 => ?_) (fun hc6 => ?_)
        · replace h := z_ip h hc6
          refine zr_iconst (v := (-1 : Int32)) d_8_year_27 rfl ?_
          obtain ⟨rfl, rfl⟩ := Prod.mk.inj (Option.some.inj h)
          exact ze_i d_8_year_28 rfl
        · replace h := z_im h hc6
          refine zr_iconst (v := (0 : Int32)) d_8_year_29 rfl ?_
          refine zr_istore (i := 4) (l' := [some (zA 8 0), some (zI a1), some (zI a2), some (zI a3), some (zI (0 : Int32)), none]) d_8_year_30 (by decide) rfl ?_
          refine zr_iconst (v := (0 : Int32)) d_8_year_32 rfl ?_
          refine zr_istore (i := 5) (l' := [some (zA 8 0), some (zI a1), some (zI a2), some (zI a3), some (zI (0 : Int32)), some (zI (0 : Int32))]) d_8_year_33 (by decide) rfl ?_
          obtain ⟨⟨e21, e22⟩, hl23, h⟩ := z_bd h
          replace h := z_h2 h
          refine zr_wk (l' := [some (zA 8 0), some (zI a1), some (zI a2), some (zI a3), some (zI (0 : Int32)), some (zI (0 : Int32))]) ⟨rfl, ⟨rfl, ⟨rfl, ⟨rfl, ⟨rfl, ⟨rfl, trivial⟩⟩⟩⟩⟩⟩ ?_
          refine z_loop (Hd := (z_u3 fun y0 y1 y2 => z_RQ P M_8_year (z_rm 8) (z_mq P (some (zI r)) μ') 0 0 35 [some (zA 8 0), some (zI a1), some (zI a2), some (zI a3), some (zI y0), some (zI y1)] [] y2)) (Ex := (z_u2 fun z0 z1 => z_RQ P M_8_year (z_rm 8) (z_mq P (some (zI r)) μ') 0 0 83 [none, none, none, none, some (zI z0), none] [] z1)) (fun ⟨x8, x9, xm10⟩ K h hI hE => s8_year_L7 a1 a2 a3 x8 x9 xm10 K h (fun y0 y1 y2 e => hI (y0, y1, y2) e) (fun z0 z1 e => hE (z0, z1) e) ) _ _ _ hl23 ?_
          refine zr_iload d_8_year_83 rfl ?_
          obtain ⟨rfl, rfl⟩ := Prod.mk.inj (Option.some.inj h)
          exact ze_i d_8_year_85 rfl
def f8_tell (a1 : Int32) (a2 : Int32) (μ : zMem) : Option (Int32 × zMem) :=
  (if (f8_isPerson a1 μ) = 0 then some ((-1 : Int32), μ) else (if (f8_isPerson a2 μ) = 0 then some ((-1 : Int32), μ) else (if a1 = a2 then some ((-1 : Int32), μ) else (f2_add a1 a2 μ).bind (z_u2 fun q6 qm7 => some (q6, qm7)))))
theorem s8_tell {P : zP} {μ : zMem} {a1 : Int32} {a2 : Int32} {r : Int32} {μ' : zMem} (h : f8_tell a1 a2 μ = some (r, μ')) : z_Sp P y_8_tell M_8_tell 2 [zA 8 0, zI a1, zI a2] μ (some (zI r)) μ' := by
  refine z_Sp.of (plainFor_of_name (by decide)) rfl (l0 := [some (zA 8 0), some (zI a1), some (zI a2)]) rfl (Nat.le_of_ble_eq_true rfl) ?_
  unfold f8_tell at h
  refine zr_aload_n (i := 0) d_8_tell_0 rfl rfl ?_
  refine zr_iload_n (i := 1) d_8_tell_1 rfl rfl ?_
  refine zr_callVi (av := [zI a1]) (st := []) d_8_tell_2 mw_8_isPerson ml_8_131 im_8_isPerson se_8_isPerson rfl rfl (Nat.le_of_ble_eq_true rfl) fit_1_2_2 rfl rfl rfl (s8_isPerson rfl) ?_
  refine zr_if_eq (tgt := 21) d_8_tell_5 rfl (fun hc2 => ?_) (fun hc2 => ?_)
  · replace h := z_ip h hc2
    refine zr_iconst (v := (-1 : Int32)) d_8_tell_21 rfl ?_
    obtain ⟨rfl, rfl⟩ := Prod.mk.inj (Option.some.inj h)
    exact ze_i d_8_tell_22 rfl
  · replace h := z_im h hc2
    refine zr_aload_n (i := 0) d_8_tell_8 rfl rfl ?_
    refine zr_iload_n (i := 2) d_8_tell_9 rfl rfl ?_
    refine zr_callVi (av := [zI a2]) (st := []) d_8_tell_10 mw_8_isPerson ml_8_131 im_8_isPerson se_8_isPerson rfl rfl (Nat.le_of_ble_eq_true rfl) fit_1_2_2 rfl rfl rfl (s8_isPerson rfl) ?_
    refine zr_if_eq (tgt := 21) d_8_tell_13 rfl (fun hc4 => ?_) (fun hc4 => ?_)
    · replace h := z_ip h hc4
      refine zr_iconst (v := (-1 : Int32)) d_8_tell_21 rfl ?_
      obtain ⟨rfl, rfl⟩ := Prod.mk.inj (Option.some.inj h)
      exact ze_i d_8_tell_22 rfl
    · replace h := z_im h hc4
      refine zr_iload_n (i := 1) d_8_tell_16 rfl rfl ?_
      refine zr_iload_n (i := 2) d_8_tell_17 rfl rfl ?_
      refine zr_icmp_ne (tgt := 23) d_8_tell_18 rfl (fun hc5 => ?_) (fun hc5 => ?_)
      · replace h := z_ip h hc5
        refine zr_iconst (v := (-1 : Int32)) d_8_tell_21 rfl ?_
        obtain ⟨rfl, rfl⟩ := Prod.mk.inj (Option.some.inj h)
        exact ze_i d_8_tell_22 rfl
      · replace h := z_im h hc5
        refine zr_aload_n (i := 0) d_8_tell_23 rfl rfl ?_
        refine zr_gets (i' := 0) d_8_tell_24 fw_8_82 rfl ?_
        refine zr_iload_n (i := 1) d_8_tell_27 rfl rfl ?_
        refine zr_iload_n (i := 2) d_8_tell_28 rfl rfl ?_
        obtain ⟨⟨q6, qm7⟩, hq8, h⟩ := z_bd h
        replace h := z_h2 h
        refine zr_callVi (av := [zI a1, zI a2]) (st := []) d_8_tell_29 mw_2_add ml_8_278 im_2_add se_2_add rfl rfl (Nat.le_of_ble_eq_true rfl) fit_1_3_2 rfl rfl rfl (s2_add hq8) ?_
        obtain ⟨rfl, rfl⟩ := Prod.mk.inj (Option.some.inj h)
        exact ze_i d_8_tell_32 rfl
def f8_forget  (μ : zMem) : Int32 × zMem :=
  z_let (f2_clear μ) (fun qm1 => ((μ.1 2 0 2), qm1))
theorem s8_forget {P : zP} {μ : zMem} {r : Int32} {μ' : zMem} (h : f8_forget μ = (r, μ')) : z_Sp P y_8_forget M_8_forget 2 [zA 8 0] μ (some (zI r)) μ' := by
  refine z_Sp.of (plainFor_of_name (by decide)) rfl (l0 := [some (zA 8 0), none]) rfl (Nat.le_of_ble_eq_true rfl) ?_
  unfold f8_forget at h
  refine zr_aload_n (i := 0) d_8_forget_0 rfl rfl ?_
  refine zr_gets (i' := 0) d_8_forget_1 fw_8_82 rfl ?_
  refine zr_geti d_8_forget_4 fw_8_281 (by decide) ?_
  refine zr_istore_n (i := 1) (l' := [some (zA 8 0), some (zI (μ.1 2 0 2))]) d_8_forget_7 rfl (by decide) rfl ?_
  refine zr_aload_n (i := 0) d_8_forget_8 rfl rfl ?_
  refine zr_gets (i' := 0) d_8_forget_9 fw_8_82 rfl ?_
  obtain ⟨qm1, hq2, h⟩ := z_lt h
  refine zr_callVv (av := []) (st := []) d_8_forget_12 mw_2_clear ml_8_105 im_2_clear se_2_clear rfl rfl (Nat.le_of_ble_eq_true rfl) fit_1_1_2 rfl rfl rfl (s2_clear hq2.symm) ?_
  refine zr_iload_n (i := 1) d_8_forget_15 rfl rfl ?_
  obtain ⟨rfl, rfl⟩ := Prod.mk.inj h
  exact ze_i d_8_forget_16 rfl
def f8_isKnown (a1 : Int32) (μ : zMem) : Int32 :=
  (if a1 < 0 then (0 : Int32) else (if (μ.1 2 0 2) < a1 then (0 : Int32) else (1 : Int32)))
theorem s8_isKnown {P : zP} {μ : zMem} {a1 : Int32} {r : Int32} (h : f8_isKnown a1 μ = r) : z_Sp P y_8_isKnown M_8_isKnown 1 [zA 8 0, zI a1] μ (some (zI r)) μ := by
  refine z_Sp.of (plainFor_of_name (by decide)) rfl (l0 := [some (zA 8 0), some (zI a1)]) rfl (Nat.le_of_ble_eq_true rfl) ?_
  unfold f8_isKnown at h
  refine zr_iload_n (i := 1) d_8_isKnown_0 rfl rfl ?_
  refine zr_if_lt (tgt := 19) d_8_isKnown_1 rfl (fun hc1 => ?_) (fun hc1 => ?_)
  · replace h := z_ip h hc1
    refine zr_iconst (v := (0 : Int32)) d_8_isKnown_19 rfl ?_
    obtain rfl := h
    exact ze_z d_8_isKnown_20 rfl rfl
  · replace h := z_im h hc1
    refine zr_iload_n (i := 1) d_8_isKnown_4 rfl rfl ?_
    refine zr_aload_n (i := 0) d_8_isKnown_5 rfl rfl ?_
    refine zr_gets (i' := 0) d_8_isKnown_6 fw_8_82 rfl ?_
    refine zr_geti d_8_isKnown_9 fw_8_281 (by decide) ?_
    refine zr_icmp_gt (tgt := 19) d_8_isKnown_12 rfl (fun hc2 => ?_) (fun hc2 => ?_)
    · replace h := z_ip h hc2
      refine zr_iconst (v := (0 : Int32)) d_8_isKnown_19 rfl ?_
      obtain rfl := h
      exact ze_z d_8_isKnown_20 rfl rfl
    · replace h := z_im h hc2
      refine zr_iconst (v := (1 : Int32)) d_8_isKnown_15 rfl ?_
      refine zr_goto (tgt := 20) d_8_isKnown_16 rfl ?_
      obtain rfl := h
      exact ze_z d_8_isKnown_20 rfl rfl
def f8_orders (a1 : Int32) (μ : zMem) : Option (Int32 × zMem) :=
  (if (f8_isKnown a1 μ) = 0 then some ((-1 : Int32), μ) else (f2_weigh (μ.1 6 (μ.2.2 8 0 3) 1) a1 μ).bind (fun qm3 => (f2_all qm3).bind (fun q5 => some (q5, qm3))))
theorem s8_orders {P : zP} {μ : zMem} {a1 : Int32} {r : Int32} {μ' : zMem} (h : f8_orders a1 μ = some (r, μ')) : z_Sp P y_8_orders M_8_orders 5 [zA 8 0, zI a1] μ (some (zI r)) μ' := by
  refine z_Sp.of (plainFor_of_name (by decide)) rfl (l0 := [some (zA 8 0), some (zI a1)]) rfl (Nat.le_of_ble_eq_true rfl) ?_
  unfold f8_orders at h
  refine zr_aload_n (i := 0) d_8_orders_0 rfl rfl ?_
  refine zr_iload_n (i := 1) d_8_orders_1 rfl rfl ?_
  refine zr_callVi (av := [zI a1]) (st := []) d_8_orders_2 mw_8_isKnown ml_8_284 im_8_isKnown se_8_isKnown rfl rfl (Nat.le_of_ble_eq_true rfl) fit_1_2_5 rfl rfl rfl (s8_isKnown rfl) ?_
  refine zr_if_ne (tgt := 10) d_8_orders_5 rfl (fun hc2 => ?_) (fun hc2 => ?_)
  · replace h := z_ip h hc2
    refine zr_iconst (v := (-1 : Int32)) d_8_orders_8 rfl ?_
    obtain ⟨rfl, rfl⟩ := Prod.mk.inj (Option.some.inj h)
    exact ze_i d_8_orders_9 rfl
  · replace h := z_im h hc2
    refine zr_aload_n (i := 0) d_8_orders_10 rfl rfl ?_
    refine zr_gets (i' := 0) d_8_orders_11 fw_8_82 rfl ?_
    refine zr_aload_n (i := 0) d_8_orders_14 rfl rfl ?_
    refine zr_getd d_8_orders_15 fw_8_27 ?_
    refine zr_geti d_8_orders_18 fw_8_224 (by decide) ?_
    refine zr_iload_n (i := 1) d_8_orders_21 rfl rfl ?_
    obtain ⟨qm3, hq4, h⟩ := z_bd h
    refine zr_callVv (av := [zI (μ.1 6 (μ.2.2 8 0 3) 1), zI a1]) (st := []) d_8_orders_22 mw_2_weigh ml_8_287 im_2_weigh se_2_weigh rfl rfl (Nat.le_of_ble_eq_true rfl) fit_4_4_5 rfl rfl rfl (s2_weigh hq4) ?_
    refine zr_aload_n (i := 0) d_8_orders_25 rfl rfl ?_
    refine zr_gets (i' := 0) d_8_orders_26 fw_8_82 rfl ?_
    obtain ⟨q5, hq6, h⟩ := z_bd h
    refine zr_callVi (av := []) (st := []) d_8_orders_29 mw_2_all ml_8_290 im_2_all se_2_all rfl rfl (Nat.le_of_ble_eq_true rfl) fit_1_1_5 rfl rfl rfl (s2_all hq6) ?_
    obtain ⟨rfl, rfl⟩ := Prod.mk.inj (Option.some.inj h)
    exact ze_i d_8_orders_32 rfl
def f8_first_L7 (a2 : Int32) (qm5 : zMem) : (Int32) → Option ((Int32) ⊕ ((Unit) ⊕ (Int32 × zMem))) := (fun x8 => 
  (if x8 < (qm5.1 6 (qm5.2.2 8 0 3) 1) then (f2_timesAt a2 x8 qm5).bind (fun q10 => (if 0 < q10 then some (.inr (.inr (x8, qm5))) else some (.inl (x8 + (1 : Int32))))) else some (.inr (.inl ()))))
def f8_first (a1 : Int32) (a2 : Int32) (μ : zMem) : Option (Int32 × zMem) :=
  (if (f8_isKnown a1 μ) = 0 then some ((-1 : Int32), μ) else (if (f8_isPerson a2 μ) = 0 then some ((-1 : Int32), μ) else (f2_weigh (μ.1 6 (μ.2.2 8 0 3) 1) a1 μ).bind (fun qm5 => (z_it (f8_first_L7 a2 qm5) z_fu (0 : Int32)).bind (Sum.elim (fun (_ : Unit) => some ((-2 : Int32), qm5)) (z_u2 fun qr14 qr15 => some (qr14, qr15))))))
theorem s8_first_L7 {P : zP} {ro : Option zV} {μo : zMem} (a2 : Int32) (qm5 : zMem) (x8 : Int32) (K : (Int32) ⊕ ((Unit) ⊕ (Int32 × zMem))) (h : f8_first_L7 a2 qm5 x8 = some K) (hI : ∀ (y0 : Int32), K = .inl y0 → z_RQ P M_8_first (z_rm 5) (z_mq P ro μo) 0 0 35 [some (zA 8 0), none, some (zI a2), some (zI y0)] [] qm5) (hE : K = .inr (.inl ()) → z_RQ P M_8_first (z_rm 5) (z_mq P ro μo) 0 0 66 [none, none, none, none] [] qm5) (hR : ∀ (qr : Int32) (qm : zMem), K = .inr (.inr (qr, qm)) → ro = some (zI qr) ∧ μo = qm) : z_RQ P M_8_first (z_rm 5) (z_mq P ro μo) 0 0 35 [some (zA 8 0), none, some (zI a2), some (zI x8)] [] qm5 := by
  unfold f8_first_L7 at h
  refine zr_iload_n (i := 3) d_8_first_35 rfl rfl ?_
  refine zr_aload_n (i := 0) d_8_first_36 rfl rfl ?_
  refine zr_getd d_8_first_37 fw_8_27 ?_
  refine zr_geti d_8_first_40 fw_8_224 (by decide) ?_
  refine zr_icmp_ge (tgt := 66) d_8_first_43 rfl (fun hc9 => ?_) (fun hc9 => ?_)
  · replace h := z_ip h hc9
    refine zr_aload_n (i := 0) d_8_first_46 rfl rfl ?_
    refine zr_gets (i' := 0) d_8_first_47 fw_8_82 rfl ?_
    refine zr_iload_n (i := 2) d_8_first_50 rfl rfl ?_
    refine zr_iload_n (i := 3) d_8_first_51 rfl rfl ?_
    obtain ⟨q10, hq11, h⟩ := z_bd h
    refine zr_callVi (av := [zI a2, zI x8]) (st := []) d_8_first_52 mw_2_timesAt ml_8_293 im_2_timesAt se_2_timesAt rfl rfl (Nat.le_of_ble_eq_true rfl) fit_4_5_5 rfl rfl rfl (s2_timesAt hq11) ?_
    refine zr_if_le (tgt := 60) d_8_first_55 rfl (fun hc12 => ?_) (fun hc12 => ?_)
    · replace h := z_ip h hc12
      refine zr_iload_n (i := 3) d_8_first_58 rfl rfl ?_
      obtain rfl := Option.some.inj h
      obtain ⟨rfl, rfl⟩ := hR x8 qm5 rfl
      exact ze_i d_8_first_59 rfl
    · replace h := z_im h hc12
      refine zr_iinc (v := (x8 + (1 : Int32))) (l' := [some (zA 8 0), none, some (zI a2), some (zI (x8 + (1 : Int32)))]) d_8_first_60 (by decide) rfl rfl rfl ?_
      refine zr_goto (tgt := 35) d_8_first_63 rfl ?_
      obtain rfl := Option.some.inj h
      exact zr_wk2 (hI (x8 + (1 : Int32)) rfl) ⟨rfl, ⟨rfl, ⟨rfl, trivial⟩⟩⟩
  · replace h := z_im h hc9
    obtain rfl := Option.some.inj h
    exact zr_wk2 (hE  rfl) trivial
theorem s8_first {P : zP} {μ : zMem} {a1 : Int32} {a2 : Int32} {r : Int32} {μ' : zMem} (h : f8_first a1 a2 μ = some (r, μ')) : z_Sp P y_8_first M_8_first 5 [zA 8 0, zI a1, zI a2] μ (some (zI r)) μ' := by
  refine z_Sp.of (plainFor_of_name (by decide)) rfl (l0 := [some (zA 8 0), some (zI a1), some (zI a2), none]) rfl (Nat.le_of_ble_eq_true rfl) ?_
  unfold f8_first at h
  refine zr_aload_n (i := 0) d_8_first_0 rfl rfl ?_
  refine zr_iload_n (i := 1) d_8_first_1 rfl rfl ?_
  refine zr_callVi (av := [zI a1]) (st := []) d_8_first_2 mw_8_isKnown ml_8_284 im_8_isKnown se_8_isKnown rfl rfl (Nat.le_of_ble_eq_true rfl) fit_1_2_5 rfl rfl rfl (s8_isKnown rfl) ?_
  refine zr_if_eq (tgt := 16) d_8_first_5 rfl (fun hc2 => ?_) (fun hc2 => ?_)
  · replace h := z_ip h hc2
    refine zr_iconst (v := (-1 : Int32)) d_8_first_16 rfl ?_
    obtain ⟨rfl, rfl⟩ := Prod.mk.inj (Option.some.inj h)
    exact ze_i d_8_first_17 rfl
  · replace h := z_im h hc2
    refine zr_aload_n (i := 0) d_8_first_8 rfl rfl ?_
    refine zr_iload_n (i := 2) d_8_first_9 rfl rfl ?_
    refine zr_callVi (av := [zI a2]) (st := []) d_8_first_10 mw_8_isPerson ml_8_131 im_8_isPerson se_8_isPerson rfl rfl (Nat.le_of_ble_eq_true rfl) fit_1_2_5 rfl rfl rfl (s8_isPerson rfl) ?_
    refine zr_if_ne (tgt := 18) d_8_first_13 rfl (fun hc4 => ?_) (fun hc4 => ?_)
    · replace h := z_ip h hc4
      refine zr_iconst (v := (-1 : Int32)) d_8_first_16 rfl ?_
      obtain ⟨rfl, rfl⟩ := Prod.mk.inj (Option.some.inj h)
      exact ze_i d_8_first_17 rfl
    · replace h := z_im h hc4
      refine zr_aload_n (i := 0) d_8_first_18 rfl rfl ?_
      refine zr_gets (i' := 0) d_8_first_19 fw_8_82 rfl ?_
      refine zr_aload_n (i := 0) d_8_first_22 rfl rfl ?_
      refine zr_getd d_8_first_23 fw_8_27 ?_
      refine zr_geti d_8_first_26 fw_8_224 (by decide) ?_
      refine zr_iload_n (i := 1) d_8_first_29 rfl rfl ?_
      obtain ⟨qm5, hq6, h⟩ := z_bd h
      refine zr_callVv (av := [zI (μ.1 6 (μ.2.2 8 0 3) 1), zI a1]) (st := []) d_8_first_30 mw_2_weigh ml_8_287 im_2_weigh se_2_weigh rfl rfl (Nat.le_of_ble_eq_true rfl) fit_4_4_5 rfl rfl rfl (s2_weigh hq6) ?_
      refine zr_iconst (v := (0 : Int32)) d_8_first_33 rfl ?_
      refine zr_istore_n (i := 3) (l' := [some (zA 8 0), some (zI a1), some (zI a2), some (zI (0 : Int32))]) d_8_first_34 rfl (by decide) rfl ?_
      rcases z_bs h with ⟨⟨⟩, hl13, h⟩ | ⟨⟨qr14, qr15⟩, hl13, h⟩
      · refine zr_wk (l' := [some (zA 8 0), none, some (zI a2), some (zI (0 : Int32))]) ⟨rfl, ⟨rfl, ⟨rfl, trivial⟩⟩⟩ ?_
        refine z_loop (Hd := (fun y0 => z_RQ P M_8_first (z_rm 5) (z_mq P (some (zI r)) μ') 0 0 35 [some (zA 8 0), none, some (zI a2), some (zI y0)] [] qm5)) (Ex := (Sum.elim (fun (_ : Unit) => z_RQ P M_8_first (z_rm 5) (z_mq P (some (zI r)) μ') 0 0 66 [none, none, none, none] [] qm5) (z_u2 fun qr qm => (some (zI r)) = some (zI qr) ∧ μ' = qm))) (fun x8 K h hI hE => s8_first_L7 a2 qm5 x8 K h (fun y0 e => hI y0 e) (fun  e => hE (.inl ()) e) (fun qr qm e => hE (.inr (qr, qm)) e)) _ _ _ hl13 ?_
        refine zr_bipush (v := (-2 : Int32)) d_8_first_66 (by decide) ?_
        obtain ⟨rfl, rfl⟩ := Prod.mk.inj (Option.some.inj h)
        exact ze_i d_8_first_68 rfl
      · replace h := z_h2 h
        refine zr_wk (l' := [some (zA 8 0), none, some (zI a2), some (zI (0 : Int32))]) ⟨rfl, ⟨rfl, ⟨rfl, trivial⟩⟩⟩ ?_
        refine z_loop (Hd := (fun y0 => z_RQ P M_8_first (z_rm 5) (z_mq P (some (zI r)) μ') 0 0 35 [some (zA 8 0), none, some (zI a2), some (zI y0)] [] qm5)) (Ex := (Sum.elim (fun (_ : Unit) => z_RQ P M_8_first (z_rm 5) (z_mq P (some (zI r)) μ') 0 0 66 [none, none, none, none] [] qm5) (z_u2 fun qr qm => (some (zI r)) = some (zI qr) ∧ μ' = qm))) (fun x8 K h hI hE => s8_first_L7 a2 qm5 x8 K h (fun y0 e => hI y0 e) (fun  e => hE (.inl ()) e) (fun qr qm e => hE (.inr (qr, qm)) e)) _ _ _ hl13 ?_
        obtain ⟨rfl, rfl⟩ := Prod.mk.inj (Option.some.inj h)
        exact ⟨rfl, rfl⟩
def f8_last_L9 (a2 : Int32) (qm5 : zMem) : (Int32) → Option ((Int32) ⊕ ((Unit) ⊕ (Int32 × zMem))) := (fun x10 => 
  (if x10 < 0 then some (.inr (.inl ())) else (f2_timesAt a2 x10 qm5).bind (fun q12 => (if 0 < q12 then some (.inr (.inr (x10, qm5))) else some (.inl (x10 + (-1 : Int32)))))))
def f8_last (a1 : Int32) (a2 : Int32) (μ : zMem) : Option (Int32 × zMem) :=
  (if (f8_isKnown a1 μ) = 0 then some ((-1 : Int32), μ) else (if (f8_isPerson a2 μ) = 0 then some ((-1 : Int32), μ) else (f2_weigh (μ.1 6 (μ.2.2 8 0 3) 1) a1 μ).bind (fun qm5 => z_let ((qm5.1 6 (qm5.2.2 8 0 3) 1) - (1 : Int32)) fun v7 => (z_it (f8_last_L9 a2 qm5) z_fu v7).bind (Sum.elim (fun (_ : Unit) => some ((-2 : Int32), qm5)) (z_u2 fun qr16 qr17 => some (qr16, qr17))))))
theorem s8_last_L9 {P : zP} {ro : Option zV} {μo : zMem} (a2 : Int32) (qm5 : zMem) (x10 : Int32) (K : (Int32) ⊕ ((Unit) ⊕ (Int32 × zMem))) (h : f8_last_L9 a2 qm5 x10 = some K) (hI : ∀ (y0 : Int32), K = .inl y0 → z_RQ P M_8_last (z_rm 5) (z_mq P ro μo) 0 0 43 [some (zA 8 0), none, some (zI a2), some (zI y0)] [] qm5) (hE : K = .inr (.inl ()) → z_RQ P M_8_last (z_rm 5) (z_mq P ro μo) 0 0 67 [none, none, none, none] [] qm5) (hR : ∀ (qr : Int32) (qm : zMem), K = .inr (.inr (qr, qm)) → ro = some (zI qr) ∧ μo = qm) : z_RQ P M_8_last (z_rm 5) (z_mq P ro μo) 0 0 43 [some (zA 8 0), none, some (zI a2), some (zI x10)] [] qm5 := by
  unfold f8_last_L9 at h
  refine zr_iload_n (i := 3) d_8_last_43 rfl rfl ?_
  refine zr_if_lt (tgt := 67) d_8_last_44 rfl (fun hc11 => ?_) (fun hc11 => ?_)
  · replace h := z_ip h hc11
    obtain rfl := Option.some.inj h
    exact zr_wk2 (hE  rfl) trivial
  · replace h := z_im h hc11
    refine zr_aload_n (i := 0) d_8_last_47 rfl rfl ?_
    refine zr_gets (i' := 0) d_8_last_48 fw_8_82 rfl ?_
    refine zr_iload_n (i := 2) d_8_last_51 rfl rfl ?_
    refine zr_iload_n (i := 3) d_8_last_52 rfl rfl ?_
    obtain ⟨q12, hq13, h⟩ := z_bd h
    refine zr_callVi (av := [zI a2, zI x10]) (st := []) d_8_last_53 mw_2_timesAt ml_8_293 im_2_timesAt se_2_timesAt rfl rfl (Nat.le_of_ble_eq_true rfl) fit_4_5_5 rfl rfl rfl (s2_timesAt hq13) ?_
    refine zr_if_le (tgt := 61) d_8_last_56 rfl (fun hc14 => ?_) (fun hc14 => ?_)
    · replace h := z_ip h hc14
      refine zr_iload_n (i := 3) d_8_last_59 rfl rfl ?_
      obtain rfl := Option.some.inj h
      obtain ⟨rfl, rfl⟩ := hR x10 qm5 rfl
      exact ze_i d_8_last_60 rfl
    · replace h := z_im h hc14
      refine zr_iinc (v := (x10 + (-1 : Int32))) (l' := [some (zA 8 0), none, some (zI a2), some (zI (x10 + (-1 : Int32)))]) d_8_last_61 (by decide) rfl (z_neg_1 _) rfl ?_
      refine zr_goto (tgt := 43) d_8_last_64 rfl ?_
      obtain rfl := Option.some.inj h
      exact zr_wk2 (hI (x10 + (-1 : Int32)) rfl) ⟨rfl, ⟨rfl, ⟨rfl, trivial⟩⟩⟩
theorem s8_last {P : zP} {μ : zMem} {a1 : Int32} {a2 : Int32} {r : Int32} {μ' : zMem} (h : f8_last a1 a2 μ = some (r, μ')) : z_Sp P y_8_last M_8_last 5 [zA 8 0, zI a1, zI a2] μ (some (zI r)) μ' := by
  refine z_Sp.of (plainFor_of_name (by decide)) rfl (l0 := [some (zA 8 0), some (zI a1), some (zI a2), none]) rfl (Nat.le_of_ble_eq_true rfl) ?_
  unfold f8_last at h
  refine zr_aload_n (i := 0) d_8_last_0 rfl rfl ?_
  refine zr_iload_n (i := 1) d_8_last_1 rfl rfl ?_
  refine zr_callVi (av := [zI a1]) (st := []) d_8_last_2 mw_8_isKnown ml_8_284 im_8_isKnown se_8_isKnown rfl rfl (Nat.le_of_ble_eq_true rfl) fit_1_2_5 rfl rfl rfl (s8_isKnown rfl) ?_
  refine zr_if_eq (tgt := 16) d_8_last_5 rfl (fun hc2 => ?_) (fun hc2 => ?_)
  · replace h := z_ip h hc2
    refine zr_iconst (v := (-1 : Int32)) d_8_last_16 rfl ?_
    obtain ⟨rfl, rfl⟩ := Prod.mk.inj (Option.some.inj h)
    exact ze_i d_8_last_17 rfl
  · replace h := z_im h hc2
    refine zr_aload_n (i := 0) d_8_last_8 rfl rfl ?_
    refine zr_iload_n (i := 2) d_8_last_9 rfl rfl ?_
    refine zr_callVi (av := [zI a2]) (st := []) d_8_last_10 mw_8_isPerson ml_8_131 im_8_isPerson se_8_isPerson rfl rfl (Nat.le_of_ble_eq_true rfl) fit_1_2_5 rfl rfl rfl (s8_isPerson rfl) ?_
    refine zr_if_ne (tgt := 18) d_8_last_13 rfl (fun hc4 => ?_) (fun hc4 => ?_)
    · replace h := z_ip h hc4
      refine zr_iconst (v := (-1 : Int32)) d_8_last_16 rfl ?_
      obtain ⟨rfl, rfl⟩ := Prod.mk.inj (Option.some.inj h)
      exact ze_i d_8_last_17 rfl
    · replace h := z_im h hc4
      refine zr_aload_n (i := 0) d_8_last_18 rfl rfl ?_
      refine zr_gets (i' := 0) d_8_last_19 fw_8_82 rfl ?_
      refine zr_aload_n (i := 0) d_8_last_22 rfl rfl ?_
      refine zr_getd d_8_last_23 fw_8_27 ?_
      refine zr_geti d_8_last_26 fw_8_224 (by decide) ?_
      refine zr_iload_n (i := 1) d_8_last_29 rfl rfl ?_
      obtain ⟨qm5, hq6, h⟩ := z_bd h
      refine zr_callVv (av := [zI (μ.1 6 (μ.2.2 8 0 3) 1), zI a1]) (st := []) d_8_last_30 mw_2_weigh ml_8_287 im_2_weigh se_2_weigh rfl rfl (Nat.le_of_ble_eq_true rfl) fit_4_4_5 rfl rfl rfl (s2_weigh hq6) ?_
      refine zr_aload_n (i := 0) d_8_last_33 rfl rfl ?_
      refine zr_getd d_8_last_34 fw_8_27 ?_
      refine zr_geti d_8_last_37 fw_8_224 (by decide) ?_
      refine zr_iconst (v := (1 : Int32)) d_8_last_40 rfl ?_
      refine zr_isub d_8_last_41 ?_
      obtain ⟨v7, hv8, h⟩ := z_lt h
      refine zr_nm hv8 ?_
      refine zr_istore_n (i := 3) (l' := [some (zA 8 0), some (zI a1), some (zI a2), some (zI v7)]) d_8_last_42 rfl (by decide) rfl ?_
      rcases z_bs h with ⟨⟨⟩, hl15, h⟩ | ⟨⟨qr16, qr17⟩, hl15, h⟩
      · refine zr_wk (l' := [some (zA 8 0), none, some (zI a2), some (zI v7)]) ⟨rfl, ⟨rfl, ⟨rfl, trivial⟩⟩⟩ ?_
        refine z_loop (Hd := (fun y0 => z_RQ P M_8_last (z_rm 5) (z_mq P (some (zI r)) μ') 0 0 43 [some (zA 8 0), none, some (zI a2), some (zI y0)] [] qm5)) (Ex := (Sum.elim (fun (_ : Unit) => z_RQ P M_8_last (z_rm 5) (z_mq P (some (zI r)) μ') 0 0 67 [none, none, none, none] [] qm5) (z_u2 fun qr qm => (some (zI r)) = some (zI qr) ∧ μ' = qm))) (fun x10 K h hI hE => s8_last_L9 a2 qm5 x10 K h (fun y0 e => hI y0 e) (fun  e => hE (.inl ()) e) (fun qr qm e => hE (.inr (qr, qm)) e)) _ _ _ hl15 ?_
        refine zr_bipush (v := (-2 : Int32)) d_8_last_67 (by decide) ?_
        obtain ⟨rfl, rfl⟩ := Prod.mk.inj (Option.some.inj h)
        exact ze_i d_8_last_69 rfl
      · replace h := z_h2 h
        refine zr_wk (l' := [some (zA 8 0), none, some (zI a2), some (zI v7)]) ⟨rfl, ⟨rfl, ⟨rfl, trivial⟩⟩⟩ ?_
        refine z_loop (Hd := (fun y0 => z_RQ P M_8_last (z_rm 5) (z_mq P (some (zI r)) μ') 0 0 43 [some (zA 8 0), none, some (zI a2), some (zI y0)] [] qm5)) (Ex := (Sum.elim (fun (_ : Unit) => z_RQ P M_8_last (z_rm 5) (z_mq P (some (zI r)) μ') 0 0 67 [none, none, none, none] [] qm5) (z_u2 fun qr qm => (some (zI r)) = some (zI qr) ∧ μ' = qm))) (fun x10 K h hI hE => s8_last_L9 a2 qm5 x10 K h (fun y0 e => hI y0 e) (fun  e => hE (.inl ()) e) (fun qr qm e => hE (.inr (qr, qm)) e)) _ _ _ hl15 ?_
        obtain ⟨rfl, rfl⟩ := Prod.mk.inj (Option.some.inj h)
        exact ⟨rfl, rfl⟩
def f8_placed (a1 : Int32) (a2 : Int32) (a3 : Int32) (μ : zMem) : Option (Int32 × zMem) :=
  (if (f8_isKnown a1 μ) = 0 then some ((-1 : Int32), μ) else (if (f8_isPerson a2 μ) = 0 then some ((-1 : Int32), μ) else (if a3 < 0 then some ((-1 : Int32), μ) else (if a3 < (μ.1 6 (μ.2.2 8 0 3) 1) then (f2_weigh (μ.1 6 (μ.2.2 8 0 3) 1) a1 μ).bind (fun qm7 => (f2_timesAt a2 a3 qm7).bind (fun q9 => some (q9, qm7))) else some ((-1 : Int32), μ)))))
theorem s8_placed {P : zP} {μ : zMem} {a1 : Int32} {a2 : Int32} {a3 : Int32} {r : Int32} {μ' : zMem} (h : f8_placed a1 a2 a3 μ = some (r, μ')) : z_Sp P y_8_placed M_8_placed 5 [zA 8 0, zI a1, zI a2, zI a3] μ (some (zI r)) μ' := by
  refine z_Sp.of (plainFor_of_name (by decide)) rfl (l0 := [some (zA 8 0), some (zI a1), some (zI a2), some (zI a3)]) rfl (Nat.le_of_ble_eq_true rfl) ?_
  unfold f8_placed at h
  refine zr_aload_n (i := 0) d_8_placed_0 rfl rfl ?_
  refine zr_iload_n (i := 1) d_8_placed_1 rfl rfl ?_
  refine zr_callVi (av := [zI a1]) (st := []) d_8_placed_2 mw_8_isKnown ml_8_284 im_8_isKnown se_8_isKnown rfl rfl (Nat.le_of_ble_eq_true rfl) fit_1_2_5 rfl rfl rfl (s8_isKnown rfl) ?_
  refine zr_if_eq (tgt := 31) d_8_placed_5 rfl (fun hc2 => ?_) (fun hc2 => ?_)
  · replace h := z_ip h hc2
    refine zr_iconst (v := (-1 : Int32)) d_8_placed_31 rfl ?_
    obtain ⟨rfl, rfl⟩ := Prod.mk.inj (Option.some.inj h)
    exact ze_i d_8_placed_32 rfl
  · replace h := z_im h hc2
    refine zr_aload_n (i := 0) d_8_placed_8 rfl rfl ?_
    refine zr_iload_n (i := 2) d_8_placed_9 rfl rfl ?_
    refine zr_callVi (av := [zI a2]) (st := []) d_8_placed_10 mw_8_isPerson ml_8_131 im_8_isPerson se_8_isPerson rfl rfl (Nat.le_of_ble_eq_true rfl) fit_1_2_5 rfl rfl rfl (s8_isPerson rfl) ?_
    refine zr_if_eq (tgt := 31) d_8_placed_13 rfl (fun hc4 => ?_) (fun hc4 => ?_)
    · replace h := z_ip h hc4
      refine zr_iconst (v := (-1 : Int32)) d_8_placed_31 rfl ?_
      obtain ⟨rfl, rfl⟩ := Prod.mk.inj (Option.some.inj h)
      exact ze_i d_8_placed_32 rfl
    · replace h := z_im h hc4
      refine zr_iload_n (i := 3) d_8_placed_16 rfl rfl ?_
      refine zr_if_lt (tgt := 31) d_8_placed_17 rfl (fun hc5 => ?_) (fun hc5 => ?_)
      · replace h := z_ip h hc5
        refine zr_iconst (v := (-1 : Int32)) d_8_placed_31 rfl ?_
        obtain ⟨rfl, rfl⟩ := Prod.mk.inj (Option.some.inj h)
        exact ze_i d_8_placed_32 rfl
      · replace h := z_im h hc5
        refine zr_iload_n (i := 3) d_8_placed_20 rfl rfl ?_
        refine zr_aload_n (i := 0) d_8_placed_21 rfl rfl ?_
        refine zr_getd d_8_placed_22 fw_8_27 ?_
        refine zr_geti d_8_placed_25 fw_8_224 (by decide) ?_
        refine zr_icmp_lt (tgt := 33) d_8_placed_28 rfl (fun hc6 => ?_) (fun hc6 => ?_)
        · replace h := z_ip h hc6
          refine zr_aload_n (i := 0) d_8_placed_33 rfl rfl ?_
          refine zr_gets (i' := 0) d_8_placed_34 fw_8_82 rfl ?_
          refine zr_aload_n (i := 0) d_8_placed_37 rfl rfl ?_
          refine zr_getd d_8_placed_38 fw_8_27 ?_
          refine zr_geti d_8_placed_41 fw_8_224 (by decide) ?_
          refine zr_iload_n (i := 1) d_8_placed_44 rfl rfl ?_
          obtain ⟨qm7, hq8, h⟩ := z_bd h
          refine zr_callVv (av := [zI (μ.1 6 (μ.2.2 8 0 3) 1), zI a1]) (st := []) d_8_placed_45 mw_2_weigh ml_8_287 im_2_weigh se_2_weigh rfl rfl (Nat.le_of_ble_eq_true rfl) fit_4_4_5 rfl rfl rfl (s2_weigh hq8) ?_
          refine zr_aload_n (i := 0) d_8_placed_48 rfl rfl ?_
          refine zr_gets (i' := 0) d_8_placed_49 fw_8_82 rfl ?_
          refine zr_iload_n (i := 2) d_8_placed_52 rfl rfl ?_
          refine zr_iload_n (i := 3) d_8_placed_53 rfl rfl ?_
          obtain ⟨q9, hq10, h⟩ := z_bd h
          refine zr_callVi (av := [zI a2, zI a3]) (st := []) d_8_placed_54 mw_2_timesAt ml_8_293 im_2_timesAt se_2_timesAt rfl rfl (Nat.le_of_ble_eq_true rfl) fit_4_5_5 rfl rfl rfl (s2_timesAt hq10) ?_
          obtain ⟨rfl, rfl⟩ := Prod.mk.inj (Option.some.inj h)
          exact ze_i d_8_placed_57 rfl
        · replace h := z_im h hc6
          refine zr_iconst (v := (-1 : Int32)) d_8_placed_31 rfl ?_
          obtain ⟨rfl, rfl⟩ := Prod.mk.inj (Option.some.inj h)
          exact ze_i d_8_placed_32 rfl
def f8_before (a1 : Int32) (a2 : Int32) (a3 : Int32) (μ : zMem) : Option (Int32 × zMem) :=
  (if (f8_isKnown a1 μ) = 0 then some ((-1 : Int32), μ) else (if (f8_isPerson a2 μ) = 0 then some ((-1 : Int32), μ) else (if (f8_isPerson a3 μ) = 0 then some ((-1 : Int32), μ) else (if a2 = a3 then some ((-1 : Int32), μ) else (f2_weigh (μ.1 6 (μ.2.2 8 0 3) 1) a1 μ).bind (fun qm8 => (f2_timesAhead a2 a3 qm8).bind (fun q10 => some (q10, qm8)))))))
theorem s8_before {P : zP} {μ : zMem} {a1 : Int32} {a2 : Int32} {a3 : Int32} {r : Int32} {μ' : zMem} (h : f8_before a1 a2 a3 μ = some (r, μ')) : z_Sp P y_8_before M_8_before 5 [zA 8 0, zI a1, zI a2, zI a3] μ (some (zI r)) μ' := by
  refine z_Sp.of (plainFor_of_name (by decide)) rfl (l0 := [some (zA 8 0), some (zI a1), some (zI a2), some (zI a3)]) rfl (Nat.le_of_ble_eq_true rfl) ?_
  unfold f8_before at h
  refine zr_aload_n (i := 0) d_8_before_0 rfl rfl ?_
  refine zr_iload_n (i := 1) d_8_before_1 rfl rfl ?_
  refine zr_callVi (av := [zI a1]) (st := []) d_8_before_2 mw_8_isKnown ml_8_284 im_8_isKnown se_8_isKnown rfl rfl (Nat.le_of_ble_eq_true rfl) fit_1_2_5 rfl rfl rfl (s8_isKnown rfl) ?_
  refine zr_if_eq (tgt := 29) d_8_before_5 rfl (fun hc2 => ?_) (fun hc2 => ?_)
  · replace h := z_ip h hc2
    refine zr_iconst (v := (-1 : Int32)) d_8_before_29 rfl ?_
    obtain ⟨rfl, rfl⟩ := Prod.mk.inj (Option.some.inj h)
    exact ze_i d_8_before_30 rfl
  · replace h := z_im h hc2
    refine zr_aload_n (i := 0) d_8_before_8 rfl rfl ?_
    refine zr_iload_n (i := 2) d_8_before_9 rfl rfl ?_
    refine zr_callVi (av := [zI a2]) (st := []) d_8_before_10 mw_8_isPerson ml_8_131 im_8_isPerson se_8_isPerson rfl rfl (Nat.le_of_ble_eq_true rfl) fit_1_2_5 rfl rfl rfl (s8_isPerson rfl) ?_
    refine zr_if_eq (tgt := 29) d_8_before_13 rfl (fun hc4 => ?_) (fun hc4 => ?_)
    · replace h := z_ip h hc4
      refine zr_iconst (v := (-1 : Int32)) d_8_before_29 rfl ?_
      obtain ⟨rfl, rfl⟩ := Prod.mk.inj (Option.some.inj h)
      exact ze_i d_8_before_30 rfl
    · replace h := z_im h hc4
      refine zr_aload_n (i := 0) d_8_before_16 rfl rfl ?_
      refine zr_iload_n (i := 3) d_8_before_17 rfl rfl ?_
      refine zr_callVi (av := [zI a3]) (st := []) d_8_before_18 mw_8_isPerson ml_8_131 im_8_isPerson se_8_isPerson rfl rfl (Nat.le_of_ble_eq_true rfl) fit_1_2_5 rfl rfl rfl (s8_isPerson rfl) ?_
      refine zr_if_eq (tgt := 29) d_8_before_21 rfl (fun hc6 => ?_) (fun hc6 => ?_)
      · replace h := z_ip h hc6
        refine zr_iconst (v := (-1 : Int32)) d_8_before_29 rfl ?_
        obtain ⟨rfl, rfl⟩ := Prod.mk.inj (Option.some.inj h)
        exact ze_i d_8_before_30 rfl
      · replace h := z_im h hc6
        refine zr_iload_n (i := 2) d_8_before_24 rfl rfl ?_
        refine zr_iload_n (i := 3) d_8_before_25 rfl rfl ?_
        refine zr_icmp_ne (tgt := 31) d_8_before_26 rfl (fun hc7 => ?_) (fun hc7 => ?_)
        · replace h := z_ip h hc7
          refine zr_iconst (v := (-1 : Int32)) d_8_before_29 rfl ?_
          obtain ⟨rfl, rfl⟩ := Prod.mk.inj (Option.some.inj h)
          exact ze_i d_8_before_30 rfl
        · replace h := z_im h hc7
          refine zr_aload_n (i := 0) d_8_before_31 rfl rfl ?_
          refine zr_gets (i' := 0) d_8_before_32 fw_8_82 rfl ?_
          refine zr_aload_n (i := 0) d_8_before_35 rfl rfl ?_
          refine zr_getd d_8_before_36 fw_8_27 ?_
          refine zr_geti d_8_before_39 fw_8_224 (by decide) ?_
          refine zr_iload_n (i := 1) d_8_before_42 rfl rfl ?_
          obtain ⟨qm8, hq9, h⟩ := z_bd h
          refine zr_callVv (av := [zI (μ.1 6 (μ.2.2 8 0 3) 1), zI a1]) (st := []) d_8_before_43 mw_2_weigh ml_8_287 im_2_weigh se_2_weigh rfl rfl (Nat.le_of_ble_eq_true rfl) fit_4_4_5 rfl rfl rfl (s2_weigh hq9) ?_
          refine zr_aload_n (i := 0) d_8_before_46 rfl rfl ?_
          refine zr_gets (i' := 0) d_8_before_47 fw_8_82 rfl ?_
          refine zr_iload_n (i := 2) d_8_before_50 rfl rfl ?_
          refine zr_iload_n (i := 3) d_8_before_51 rfl rfl ?_
          obtain ⟨q10, hq11, h⟩ := z_bd h
          refine zr_callVi (av := [zI a2, zI a3]) (st := []) d_8_before_52 mw_2_timesAhead ml_8_296 im_2_timesAhead se_2_timesAhead rfl rfl (Nat.le_of_ble_eq_true rfl) fit_4_5_5 rfl rfl rfl (s2_timesAhead hq11) ?_
          obtain ⟨rfl, rfl⟩ := Prod.mk.inj (Option.some.inj h)
          exact ze_i d_8_before_55 rfl
def f8_sum_L7 (a2 : Int32) (qm5 : zMem) : (Int32 × Int32) → Option ((Int32 × Int32) ⊕ (Int32)) := (z_u2 fun x8 x9 => 
  (if x9 < (qm5.1 6 (qm5.2.2 8 0 3) 1) then (f2_timesAt a2 x9 qm5).bind (fun q11 => some (.inl ((x8 + (x9 * q11)), (x9 + (1 : Int32))))) else some (.inr x8)))
def f8_sum (a1 : Int32) (a2 : Int32) (μ : zMem) : Option (Int32 × zMem) :=
  (if (f8_isKnown a1 μ) = 0 then some ((-1 : Int32), μ) else (if (f8_isPerson a2 μ) = 0 then some ((-1 : Int32), μ) else (f2_weigh (μ.1 6 (μ.2.2 8 0 3) 1) a1 μ).bind (fun qm5 => (z_it (f8_sum_L7 a2 qm5) z_fu ((0 : Int32), (0 : Int32))).bind (fun e13 => some (e13, qm5)))))
theorem s8_sum_L7 {P : zP} {ro : Option zV} {μo : zMem} (a2 : Int32) (qm5 : zMem) (x8 : Int32) (x9 : Int32) (K : (Int32 × Int32) ⊕ (Int32)) (h : f8_sum_L7 a2 qm5 (x8, x9) = some K) (hI : ∀ (y0 : Int32) (y1 : Int32), K = .inl (y0, y1) → z_RQ P M_8_sum (z_rm 5) (z_mq P ro μo) 0 0 38 [some (zA 8 0), none, some (zI a2), some (zI y0), some (zI y1)] [] qm5) (hE : ∀ (z0 : Int32), K = .inr z0 → z_RQ P M_8_sum (z_rm 5) (z_mq P ro μo) 0 0 72 [none, none, none, some (zI z0), none] [] qm5)  : z_RQ P M_8_sum (z_rm 5) (z_mq P ro μo) 0 0 38 [some (zA 8 0), none, some (zI a2), some (zI x8), some (zI x9)] [] qm5 := by
  unfold f8_sum_L7 at h
  replace h := z_h2 h
  refine zr_iload d_8_sum_38 rfl ?_
  refine zr_aload_n (i := 0) d_8_sum_40 rfl rfl ?_
  refine zr_getd d_8_sum_41 fw_8_27 ?_
  refine zr_geti d_8_sum_44 fw_8_224 (by decide) ?_
  refine zr_icmp_ge (tgt := 72) d_8_sum_47 rfl (fun hc10 => ?_) (fun hc10 => ?_)
  · replace h := z_ip h hc10
    refine zr_iload_n (i := 3) d_8_sum_50 rfl rfl ?_
    refine zr_iload d_8_sum_51 rfl ?_
    refine zr_aload_n (i := 0) d_8_sum_53 rfl rfl ?_
    refine zr_gets (i' := 0) d_8_sum_54 fw_8_82 rfl ?_
    refine zr_iload_n (i := 2) d_8_sum_57 rfl rfl ?_
    refine zr_iload d_8_sum_58 rfl ?_
    obtain ⟨q11, hq12, h⟩ := z_bd h
    refine zr_callVi (av := [zI a2, zI x9]) (st := [zI x9, zI x8]) d_8_sum_60 mw_2_timesAt ml_8_293 im_2_timesAt se_2_timesAt rfl rfl (Nat.le_of_ble_eq_true rfl) fit_4_5_5 rfl rfl rfl (s2_timesAt hq12) ?_
    refine zr_imul d_8_sum_63 ?_
    refine zr_iadd d_8_sum_64 ?_
    refine zr_istore_n (i := 3) (l' := [some (zA 8 0), none, some (zI a2), some (zI (x8 + (x9 * q11))), some (zI x9)]) d_8_sum_65 rfl (by decide) rfl ?_
    refine zr_iinc (v := (x9 + (1 : Int32))) (l' := [some (zA 8 0), none, some (zI a2), some (zI (x8 + (x9 * q11))), some (zI (x9 + (1 : Int32)))]) d_8_sum_66 (by decide) rfl rfl rfl ?_
    refine zr_goto (tgt := 38) d_8_sum_69 rfl ?_
    obtain rfl := Option.some.inj h
    exact zr_wk2 (hI (x8 + (x9 * q11)) (x9 + (1 : Int32)) rfl) ⟨rfl, ⟨rfl, ⟨rfl, ⟨rfl, trivial⟩⟩⟩⟩
  · replace h := z_im h hc10
    obtain rfl := Option.some.inj h
    exact zr_wk2 (hE x8 rfl) ⟨rfl, trivial⟩
theorem s8_sum {P : zP} {μ : zMem} {a1 : Int32} {a2 : Int32} {r : Int32} {μ' : zMem} (h : f8_sum a1 a2 μ = some (r, μ')) : z_Sp P y_8_sum M_8_sum 5 [zA 8 0, zI a1, zI a2] μ (some (zI r)) μ' := by
  refine z_Sp.of (plainFor_of_name (by decide)) rfl (l0 := [some (zA 8 0), some (zI a1), some (zI a2), none, none]) rfl (Nat.le_of_ble_eq_true rfl) ?_
  unfold f8_sum at h
  refine zr_aload_n (i := 0) d_8_sum_0 rfl rfl ?_
  refine zr_iload_n (i := 1) d_8_sum_1 rfl rfl ?_
  refine zr_callVi (av := [zI a1]) (st := []) d_8_sum_2 mw_8_isKnown ml_8_284 im_8_isKnown se_8_isKnown rfl rfl (Nat.le_of_ble_eq_true rfl) fit_1_2_5 rfl rfl rfl (s8_isKnown rfl) ?_
  refine zr_if_eq (tgt := 16) d_8_sum_5 rfl (fun hc2 => ?_) (fun hc2 => ?_)
  · replace h := z_ip h hc2
    refine zr_iconst (v := (-1 : Int32)) d_8_sum_16 rfl ?_
    obtain ⟨rfl, rfl⟩ := Prod.mk.inj (Option.some.inj h)
    exact ze_i d_8_sum_17 rfl
  · replace h := z_im h hc2
    refine zr_aload_n (i := 0) d_8_sum_8 rfl rfl ?_
    refine zr_iload_n (i := 2) d_8_sum_9 rfl rfl ?_
    refine zr_callVi (av := [zI a2]) (st := []) d_8_sum_10 mw_8_isPerson ml_8_131 im_8_isPerson se_8_isPerson rfl rfl (Nat.le_of_ble_eq_true rfl) fit_1_2_5 rfl rfl rfl (s8_isPerson rfl) ?_
    refine zr_if_ne (tgt := 18) d_8_sum_13 rfl (fun hc4 => ?_) (fun hc4 => ?_)
    · replace h := z_ip h hc4
      refine zr_iconst (v := (-1 : Int32)) d_8_sum_16 rfl ?_
      obtain ⟨rfl, rfl⟩ := Prod.mk.inj (Option.some.inj h)
      exact ze_i d_8_sum_17 rfl
    · replace h := z_im h hc4
      refine zr_aload_n (i := 0) d_8_sum_18 rfl rfl ?_
      refine zr_gets (i' := 0) d_8_sum_19 fw_8_82 rfl ?_
      refine zr_aload_n (i := 0) d_8_sum_22 rfl rfl ?_
      refine zr_getd d_8_sum_23 fw_8_27 ?_
      refine zr_geti d_8_sum_26 fw_8_224 (by decide) ?_
      refine zr_iload_n (i := 1) d_8_sum_29 rfl rfl ?_
      obtain ⟨qm5, hq6, h⟩ := z_bd h
      refine zr_callVv (av := [zI (μ.1 6 (μ.2.2 8 0 3) 1), zI a1]) (st := []) d_8_sum_30 mw_2_weigh ml_8_287 im_2_weigh se_2_weigh rfl rfl (Nat.le_of_ble_eq_true rfl) fit_4_4_5 rfl rfl rfl (s2_weigh hq6) ?_
      refine zr_iconst (v := (0 : Int32)) d_8_sum_33 rfl ?_
      refine zr_istore_n (i := 3) (l' := [some (zA 8 0), some (zI a1), some (zI a2), some (zI (0 : Int32)), none]) d_8_sum_34 rfl (by decide) rfl ?_
      refine zr_iconst (v := (0 : Int32)) d_8_sum_35 rfl ?_
      refine zr_istore (i := 4) (l' := [some (zA 8 0), some (zI a1), some (zI a2), some (zI (0 : Int32)), some (zI (0 : Int32))]) d_8_sum_36 (by decide) rfl ?_
      obtain ⟨e13, hl14, h⟩ := z_bd h
      refine zr_wk (l' := [some (zA 8 0), none, some (zI a2), some (zI (0 : Int32)), some (zI (0 : Int32))]) ⟨rfl, ⟨rfl, ⟨rfl, ⟨rfl, trivial⟩⟩⟩⟩ ?_
      refine z_loop (Hd := (z_u2 fun y0 y1 => z_RQ P M_8_sum (z_rm 5) (z_mq P (some (zI r)) μ') 0 0 38 [some (zA 8 0), none, some (zI a2), some (zI y0), some (zI y1)] [] qm5)) (Ex := (fun z0 => z_RQ P M_8_sum (z_rm 5) (z_mq P (some (zI r)) μ') 0 0 72 [none, none, none, some (zI z0), none] [] qm5)) (fun ⟨x8, x9⟩ K h hI hE => s8_sum_L7 a2 qm5 x8 x9 K h (fun y0 y1 e => hI (y0, y1) e) (fun z0 e => hE z0 e) ) _ _ _ hl14 ?_
      refine zr_iload_n (i := 3) d_8_sum_72 rfl rfl ?_
      obtain ⟨rfl, rfl⟩ := Prod.mk.inj (Option.some.inj h)
      exact ze_i d_8_sum_73 rfl
def f8_ahead_L10 (a2 : Int32) (qm5 : zMem) : (Int32 × Int32) → Option ((Int32 × Int32) ⊕ (Int32)) := (z_u2 fun x11 x12 => 
  (if x12 < (qm5.1 6 (qm5.2.2 8 0 3) 1) then ((if x12 = a2 then some x11 else (f2_timesAhead x12 a2 qm5).bind (fun q17 => (f2_all qm5).bind (fun q19 => (if q17 = q19 then z_let (x11 ||| ((1 : Int32) <<< (x12 &&& 31))) fun v22 => some v22 else some x11)))) : Option (Int32)).bind (fun j24 => some (.inl (j24, (x12 + (1 : Int32))))) else some (.inr x11)))
def f8_ahead (a1 : Int32) (a2 : Int32) (μ : zMem) : Option (Int32 × zMem) :=
  (if (f8_isKnown a1 μ) = 0 then some ((-1 : Int32), μ) else (if (f8_isPerson a2 μ) = 0 then some ((-1 : Int32), μ) else (f2_weigh (μ.1 6 (μ.2.2 8 0 3) 1) a1 μ).bind (fun qm5 => (f2_all qm5).bind (fun q7 => (if q7 = 0 then some ((-2 : Int32), qm5) else (z_it (f8_ahead_L10 a2 qm5) z_fu ((0 : Int32), (0 : Int32))).bind (fun e25 => some (e25, qm5)))))))
theorem s8_ahead_L10 {P : zP} {ro : Option zV} {μo : zMem} (a2 : Int32) (qm5 : zMem) (x11 : Int32) (x12 : Int32) (K : (Int32 × Int32) ⊕ (Int32)) (h : f8_ahead_L10 a2 qm5 (x11, x12) = some K) (hI : ∀ (y0 : Int32) (y1 : Int32), K = .inl (y0, y1) → z_RQ P M_8_ahead (z_rm 5) (z_mq P ro μo) 0 0 51 [some (zA 8 0), none, some (zI a2), some (zI y0), some (zI y1)] [] qm5) (hE : ∀ (z0 : Int32), K = .inr z0 → z_RQ P M_8_ahead (z_rm 5) (z_mq P ro μo) 0 0 102 [none, none, none, some (zI z0), none] [] qm5)  : z_RQ P M_8_ahead (z_rm 5) (z_mq P ro μo) 0 0 51 [some (zA 8 0), none, some (zI a2), some (zI x11), some (zI x12)] [] qm5 := by
  unfold f8_ahead_L10 at h
  replace h := z_h2 h
  refine zr_iload d_8_ahead_51 rfl ?_
  refine zr_aload_n (i := 0) d_8_ahead_53 rfl rfl ?_
  refine zr_getd d_8_ahead_54 fw_8_27 ?_
  refine zr_geti d_8_ahead_57 fw_8_224 (by decide) ?_
  refine zr_icmp_ge (tgt := 102) d_8_ahead_60 rfl (fun hc13 => ?_) (fun hc13 => ?_)
  · replace h := z_ip h hc13
    refine zr_iload d_8_ahead_63 rfl ?_
    refine zr_iload_n (i := 2) d_8_ahead_65 rfl rfl ?_
    obtain ⟨j24, hT14, h⟩ := z_bd h
    have hJ15 : z_RQ P M_8_ahead (z_rm 5) (z_mq P ro μo) 0 0 96 [some (zA 8 0), none, some (zI a2), some (zI j24), some (zI x12)] [] qm5 := by
      refine zr_iinc (v := (x12 + (1 : Int32))) (l' := [some (zA 8 0), none, some (zI a2), some (zI j24), some (zI (x12 + (1 : Int32)))]) d_8_ahead_96 (by decide) rfl rfl rfl ?_
      refine zr_goto (tgt := 51) d_8_ahead_99 rfl ?_
      obtain rfl := Option.some.inj h
      exact zr_wk2 (hI j24 (x12 + (1 : Int32)) rfl) ⟨rfl, ⟨rfl, ⟨rfl, ⟨rfl, trivial⟩⟩⟩⟩
    refine zr_icmp_eq (tgt := 96) d_8_ahead_66 rfl (fun hc16 => ?_) (fun hc16 => ?_)
    · replace hT14 := z_ip hT14 hc16
      obtain rfl := Option.some.inj hT14
      exact zr_wk2 hJ15 ⟨rfl, ⟨rfl, ⟨rfl, ⟨rfl, trivial⟩⟩⟩⟩
    · replace hT14 := z_im hT14 hc16
      refine zr_aload_n (i := 0) d_8_ahead_69 rfl rfl ?_
      refine zr_gets (i' := 0) d_8_ahead_70 fw_8_82 rfl ?_
      refine zr_iload d_8_ahead_73 rfl ?_
      refine zr_iload_n (i := 2) d_8_ahead_75 rfl rfl ?_
      obtain ⟨q17, hq18, hT14⟩ := z_bd hT14
      refine zr_callVi (av := [zI x12, zI a2]) (st := []) d_8_ahead_76 mw_2_timesAhead ml_8_296 im_2_timesAhead se_2_timesAhead rfl rfl (Nat.le_of_ble_eq_true rfl) fit_4_5_5 rfl rfl rfl (s2_timesAhead hq18) ?_
      refine zr_aload_n (i := 0) d_8_ahead_79 rfl rfl ?_
      refine zr_gets (i' := 0) d_8_ahead_80 fw_8_82 rfl ?_
      obtain ⟨q19, hq20, hT14⟩ := z_bd hT14
      refine zr_callVi (av := []) (st := [zI q17]) d_8_ahead_83 mw_2_all ml_8_290 im_2_all se_2_all rfl rfl (Nat.le_of_ble_eq_true rfl) fit_1_1_5 rfl rfl rfl (s2_all hq20) ?_
      refine zr_icmp_ne (tgt := 96) d_8_ahead_86 rfl (fun hc21 => ?_) (fun hc21 => ?_)
      · replace hT14 := z_ip hT14 hc21
        refine zr_iload_n (i := 3) d_8_ahead_89 rfl rfl ?_
        refine zr_iconst (v := (1 : Int32)) d_8_ahead_90 rfl ?_
        refine zr_iload d_8_ahead_91 rfl ?_
        refine zr_ishl d_8_ahead_93 ?_
        refine zr_ior d_8_ahead_94 ?_
        obtain ⟨v22, hv23, hT14⟩ := z_lt hT14
        refine zr_nm hv23 ?_
        refine zr_istore_n (i := 3) (l' := [some (zA 8 0), none, some (zI a2), some (zI v22), some (zI x12)]) d_8_ahead_95 rfl (by decide) rfl ?_
        obtain rfl := Option.some.inj hT14
        exact zr_wk2 hJ15 ⟨rfl, ⟨rfl, ⟨rfl, ⟨rfl, trivial⟩⟩⟩⟩
      · replace hT14 := z_im hT14 hc21
        obtain rfl := Option.some.inj hT14
        exact zr_wk2 hJ15 ⟨rfl, ⟨rfl, ⟨rfl, ⟨rfl, trivial⟩⟩⟩⟩
  · replace h := z_im h hc13
    obtain rfl := Option.some.inj h
    exact zr_wk2 (hE x11 rfl) ⟨rfl, trivial⟩
theorem s8_ahead {P : zP} {μ : zMem} {a1 : Int32} {a2 : Int32} {r : Int32} {μ' : zMem} (h : f8_ahead a1 a2 μ = some (r, μ')) : z_Sp P y_8_ahead M_8_ahead 5 [zA 8 0, zI a1, zI a2] μ (some (zI r)) μ' := by
  refine z_Sp.of (plainFor_of_name (by decide)) rfl (l0 := [some (zA 8 0), some (zI a1), some (zI a2), none, none]) rfl (Nat.le_of_ble_eq_true rfl) ?_
  unfold f8_ahead at h
  refine zr_aload_n (i := 0) d_8_ahead_0 rfl rfl ?_
  refine zr_iload_n (i := 1) d_8_ahead_1 rfl rfl ?_
  refine zr_callVi (av := [zI a1]) (st := []) d_8_ahead_2 mw_8_isKnown ml_8_284 im_8_isKnown se_8_isKnown rfl rfl (Nat.le_of_ble_eq_true rfl) fit_1_2_5 rfl rfl rfl (s8_isKnown rfl) ?_
  refine zr_if_eq (tgt := 16) d_8_ahead_5 rfl (fun hc2 => ?_) (fun hc2 => ?_)
  · replace h := z_ip h hc2
    refine zr_iconst (v := (-1 : Int32)) d_8_ahead_16 rfl ?_
    obtain ⟨rfl, rfl⟩ := Prod.mk.inj (Option.some.inj h)
    exact ze_i d_8_ahead_17 rfl
  · replace h := z_im h hc2
    refine zr_aload_n (i := 0) d_8_ahead_8 rfl rfl ?_
    refine zr_iload_n (i := 2) d_8_ahead_9 rfl rfl ?_
    refine zr_callVi (av := [zI a2]) (st := []) d_8_ahead_10 mw_8_isPerson ml_8_131 im_8_isPerson se_8_isPerson rfl rfl (Nat.le_of_ble_eq_true rfl) fit_1_2_5 rfl rfl rfl (s8_isPerson rfl) ?_
    refine zr_if_ne (tgt := 18) d_8_ahead_13 rfl (fun hc4 => ?_) (fun hc4 => ?_)
    · replace h := z_ip h hc4
      refine zr_iconst (v := (-1 : Int32)) d_8_ahead_16 rfl ?_
      obtain ⟨rfl, rfl⟩ := Prod.mk.inj (Option.some.inj h)
      exact ze_i d_8_ahead_17 rfl
    · replace h := z_im h hc4
      refine zr_aload_n (i := 0) d_8_ahead_18 rfl rfl ?_
      refine zr_gets (i' := 0) d_8_ahead_19 fw_8_82 rfl ?_
      refine zr_aload_n (i := 0) d_8_ahead_22 rfl rfl ?_
      refine zr_getd d_8_ahead_23 fw_8_27 ?_
      refine zr_geti d_8_ahead_26 fw_8_224 (by decide) ?_
      refine zr_iload_n (i := 1) d_8_ahead_29 rfl rfl ?_
      obtain ⟨qm5, hq6, h⟩ := z_bd h
      refine zr_callVv (av := [zI (μ.1 6 (μ.2.2 8 0 3) 1), zI a1]) (st := []) d_8_ahead_30 mw_2_weigh ml_8_287 im_2_weigh se_2_weigh rfl rfl (Nat.le_of_ble_eq_true rfl) fit_4_4_5 rfl rfl rfl (s2_weigh hq6) ?_
      refine zr_aload_n (i := 0) d_8_ahead_33 rfl rfl ?_
      refine zr_gets (i' := 0) d_8_ahead_34 fw_8_82 rfl ?_
      obtain ⟨q7, hq8, h⟩ := z_bd h
      refine zr_callVi (av := []) (st := []) d_8_ahead_37 mw_2_all ml_8_290 im_2_all se_2_all rfl rfl (Nat.le_of_ble_eq_true rfl) fit_1_1_5 rfl rfl rfl (s2_all hq8) ?_
      refine zr_if_ne (tgt := 46) d_8_ahead_40 rfl (fun hc9 => ?_) (fun hc9 => ?_)
      · replace h := z_ip h hc9
        refine zr_bipush (v := (-2 : Int32)) d_8_ahead_43 (by decide) ?_
        obtain ⟨rfl, rfl⟩ := Prod.mk.inj (Option.some.inj h)
        exact ze_i d_8_ahead_45 rfl
      · replace h := z_im h hc9
        refine zr_iconst (v := (0 : Int32)) d_8_ahead_46 rfl ?_
        refine zr_istore_n (i := 3) (l' := [some (zA 8 0), some (zI a1), some (zI a2), some (zI (0 : Int32)), none]) d_8_ahead_47 rfl (by decide) rfl ?_
        refine zr_iconst (v := (0 : Int32)) d_8_ahead_48 rfl ?_
        refine zr_istore (i := 4) (l' := [some (zA 8 0), some (zI a1), some (zI a2), some (zI (0 : Int32)), some (zI (0 : Int32))]) d_8_ahead_49 (by decide) rfl ?_
        obtain ⟨e25, hl26, h⟩ := z_bd h
        refine zr_wk (l' := [some (zA 8 0), none, some (zI a2), some (zI (0 : Int32)), some (zI (0 : Int32))]) ⟨rfl, ⟨rfl, ⟨rfl, ⟨rfl, trivial⟩⟩⟩⟩ ?_
        refine z_loop (Hd := (z_u2 fun y0 y1 => z_RQ P M_8_ahead (z_rm 5) (z_mq P (some (zI r)) μ') 0 0 51 [some (zA 8 0), none, some (zI a2), some (zI y0), some (zI y1)] [] qm5)) (Ex := (fun z0 => z_RQ P M_8_ahead (z_rm 5) (z_mq P (some (zI r)) μ') 0 0 102 [none, none, none, some (zI z0), none] [] qm5)) (fun ⟨x11, x12⟩ K h hI hE => s8_ahead_L10 a2 qm5 x11 x12 K h (fun y0 y1 e => hI (y0, y1) e) (fun z0 e => hE z0 e) ) _ _ _ hl26 ?_
        refine zr_iload_n (i := 3) d_8_ahead_102 rfl rfl ?_
        obtain ⟨rfl, rfl⟩ := Prod.mk.inj (Option.some.inj h)
        exact ze_i d_8_ahead_103 rfl
def f8_foremost_L5 (qm3 : zMem) : (Int32 × Int32 × Int32) → Option ((Int32 × Int32 × Int32) ⊕ (Int32)) := (z_u3 fun x6 x7 x8 => 
  (if x8 < (qm3.1 6 (qm3.2.2 8 0 3) 1) then (f2_timesAt x8 (0 : Int32) qm3).bind (fun q10 => ((if x7 < q10 then some (x8, q10) else some (x6, x7)) : Option (Int32 × Int32)).bind (z_u2 fun j15 j16 => some (.inl (j15, j16, (x8 + (1 : Int32)))))) else some (.inr x6)))
def f8_foremost (a1 : Int32) (μ : zMem) : Option (Int32 × zMem) :=
  (if (f8_isKnown a1 μ) = 0 then some ((-1 : Int32), μ) else (f2_weigh (μ.1 6 (μ.2.2 8 0 3) 1) a1 μ).bind (fun qm3 => (z_it (f8_foremost_L5 qm3) z_fu ((-2 : Int32), (0 : Int32), (0 : Int32))).bind (fun e17 => some (e17, qm3))))
theorem s8_foremost_L5 {P : zP} {ro : Option zV} {μo : zMem} (qm3 : zMem) (x6 : Int32) (x7 : Int32) (x8 : Int32) (K : (Int32 × Int32 × Int32) ⊕ (Int32)) (h : f8_foremost_L5 qm3 (x6, x7, x8) = some K) (hI : ∀ (y0 : Int32) (y1 : Int32) (y2 : Int32), K = .inl (y0, y1, y2) → z_RQ P M_8_foremost (z_rm 5) (z_mq P ro μo) 0 0 33 [some (zA 8 0), none, some (zI y0), some (zI y1), some (zI y2), none] [] qm3) (hE : ∀ (z0 : Int32), K = .inr z0 → z_RQ P M_8_foremost (z_rm 5) (z_mq P ro μo) 0 0 75 [none, none, some (zI z0), none, none, none] [] qm3)  : z_RQ P M_8_foremost (z_rm 5) (z_mq P ro μo) 0 0 33 [some (zA 8 0), none, some (zI x6), some (zI x7), some (zI x8), none] [] qm3 := by
  unfold f8_foremost_L5 at h
  replace h := z_h3 h
  refine zr_iload d_8_foremost_33 rfl ?_
  refine zr_aload_n (i := 0) d_8_foremost_35 rfl rfl ?_
  refine zr_getd d_8_foremost_36 fw_8_27 ?_
  refine zr_geti d_8_foremost_39 fw_8_224 (by decide) ?_
  refine zr_icmp_ge (tgt := 75) d_8_foremost_42 rfl (fun hc9 => ?_) (fun hc9 => ?_)
  · replace h := z_ip h hc9
    refine zr_aload_n (i := 0) d_8_foremost_45 rfl rfl ?_
    refine zr_gets (i' := 0) d_8_foremost_46 fw_8_82 rfl ?_
    refine zr_iload d_8_foremost_49 rfl ?_
    refine zr_iconst (v := (0 : Int32)) d_8_foremost_51 rfl ?_
    obtain ⟨q10, hq11, h⟩ := z_bd h
    refine zr_callVi (av := [zI x8, zI (0 : Int32)]) (st := []) d_8_foremost_52 mw_2_timesAt ml_8_293 im_2_timesAt se_2_timesAt rfl rfl (Nat.le_of_ble_eq_true rfl) fit_4_5_5 rfl rfl rfl (s2_timesAt hq11) ?_
    refine zr_istore (i := 5) (l' := [some (zA 8 0), none, some (zI x6), some (zI x7), some (zI x8), some (zI q10)]) d_8_foremost_55 (by decide) rfl ?_
    refine zr_iload d_8_foremost_57 rfl ?_
    refine zr_iload_n (i := 3) d_8_foremost_59 rfl rfl ?_
    obtain ⟨⟨j15, j16⟩, hT12, h⟩ := z_bd h
    replace h := z_h2 h
    have hJ13 : z_RQ P M_8_foremost (z_rm 5) (z_mq P ro μo) 0 0 69 [some (zA 8 0), none, some (zI j15), some (zI j16), some (zI x8), none] [] qm3 := by
      refine zr_iinc (v := (x8 + (1 : Int32))) (l' := [some (zA 8 0), none, some (zI j15), some (zI j16), some (zI (x8 + (1 : Int32))), none]) d_8_foremost_69 (by decide) rfl rfl rfl ?_
      refine zr_goto (tgt := 33) d_8_foremost_72 rfl ?_
      obtain rfl := Option.some.inj h
      exact zr_wk2 (hI j15 j16 (x8 + (1 : Int32)) rfl) ⟨rfl, ⟨rfl, ⟨rfl, ⟨rfl, trivial⟩⟩⟩⟩
    refine zr_icmp_le (tgt := 69) d_8_foremost_60 rfl (fun hc14 => ?_) (fun hc14 => ?_)
    · replace hT12 := z_ip hT12 hc14
      refine zr_iload d_8_foremost_63 rfl ?_
      refine zr_istore_n (i := 2) (l' := [some (zA 8 0), none, some (zI x8), some (zI x7), some (zI x8), some (zI q10)]) d_8_foremost_65 rfl (by decide) rfl ?_
      refine zr_iload d_8_foremost_66 rfl ?_
      refine zr_istore_n (i := 3) (l' := [some (zA 8 0), none, some (zI x8), some (zI q10), some (zI x8), some (zI q10)]) d_8_foremost_68 rfl (by decide) rfl ?_
      obtain ⟨rfl, rfl⟩ := z_i2 (Option.some.inj hT12)
      exact zr_wk2 hJ13 ⟨rfl, ⟨rfl, ⟨rfl, ⟨rfl, trivial⟩⟩⟩⟩
    · replace hT12 := z_im hT12 hc14
      obtain ⟨rfl, rfl⟩ := z_i2 (Option.some.inj hT12)
      exact zr_wk2 hJ13 ⟨rfl, ⟨rfl, ⟨rfl, ⟨rfl, trivial⟩⟩⟩⟩
  · replace h := z_im h hc9
    obtain rfl := Option.some.inj h
    exact zr_wk2 (hE x6 rfl) ⟨rfl, trivial⟩
theorem s8_foremost {P : zP} {μ : zMem} {a1 : Int32} {r : Int32} {μ' : zMem} (h : f8_foremost a1 μ = some (r, μ')) : z_Sp P y_8_foremost M_8_foremost 5 [zA 8 0, zI a1] μ (some (zI r)) μ' := by
  refine z_Sp.of (plainFor_of_name (by decide)) rfl (l0 := [some (zA 8 0), some (zI a1), none, none, none, none]) rfl (Nat.le_of_ble_eq_true rfl) ?_
  unfold f8_foremost at h
  refine zr_aload_n (i := 0) d_8_foremost_0 rfl rfl ?_
  refine zr_iload_n (i := 1) d_8_foremost_1 rfl rfl ?_
  refine zr_callVi (av := [zI a1]) (st := []) d_8_foremost_2 mw_8_isKnown ml_8_284 im_8_isKnown se_8_isKnown rfl rfl (Nat.le_of_ble_eq_true rfl) fit_1_2_5 rfl rfl rfl (s8_isKnown rfl) ?_
  refine zr_if_ne (tgt := 10) d_8_foremost_5 rfl (fun hc2 => ?_) (fun hc2 => ?_)
  · replace h := z_ip h hc2
    refine zr_iconst (v := (-1 : Int32)) d_8_foremost_8 rfl ?_
    obtain ⟨rfl, rfl⟩ := Prod.mk.inj (Option.some.inj h)
    exact ze_i d_8_foremost_9 rfl
  · replace h := z_im h hc2
    refine zr_aload_n (i := 0) d_8_foremost_10 rfl rfl ?_
    refine zr_gets (i' := 0) d_8_foremost_11 fw_8_82 rfl ?_
    refine zr_aload_n (i := 0) d_8_foremost_14 rfl rfl ?_
    refine zr_getd d_8_foremost_15 fw_8_27 ?_
    refine zr_geti d_8_foremost_18 fw_8_224 (by decide) ?_
    refine zr_iload_n (i := 1) d_8_foremost_21 rfl rfl ?_
    obtain ⟨qm3, hq4, h⟩ := z_bd h
    refine zr_callVv (av := [zI (μ.1 6 (μ.2.2 8 0 3) 1), zI a1]) (st := []) d_8_foremost_22 mw_2_weigh ml_8_287 im_2_weigh se_2_weigh rfl rfl (Nat.le_of_ble_eq_true rfl) fit_4_4_5 rfl rfl rfl (s2_weigh hq4) ?_
    refine zr_bipush (v := (-2 : Int32)) d_8_foremost_25 (by decide) ?_
    refine zr_istore_n (i := 2) (l' := [some (zA 8 0), some (zI a1), some (zI (-2 : Int32)), none, none, none]) d_8_foremost_27 rfl (by decide) rfl ?_
    refine zr_iconst (v := (0 : Int32)) d_8_foremost_28 rfl ?_
    refine zr_istore_n (i := 3) (l' := [some (zA 8 0), some (zI a1), some (zI (-2 : Int32)), some (zI (0 : Int32)), none, none]) d_8_foremost_29 rfl (by decide) rfl ?_
    refine zr_iconst (v := (0 : Int32)) d_8_foremost_30 rfl ?_
    refine zr_istore (i := 4) (l' := [some (zA 8 0), some (zI a1), some (zI (-2 : Int32)), some (zI (0 : Int32)), some (zI (0 : Int32)), none]) d_8_foremost_31 (by decide) rfl ?_
    obtain ⟨e17, hl18, h⟩ := z_bd h
    refine zr_wk (l' := [some (zA 8 0), none, some (zI (-2 : Int32)), some (zI (0 : Int32)), some (zI (0 : Int32)), none]) ⟨rfl, ⟨rfl, ⟨rfl, ⟨rfl, trivial⟩⟩⟩⟩ ?_
    refine z_loop (Hd := (z_u3 fun y0 y1 y2 => z_RQ P M_8_foremost (z_rm 5) (z_mq P (some (zI r)) μ') 0 0 33 [some (zA 8 0), none, some (zI y0), some (zI y1), some (zI y2), none] [] qm3)) (Ex := (fun z0 => z_RQ P M_8_foremost (z_rm 5) (z_mq P (some (zI r)) μ') 0 0 75 [none, none, some (zI z0), none, none, none] [] qm3)) (fun ⟨x6, x7, x8⟩ K h hI hE => s8_foremost_L5 qm3 x6 x7 x8 K h (fun y0 y1 y2 e => hI (y0, y1, y2) e) (fun z0 e => hE z0 e) ) _ _ _ hl18 ?_
    refine zr_iload_n (i := 2) d_8_foremost_75 rfl rfl ?_
    obtain ⟨rfl, rfl⟩ := Prod.mk.inj (Option.some.inj h)
    exact ze_i d_8_foremost_76 rfl
def f8_ask_L13 (qm3 : zMem) (q5 : Int32) (x10 : Int32) : (Int32 × Int32 × Int32) → Option ((Int32 × Int32 × Int32) ⊕ (Int32 × Int32)) := (z_u3 fun x14 x15 x16 => 
  (if x16 < (qm3.1 6 (qm3.2.2 8 0 3) 1) then (f2_timesAhead x10 x16 qm3).bind (fun q18 => z_let (fj9_max_7cf53 q18 (q5 - q18)) fun v21 => ((if x14 = (-2 : Int32) then z_let (((10 : Int32) * x10) + x16) fun v26 => some (v26, v21) else (if v21 < x15 then z_let (((10 : Int32) * x10) + x16) fun v29 => some (v29, v21) else some (x14, x15))) : Option (Int32 × Int32)).bind (z_u2 fun j31 j32 => some (.inl (j31, j32, (x16 + (1 : Int32)))))) else some (.inr (x14, x15))))
def f8_ask_L7 (qm3 : zMem) (q5 : Int32) : (Int32 × Int32 × Int32) → Option ((Int32 × Int32 × Int32) ⊕ (Int32)) := (z_u3 fun x8 x9 x10 => 
  (if 0 < q5 then (if x10 < (qm3.1 6 (qm3.2.2 8 0 3) 1) then (z_it (f8_ask_L13 qm3 q5 x10) z_fu (x8, x9, (x10 + (1 : Int32)))).bind (z_u2 fun e33 e34 => some (.inl (e33, e34, (x10 + (1 : Int32))))) else some (.inr x8)) else some (.inr x8)))
def f8_ask (a1 : Int32) (μ : zMem) : Option (Int32 × zMem) :=
  (if (f8_isKnown a1 μ) = 0 then some ((-1 : Int32), μ) else (f2_weigh (μ.1 6 (μ.2.2 8 0 3) 1) a1 μ).bind (fun qm3 => (f2_all qm3).bind (fun q5 => (z_it (f8_ask_L7 qm3 q5) z_fu ((-2 : Int32), q5, (0 : Int32))).bind (fun e36 => some (e36, qm3)))))
theorem s8_ask_L13 {P : zP} {ro : Option zV} {μo : zMem} (qm3 : zMem) (q5 : Int32) (x10 : Int32) (x14 : Int32) (x15 : Int32) (x16 : Int32) (K : (Int32 × Int32 × Int32) ⊕ (Int32 × Int32)) (h : f8_ask_L13 qm3 q5 x10 (x14, x15, x16) = some K) (hI : ∀ (y0 : Int32) (y1 : Int32) (y2 : Int32), K = .inl (y0, y1, y2) → z_RQ P M_8_ask (z_rm 5) (z_mq P ro μo) 0 0 64 [some (zA 8 0), none, some (zI q5), some (zI y0), some (zI y1), some (zI x10), some (zI y2), none, none] [] qm3) (hE : ∀ (z0 : Int32) (z1 : Int32), K = .inr (z0, z1) → z_RQ P M_8_ask (z_rm 5) (z_mq P ro μo) 0 0 132 [some (zA 8 0), none, some (zI q5), some (zI z0), some (zI z1), some (zI x10), none, none, none] [] qm3)  : z_RQ P M_8_ask (z_rm 5) (z_mq P ro μo) 0 0 64 [some (zA 8 0), none, some (zI q5), some (zI x14), some (zI x15), some (zI x10), some (zI x16), none, none] [] qm3 := by
  unfold f8_ask_L13 at h
  replace h := z_h3 h
  refine zr_iload d_8_ask_64 rfl ?_
  refine zr_aload_n (i := 0) d_8_ask_66 rfl rfl ?_
  refine zr_getd d_8_ask_67 fw_8_27 ?_
  refine zr_geti d_8_ask_70 fw_8_224 (by decide) ?_
  refine zr_icmp_ge (tgt := 132) d_8_ask_73 rfl (fun hc17 => ?_) (fun hc17 => ?_)
  · replace h := z_ip h hc17
    refine zr_aload_n (i := 0) d_8_ask_76 rfl rfl ?_
    refine zr_gets (i' := 0) d_8_ask_77 fw_8_82 rfl ?_
    refine zr_iload d_8_ask_80 rfl ?_
    refine zr_iload d_8_ask_82 rfl ?_
    obtain ⟨q18, hq19, h⟩ := z_bd h
    refine zr_callVi (av := [zI x10, zI x16]) (st := []) d_8_ask_84 mw_2_timesAhead ml_8_296 im_2_timesAhead se_2_timesAhead rfl rfl (Nat.le_of_ble_eq_true rfl) fit_4_5_5 rfl rfl rfl (s2_timesAhead hq19) ?_
    refine zr_istore (i := 7) (l' := [some (zA 8 0), none, some (zI q5), some (zI x14), some (zI x15), some (zI x10), some (zI x16), some (zI q18), none]) d_8_ask_87 (by decide) rfl ?_
    refine zr_iload d_8_ask_89 rfl ?_
    refine zr_iload_n (i := 2) d_8_ask_91 rfl rfl ?_
    refine zr_iload d_8_ask_92 rfl ?_
    refine zr_isub d_8_ask_94 ?_
    refine zr_callSi (av := [zI q18, zI (q5 - q18)]) (st := []) d_8_ask_95 mw_j9_max_7cf53 ml_8_258 is_j9_max_7cf53 rfl rfl (Nat.le_of_ble_eq_true rfl) fit_1_2_5 (sj9_max_7cf53 rfl) ?_
    obtain ⟨v21, hv22, h⟩ := z_lt h
    refine zr_nm hv22 ?_
    refine zr_istore (i := 8) (l' := [some (zA 8 0), none, some (zI q5), some (zI x14), some (zI x15), some (zI x10), some (zI x16), some (zI q18), some (zI v21)]) d_8_ask_98 (by decide) rfl ?_
    refine zr_iload_n (i := 3) d_8_ask_100 rfl rfl ?_
    refine zr_bipush (v := (-2 : Int32)) d_8_ask_101 (by decide) ?_
    obtain ⟨⟨j31, j32⟩, hT23, h⟩ := z_bd h
    replace h := z_h2 h
    have hJ24 : z_RQ P M_8_ask (z_rm 5) (z_mq P ro μo) 0 0 126 [some (zA 8 0), none, some (zI q5), some (zI j31), some (zI j32), some (zI x10), some (zI x16), none, none] [] qm3 := by
      refine zr_iinc (v := (x16 + (1 : Int32))) (l' := [some (zA 8 0), none, some (zI q5), some (zI j31), some (zI j32), some (zI x10), some (zI (x16 + (1 : Int32))), none, none]) d_8_ask_126 (by decide) rfl rfl rfl ?_
      refine zr_goto (tgt := 64) d_8_ask_129 rfl ?_
      obtain rfl := Option.some.inj h
      exact zr_wk2 (hI j31 j32 (x16 + (1 : Int32)) rfl) ⟨rfl, ⟨rfl, ⟨rfl, ⟨rfl, ⟨rfl, ⟨rfl, trivial⟩⟩⟩⟩⟩⟩
    refine zr_icmp_eq (tgt := 113) d_8_ask_103 rfl (fun hc25 => ?_) (fun hc25 => ?_)
    · replace hT23 := z_ip hT23 hc25
      refine zr_bipush (v := (10 : Int32)) d_8_ask_113 rfl ?_
      refine zr_iload d_8_ask_115 rfl ?_
      refine zr_imul d_8_ask_117 ?_
      refine zr_iload d_8_ask_118 rfl ?_
      refine zr_iadd d_8_ask_120 ?_
      obtain ⟨v26, hv27, hT23⟩ := z_lt hT23
      refine zr_nm hv27 ?_
      refine zr_istore_n (i := 3) (l' := [some (zA 8 0), none, some (zI q5), some (zI v26), some (zI x15), some (zI x10), some (zI x16), some (zI q18), some (zI v21)]) d_8_ask_121 rfl (by decide) rfl ?_
      refine zr_iload d_8_ask_122 rfl ?_
      refine zr_istore (i := 4) (l' := [some (zA 8 0), none, some (zI q5), some (zI v26), some (zI v21), some (zI x10), some (zI x16), some (zI q18), some (zI v21)]) d_8_ask_124 (by decide) rfl ?_
      obtain ⟨rfl, rfl⟩ := z_i2 (Option.some.inj hT23)
      exact zr_wk2 hJ24 ⟨rfl, ⟨rfl, ⟨rfl, ⟨rfl, ⟨rfl, ⟨rfl, trivial⟩⟩⟩⟩⟩⟩
    · replace hT23 := z_im hT23 hc25
      refine zr_iload d_8_ask_106 rfl ?_
      refine zr_iload d_8_ask_108 rfl ?_
      refine zr_icmp_ge (tgt := 126) d_8_ask_110 rfl (fun hc28 => ?_) (fun hc28 => ?_)
      · replace hT23 := z_ip hT23 hc28
        refine zr_bipush (v := (10 : Int32)) d_8_ask_113 rfl ?_
        refine zr_iload d_8_ask_115 rfl ?_
        refine zr_imul d_8_ask_117 ?_
        refine zr_iload d_8_ask_118 rfl ?_
        refine zr_iadd d_8_ask_120 ?_
        obtain ⟨v29, hv30, hT23⟩ := z_lt hT23
        refine zr_nm hv30 ?_
        refine zr_istore_n (i := 3) (l' := [some (zA 8 0), none, some (zI q5), some (zI v29), some (zI x15), some (zI x10), some (zI x16), some (zI q18), some (zI v21)]) d_8_ask_121 rfl (by decide) rfl ?_
        refine zr_iload d_8_ask_122 rfl ?_
        refine zr_istore (i := 4) (l' := [some (zA 8 0), none, some (zI q5), some (zI v29), some (zI v21), some (zI x10), some (zI x16), some (zI q18), some (zI v21)]) d_8_ask_124 (by decide) rfl ?_
        obtain ⟨rfl, rfl⟩ := z_i2 (Option.some.inj hT23)
        exact zr_wk2 hJ24 ⟨rfl, ⟨rfl, ⟨rfl, ⟨rfl, ⟨rfl, ⟨rfl, trivial⟩⟩⟩⟩⟩⟩
      · replace hT23 := z_im hT23 hc28
        obtain ⟨rfl, rfl⟩ := z_i2 (Option.some.inj hT23)
        exact zr_wk2 hJ24 ⟨rfl, ⟨rfl, ⟨rfl, ⟨rfl, ⟨rfl, ⟨rfl, trivial⟩⟩⟩⟩⟩⟩
  · replace h := z_im h hc17
    obtain rfl := Option.some.inj h
    exact zr_wk2 (hE x14 x15 rfl) ⟨rfl, ⟨rfl, ⟨rfl, ⟨rfl, ⟨rfl, trivial⟩⟩⟩⟩⟩
theorem s8_ask_L7 {P : zP} {ro : Option zV} {μo : zMem} (qm3 : zMem) (q5 : Int32) (x8 : Int32) (x9 : Int32) (x10 : Int32) (K : (Int32 × Int32 × Int32) ⊕ (Int32)) (h : f8_ask_L7 qm3 q5 (x8, x9, x10) = some K) (hI : ∀ (y0 : Int32) (y1 : Int32) (y2 : Int32), K = .inl (y0, y1, y2) → z_RQ P M_8_ask (z_rm 5) (z_mq P ro μo) 0 0 42 [some (zA 8 0), none, some (zI q5), some (zI y0), some (zI y1), some (zI y2), none, none, none] [] qm3) (hE : ∀ (z0 : Int32), K = .inr z0 → z_RQ P M_8_ask (z_rm 5) (z_mq P ro μo) 0 0 138 [none, none, none, some (zI z0), none, none, none, none, none] [] qm3)  : z_RQ P M_8_ask (z_rm 5) (z_mq P ro μo) 0 0 42 [some (zA 8 0), none, some (zI q5), some (zI x8), some (zI x9), some (zI x10), none, none, none] [] qm3 := by
  unfold f8_ask_L7 at h
  replace h := z_h3 h
  refine zr_iload_n (i := 2) d_8_ask_42 rfl rfl ?_
  refine zr_if_le (tgt := 138) d_8_ask_43 rfl (fun hc11 => ?_) (fun hc11 => ?_)
  · replace h := z_ip h hc11
    refine zr_iload d_8_ask_46 rfl ?_
    refine zr_aload_n (i := 0) d_8_ask_48 rfl rfl ?_
    refine zr_getd d_8_ask_49 fw_8_27 ?_
    refine zr_geti d_8_ask_52 fw_8_224 (by decide) ?_
    refine zr_icmp_ge (tgt := 138) d_8_ask_55 rfl (fun hc12 => ?_) (fun hc12 => ?_)
    · replace h := z_ip h hc12
      refine zr_iload d_8_ask_58 rfl ?_
      refine zr_iconst (v := (1 : Int32)) d_8_ask_60 rfl ?_
      refine zr_iadd d_8_ask_61 ?_
      refine zr_istore (i := 6) (l' := [some (zA 8 0), none, some (zI q5), some (zI x8), some (zI x9), some (zI x10), some (zI (x10 + (1 : Int32))), none, none]) d_8_ask_62 (by decide) rfl ?_
      obtain ⟨⟨e33, e34⟩, hl35, h⟩ := z_bd h
      replace h := z_h2 h
      refine zr_wk (l' := [some (zA 8 0), none, some (zI q5), some (zI x8), some (zI x9), some (zI x10), some (zI (x10 + (1 : Int32))), none, none]) ⟨rfl, ⟨rfl, ⟨rfl, ⟨rfl, ⟨rfl, ⟨rfl, trivial⟩⟩⟩⟩⟩⟩ ?_
      refine z_loop (Hd := (z_u3 fun y0 y1 y2 => z_RQ P M_8_ask (z_rm 5) (z_mq P ro μo) 0 0 64 [some (zA 8 0), none, some (zI q5), some (zI y0), some (zI y1), some (zI x10), some (zI y2), none, none] [] qm3)) (Ex := (z_u2 fun z0 z1 => z_RQ P M_8_ask (z_rm 5) (z_mq P ro μo) 0 0 132 [some (zA 8 0), none, some (zI q5), some (zI z0), some (zI z1), some (zI x10), none, none, none] [] qm3)) (fun ⟨x14, x15, x16⟩ K h hI hE => s8_ask_L13 qm3 q5 x10 x14 x15 x16 K h (fun y0 y1 y2 e => hI (y0, y1, y2) e) (fun z0 z1 e => hE (z0, z1) e) ) _ _ _ hl35 ?_
      refine zr_iinc (v := (x10 + (1 : Int32))) (l' := [some (zA 8 0), none, some (zI q5), some (zI e33), some (zI e34), some (zI (x10 + (1 : Int32))), none, none, none]) d_8_ask_132 (by decide) rfl rfl rfl ?_
      refine zr_goto (tgt := 42) d_8_ask_135 rfl ?_
      obtain rfl := Option.some.inj h
      exact zr_wk2 (hI e33 e34 (x10 + (1 : Int32)) rfl) ⟨rfl, ⟨rfl, ⟨rfl, ⟨rfl, ⟨rfl, trivial⟩⟩⟩⟩⟩
    · replace h := z_im h hc12
      obtain rfl := Option.some.inj h
      exact zr_wk2 (hE x8 rfl) ⟨rfl, trivial⟩
  · replace h := z_im h hc11
    obtain rfl := Option.some.inj h
    exact zr_wk2 (hE x8 rfl) ⟨rfl, trivial⟩
theorem s8_ask {P : zP} {μ : zMem} {a1 : Int32} {r : Int32} {μ' : zMem} (h : f8_ask a1 μ = some (r, μ')) : z_Sp P y_8_ask M_8_ask 5 [zA 8 0, zI a1] μ (some (zI r)) μ' := by
  refine z_Sp.of (plainFor_of_name (by decide)) rfl (l0 := [some (zA 8 0), some (zI a1), none, none, none, none, none, none, none]) rfl (Nat.le_of_ble_eq_true rfl) ?_
  unfold f8_ask at h
  refine zr_aload_n (i := 0) d_8_ask_0 rfl rfl ?_
  refine zr_iload_n (i := 1) d_8_ask_1 rfl rfl ?_
  refine zr_callVi (av := [zI a1]) (st := []) d_8_ask_2 mw_8_isKnown ml_8_284 im_8_isKnown se_8_isKnown rfl rfl (Nat.le_of_ble_eq_true rfl) fit_1_2_5 rfl rfl rfl (s8_isKnown rfl) ?_
  refine zr_if_ne (tgt := 10) d_8_ask_5 rfl (fun hc2 => ?_) (fun hc2 => ?_)
  · replace h := z_ip h hc2
    refine zr_iconst (v := (-1 : Int32)) d_8_ask_8 rfl ?_
    obtain ⟨rfl, rfl⟩ := Prod.mk.inj (Option.some.inj h)
    exact ze_i d_8_ask_9 rfl
  · replace h := z_im h hc2
    refine zr_aload_n (i := 0) d_8_ask_10 rfl rfl ?_
    refine zr_gets (i' := 0) d_8_ask_11 fw_8_82 rfl ?_
    refine zr_aload_n (i := 0) d_8_ask_14 rfl rfl ?_
    refine zr_getd d_8_ask_15 fw_8_27 ?_
    refine zr_geti d_8_ask_18 fw_8_224 (by decide) ?_
    refine zr_iload_n (i := 1) d_8_ask_21 rfl rfl ?_
    obtain ⟨qm3, hq4, h⟩ := z_bd h
    refine zr_callVv (av := [zI (μ.1 6 (μ.2.2 8 0 3) 1), zI a1]) (st := []) d_8_ask_22 mw_2_weigh ml_8_287 im_2_weigh se_2_weigh rfl rfl (Nat.le_of_ble_eq_true rfl) fit_4_4_5 rfl rfl rfl (s2_weigh hq4) ?_
    refine zr_aload_n (i := 0) d_8_ask_25 rfl rfl ?_
    refine zr_gets (i' := 0) d_8_ask_26 fw_8_82 rfl ?_
    obtain ⟨q5, hq6, h⟩ := z_bd h
    refine zr_callVi (av := []) (st := []) d_8_ask_29 mw_2_all ml_8_290 im_2_all se_2_all rfl rfl (Nat.le_of_ble_eq_true rfl) fit_1_1_5 rfl rfl rfl (s2_all hq6) ?_
    refine zr_istore_n (i := 2) (l' := [some (zA 8 0), some (zI a1), some (zI q5), none, none, none, none, none, none]) d_8_ask_32 rfl (by decide) rfl ?_
    refine zr_bipush (v := (-2 : Int32)) d_8_ask_33 (by decide) ?_
    refine zr_istore_n (i := 3) (l' := [some (zA 8 0), some (zI a1), some (zI q5), some (zI (-2 : Int32)), none, none, none, none, none]) d_8_ask_35 rfl (by decide) rfl ?_
    refine zr_iload_n (i := 2) d_8_ask_36 rfl rfl ?_
    refine zr_istore (i := 4) (l' := [some (zA 8 0), some (zI a1), some (zI q5), some (zI (-2 : Int32)), some (zI q5), none, none, none, none]) d_8_ask_37 (by decide) rfl ?_
    refine zr_iconst (v := (0 : Int32)) d_8_ask_39 rfl ?_
    refine zr_istore (i := 5) (l' := [some (zA 8 0), some (zI a1), some (zI q5), some (zI (-2 : Int32)), some (zI q5), some (zI (0 : Int32)), none, none, none]) d_8_ask_40 (by decide) rfl ?_
    obtain ⟨e36, hl37, h⟩ := z_bd h
    refine zr_wk (l' := [some (zA 8 0), none, some (zI q5), some (zI (-2 : Int32)), some (zI q5), some (zI (0 : Int32)), none, none, none]) ⟨rfl, ⟨rfl, ⟨rfl, ⟨rfl, ⟨rfl, trivial⟩⟩⟩⟩⟩ ?_
    refine z_loop (Hd := (z_u3 fun y0 y1 y2 => z_RQ P M_8_ask (z_rm 5) (z_mq P (some (zI r)) μ') 0 0 42 [some (zA 8 0), none, some (zI q5), some (zI y0), some (zI y1), some (zI y2), none, none, none] [] qm3)) (Ex := (fun z0 => z_RQ P M_8_ask (z_rm 5) (z_mq P (some (zI r)) μ') 0 0 138 [none, none, none, some (zI z0), none, none, none, none, none] [] qm3)) (fun ⟨x8, x9, x10⟩ K h hI hE => s8_ask_L7 qm3 q5 x8 x9 x10 K h (fun y0 y1 y2 e => hI (y0, y1, y2) e) (fun z0 e => hE z0 e) ) _ _ _ hl37 ?_
    refine zr_iload_n (i := 3) d_8_ask_138 rfl rfl ?_
    obtain ⟨rfl, rfl⟩ := Prod.mk.inj (Option.some.inj h)
    exact ze_i d_8_ask_139 rfl
def f8_order (a1 : Int32) (a2 : Int32) (a3 : Int32) (μ : zMem) : Option (Int32 × zMem) :=
  (if (f8_isKnown a1 μ) = 0 then some ((-1 : Int32), μ) else (if a3 < 0 then some ((-1 : Int32), μ) else (if a3 < (μ.1 6 (μ.2.2 8 0 3) 1) then (if a2 < 0 then some ((-1 : Int32), μ) else (f2_weigh (μ.1 6 (μ.2.2 8 0 3) 1) a1 μ).bind (fun qm6 => (f2_all qm6).bind (fun q8 => (if a2 < q8 then (f2_whoIsAt a2 a3 qm6).bind (fun q11 => some (q11, qm6)) else some ((-1 : Int32), qm6))))) else some ((-1 : Int32), μ))))
theorem s8_order {P : zP} {μ : zMem} {a1 : Int32} {a2 : Int32} {a3 : Int32} {r : Int32} {μ' : zMem} (h : f8_order a1 a2 a3 μ = some (r, μ')) : z_Sp P y_8_order M_8_order 5 [zA 8 0, zI a1, zI a2, zI a3] μ (some (zI r)) μ' := by
  refine z_Sp.of (plainFor_of_name (by decide)) rfl (l0 := [some (zA 8 0), some (zI a1), some (zI a2), some (zI a3)]) rfl (Nat.le_of_ble_eq_true rfl) ?_
  unfold f8_order at h
  refine zr_aload_n (i := 0) d_8_order_0 rfl rfl ?_
  refine zr_iload_n (i := 1) d_8_order_1 rfl rfl ?_
  refine zr_callVi (av := [zI a1]) (st := []) d_8_order_2 mw_8_isKnown ml_8_284 im_8_isKnown se_8_isKnown rfl rfl (Nat.le_of_ble_eq_true rfl) fit_1_2_5 rfl rfl rfl (s8_isKnown rfl) ?_
  refine zr_if_eq (tgt := 27) d_8_order_5 rfl (fun hc2 => ?_) (fun hc2 => ?_)
  · replace h := z_ip h hc2
    refine zr_iconst (v := (-1 : Int32)) d_8_order_27 rfl ?_
    obtain ⟨rfl, rfl⟩ := Prod.mk.inj (Option.some.inj h)
    exact ze_i d_8_order_28 rfl
  · replace h := z_im h hc2
    refine zr_iload_n (i := 3) d_8_order_8 rfl rfl ?_
    refine zr_if_lt (tgt := 27) d_8_order_9 rfl (fun hc3 => ?_) (fun hc3 => ?_)
    · replace h := z_ip h hc3
      refine zr_iconst (v := (-1 : Int32)) d_8_order_27 rfl ?_
      obtain ⟨rfl, rfl⟩ := Prod.mk.inj (Option.some.inj h)
      exact ze_i d_8_order_28 rfl
    · replace h := z_im h hc3
      refine zr_iload_n (i := 3) d_8_order_12 rfl rfl ?_
      refine zr_aload_n (i := 0) d_8_order_13 rfl rfl ?_
      refine zr_getd d_8_order_14 fw_8_27 ?_
      refine zr_geti d_8_order_17 fw_8_224 (by decide) ?_
      refine zr_icmp_ge (tgt := 27) d_8_order_20 rfl (fun hc4 => ?_) (fun hc4 => ?_)
      · replace h := z_ip h hc4
        refine zr_iload_n (i := 2) d_8_order_23 rfl rfl ?_
        refine zr_if_ge (tgt := 29) d_8_order_24 rfl (fun hc5 => ?_) (fun hc5 => ?_)
        · replace h := z_ip h hc5
          refine zr_iconst (v := (-1 : Int32)) d_8_order_27 rfl ?_
          obtain ⟨rfl, rfl⟩ := Prod.mk.inj (Option.some.inj h)
          exact ze_i d_8_order_28 rfl
        · replace h := z_im h hc5
          refine zr_aload_n (i := 0) d_8_order_29 rfl rfl ?_
          refine zr_gets (i' := 0) d_8_order_30 fw_8_82 rfl ?_
          refine zr_aload_n (i := 0) d_8_order_33 rfl rfl ?_
          refine zr_getd d_8_order_34 fw_8_27 ?_
          refine zr_geti d_8_order_37 fw_8_224 (by decide) ?_
          refine zr_iload_n (i := 1) d_8_order_40 rfl rfl ?_
          obtain ⟨qm6, hq7, h⟩ := z_bd h
          refine zr_callVv (av := [zI (μ.1 6 (μ.2.2 8 0 3) 1), zI a1]) (st := []) d_8_order_41 mw_2_weigh ml_8_287 im_2_weigh se_2_weigh rfl rfl (Nat.le_of_ble_eq_true rfl) fit_4_4_5 rfl rfl rfl (s2_weigh hq7) ?_
          refine zr_iload_n (i := 2) d_8_order_44 rfl rfl ?_
          refine zr_aload_n (i := 0) d_8_order_45 rfl rfl ?_
          refine zr_gets (i' := 0) d_8_order_46 fw_8_82 rfl ?_
          obtain ⟨q8, hq9, h⟩ := z_bd h
          refine zr_callVi (av := []) (st := [zI a2]) d_8_order_49 mw_2_all ml_8_290 im_2_all se_2_all rfl rfl (Nat.le_of_ble_eq_true rfl) fit_1_1_5 rfl rfl rfl (s2_all hq9) ?_
          refine zr_icmp_lt (tgt := 59) d_8_order_52 rfl (fun hc10 => ?_) (fun hc10 => ?_)
          · replace h := z_ip h hc10
            refine zr_aload_n (i := 0) d_8_order_59 rfl rfl ?_
            refine zr_gets (i' := 0) d_8_order_60 fw_8_82 rfl ?_
            refine zr_iload_n (i := 2) d_8_order_63 rfl rfl ?_
            refine zr_iload_n (i := 3) d_8_order_64 rfl rfl ?_
            obtain ⟨q11, hq12, h⟩ := z_bd h
            refine zr_callVi (av := [zI a2, zI a3]) (st := []) d_8_order_65 mw_2_whoIsAt ml_8_299 im_2_whoIsAt se_2_whoIsAt rfl rfl (Nat.le_of_ble_eq_true rfl) fit_3_9_5 rfl rfl rfl (s2_whoIsAt hq12) ?_
            obtain ⟨rfl, rfl⟩ := Prod.mk.inj (Option.some.inj h)
            exact ze_i d_8_order_68 rfl
          · replace h := z_im h hc10
            refine zr_iconst (v := (-1 : Int32)) d_8_order_55 rfl ?_
            refine zr_goto (tgt := 68) d_8_order_56 rfl ?_
            obtain ⟨rfl, rfl⟩ := Prod.mk.inj (Option.some.inj h)
            exact ze_i d_8_order_68 rfl
      · replace h := z_im h hc4
        refine zr_iconst (v := (-1 : Int32)) d_8_order_27 rfl ?_
        obtain ⟨rfl, rfl⟩ := Prod.mk.inj (Option.some.inj h)
        exact ze_i d_8_order_28 rfl
def f8_hold (a1 : Int32) (μ : zMem) : Option (Int32 × zMem) :=
  (if a1 < 0 then some ((0 : Int32), μ) else (if a1 < (3 : Int32) then if z_in a1 3 = true then z_let (f5_copyFrom (43 + a1.toNatClampNeg) 0 μ) (fun qm4 => z_let (z_sI qm4 8 0 11 ((qm4.1 8 0 11) ||| ((1 : Int32) <<< (a1 &&& 31)))) fun m6 => some ((1 : Int32), m6)) else none else some ((0 : Int32), μ)))
theorem s8_hold {P : zP} {μ : zMem} {a1 : Int32} {r : Int32} {μ' : zMem} (h : f8_hold a1 μ = some (r, μ')) : z_Sp P y_8_hold M_8_hold 2 [zA 8 0, zI a1] μ (some (zI r)) μ' := by
  refine z_Sp.of (plainFor_of_name (by decide)) rfl (l0 := [some (zA 8 0), some (zI a1)]) rfl (Nat.le_of_ble_eq_true rfl) ?_
  unfold f8_hold at h
  refine zr_iload_n (i := 1) d_8_hold_0 rfl rfl ?_
  refine zr_if_lt (tgt := 9) d_8_hold_1 rfl (fun hc1 => ?_) (fun hc1 => ?_)
  · replace h := z_ip h hc1
    refine zr_iconst (v := (0 : Int32)) d_8_hold_9 rfl ?_
    obtain ⟨rfl, rfl⟩ := Prod.mk.inj (Option.some.inj h)
    exact ze_z d_8_hold_10 rfl rfl
  · replace h := z_im h hc1
    refine zr_iload_n (i := 1) d_8_hold_4 rfl rfl ?_
    refine zr_iconst (v := (3 : Int32)) d_8_hold_5 rfl ?_
    refine zr_icmp_lt (tgt := 11) d_8_hold_6 rfl (fun hc2 => ?_) (fun hc2 => ?_)
    · replace h := z_ip h hc2
      refine zr_aload_n (i := 0) d_8_hold_11 rfl rfl ?_
      refine zr_gets (i' := 0) d_8_hold_12 fw_8_58 rfl ?_
      refine zr_iload_n (i := 1) d_8_hold_15 rfl rfl ?_
      obtain ⟨hb3, h⟩ := z_gd h
      refine zr_aald d_8_hold_16 sa_37 rfl hb3 rfl ?_
      refine zr_aload_n (i := 0) d_8_hold_17 rfl rfl ?_
      refine zr_gets (i' := 0) d_8_hold_18 fw_8_34 rfl ?_
      obtain ⟨qm4, hq5, h⟩ := z_lt h
      refine zr_callVv (av := [zA 5 0]) (st := []) d_8_hold_21 mw_5_copyFrom ml_8_210 im_5_copyFrom se_5_copyFrom rfl rfl (Nat.le_of_ble_eq_true rfl) fit_1_2_2 rfl rfl rfl (s5_copyFrom hq5.symm) ?_
      refine zr_aload_n (i := 0) d_8_hold_24 rfl rfl ?_
      refine zr_dupa d_8_hold_25 ?_
      refine zr_geti d_8_hold_26 fw_8_62 (by decide) ?_
      refine zr_iconst (v := (1 : Int32)) d_8_hold_29 rfl ?_
      refine zr_iload_n (i := 1) d_8_hold_30 rfl rfl ?_
      refine zr_ishl d_8_hold_31 ?_
      refine zr_ior d_8_hold_32 ?_
      obtain ⟨m6, hm7, h⟩ := z_lt h
      refine zr_puti d_8_hold_33 fw_8_62 pw_8_11 hm7 ?_
      refine zr_iconst (v := (1 : Int32)) d_8_hold_36 rfl ?_
      obtain ⟨rfl, rfl⟩ := Prod.mk.inj (Option.some.inj h)
      exact ze_z d_8_hold_37 rfl rfl
    · replace h := z_im h hc2
      refine zr_iconst (v := (0 : Int32)) d_8_hold_9 rfl ?_
      obtain ⟨rfl, rfl⟩ := Prod.mk.inj (Option.some.inj h)
      exact ze_z d_8_hold_10 rfl rfl
def f8_restore (a1 : Int32) (μ : zMem) : Option (Int32 × zMem) :=
  (if a1 < 0 then some ((0 : Int32), μ) else (if a1 < (3 : Int32) then (if (f8_has (μ.1 8 0 11) a1) = 0 then some ((0 : Int32), μ) else if z_in a1 3 = true then z_let (f5_copyFrom 0 (43 + a1.toNatClampNeg) μ) (fun qm6 => z_let (f3_clear qm6) (fun qm8 => some ((1 : Int32), qm8))) else none) else some ((0 : Int32), μ)))
theorem s8_restore {P : zP} {μ : zMem} {a1 : Int32} {r : Int32} {μ' : zMem} (h : f8_restore a1 μ = some (r, μ')) : z_Sp P y_8_restore M_8_restore 2 [zA 8 0, zI a1] μ (some (zI r)) μ' := by
  refine z_Sp.of (plainFor_of_name (by decide)) rfl (l0 := [some (zA 8 0), some (zI a1)]) rfl (Nat.le_of_ble_eq_true rfl) ?_
  unfold f8_restore at h
  refine zr_iload_n (i := 1) d_8_restore_0 rfl rfl ?_
  refine zr_if_lt (tgt := 20) d_8_restore_1 rfl (fun hc1 => ?_) (fun hc1 => ?_)
  · replace h := z_ip h hc1
    refine zr_iconst (v := (0 : Int32)) d_8_restore_20 rfl ?_
    obtain ⟨rfl, rfl⟩ := Prod.mk.inj (Option.some.inj h)
    exact ze_z d_8_restore_21 rfl rfl
  · replace h := z_im h hc1
    refine zr_iload_n (i := 1) d_8_restore_4 rfl rfl ?_
    refine zr_iconst (v := (3 : Int32)) d_8_restore_5 rfl ?_
    refine zr_icmp_ge (tgt := 20) d_8_restore_6 rfl (fun hc2 => ?_) (fun hc2 => ?_)
    · replace h := z_ip h hc2
      refine zr_aload_n (i := 0) d_8_restore_9 rfl rfl ?_
      refine zr_geti d_8_restore_10 fw_8_62 (by decide) ?_
      refine zr_iload_n (i := 1) d_8_restore_13 rfl rfl ?_
      refine zr_callSi (av := [zI (μ.1 8 0 11), zI a1]) (st := []) d_8_restore_14 mw_8_has ml_8_159 is_8_has rfl rfl (Nat.le_of_ble_eq_true rfl) fit_1_2_2 (s8_has rfl) ?_
      refine zr_if_ne (tgt := 22) d_8_restore_17 rfl (fun hc4 => ?_) (fun hc4 => ?_)
      · replace h := z_ip h hc4
        refine zr_iconst (v := (0 : Int32)) d_8_restore_20 rfl ?_
        obtain ⟨rfl, rfl⟩ := Prod.mk.inj (Option.some.inj h)
        exact ze_z d_8_restore_21 rfl rfl
      · replace h := z_im h hc4
        refine zr_aload_n (i := 0) d_8_restore_22 rfl rfl ?_
        refine zr_gets (i' := 0) d_8_restore_23 fw_8_34 rfl ?_
        refine zr_aload_n (i := 0) d_8_restore_26 rfl rfl ?_
        refine zr_gets (i' := 0) d_8_restore_27 fw_8_58 rfl ?_
        refine zr_iload_n (i := 1) d_8_restore_30 rfl rfl ?_
        obtain ⟨hb5, h⟩ := z_gd h
        refine zr_aald d_8_restore_31 sa_37 rfl hb5 rfl ?_
        obtain ⟨qm6, hq7, h⟩ := z_lt h
        refine zr_callVv (av := [zA 5 (43 + a1.toNatClampNeg)]) (st := []) d_8_restore_32 mw_5_copyFrom ml_8_210 im_5_copyFrom se_5_copyFrom rfl rfl (Nat.le_of_ble_eq_true rfl) fit_1_2_2 rfl rfl rfl (s5_copyFrom hq7.symm) ?_
        refine zr_aload_n (i := 0) d_8_restore_35 rfl rfl ?_
        refine zr_gets (i' := 0) d_8_restore_36 fw_8_54 rfl ?_
        obtain ⟨qm8, hq9, h⟩ := z_lt h
        refine zr_callVv (av := []) (st := []) d_8_restore_39 mw_3_clear ml_8_102 im_3_clear se_3_clear rfl rfl (Nat.le_of_ble_eq_true rfl) fit_1_1_2 rfl rfl rfl (s3_clear hq9.symm) ?_
        refine zr_iconst (v := (1 : Int32)) d_8_restore_42 rfl ?_
        obtain ⟨rfl, rfl⟩ := Prod.mk.inj (Option.some.inj h)
        exact ze_z d_8_restore_43 rfl rfl
    · replace h := z_im h hc2
      refine zr_iconst (v := (0 : Int32)) d_8_restore_20 rfl ?_
      obtain ⟨rfl, rfl⟩ := Prod.mk.inj (Option.some.inj h)
      exact ze_z d_8_restore_21 rfl rfl
def f8_allGot_L1 (μ : zMem) : (Int32 × Int32) → Option ((Int32 × Int32) ⊕ (Int32)) := (z_u2 fun x2 x3 => 
  (if x3 < (μ.1 6 (μ.2.2 8 0 3) 1) then if z_in x3 7 = true then z_let (x2 + (μ.1 23 0 x3.toNatClampNeg)) fun v6 => some (.inl (v6, (x3 + (1 : Int32)))) else none else some (.inr x2)))
def f8_allGot  (μ : zMem) : Option (Int32) :=
  (z_it (f8_allGot_L1 μ) z_fu ((0 : Int32), (0 : Int32))).bind (fun e8 => some e8)
theorem s8_allGot_L1 {P : zP} {ro : Option zV} {μo : zMem} (μ : zMem) (x2 : Int32) (x3 : Int32) (K : (Int32 × Int32) ⊕ (Int32)) (h : f8_allGot_L1 μ (x2, x3) = some K) (hI : ∀ (y0 : Int32) (y1 : Int32), K = .inl (y0, y1) → z_RQ P M_8_allGot (z_rm 1) (z_mq P ro μo) 0 0 4 [some (zA 8 0), some (zI y0), some (zI y1)] [] μ) (hE : ∀ (z0 : Int32), K = .inr z0 → z_RQ P M_8_allGot (z_rm 1) (z_mq P ro μo) 0 0 33 [none, some (zI z0), none] [] μ)  : z_RQ P M_8_allGot (z_rm 1) (z_mq P ro μo) 0 0 4 [some (zA 8 0), some (zI x2), some (zI x3)] [] μ := by
  unfold f8_allGot_L1 at h
  replace h := z_h2 h
  refine zr_iload_n (i := 2) d_8_allGot_4 rfl rfl ?_
  refine zr_aload_n (i := 0) d_8_allGot_5 rfl rfl ?_
  refine zr_getd d_8_allGot_6 fw_8_27 ?_
  refine zr_geti d_8_allGot_9 fw_8_224 (by decide) ?_
  refine zr_icmp_ge (tgt := 33) d_8_allGot_12 rfl (fun hc4 => ?_) (fun hc4 => ?_)
  · replace h := z_ip h hc4
    refine zr_iload_n (i := 1) d_8_allGot_15 rfl rfl ?_
    refine zr_aload_n (i := 0) d_8_allGot_16 rfl rfl ?_
    refine zr_gets (i' := 0) d_8_allGot_17 fw_8_34 rfl ?_
    refine zr_gets (i' := 0) d_8_allGot_20 fw_8_143 rfl ?_
    refine zr_iload_n (i := 2) d_8_allGot_23 rfl rfl ?_
    obtain ⟨hb5, h⟩ := z_gd h
    refine zr_iald d_8_allGot_24 sa_23 rfl hb5 ?_
    refine zr_iadd d_8_allGot_25 ?_
    obtain ⟨v6, hv7, h⟩ := z_lt h
    refine zr_nm hv7 ?_
    refine zr_istore_n (i := 1) (l' := [some (zA 8 0), some (zI v6), some (zI x3)]) d_8_allGot_26 rfl (by decide) rfl ?_
    refine zr_iinc (v := (x3 + (1 : Int32))) (l' := [some (zA 8 0), some (zI v6), some (zI (x3 + (1 : Int32)))]) d_8_allGot_27 (by decide) rfl rfl rfl ?_
    refine zr_goto (tgt := 4) d_8_allGot_30 rfl ?_
    obtain rfl := Option.some.inj h
    exact zr_wk2 (hI v6 (x3 + (1 : Int32)) rfl) ⟨rfl, ⟨rfl, ⟨rfl, trivial⟩⟩⟩
  · replace h := z_im h hc4
    obtain rfl := Option.some.inj h
    exact zr_wk2 (hE x2 rfl) ⟨rfl, trivial⟩
theorem s8_allGot {P : zP} {μ : zMem} {r : Int32} (h : f8_allGot μ = some r) : z_Sp P y_8_allGot M_8_allGot 1 [zA 8 0] μ (some (zI r)) μ := by
  refine z_Sp.of (plainFor_of_name (by decide)) rfl (l0 := [some (zA 8 0), none, none]) rfl (Nat.le_of_ble_eq_true rfl) ?_
  unfold f8_allGot at h
  refine zr_iconst (v := (0 : Int32)) d_8_allGot_0 rfl ?_
  refine zr_istore_n (i := 1) (l' := [some (zA 8 0), some (zI (0 : Int32)), none]) d_8_allGot_1 rfl (by decide) rfl ?_
  refine zr_iconst (v := (0 : Int32)) d_8_allGot_2 rfl ?_
  refine zr_istore_n (i := 2) (l' := [some (zA 8 0), some (zI (0 : Int32)), some (zI (0 : Int32))]) d_8_allGot_3 rfl (by decide) rfl ?_
  obtain ⟨e8, hl9, h⟩ := z_bd h
  refine zr_wk (l' := [some (zA 8 0), some (zI (0 : Int32)), some (zI (0 : Int32))]) ⟨rfl, ⟨rfl, ⟨rfl, trivial⟩⟩⟩ ?_
  refine z_loop (Hd := (z_u2 fun y0 y1 => z_RQ P M_8_allGot (z_rm 1) (z_mq P (some (zI r)) μ) 0 0 4 [some (zA 8 0), some (zI y0), some (zI y1)] [] μ)) (Ex := (fun z0 => z_RQ P M_8_allGot (z_rm 1) (z_mq P (some (zI r)) μ) 0 0 33 [none, some (zI z0), none] [] μ)) (fun ⟨x2, x3⟩ K h hI hE => s8_allGot_L1 μ x2 x3 K h (fun y0 y1 e => hI (y0, y1) e) (fun z0 e => hE z0 e) ) _ _ _ hl9 ?_
  refine zr_iload_n (i := 1) d_8_allGot_33 rfl rfl ?_
  obtain rfl := Option.some.inj h
  exact ze_i d_8_allGot_34 rfl
def f8_allRent_L1 (μ : zMem) : (Int32 × Int32) → Option ((Int32 × Int32) ⊕ (Int32)) := (z_u2 fun x2 x3 => 
  (if x3 < (μ.1 6 (μ.2.2 8 0 3) 0) then if z_in x3 (z_len 26 (2 * (μ.2.2 8 0 3))) = true then z_let (x2 + (μ.1 26 (2 * (μ.2.2 8 0 3)) x3.toNatClampNeg)) fun v6 => some (.inl (v6, (x3 + (1 : Int32)))) else none else some (.inr x2)))
def f8_allRent  (μ : zMem) : Option (Int32) :=
  (z_it (f8_allRent_L1 μ) z_fu ((0 : Int32), (0 : Int32))).bind (fun e8 => some e8)
theorem s8_allRent_L1 {P : zP} {ro : Option zV} {μo : zMem} (μ : zMem) (x2 : Int32) (x3 : Int32) (K : (Int32 × Int32) ⊕ (Int32)) (h : f8_allRent_L1 μ (x2, x3) = some K) (hI : ∀ (y0 : Int32) (y1 : Int32), K = .inl (y0, y1) → z_RQ P M_8_allRent (z_rm 1) (z_mq P ro μo) 0 0 4 [some (zA 8 0), some (zI y0), some (zI y1)] [] μ) (hE : ∀ (z0 : Int32), K = .inr z0 → z_RQ P M_8_allRent (z_rm 1) (z_mq P ro μo) 0 0 33 [none, some (zI z0), none] [] μ)  : z_RQ P M_8_allRent (z_rm 1) (z_mq P ro μo) 0 0 4 [some (zA 8 0), some (zI x2), some (zI x3)] [] μ := by
  unfold f8_allRent_L1 at h
  replace h := z_h2 h
  refine zr_iload_n (i := 2) d_8_allRent_4 rfl rfl ?_
  refine zr_aload_n (i := 0) d_8_allRent_5 rfl rfl ?_
  refine zr_getd d_8_allRent_6 fw_8_27 ?_
  refine zr_geti d_8_allRent_9 fw_8_156 (by decide) ?_
  refine zr_icmp_ge (tgt := 33) d_8_allRent_12 rfl (fun hc4 => ?_) (fun hc4 => ?_)
  · replace h := z_ip h hc4
    refine zr_iload_n (i := 1) d_8_allRent_15 rfl rfl ?_
    refine zr_aload_n (i := 0) d_8_allRent_16 rfl rfl ?_
    refine zr_getd d_8_allRent_17 fw_8_27 ?_
    refine zr_gets (i' := (2 * (μ.2.2 8 0 3))) d_8_allRent_20 fw_8_113 rfl ?_
    refine zr_iload_n (i := 2) d_8_allRent_23 rfl rfl ?_
    obtain ⟨hb5, h⟩ := z_gd h
    refine zr_iald d_8_allRent_24 sa_26 rfl hb5 ?_
    refine zr_iadd d_8_allRent_25 ?_
    obtain ⟨v6, hv7, h⟩ := z_lt h
    refine zr_nm hv7 ?_
    refine zr_istore_n (i := 1) (l' := [some (zA 8 0), some (zI v6), some (zI x3)]) d_8_allRent_26 rfl (by decide) rfl ?_
    refine zr_iinc (v := (x3 + (1 : Int32))) (l' := [some (zA 8 0), some (zI v6), some (zI (x3 + (1 : Int32)))]) d_8_allRent_27 (by decide) rfl rfl rfl ?_
    refine zr_goto (tgt := 4) d_8_allRent_30 rfl ?_
    obtain rfl := Option.some.inj h
    exact zr_wk2 (hI v6 (x3 + (1 : Int32)) rfl) ⟨rfl, ⟨rfl, ⟨rfl, trivial⟩⟩⟩
  · replace h := z_im h hc4
    obtain rfl := Option.some.inj h
    exact zr_wk2 (hE x2 rfl) ⟨rfl, trivial⟩
theorem s8_allRent {P : zP} {μ : zMem} {r : Int32} (h : f8_allRent μ = some r) : z_Sp P y_8_allRent M_8_allRent 1 [zA 8 0] μ (some (zI r)) μ := by
  refine z_Sp.of (plainFor_of_name (by decide)) rfl (l0 := [some (zA 8 0), none, none]) rfl (Nat.le_of_ble_eq_true rfl) ?_
  unfold f8_allRent at h
  refine zr_iconst (v := (0 : Int32)) d_8_allRent_0 rfl ?_
  refine zr_istore_n (i := 1) (l' := [some (zA 8 0), some (zI (0 : Int32)), none]) d_8_allRent_1 rfl (by decide) rfl ?_
  refine zr_iconst (v := (0 : Int32)) d_8_allRent_2 rfl ?_
  refine zr_istore_n (i := 2) (l' := [some (zA 8 0), some (zI (0 : Int32)), some (zI (0 : Int32))]) d_8_allRent_3 rfl (by decide) rfl ?_
  obtain ⟨e8, hl9, h⟩ := z_bd h
  refine zr_wk (l' := [some (zA 8 0), some (zI (0 : Int32)), some (zI (0 : Int32))]) ⟨rfl, ⟨rfl, ⟨rfl, trivial⟩⟩⟩ ?_
  refine z_loop (Hd := (z_u2 fun y0 y1 => z_RQ P M_8_allRent (z_rm 1) (z_mq P (some (zI r)) μ) 0 0 4 [some (zA 8 0), some (zI y0), some (zI y1)] [] μ)) (Ex := (fun z0 => z_RQ P M_8_allRent (z_rm 1) (z_mq P (some (zI r)) μ) 0 0 33 [none, some (zI z0), none] [] μ)) (fun ⟨x2, x3⟩ K h hI hE => s8_allRent_L1 μ x2 x3 K h (fun y0 y1 e => hI (y0, y1) e) (fun z0 e => hE z0 e) ) _ _ _ hl9 ?_
  refine zr_iload_n (i := 1) d_8_allRent_33 rfl rfl ?_
  obtain rfl := Option.some.inj h
  exact ze_i d_8_allRent_34 rfl
def f8_allGone_L1 (μ : zMem) : (Int32 × Int32) → Option ((Int32 × Int32) ⊕ (Int32)) := (z_u2 fun x2 x3 => 
  (if x3 < (μ.1 6 (μ.2.2 8 0 3) 1) then if z_in x3 7 = true then z_let (x2 + (μ.1 22 0 x3.toNatClampNeg)) fun v6 => some (.inl (v6, (x3 + (1 : Int32)))) else none else some (.inr x2)))
def f8_allGone  (μ : zMem) : Option (Int32) :=
  (z_it (f8_allGone_L1 μ) z_fu ((0 : Int32), (0 : Int32))).bind (fun e8 => some e8)
theorem s8_allGone_L1 {P : zP} {ro : Option zV} {μo : zMem} (μ : zMem) (x2 : Int32) (x3 : Int32) (K : (Int32 × Int32) ⊕ (Int32)) (h : f8_allGone_L1 μ (x2, x3) = some K) (hI : ∀ (y0 : Int32) (y1 : Int32), K = .inl (y0, y1) → z_RQ P M_8_allGone (z_rm 1) (z_mq P ro μo) 0 0 4 [some (zA 8 0), some (zI y0), some (zI y1)] [] μ) (hE : ∀ (z0 : Int32), K = .inr z0 → z_RQ P M_8_allGone (z_rm 1) (z_mq P ro μo) 0 0 33 [none, some (zI z0), none] [] μ)  : z_RQ P M_8_allGone (z_rm 1) (z_mq P ro μo) 0 0 4 [some (zA 8 0), some (zI x2), some (zI x3)] [] μ := by
  unfold f8_allGone_L1 at h
  replace h := z_h2 h
  refine zr_iload_n (i := 2) d_8_allGone_4 rfl rfl ?_
  refine zr_aload_n (i := 0) d_8_allGone_5 rfl rfl ?_
  refine zr_getd d_8_allGone_6 fw_8_27 ?_
  refine zr_geti d_8_allGone_9 fw_8_224 (by decide) ?_
  refine zr_icmp_ge (tgt := 33) d_8_allGone_12 rfl (fun hc4 => ?_) (fun hc4 => ?_)
  · replace h := z_ip h hc4
    refine zr_iload_n (i := 1) d_8_allGone_15 rfl rfl ?_
    refine zr_aload_n (i := 0) d_8_allGone_16 rfl rfl ?_
    refine zr_gets (i' := 0) d_8_allGone_17 fw_8_34 rfl ?_
    refine zr_gets (i' := 0) d_8_allGone_20 fw_8_140 rfl ?_
    refine zr_iload_n (i := 2) d_8_allGone_23 rfl rfl ?_
    obtain ⟨hb5, h⟩ := z_gd h
    refine zr_iald d_8_allGone_24 sa_22 rfl hb5 ?_
    refine zr_iadd d_8_allGone_25 ?_
    obtain ⟨v6, hv7, h⟩ := z_lt h
    refine zr_nm hv7 ?_
    refine zr_istore_n (i := 1) (l' := [some (zA 8 0), some (zI v6), some (zI x3)]) d_8_allGone_26 rfl (by decide) rfl ?_
    refine zr_iinc (v := (x3 + (1 : Int32))) (l' := [some (zA 8 0), some (zI v6), some (zI (x3 + (1 : Int32)))]) d_8_allGone_27 (by decide) rfl rfl rfl ?_
    refine zr_goto (tgt := 4) d_8_allGone_30 rfl ?_
    obtain rfl := Option.some.inj h
    exact zr_wk2 (hI v6 (x3 + (1 : Int32)) rfl) ⟨rfl, ⟨rfl, ⟨rfl, trivial⟩⟩⟩
  · replace h := z_im h hc4
    obtain rfl := Option.some.inj h
    exact zr_wk2 (hE x2 rfl) ⟨rfl, trivial⟩
theorem s8_allGone {P : zP} {μ : zMem} {r : Int32} (h : f8_allGone μ = some r) : z_Sp P y_8_allGone M_8_allGone 1 [zA 8 0] μ (some (zI r)) μ := by
  refine z_Sp.of (plainFor_of_name (by decide)) rfl (l0 := [some (zA 8 0), none, none]) rfl (Nat.le_of_ble_eq_true rfl) ?_
  unfold f8_allGone at h
  refine zr_iconst (v := (0 : Int32)) d_8_allGone_0 rfl ?_
  refine zr_istore_n (i := 1) (l' := [some (zA 8 0), some (zI (0 : Int32)), none]) d_8_allGone_1 rfl (by decide) rfl ?_
  refine zr_iconst (v := (0 : Int32)) d_8_allGone_2 rfl ?_
  refine zr_istore_n (i := 2) (l' := [some (zA 8 0), some (zI (0 : Int32)), some (zI (0 : Int32))]) d_8_allGone_3 rfl (by decide) rfl ?_
  obtain ⟨e8, hl9, h⟩ := z_bd h
  refine zr_wk (l' := [some (zA 8 0), some (zI (0 : Int32)), some (zI (0 : Int32))]) ⟨rfl, ⟨rfl, ⟨rfl, trivial⟩⟩⟩ ?_
  refine z_loop (Hd := (z_u2 fun y0 y1 => z_RQ P M_8_allGone (z_rm 1) (z_mq P (some (zI r)) μ) 0 0 4 [some (zA 8 0), some (zI y0), some (zI y1)] [] μ)) (Ex := (fun z0 => z_RQ P M_8_allGone (z_rm 1) (z_mq P (some (zI r)) μ) 0 0 33 [none, some (zI z0), none] [] μ)) (fun ⟨x2, x3⟩ K h hI hE => s8_allGone_L1 μ x2 x3 K h (fun y0 y1 e => hI (y0, y1) e) (fun z0 e => hE z0 e) ) _ _ _ hl9 ?_
  refine zr_iload_n (i := 1) d_8_allGone_33 rfl rfl ?_
  obtain rfl := Option.some.inj h
  exact ze_i d_8_allGone_34 rfl
def f8_allRents_L3  : (Int32 × Int32 × zMem) → Option ((Int32 × Int32 × zMem) ⊕ (Int32 × zMem)) := (z_u3 fun x4 x5 xm6 => 
  (if x5 < (xm6.1 6 (xm6.2.2 8 0 3) 0) then (f1_rentsOf 0 (xm6.2.2 8 0 3) 0 x5 xm6).bind (z_u2 fun q8 qm9 => some (.inl ((x4 + q8), (x5 + (1 : Int32)), qm9))) else some (.inr (x4, xm6))))
def f8_allRents  (μ : zMem) : Option (Int32 × zMem) :=
  (f1_look 0 (μ.2.2 8 0 3) 0 μ).bind (fun qm1 => (z_it (f8_allRents_L3) z_fu ((0 : Int32), (0 : Int32), qm1)).bind (z_u2 fun e11 e12 => some (e11, e12)))
theorem s8_allRents_L3 {P : zP} {ro : Option zV} {μo : zMem}  (x4 : Int32) (x5 : Int32) (xm6 : zMem) (K : (Int32 × Int32 × zMem) ⊕ (Int32 × zMem)) (h : f8_allRents_L3  (x4, x5, xm6) = some K) (hI : ∀ (y0 : Int32) (y1 : Int32) (y2 : zMem), K = .inl (y0, y1, y2) → z_RQ P M_8_allRents (z_rm 5) (z_mq P ro μo) 0 0 19 [some (zA 8 0), some (zI y0), some (zI y1)] [] y2) (hE : ∀ (z0 : Int32) (z1 : zMem), K = .inr (z0, z1) → z_RQ P M_8_allRents (z_rm 5) (z_mq P ro μo) 0 0 55 [none, some (zI z0), none] [] z1)  : z_RQ P M_8_allRents (z_rm 5) (z_mq P ro μo) 0 0 19 [some (zA 8 0), some (zI x4), some (zI x5)] [] xm6 := by
  unfold f8_allRents_L3 at h
  replace h := z_h3 h
  refine zr_iload_n (i := 2) d_8_allRents_19 rfl rfl ?_
  refine zr_aload_n (i := 0) d_8_allRents_20 rfl rfl ?_
  refine zr_getd d_8_allRents_21 fw_8_27 ?_
  refine zr_geti d_8_allRents_24 fw_8_156 (by decide) ?_
  refine zr_icmp_ge (tgt := 55) d_8_allRents_27 rfl (fun hc7 => ?_) (fun hc7 => ?_)
  · replace h := z_ip h hc7
    refine zr_iload_n (i := 1) d_8_allRents_30 rfl rfl ?_
    refine zr_aload_n (i := 0) d_8_allRents_31 rfl rfl ?_
    refine zr_gets (i' := 0) d_8_allRents_32 fw_8_68 rfl ?_
    refine zr_aload_n (i := 0) d_8_allRents_35 rfl rfl ?_
    refine zr_getd d_8_allRents_36 fw_8_27 ?_
    refine zr_aload_n (i := 0) d_8_allRents_39 rfl rfl ?_
    refine zr_gets (i' := 0) d_8_allRents_40 fw_8_34 rfl ?_
    refine zr_iload_n (i := 2) d_8_allRents_43 rfl rfl ?_
    obtain ⟨⟨q8, qm9⟩, hq10, h⟩ := z_bd h
    replace h := z_h2 h
    refine zr_callVi (av := [zA 6 (xm6.2.2 8 0 3), zA 5 0, zI x5]) (st := [zI x4]) d_8_allRents_44 mw_1_rentsOf ml_8_127 im_1_rentsOf se_1_rentsOf rfl rfl (Nat.le_of_ble_eq_true rfl) fit_4_5_5 rfl rfl rfl (s1_rentsOf hq10) ?_
    refine zr_iadd d_8_allRents_47 ?_
    refine zr_istore_n (i := 1) (l' := [some (zA 8 0), some (zI (x4 + q8)), some (zI x5)]) d_8_allRents_48 rfl (by decide) rfl ?_
    refine zr_iinc (v := (x5 + (1 : Int32))) (l' := [some (zA 8 0), some (zI (x4 + q8)), some (zI (x5 + (1 : Int32)))]) d_8_allRents_49 (by decide) rfl rfl rfl ?_
    refine zr_goto (tgt := 19) d_8_allRents_52 rfl ?_
    obtain rfl := Option.some.inj h
    exact zr_wk2 (hI (x4 + q8) (x5 + (1 : Int32)) qm9 rfl) ⟨rfl, ⟨rfl, ⟨rfl, trivial⟩⟩⟩
  · replace h := z_im h hc7
    obtain rfl := Option.some.inj h
    exact zr_wk2 (hE x4 xm6 rfl) ⟨rfl, trivial⟩
theorem s8_allRents {P : zP} {μ : zMem} {r : Int32} {μ' : zMem} (h : f8_allRents μ = some (r, μ')) : z_Sp P y_8_allRents M_8_allRents 5 [zA 8 0] μ (some (zI r)) μ' := by
  refine z_Sp.of (plainFor_of_name (by decide)) rfl (l0 := [some (zA 8 0), none, none]) rfl (Nat.le_of_ble_eq_true rfl) ?_
  unfold f8_allRents at h
  refine zr_aload_n (i := 0) d_8_allRents_0 rfl rfl ?_
  refine zr_gets (i' := 0) d_8_allRents_1 fw_8_68 rfl ?_
  refine zr_aload_n (i := 0) d_8_allRents_4 rfl rfl ?_
  refine zr_getd d_8_allRents_5 fw_8_27 ?_
  refine zr_aload_n (i := 0) d_8_allRents_8 rfl rfl ?_
  refine zr_gets (i' := 0) d_8_allRents_9 fw_8_34 rfl ?_
  obtain ⟨qm1, hq2, h⟩ := z_bd h
  refine zr_callVv (av := [zA 6 (μ.2.2 8 0 3), zA 5 0]) (st := []) d_8_allRents_12 mw_1_look ml_8_123 im_1_look se_1_look rfl rfl (Nat.le_of_ble_eq_true rfl) fit_4_5_5 rfl rfl rfl (s1_look hq2) ?_
  refine zr_iconst (v := (0 : Int32)) d_8_allRents_15 rfl ?_
  refine zr_istore_n (i := 1) (l' := [some (zA 8 0), some (zI (0 : Int32)), none]) d_8_allRents_16 rfl (by decide) rfl ?_
  refine zr_iconst (v := (0 : Int32)) d_8_allRents_17 rfl ?_
  refine zr_istore_n (i := 2) (l' := [some (zA 8 0), some (zI (0 : Int32)), some (zI (0 : Int32))]) d_8_allRents_18 rfl (by decide) rfl ?_
  obtain ⟨⟨e11, e12⟩, hl13, h⟩ := z_bd h
  replace h := z_h2 h
  refine zr_wk (l' := [some (zA 8 0), some (zI (0 : Int32)), some (zI (0 : Int32))]) ⟨rfl, ⟨rfl, ⟨rfl, trivial⟩⟩⟩ ?_
  refine z_loop (Hd := (z_u3 fun y0 y1 y2 => z_RQ P M_8_allRents (z_rm 5) (z_mq P (some (zI r)) μ') 0 0 19 [some (zA 8 0), some (zI y0), some (zI y1)] [] y2)) (Ex := (z_u2 fun z0 z1 => z_RQ P M_8_allRents (z_rm 5) (z_mq P (some (zI r)) μ') 0 0 55 [none, some (zI z0), none] [] z1)) (fun ⟨x4, x5, xm6⟩ K h hI hE => s8_allRents_L3  x4 x5 xm6 K h (fun y0 y1 y2 e => hI (y0, y1, y2) e) (fun z0 z1 e => hE (z0, z1) e) ) _ _ _ hl13 ?_
  refine zr_iload_n (i := 1) d_8_allRents_55 rfl rfl ?_
  obtain ⟨rfl, rfl⟩ := Prod.mk.inj (Option.some.inj h)
  exact ze_i d_8_allRents_56 rfl
def f8_whoHasNoRight_L4 (μ : zMem) : (Int32 × Int32) → Option ((Int32 × Int32) ⊕ (Int32)) := (z_u2 fun x5 x6 => 
  (if x6 < (μ.1 6 (μ.2.2 8 0 3) 0) then if z_in x6 5 = true then z_let (x5 &&& ((μ.1 25 0 x6.toNatClampNeg) ^^^ (-1 : Int32))) fun v9 => some (.inl (v9, (x6 + (1 : Int32)))) else none else some (.inr x5)))
def f8_whoHasNoRight  (μ : zMem) : Option (Int32) :=
  z_let (f8_everybody (μ.1 6 (μ.2.2 8 0 3) 1)) fun v2 => (z_it (f8_whoHasNoRight_L4 μ) z_fu (v2, (0 : Int32))).bind (fun e11 => some e11)
theorem s8_whoHasNoRight_L4 {P : zP} {ro : Option zV} {μo : zMem} (μ : zMem) (x5 : Int32) (x6 : Int32) (K : (Int32 × Int32) ⊕ (Int32)) (h : f8_whoHasNoRight_L4 μ (x5, x6) = some K) (hI : ∀ (y0 : Int32) (y1 : Int32), K = .inl (y0, y1) → z_RQ P M_8_whoHasNoRight (z_rm 2) (z_mq P ro μo) 0 0 13 [some (zA 8 0), some (zI y0), some (zI y1)] [] μ) (hE : ∀ (z0 : Int32), K = .inr z0 → z_RQ P M_8_whoHasNoRight (z_rm 2) (z_mq P ro μo) 0 0 44 [none, some (zI z0), none] [] μ)  : z_RQ P M_8_whoHasNoRight (z_rm 2) (z_mq P ro μo) 0 0 13 [some (zA 8 0), some (zI x5), some (zI x6)] [] μ := by
  unfold f8_whoHasNoRight_L4 at h
  replace h := z_h2 h
  refine zr_iload_n (i := 2) d_8_whoHasNoRight_13 rfl rfl ?_
  refine zr_aload_n (i := 0) d_8_whoHasNoRight_14 rfl rfl ?_
  refine zr_getd d_8_whoHasNoRight_15 fw_8_27 ?_
  refine zr_geti d_8_whoHasNoRight_18 fw_8_156 (by decide) ?_
  refine zr_icmp_ge (tgt := 44) d_8_whoHasNoRight_21 rfl (fun hc7 => ?_) (fun hc7 => ?_)
  · replace h := z_ip h hc7
    refine zr_iload_n (i := 1) d_8_whoHasNoRight_24 rfl rfl ?_
    refine zr_aload_n (i := 0) d_8_whoHasNoRight_25 rfl rfl ?_
    refine zr_gets (i' := 0) d_8_whoHasNoRight_26 fw_8_34 rfl ?_
    refine zr_gets (i' := 0) d_8_whoHasNoRight_29 fw_8_120 rfl ?_
    refine zr_iload_n (i := 2) d_8_whoHasNoRight_32 rfl rfl ?_
    obtain ⟨hb8, h⟩ := z_gd h
    refine zr_iald d_8_whoHasNoRight_33 sa_25 rfl hb8 ?_
    refine zr_iconst (v := (-1 : Int32)) d_8_whoHasNoRight_34 rfl ?_
    refine zr_ixor d_8_whoHasNoRight_35 ?_
    refine zr_iand d_8_whoHasNoRight_36 ?_
    obtain ⟨v9, hv10, h⟩ := z_lt h
    refine zr_nm hv10 ?_
    refine zr_istore_n (i := 1) (l' := [some (zA 8 0), some (zI v9), some (zI x6)]) d_8_whoHasNoRight_37 rfl (by decide) rfl ?_
    refine zr_iinc (v := (x6 + (1 : Int32))) (l' := [some (zA 8 0), some (zI v9), some (zI (x6 + (1 : Int32)))]) d_8_whoHasNoRight_38 (by decide) rfl rfl rfl ?_
    refine zr_goto (tgt := 13) d_8_whoHasNoRight_41 rfl ?_
    obtain rfl := Option.some.inj h
    exact zr_wk2 (hI v9 (x6 + (1 : Int32)) rfl) ⟨rfl, ⟨rfl, ⟨rfl, trivial⟩⟩⟩
  · replace h := z_im h hc7
    obtain rfl := Option.some.inj h
    exact zr_wk2 (hE x5 rfl) ⟨rfl, trivial⟩
theorem s8_whoHasNoRight {P : zP} {μ : zMem} {r : Int32} (h : f8_whoHasNoRight μ = some r) : z_Sp P y_8_whoHasNoRight M_8_whoHasNoRight 2 [zA 8 0] μ (some (zI r)) μ := by
  refine z_Sp.of (plainFor_of_name (by decide)) rfl (l0 := [some (zA 8 0), none, none]) rfl (Nat.le_of_ble_eq_true rfl) ?_
  unfold f8_whoHasNoRight at h
  refine zr_aload_n (i := 0) d_8_whoHasNoRight_0 rfl rfl ?_
  refine zr_getd d_8_whoHasNoRight_1 fw_8_27 ?_
  refine zr_geti d_8_whoHasNoRight_4 fw_8_224 (by decide) ?_
  refine zr_callSi (av := [zI (μ.1 6 (μ.2.2 8 0 3) 1)]) (st := []) d_8_whoHasNoRight_7 mw_8_everybody ml_8_320 is_8_everybody rfl rfl (Nat.le_of_ble_eq_true rfl) fit_1_1_2 (s8_everybody rfl) ?_
  obtain ⟨v2, hv3, h⟩ := z_lt h
  refine zr_nm hv3 ?_
  refine zr_istore_n (i := 1) (l' := [some (zA 8 0), some (zI v2), none]) d_8_whoHasNoRight_10 rfl (by decide) rfl ?_
  refine zr_iconst (v := (0 : Int32)) d_8_whoHasNoRight_11 rfl ?_
  refine zr_istore_n (i := 2) (l' := [some (zA 8 0), some (zI v2), some (zI (0 : Int32))]) d_8_whoHasNoRight_12 rfl (by decide) rfl ?_
  obtain ⟨e11, hl12, h⟩ := z_bd h
  refine zr_wk (l' := [some (zA 8 0), some (zI v2), some (zI (0 : Int32))]) ⟨rfl, ⟨rfl, ⟨rfl, trivial⟩⟩⟩ ?_
  refine z_loop (Hd := (z_u2 fun y0 y1 => z_RQ P M_8_whoHasNoRight (z_rm 2) (z_mq P (some (zI r)) μ) 0 0 13 [some (zA 8 0), some (zI y0), some (zI y1)] [] μ)) (Ex := (fun z0 => z_RQ P M_8_whoHasNoRight (z_rm 2) (z_mq P (some (zI r)) μ) 0 0 44 [none, some (zI z0), none] [] μ)) (fun ⟨x5, x6⟩ K h hI hE => s8_whoHasNoRight_L4 μ x5 x6 K h (fun y0 y1 e => hI (y0, y1) e) (fun z0 e => hE z0 e) ) _ _ _ hl12 ?_
  refine zr_iload_n (i := 1) d_8_whoHasNoRight_44 rfl rfl ?_
  obtain rfl := Option.some.inj h
  exact ze_i d_8_whoHasNoRight_45 rfl
def f8_count (a1 : Int32) (μ : zMem) : Option (Int32 × zMem) :=
  (if a1 = (0 : Int32) then some ((μ.1 6 (μ.2.2 8 0 3) 0), μ) else (if a1 = (1 : Int32) then some ((μ.1 6 (μ.2.2 8 0 3) 1), μ) else (if a1 = (2 : Int32) then some ((μ.1 5 0 0), μ) else (if a1 = (3 : Int32) then some ((f5_whoStands 0 (μ.2.2 8 0 3) (a1 - (3 : Int32)) μ), μ) else (if a1 = (4 : Int32) then some ((f5_whoStands 0 (μ.2.2 8 0 3) (a1 - (3 : Int32)) μ), μ) else (if a1 = (5 : Int32) then some ((f5_whoStands 0 (μ.2.2 8 0 3) (a1 - (3 : Int32)) μ), μ) else (if a1 = (6 : Int32) then (f5_allLandlords 0 (μ.2.2 8 0 3) μ).bind (fun q11 => some (q11, μ)) else (if a1 = (7 : Int32) then (f8_allGot μ).bind (fun q14 => some (q14, μ)) else (if a1 = (8 : Int32) then some ((μ.1 8 0 1), μ) else (if a1 = (9 : Int32) then some ((μ.1 3 0 2), μ) else (if a1 = (10 : Int32) then some ((μ.1 2 0 2), μ) else (if a1 = (11 : Int32) then some ((fj6_bitCount_0f7a4 (μ.1 8 0 11)), μ) else (if a1 = (12 : Int32) then (f8_allRights μ).bind (fun q22 => some (q22, μ)) else (if a1 = (13 : Int32) then (f8_allRent μ).bind (fun q25 => some (q25, μ)) else (if a1 = (14 : Int32) then (f8_allGone μ).bind (fun q28 => some (q28, μ)) else (if a1 = (15 : Int32) then (f8_allRents μ).bind (z_u2 fun q31 qm32 => some (q31, qm32)) else (if a1 = (16 : Int32) then (f8_whoHasNoRight μ).bind (fun q35 => some (q35, μ)) else some ((-1 : Int32), μ))))))))))))))))))
theorem s8_count {P : zP} {μ : zMem} {a1 : Int32} {r : Int32} {μ' : zMem} (h : f8_count a1 μ = some (r, μ')) : z_Sp P y_8_count M_8_count 6 [zA 8 0, zI a1] μ (some (zI r)) μ' := by
  refine z_Sp.of (plainFor_of_name (by decide)) rfl (l0 := [some (zA 8 0), some (zI a1)]) rfl (Nat.le_of_ble_eq_true rfl) ?_
  unfold f8_count at h
  refine zr_iload_n (i := 1) d_8_count_0 rfl rfl ?_
  by_cases hs1 : a1 = (0 : Int32)
  · replace h := z_ip h hs1
    refine zr_tbl (off := 83) (tgt := 84) hs1 d_8_count_1 (by decide) (by decide) rfl rfl ?_
    refine zr_aload_n (i := 0) d_8_count_84 rfl rfl ?_
    refine zr_getd d_8_count_85 fw_8_27 ?_
    refine zr_geti d_8_count_88 fw_8_156 (by decide) ?_
    obtain ⟨rfl, rfl⟩ := Prod.mk.inj (Option.some.inj h)
    exact ze_i d_8_count_91 rfl
  · replace h := z_im h hs1
    by_cases hs2 : a1 = (1 : Int32)
    · replace h := z_ip h hs2
      refine zr_tbl (off := 91) (tgt := 92) hs2 d_8_count_1 (by decide) (by decide) rfl rfl ?_
      refine zr_aload_n (i := 0) d_8_count_92 rfl rfl ?_
      refine zr_getd d_8_count_93 fw_8_27 ?_
      refine zr_geti d_8_count_96 fw_8_224 (by decide) ?_
      obtain ⟨rfl, rfl⟩ := Prod.mk.inj (Option.some.inj h)
      exact ze_i d_8_count_99 rfl
    · replace h := z_im h hs2
      by_cases hs3 : a1 = (2 : Int32)
      · replace h := z_ip h hs3
        refine zr_tbl (off := 99) (tgt := 100) hs3 d_8_count_1 (by decide) (by decide) rfl rfl ?_
        refine zr_aload_n (i := 0) d_8_count_100 rfl rfl ?_
        refine zr_gets (i' := 0) d_8_count_101 fw_8_34 rfl ?_
        refine zr_geti d_8_count_104 fw_8_200 (by decide) ?_
        obtain ⟨rfl, rfl⟩ := Prod.mk.inj (Option.some.inj h)
        exact ze_i d_8_count_107 rfl
      · replace h := z_im h hs3
        by_cases hs4 : a1 = (3 : Int32)
        · replace h := z_ip h hs4
          refine zr_tbl (off := 107) (tgt := 108) hs4 d_8_count_1 (by decide) (by decide) rfl rfl ?_
          refine zr_aload_n (i := 0) d_8_count_108 rfl rfl ?_
          refine zr_gets (i' := 0) d_8_count_109 fw_8_34 rfl ?_
          refine zr_aload_n (i := 0) d_8_count_112 rfl rfl ?_
          refine zr_getd d_8_count_113 fw_8_27 ?_
          refine zr_iload_n (i := 1) d_8_count_116 rfl rfl ?_
          refine zr_iconst (v := (3 : Int32)) d_8_count_117 rfl ?_
          refine zr_isub d_8_count_118 ?_
          refine zr_callVi (av := [zA 6 (μ.2.2 8 0 3), zI (a1 - (3 : Int32))]) (st := []) d_8_count_119 mw_5_whoStands ml_8_270 im_5_whoStands se_5_whoStands rfl rfl (Nat.le_of_ble_eq_true rfl) fit_2_3_6 rfl rfl rfl (s5_whoStands rfl) ?_
          obtain ⟨rfl, rfl⟩ := Prod.mk.inj (Option.some.inj h)
          exact ze_i d_8_count_122 rfl
        · replace h := z_im h hs4
          by_cases hs6 : a1 = (4 : Int32)
          · replace h := z_ip h hs6
            refine zr_tbl (off := 107) (tgt := 108) hs6 d_8_count_1 (by decide) (by decide) rfl rfl ?_
            refine zr_aload_n (i := 0) d_8_count_108 rfl rfl ?_
            refine zr_gets (i' := 0) d_8_count_109 fw_8_34 rfl ?_
            refine zr_aload_n (i := 0) d_8_count_112 rfl rfl ?_
            refine zr_getd d_8_count_113 fw_8_27 ?_
            refine zr_iload_n (i := 1) d_8_count_116 rfl rfl ?_
            refine zr_iconst (v := (3 : Int32)) d_8_count_117 rfl ?_
            refine zr_isub d_8_count_118 ?_
            refine zr_callVi (av := [zA 6 (μ.2.2 8 0 3), zI (a1 - (3 : Int32))]) (st := []) d_8_count_119 mw_5_whoStands ml_8_270 im_5_whoStands se_5_whoStands rfl rfl (Nat.le_of_ble_eq_true rfl) fit_2_3_6 rfl rfl rfl (s5_whoStands rfl) ?_
            obtain ⟨rfl, rfl⟩ := Prod.mk.inj (Option.some.inj h)
            exact ze_i d_8_count_122 rfl
          · replace h := z_im h hs6
            by_cases hs8 : a1 = (5 : Int32)
            · replace h := z_ip h hs8
              refine zr_tbl (off := 107) (tgt := 108) hs8 d_8_count_1 (by decide) (by decide) rfl rfl ?_
              refine zr_aload_n (i := 0) d_8_count_108 rfl rfl ?_
              refine zr_gets (i' := 0) d_8_count_109 fw_8_34 rfl ?_
              refine zr_aload_n (i := 0) d_8_count_112 rfl rfl ?_
              refine zr_getd d_8_count_113 fw_8_27 ?_
              refine zr_iload_n (i := 1) d_8_count_116 rfl rfl ?_
              refine zr_iconst (v := (3 : Int32)) d_8_count_117 rfl ?_
              refine zr_isub d_8_count_118 ?_
              refine zr_callVi (av := [zA 6 (μ.2.2 8 0 3), zI (a1 - (3 : Int32))]) (st := []) d_8_count_119 mw_5_whoStands ml_8_270 im_5_whoStands se_5_whoStands rfl rfl (Nat.le_of_ble_eq_true rfl) fit_2_3_6 rfl rfl rfl (s5_whoStands rfl) ?_
              obtain ⟨rfl, rfl⟩ := Prod.mk.inj (Option.some.inj h)
              exact ze_i d_8_count_122 rfl
            · replace h := z_im h hs8
              by_cases hs10 : a1 = (6 : Int32)
              · replace h := z_ip h hs10
                refine zr_tbl (off := 122) (tgt := 123) hs10 d_8_count_1 (by decide) (by decide) rfl rfl ?_
                refine zr_aload_n (i := 0) d_8_count_123 rfl rfl ?_
                refine zr_gets (i' := 0) d_8_count_124 fw_8_34 rfl ?_
                refine zr_aload_n (i := 0) d_8_count_127 rfl rfl ?_
                refine zr_getd d_8_count_128 fw_8_27 ?_
                obtain ⟨q11, hq12, h⟩ := z_bd h
                refine zr_callVi (av := [zA 6 (μ.2.2 8 0 3)]) (st := []) d_8_count_131 mw_5_allLandlords ml_8_274 im_5_allLandlords se_5_allLandlords rfl rfl (Nat.le_of_ble_eq_true rfl) fit_4_5_6 rfl rfl rfl (s5_allLandlords hq12) ?_
                obtain ⟨rfl, rfl⟩ := Prod.mk.inj (Option.some.inj h)
                exact ze_i d_8_count_134 rfl
              · replace h := z_im h hs10
                by_cases hs13 : a1 = (7 : Int32)
                · replace h := z_ip h hs13
                  refine zr_tbl (off := 134) (tgt := 135) hs13 d_8_count_1 (by decide) (by decide) rfl rfl ?_
                  refine zr_aload_n (i := 0) d_8_count_135 rfl rfl ?_
                  obtain ⟨q14, hq15, h⟩ := z_bd h
                  refine zr_callVi (av := []) (st := []) d_8_count_136 mw_8_allGot ml_8_302 im_8_allGot se_8_allGot rfl rfl (Nat.le_of_ble_eq_true rfl) fit_1_3_6 rfl rfl rfl (s8_allGot hq15) ?_
                  obtain ⟨rfl, rfl⟩ := Prod.mk.inj (Option.some.inj h)
                  exact ze_i d_8_count_139 rfl
                · replace h := z_im h hs13
                  by_cases hs16 : a1 = (8 : Int32)
                  · replace h := z_ip h hs16
                    refine zr_tbl (off := 139) (tgt := 140) hs16 d_8_count_1 (by decide) (by decide) rfl rfl ?_
                    refine zr_aload_n (i := 0) d_8_count_140 rfl rfl ?_
                    refine zr_geti d_8_count_141 fw_8_13 (by decide) ?_
                    obtain ⟨rfl, rfl⟩ := Prod.mk.inj (Option.some.inj h)
                    exact ze_i d_8_count_144 rfl
                  · replace h := z_im h hs16
                    by_cases hs17 : a1 = (9 : Int32)
                    · replace h := z_ip h hs17
                      refine zr_tbl (off := 144) (tgt := 145) hs17 d_8_count_1 (by decide) (by decide) rfl rfl ?_
                      refine zr_aload_n (i := 0) d_8_count_145 rfl rfl ?_
                      refine zr_gets (i' := 0) d_8_count_146 fw_8_54 rfl ?_
                      refine zr_geti d_8_count_149 fw_8_305 (by decide) ?_
                      obtain ⟨rfl, rfl⟩ := Prod.mk.inj (Option.some.inj h)
                      exact ze_i d_8_count_152 rfl
                    · replace h := z_im h hs17
                      by_cases hs18 : a1 = (10 : Int32)
                      · replace h := z_ip h hs18
                        refine zr_tbl (off := 152) (tgt := 153) hs18 d_8_count_1 (by decide) (by decide) rfl rfl ?_
                        refine zr_aload_n (i := 0) d_8_count_153 rfl rfl ?_
                        refine zr_gets (i' := 0) d_8_count_154 fw_8_82 rfl ?_
                        refine zr_geti d_8_count_157 fw_8_281 (by decide) ?_
                        obtain ⟨rfl, rfl⟩ := Prod.mk.inj (Option.some.inj h)
                        exact ze_i d_8_count_160 rfl
                      · replace h := z_im h hs18
                        by_cases hs19 : a1 = (11 : Int32)
                        · replace h := z_ip h hs19
                          refine zr_tbl (off := 160) (tgt := 161) hs19 d_8_count_1 (by decide) (by decide) rfl rfl ?_
                          refine zr_aload_n (i := 0) d_8_count_161 rfl rfl ?_
                          refine zr_geti d_8_count_162 fw_8_62 (by decide) ?_
                          refine zr_callSi (av := [zI (μ.1 8 0 11)]) (st := []) d_8_count_165 mw_j6_bitCount_0f7a4 ml_8_241 is_j6_bitCount_0f7a4 rfl rfl (Nat.le_of_ble_eq_true rfl) fit_1_1_6 (sj6_bitCount_0f7a4 rfl) ?_
                          obtain ⟨rfl, rfl⟩ := Prod.mk.inj (Option.some.inj h)
                          exact ze_i d_8_count_168 rfl
                        · replace h := z_im h hs19
                          by_cases hs21 : a1 = (12 : Int32)
                          · replace h := z_ip h hs21
                            refine zr_tbl (off := 168) (tgt := 169) hs21 d_8_count_1 (by decide) (by decide) rfl rfl ?_
                            refine zr_aload_n (i := 0) d_8_count_169 rfl rfl ?_
                            obtain ⟨q22, hq23, h⟩ := z_bd h
                            refine zr_callVi (av := []) (st := []) d_8_count_170 mw_8_allRights ml_8_263 im_8_allRights se_8_allRights rfl rfl (Nat.le_of_ble_eq_true rfl) fit_2_3_6 rfl rfl rfl (s8_allRights hq23) ?_
                            obtain ⟨rfl, rfl⟩ := Prod.mk.inj (Option.some.inj h)
                            exact ze_i d_8_count_173 rfl
                          · replace h := z_im h hs21
                            by_cases hs24 : a1 = (13 : Int32)
                            · replace h := z_ip h hs24
                              refine zr_tbl (off := 173) (tgt := 174) hs24 d_8_count_1 (by decide) (by decide) rfl rfl ?_
                              refine zr_aload_n (i := 0) d_8_count_174 rfl rfl ?_
                              obtain ⟨q25, hq26, h⟩ := z_bd h
                              refine zr_callVi (av := []) (st := []) d_8_count_175 mw_8_allRent ml_8_308 im_8_allRent se_8_allRent rfl rfl (Nat.le_of_ble_eq_true rfl) fit_1_3_6 rfl rfl rfl (s8_allRent hq26) ?_
                              obtain ⟨rfl, rfl⟩ := Prod.mk.inj (Option.some.inj h)
                              exact ze_i d_8_count_178 rfl
                            · replace h := z_im h hs24
                              by_cases hs27 : a1 = (14 : Int32)
                              · replace h := z_ip h hs27
                                refine zr_tbl (off := 178) (tgt := 179) hs27 d_8_count_1 (by decide) (by decide) rfl rfl ?_
                                refine zr_aload_n (i := 0) d_8_count_179 rfl rfl ?_
                                obtain ⟨q28, hq29, h⟩ := z_bd h
                                refine zr_callVi (av := []) (st := []) d_8_count_180 mw_8_allGone ml_8_311 im_8_allGone se_8_allGone rfl rfl (Nat.le_of_ble_eq_true rfl) fit_1_3_6 rfl rfl rfl (s8_allGone hq29) ?_
                                obtain ⟨rfl, rfl⟩ := Prod.mk.inj (Option.some.inj h)
                                exact ze_i d_8_count_183 rfl
                              · replace h := z_im h hs27
                                by_cases hs30 : a1 = (15 : Int32)
                                · replace h := z_ip h hs30
                                  refine zr_tbl (off := 183) (tgt := 184) hs30 d_8_count_1 (by decide) (by decide) rfl rfl ?_
                                  refine zr_aload_n (i := 0) d_8_count_184 rfl rfl ?_
                                  obtain ⟨⟨q31, qm32⟩, hq33, h⟩ := z_bd h
                                  replace h := z_h2 h
                                  refine zr_callVi (av := []) (st := []) d_8_count_185 mw_8_allRents ml_8_314 im_8_allRents se_8_allRents rfl rfl (Nat.le_of_ble_eq_true rfl) fit_5_3_6 rfl rfl rfl (s8_allRents hq33) ?_
                                  obtain ⟨rfl, rfl⟩ := Prod.mk.inj (Option.some.inj h)
                                  exact ze_i d_8_count_188 rfl
                                · replace h := z_im h hs30
                                  by_cases hs34 : a1 = (16 : Int32)
                                  · replace h := z_ip h hs34
                                    refine zr_tbl (off := 188) (tgt := 189) hs34 d_8_count_1 (by decide) (by decide) rfl rfl ?_
                                    refine zr_aload_n (i := 0) d_8_count_189 rfl rfl ?_
                                    obtain ⟨q35, hq36, h⟩ := z_bd h
                                    refine zr_callVi (av := []) (st := []) d_8_count_190 mw_8_whoHasNoRight ml_8_317 im_8_whoHasNoRight se_8_whoHasNoRight rfl rfl (Nat.le_of_ble_eq_true rfl) fit_2_3_6 rfl rfl rfl (s8_whoHasNoRight hq36) ?_
                                    obtain ⟨rfl, rfl⟩ := Prod.mk.inj (Option.some.inj h)
                                    exact ze_i d_8_count_193 rfl
                                  · replace h := z_im h hs34
                                    have hs1t := z_ti hs1
                                    have hs2t := z_ti hs2
                                    have hs3t := z_ti hs3
                                    have hs4t := z_ti hs4
                                    have hs6t := z_ti hs6
                                    have hs8t := z_ti hs8
                                    have hs10t := z_ti hs10
                                    have hs13t := z_ti hs13
                                    have hs16t := z_ti hs16
                                    have hs17t := z_ti hs17
                                    have hs18t := z_ti hs18
                                    have hs19t := z_ti hs19
                                    have hs21t := z_ti hs21
                                    have hs24t := z_ti hs24
                                    have hs27t := z_ti hs27
                                    have hs30t := z_ti hs30
                                    have hs34t := z_ti hs34
                                    simp only [show ((0 : Int32)).toInt = 0 from rfl, show ((1 : Int32)).toInt = 1 from rfl, show ((2 : Int32)).toInt = 2 from rfl, show ((3 : Int32)).toInt = 3 from rfl, show ((4 : Int32)).toInt = 4 from rfl, show ((5 : Int32)).toInt = 5 from rfl, show ((6 : Int32)).toInt = 6 from rfl, show ((7 : Int32)).toInt = 7 from rfl, show ((8 : Int32)).toInt = 8 from rfl, show ((9 : Int32)).toInt = 9 from rfl, show ((10 : Int32)).toInt = 10 from rfl, show ((11 : Int32)).toInt = 11 from rfl, show ((12 : Int32)).toInt = 12 from rfl, show ((13 : Int32)).toInt = 13 from rfl, show ((14 : Int32)).toInt = 14 from rfl, show ((15 : Int32)).toInt = 15 from rfl, show ((16 : Int32)).toInt = 16 from rfl] at hs1t hs2t hs3t hs4t hs6t hs8t hs10t hs13t hs16t hs17t hs18t hs19t hs21t hs24t hs27t hs30t hs34t
                                    refine zr_tableOut (tgt := 194) d_8_count_1 (by omega) rfl ?_
                                    refine zr_iconst (v := (-1 : Int32)) d_8_count_194 rfl ?_
                                    obtain ⟨rfl, rfl⟩ := Prod.mk.inj (Option.some.inj h)
                                    exact ze_i d_8_count_195 rfl
def f9_plain_L12 (a1 : Int32) : (Int32 × zMem) → Option ((Int32 × zMem) ⊕ (zMem)) := (z_u2 fun x13 xm14 => 
  (if x13 < (5 : Int32) then if z_in (((5 : Int32) * a1) + x13) 10 = true then z_let (z_sI xm14 125 0 (((5 : Int32) * a1) + x13).toNatClampNeg (0 : Int32)) fun m16 => some (.inl ((x13 + (1 : Int32)), m16)) else none else some (.inr xm14)))
def f9_plain_L21 (a1 : Int32) : (Int32 × zMem) → Option ((Int32 × zMem) ⊕ (zMem)) := (z_u2 fun x22 xm23 => 
  (if x22 < (7 : Int32) then if z_in (((7 : Int32) * a1) + x22) 14 = true then z_let (z_sI xm23 128 0 (((7 : Int32) * a1) + x22).toNatClampNeg (-1 : Int32)) fun m25 => some (.inl ((x22 + (1 : Int32)), m25)) else none else some (.inr xm23)))
def f9_plain_L30 (a1 : Int32) : (Int32 × zMem) → Option ((Int32 × zMem) ⊕ (zMem)) := (z_u2 fun x31 xm32 => 
  (if x31 < (4 : Int32) then if z_in (((4 : Int32) * a1) + x31) 8 = true then z_let (z_sI xm32 132 0 (((4 : Int32) * a1) + x31).toNatClampNeg (0 : Int32)) fun m34 => z_let (z_sI m34 133 0 (((4 : Int32) * a1) + x31).toNatClampNeg (0 : Int32)) fun m37 => some (.inl ((x31 + (1 : Int32)), m37)) else none else some (.inr xm32)))
def f9_plain (a1 : Int32) (μ : zMem) : Option (zMem) :=
  if z_in a1 2 = true then z_let (z_sI μ 123 0 a1.toNatClampNeg (0 : Int32)) fun m1 => z_let (z_sI m1 126 0 a1.toNatClampNeg (0 : Int32)) fun m4 => z_let (z_sI m4 129 0 a1.toNatClampNeg (0 : Int32)) fun m6 => z_let (z_sI m6 130 0 a1.toNatClampNeg (0 : Int32)) fun m8 => z_let (z_sI m8 131 0 a1.toNatClampNeg (0 : Int32)) fun m10 => (z_it (f9_plain_L12 a1) z_fu ((0 : Int32), m10)).bind (fun e19 => (z_it (f9_plain_L21 a1) z_fu ((0 : Int32), e19)).bind (fun e28 => (z_it (f9_plain_L30 a1) z_fu ((0 : Int32), e28)).bind (fun e39 => some e39))) else none
theorem s9_plain_L12 {P : zP} {ro : Option zV} {μo : zMem} (a1 : Int32) (x13 : Int32) (xm14 : zMem) (K : (Int32 × zMem) ⊕ (zMem)) (h : f9_plain_L12 a1 (x13, xm14) = some K) (hI : ∀ (y0 : Int32) (y1 : zMem), K = .inl (y0, y1) → z_RQ P M_9_plain (z_rm 1) (z_mq P ro μo) 0 0 37 [some (zA 9 0), some (zI a1), some (zI y0)] [] y1) (hE : ∀ (z0 : zMem), K = .inr z0 → z_RQ P M_9_plain (z_rm 1) (z_mq P ro μo) 0 0 59 [some (zA 9 0), some (zI a1), none] [] z0)  : z_RQ P M_9_plain (z_rm 1) (z_mq P ro μo) 0 0 37 [some (zA 9 0), some (zI a1), some (zI x13)] [] xm14 := by
  unfold f9_plain_L12 at h
  replace h := z_h2 h
  refine zr_iload_n (i := 2) d_9_plain_37 rfl rfl ?_
  refine zr_iconst (v := (5 : Int32)) d_9_plain_38 rfl ?_
  refine zr_icmp_ge (tgt := 59) d_9_plain_39 rfl (fun hc15 => ?_) (fun hc15 => ?_)
  · replace h := z_ip h hc15
    refine zr_aload_n (i := 0) d_9_plain_42 rfl rfl ?_
    refine zr_gets (i' := 0) d_9_plain_43 fw_9_52 rfl ?_
    refine zr_iconst (v := (5 : Int32)) d_9_plain_46 rfl ?_
    refine zr_iload_n (i := 1) d_9_plain_47 rfl rfl ?_
    refine zr_imul d_9_plain_48 ?_
    refine zr_iload_n (i := 2) d_9_plain_49 rfl rfl ?_
    refine zr_iadd d_9_plain_50 ?_
    refine zr_iconst (v := (0 : Int32)) d_9_plain_51 rfl ?_
    obtain ⟨hb18, h⟩ := z_gd h
    obtain ⟨m16, hm17, h⟩ := z_lt h
    refine zr_iast d_9_plain_52 sa_125 rfl hb18 hm17 ?_
    refine zr_iinc (v := (x13 + (1 : Int32))) (l' := [some (zA 9 0), some (zI a1), some (zI (x13 + (1 : Int32)))]) d_9_plain_53 (by decide) rfl rfl rfl ?_
    refine zr_goto (tgt := 37) d_9_plain_56 rfl ?_
    obtain rfl := Option.some.inj h
    exact zr_wk2 (hI (x13 + (1 : Int32)) m16 rfl) ⟨rfl, ⟨rfl, ⟨rfl, trivial⟩⟩⟩
  · replace h := z_im h hc15
    obtain rfl := Option.some.inj h
    exact zr_wk2 (hE xm14 rfl) ⟨rfl, ⟨rfl, trivial⟩⟩
theorem s9_plain_L21 {P : zP} {ro : Option zV} {μo : zMem} (a1 : Int32) (x22 : Int32) (xm23 : zMem) (K : (Int32 × zMem) ⊕ (zMem)) (h : f9_plain_L21 a1 (x22, xm23) = some K) (hI : ∀ (y0 : Int32) (y1 : zMem), K = .inl (y0, y1) → z_RQ P M_9_plain (z_rm 1) (z_mq P ro μo) 0 0 61 [some (zA 9 0), some (zI a1), some (zI y0)] [] y1) (hE : ∀ (z0 : zMem), K = .inr z0 → z_RQ P M_9_plain (z_rm 1) (z_mq P ro μo) 0 0 85 [some (zA 9 0), some (zI a1), none] [] z0)  : z_RQ P M_9_plain (z_rm 1) (z_mq P ro μo) 0 0 61 [some (zA 9 0), some (zI a1), some (zI x22)] [] xm23 := by
  unfold f9_plain_L21 at h
  replace h := z_h2 h
  refine zr_iload_n (i := 2) d_9_plain_61 rfl rfl ?_
  refine zr_bipush (v := (7 : Int32)) d_9_plain_62 rfl ?_
  refine zr_icmp_ge (tgt := 85) d_9_plain_64 rfl (fun hc24 => ?_) (fun hc24 => ?_)
  · replace h := z_ip h hc24
    refine zr_aload_n (i := 0) d_9_plain_67 rfl rfl ?_
    refine zr_gets (i' := 0) d_9_plain_68 fw_9_61 rfl ?_
    refine zr_bipush (v := (7 : Int32)) d_9_plain_71 rfl ?_
    refine zr_iload_n (i := 1) d_9_plain_73 rfl rfl ?_
    refine zr_imul d_9_plain_74 ?_
    refine zr_iload_n (i := 2) d_9_plain_75 rfl rfl ?_
    refine zr_iadd d_9_plain_76 ?_
    refine zr_iconst (v := (-1 : Int32)) d_9_plain_77 rfl ?_
    obtain ⟨hb27, h⟩ := z_gd h
    obtain ⟨m25, hm26, h⟩ := z_lt h
    refine zr_iast d_9_plain_78 sa_128 rfl hb27 hm26 ?_
    refine zr_iinc (v := (x22 + (1 : Int32))) (l' := [some (zA 9 0), some (zI a1), some (zI (x22 + (1 : Int32)))]) d_9_plain_79 (by decide) rfl rfl rfl ?_
    refine zr_goto (tgt := 61) d_9_plain_82 rfl ?_
    obtain rfl := Option.some.inj h
    exact zr_wk2 (hI (x22 + (1 : Int32)) m25 rfl) ⟨rfl, ⟨rfl, ⟨rfl, trivial⟩⟩⟩
  · replace h := z_im h hc24
    obtain rfl := Option.some.inj h
    exact zr_wk2 (hE xm23 rfl) ⟨rfl, ⟨rfl, trivial⟩⟩
theorem s9_plain_L30 {P : zP} {ro : Option zV} {μo : zMem} (a1 : Int32) (x31 : Int32) (xm32 : zMem) (K : (Int32 × zMem) ⊕ (zMem)) (h : f9_plain_L30 a1 (x31, xm32) = some K) (hI : ∀ (y0 : Int32) (y1 : zMem), K = .inl (y0, y1) → z_RQ P M_9_plain (z_rm 1) (z_mq P ro μo) 0 0 87 [some (zA 9 0), some (zI a1), some (zI y0)] [] y1) (hE : ∀ (z0 : zMem), K = .inr z0 → z_RQ P M_9_plain (z_rm 1) (z_mq P ro μo) 0 0 120 [none, none, none] [] z0)  : z_RQ P M_9_plain (z_rm 1) (z_mq P ro μo) 0 0 87 [some (zA 9 0), some (zI a1), some (zI x31)] [] xm32 := by
  unfold f9_plain_L30 at h
  replace h := z_h2 h
  refine zr_iload_n (i := 2) d_9_plain_87 rfl rfl ?_
  refine zr_iconst (v := (4 : Int32)) d_9_plain_88 rfl ?_
  refine zr_icmp_ge (tgt := 120) d_9_plain_89 rfl (fun hc33 => ?_) (fun hc33 => ?_)
  · replace h := z_ip h hc33
    refine zr_aload_n (i := 0) d_9_plain_92 rfl rfl ?_
    refine zr_gets (i' := 0) d_9_plain_93 fw_9_73 rfl ?_
    refine zr_iconst (v := (4 : Int32)) d_9_plain_96 rfl ?_
    refine zr_iload_n (i := 1) d_9_plain_97 rfl rfl ?_
    refine zr_imul d_9_plain_98 ?_
    refine zr_iload_n (i := 2) d_9_plain_99 rfl rfl ?_
    refine zr_iadd d_9_plain_100 ?_
    refine zr_iconst (v := (0 : Int32)) d_9_plain_101 rfl ?_
    obtain ⟨hb36, h⟩ := z_gd h
    obtain ⟨m34, hm35, h⟩ := z_lt h
    refine zr_iast d_9_plain_102 sa_132 rfl hb36 hm35 ?_
    refine zr_aload_n (i := 0) d_9_plain_103 rfl rfl ?_
    refine zr_gets (i' := 0) d_9_plain_104 fw_9_76 rfl ?_
    refine zr_iconst (v := (4 : Int32)) d_9_plain_107 rfl ?_
    refine zr_iload_n (i := 1) d_9_plain_108 rfl rfl ?_
    refine zr_imul d_9_plain_109 ?_
    refine zr_iload_n (i := 2) d_9_plain_110 rfl rfl ?_
    refine zr_iadd d_9_plain_111 ?_
    refine zr_iconst (v := (0 : Int32)) d_9_plain_112 rfl ?_
    obtain ⟨m37, hm38, h⟩ := z_lt h
    refine zr_iast d_9_plain_113 sa_133 rfl hb36 hm38 ?_
    refine zr_iinc (v := (x31 + (1 : Int32))) (l' := [some (zA 9 0), some (zI a1), some (zI (x31 + (1 : Int32)))]) d_9_plain_114 (by decide) rfl rfl rfl ?_
    refine zr_goto (tgt := 87) d_9_plain_117 rfl ?_
    obtain rfl := Option.some.inj h
    exact zr_wk2 (hI (x31 + (1 : Int32)) m37 rfl) ⟨rfl, ⟨rfl, ⟨rfl, trivial⟩⟩⟩
  · replace h := z_im h hc33
    obtain rfl := Option.some.inj h
    exact zr_wk2 (hE xm32 rfl) trivial
theorem s9_plain {P : zP} {μ : zMem} {a1 : Int32} {μ' : zMem} (h : f9_plain a1 μ = some μ') : z_Sp P y_9_plain M_9_plain 1 [zA 9 0, zI a1] μ none μ' := by
  refine z_Sp.of (plainFor_of_name (by decide)) rfl (l0 := [some (zA 9 0), some (zI a1), none]) rfl (Nat.le_of_ble_eq_true rfl) ?_
  unfold f9_plain at h
  refine zr_aload_n (i := 0) d_9_plain_0 rfl rfl ?_
  refine zr_gets (i' := 0) d_9_plain_1 fw_9_46 rfl ?_
  refine zr_iload_n (i := 1) d_9_plain_4 rfl rfl ?_
  refine zr_iconst (v := (0 : Int32)) d_9_plain_5 rfl ?_
  obtain ⟨hb3, h⟩ := z_gd h
  obtain ⟨m1, hm2, h⟩ := z_lt h
  refine zr_iast d_9_plain_6 sa_123 rfl hb3 hm2 ?_
  refine zr_aload_n (i := 0) d_9_plain_7 rfl rfl ?_
  refine zr_gets (i' := 0) d_9_plain_8 fw_9_55 rfl ?_
  refine zr_iload_n (i := 1) d_9_plain_11 rfl rfl ?_
  refine zr_iconst (v := (0 : Int32)) d_9_plain_12 rfl ?_
  obtain ⟨m4, hm5, h⟩ := z_lt h
  refine zr_iast d_9_plain_13 sa_126 rfl hb3 hm5 ?_
  refine zr_aload_n (i := 0) d_9_plain_14 rfl rfl ?_
  refine zr_gets (i' := 0) d_9_plain_15 fw_9_64 rfl ?_
  refine zr_iload_n (i := 1) d_9_plain_18 rfl rfl ?_
  refine zr_iconst (v := (0 : Int32)) d_9_plain_19 rfl ?_
  obtain ⟨m6, hm7, h⟩ := z_lt h
  refine zr_iast d_9_plain_20 sa_129 rfl hb3 hm7 ?_
  refine zr_aload_n (i := 0) d_9_plain_21 rfl rfl ?_
  refine zr_gets (i' := 0) d_9_plain_22 fw_9_67 rfl ?_
  refine zr_iload_n (i := 1) d_9_plain_25 rfl rfl ?_
  refine zr_iconst (v := (0 : Int32)) d_9_plain_26 rfl ?_
  obtain ⟨m8, hm9, h⟩ := z_lt h
  refine zr_iast d_9_plain_27 sa_130 rfl hb3 hm9 ?_
  refine zr_aload_n (i := 0) d_9_plain_28 rfl rfl ?_
  refine zr_gets (i' := 0) d_9_plain_29 fw_9_70 rfl ?_
  refine zr_iload_n (i := 1) d_9_plain_32 rfl rfl ?_
  refine zr_iconst (v := (0 : Int32)) d_9_plain_33 rfl ?_
  obtain ⟨m10, hm11, h⟩ := z_lt h
  refine zr_iast d_9_plain_34 sa_131 rfl hb3 hm11 ?_
  refine zr_iconst (v := (0 : Int32)) d_9_plain_35 rfl ?_
  refine zr_istore_n (i := 2) (l' := [some (zA 9 0), some (zI a1), some (zI (0 : Int32))]) d_9_plain_36 rfl (by decide) rfl ?_
  obtain ⟨e19, hl20, h⟩ := z_bd h
  refine zr_wk (l' := [some (zA 9 0), some (zI a1), some (zI (0 : Int32))]) ⟨rfl, ⟨rfl, ⟨rfl, trivial⟩⟩⟩ ?_
  refine z_loop (Hd := (z_u2 fun y0 y1 => z_RQ P M_9_plain (z_rm 1) (z_mq P none μ') 0 0 37 [some (zA 9 0), some (zI a1), some (zI y0)] [] y1)) (Ex := (fun z0 => z_RQ P M_9_plain (z_rm 1) (z_mq P none μ') 0 0 59 [some (zA 9 0), some (zI a1), none] [] z0)) (fun ⟨x13, xm14⟩ K h hI hE => s9_plain_L12 a1 x13 xm14 K h (fun y0 y1 e => hI (y0, y1) e) (fun z0 e => hE z0 e) ) _ _ _ hl20 ?_
  refine zr_iconst (v := (0 : Int32)) d_9_plain_59 rfl ?_
  refine zr_istore_n (i := 2) (l' := [some (zA 9 0), some (zI a1), some (zI (0 : Int32))]) d_9_plain_60 rfl (by decide) rfl ?_
  obtain ⟨e28, hl29, h⟩ := z_bd h
  refine zr_wk (l' := [some (zA 9 0), some (zI a1), some (zI (0 : Int32))]) ⟨rfl, ⟨rfl, ⟨rfl, trivial⟩⟩⟩ ?_
  refine z_loop (Hd := (z_u2 fun y0 y1 => z_RQ P M_9_plain (z_rm 1) (z_mq P none μ') 0 0 61 [some (zA 9 0), some (zI a1), some (zI y0)] [] y1)) (Ex := (fun z0 => z_RQ P M_9_plain (z_rm 1) (z_mq P none μ') 0 0 85 [some (zA 9 0), some (zI a1), none] [] z0)) (fun ⟨x22, xm23⟩ K h hI hE => s9_plain_L21 a1 x22 xm23 K h (fun y0 y1 e => hI (y0, y1) e) (fun z0 e => hE z0 e) ) _ _ _ hl29 ?_
  refine zr_iconst (v := (0 : Int32)) d_9_plain_85 rfl ?_
  refine zr_istore_n (i := 2) (l' := [some (zA 9 0), some (zI a1), some (zI (0 : Int32))]) d_9_plain_86 rfl (by decide) rfl ?_
  obtain ⟨e39, hl40, h⟩ := z_bd h
  refine zr_wk (l' := [some (zA 9 0), some (zI a1), some (zI (0 : Int32))]) ⟨rfl, ⟨rfl, ⟨rfl, trivial⟩⟩⟩ ?_
  refine z_loop (Hd := (z_u2 fun y0 y1 => z_RQ P M_9_plain (z_rm 1) (z_mq P none μ') 0 0 87 [some (zA 9 0), some (zI a1), some (zI y0)] [] y1)) (Ex := (fun z0 => z_RQ P M_9_plain (z_rm 1) (z_mq P none μ') 0 0 120 [none, none, none] [] z0)) (fun ⟨x31, xm32⟩ K h hI hE => s9_plain_L30 a1 x31 xm32 K h (fun y0 y1 e => hI (y0, y1) e) (fun z0 e => hE z0 e) ) _ _ _ hl40 ?_
  obtain rfl := Option.some.inj h
  exact ze_v d_9_plain_120 rfl
def f9_appends (a0 : Int64) (a2 : Int32) : Int64 :=
  (if a2 = 0 then a0 else (((27 : Int64) * a0) + ((a2 - (97 : Int32)) + (1 : Int32)).toInt64))
theorem s9_appends {P : zP} {μ : zMem} {a0 : Int64} {a2 : Int32} {r : Int64} (h : f9_appends a0 a2 = r) : z_Sp P y_9_appends M_9_appends 1 [zL a0, zI a2] μ (some (zL r)) μ := by
  refine z_Sp.of (plainFor_of_name (by decide)) rfl (l0 := [some (zL a0), none, some (zI a2)]) rfl (Nat.le_of_ble_eq_true rfl) ?_
  unfold f9_appends at h
  refine zr_iload_n (i := 2) d_9_appends_0 rfl rfl ?_
  refine zr_if_ne (tgt := 8) d_9_appends_1 rfl (fun hc1 => ?_) (fun hc1 => ?_)
  · replace h := z_ip h hc1
    refine zr_lload_n (i := 0) d_9_appends_4 rfl rfl ?_
    refine zr_goto (tgt := 21) d_9_appends_5 rfl ?_
    obtain rfl := h
    exact ze_l d_9_appends_21 rfl
  · replace h := z_im h hc1
    refine zr_ldc2 (v := (27 : Int64)) d_9_appends_8 kc_9_175 ?_
    refine zr_lload_n (i := 0) d_9_appends_11 rfl rfl ?_
    refine zr_lmul d_9_appends_12 ?_
    refine zr_iload_n (i := 2) d_9_appends_13 rfl rfl ?_
    refine zr_bipush (v := (97 : Int32)) d_9_appends_14 rfl ?_
    refine zr_isub d_9_appends_16 ?_
    refine zr_iconst (v := (1 : Int32)) d_9_appends_17 rfl ?_
    refine zr_iadd d_9_appends_18 ?_
    refine zr_i2l d_9_appends_19 ?_
    refine zr_ladd d_9_appends_20 ?_
    obtain rfl := h
    exact ze_l d_9_appends_21 rfl
def f9_word (a0 : Int32) (a1 : Int32) (a2 : Int32) (a3 : Int32) (a4 : Int32) (a5 : Int32) (a6 : Int32) : Int64 :=
  (f9_appends (f9_appends (f9_appends (f9_appends (f9_appends (f9_appends (f9_appends (0 : Int64) a0) a1) a2) a3) a4) a5) a6)
theorem s9_word {P : zP} {μ : zMem} {a0 : Int32} {a1 : Int32} {a2 : Int32} {a3 : Int32} {a4 : Int32} {a5 : Int32} {a6 : Int32} {r : Int64} (h : f9_word a0 a1 a2 a3 a4 a5 a6 = r) : z_Sp P y_9_word M_9_word 2 [zI a0, zI a1, zI a2, zI a3, zI a4, zI a5, zI a6] μ (some (zL r)) μ := by
  refine z_Sp.of (plainFor_of_name (by decide)) rfl (l0 := [some (zI a0), some (zI a1), some (zI a2), some (zI a3), some (zI a4), some (zI a5), some (zI a6)]) rfl (Nat.le_of_ble_eq_true rfl) ?_
  unfold f9_word at h
  refine zr_lconst (v := (0 : Int64)) d_9_word_0 rfl ?_
  refine zr_iload_n (i := 0) d_9_word_1 rfl rfl ?_
  refine zr_callSl (av := [zL (0 : Int64), zI a0]) (st := []) d_9_word_2 mw_9_appends ml_9_177 is_9_appends rfl rfl (Nat.le_of_ble_eq_true rfl) fit_1_3_2 (s9_appends rfl) ?_
  refine zr_iload_n (i := 1) d_9_word_5 rfl rfl ?_
  refine zr_callSl (av := [zL (f9_appends (0 : Int64) a0), zI a1]) (st := []) d_9_word_6 mw_9_appends ml_9_177 is_9_appends rfl rfl (Nat.le_of_ble_eq_true rfl) fit_1_3_2 (s9_appends rfl) ?_
  refine zr_iload_n (i := 2) d_9_word_9 rfl rfl ?_
  refine zr_callSl (av := [zL (f9_appends (f9_appends (0 : Int64) a0) a1), zI a2]) (st := []) d_9_word_10 mw_9_appends ml_9_177 is_9_appends rfl rfl (Nat.le_of_ble_eq_true rfl) fit_1_3_2 (s9_appends rfl) ?_
  refine zr_iload_n (i := 3) d_9_word_13 rfl rfl ?_
  refine zr_callSl (av := [zL (f9_appends (f9_appends (f9_appends (0 : Int64) a0) a1) a2), zI a3]) (st := []) d_9_word_14 mw_9_appends ml_9_177 is_9_appends rfl rfl (Nat.le_of_ble_eq_true rfl) fit_1_3_2 (s9_appends rfl) ?_
  refine zr_iload d_9_word_17 rfl ?_
  refine zr_callSl (av := [zL (f9_appends (f9_appends (f9_appends (f9_appends (0 : Int64) a0) a1) a2) a3), zI a4]) (st := []) d_9_word_19 mw_9_appends ml_9_177 is_9_appends rfl rfl (Nat.le_of_ble_eq_true rfl) fit_1_3_2 (s9_appends rfl) ?_
  refine zr_iload d_9_word_22 rfl ?_
  refine zr_callSl (av := [zL (f9_appends (f9_appends (f9_appends (f9_appends (f9_appends (0 : Int64) a0) a1) a2) a3) a4), zI a5]) (st := []) d_9_word_24 mw_9_appends ml_9_177 is_9_appends rfl rfl (Nat.le_of_ble_eq_true rfl) fit_1_3_2 (s9_appends rfl) ?_
  refine zr_iload d_9_word_27 rfl ?_
  refine zr_callSl (av := [zL (f9_appends (f9_appends (f9_appends (f9_appends (f9_appends (f9_appends (0 : Int64) a0) a1) a2) a3) a4) a5), zI a6]) (st := []) d_9_word_29 mw_9_appends ml_9_177 is_9_appends rfl rfl (Nat.le_of_ble_eq_true rfl) fit_1_3_2 (s9_appends rfl) ?_
  obtain rfl := h
  exact ze_l d_9_word_32 rfl
def f9_begins_L1  : (Int32 × zMem) → Option ((Int32 × zMem) ⊕ (zMem)) := (z_u2 fun x2 xm3 => 
  (if x2 < (34 : Int32) then if z_in x2 34 = true then z_let (z_sI xm3 149 0 x2.toNatClampNeg (0 : Int32)) fun m5 => some (.inl ((x2 + (1 : Int32)), m5)) else none else some (.inr xm3)))
def f9_begins_L10  : (Int32 × zMem) → Option ((Int32 × zMem) ⊕ (zMem)) := (z_u2 fun x11 xm12 => 
  if z_in (xm12.1 9 0 18) 2 = true then (if x11 < (xm12.1 126 0 (xm12.1 9 0 18).toNatClampNeg) then if z_in (((7 : Int32) * (xm12.1 9 0 18)) + x11) 14 = true then z_let (xm12.1 128 0 (((7 : Int32) * (xm12.1 9 0 18)) + x11).toNatClampNeg) fun v16 => ((if v16 < 0 then some (0 : Int32) else some (1 : Int32)) : Option (Int32)).bind (fun j21 => if z_in x11 34 = true then z_let (z_sI xm12 149 0 x11.toNatClampNeg j21) fun m22 => ((if v16 < 0 then some (0 : Int32) else some v16) : Option (Int32)).bind (fun j28 => if z_in ((7 : Int32) + x11) 34 = true then z_let (z_sI m22 149 0 ((7 : Int32) + x11).toNatClampNeg j28) fun m29 => some (.inl ((x11 + (1 : Int32)), m29)) else none) else none) else none else some (.inr xm12)) else none)
def f9_begins_L34  : (Int32 × zMem) → Option ((Int32 × zMem) ⊕ (zMem)) := (z_u2 fun x35 xm36 => 
  if z_in (xm36.1 9 0 18) 2 = true then (if x35 < (xm36.1 123 0 (xm36.1 9 0 18).toNatClampNeg) then if z_in (((5 : Int32) * (xm36.1 9 0 18)) + x35) 10 = true then if z_in ((28 : Int32) + x35) 34 = true then z_let (z_sI xm36 149 0 ((28 : Int32) + x35).toNatClampNeg (xm36.1 125 0 (((5 : Int32) * (xm36.1 9 0 18)) + x35).toNatClampNeg)) fun m40 => some (.inl ((x35 + (1 : Int32)), m40)) else none else none else some (.inr xm36)) else none)
def f9_begins  (μ : zMem) : Option (zMem) :=
  (z_it (f9_begins_L1) z_fu ((0 : Int32), μ)).bind (fun e8 => (z_it (f9_begins_L10) z_fu ((0 : Int32), e8)).bind (fun e32 => (z_it (f9_begins_L34) z_fu ((0 : Int32), e32)).bind (fun e43 => if z_in (e43.1 9 0 18) 2 = true then z_let (z_sI e43 9 0 50 (e43.1 131 0 (e43.1 9 0 18).toNatClampNeg)) fun m46 => z_let (z_sI m46 9 0 51 (0 : Int32)) fun m48 => some m48 else none)))
theorem s9_begins_L1 {P : zP} {ro : Option zV} {μo : zMem}  (x2 : Int32) (xm3 : zMem) (K : (Int32 × zMem) ⊕ (zMem)) (h : f9_begins_L1  (x2, xm3) = some K) (hI : ∀ (y0 : Int32) (y1 : zMem), K = .inl (y0, y1) → z_RQ P M_9_begins (z_rm 1) (z_mq P ro μo) 0 0 2 [some (zA 9 0), some (zI y0), none] [] y1) (hE : ∀ (z0 : zMem), K = .inr z0 → z_RQ P M_9_begins (z_rm 1) (z_mq P ro μo) 0 0 21 [some (zA 9 0), none, none] [] z0)  : z_RQ P M_9_begins (z_rm 1) (z_mq P ro μo) 0 0 2 [some (zA 9 0), some (zI x2), none] [] xm3 := by
  unfold f9_begins_L1 at h
  replace h := z_h2 h
  refine zr_iload_n (i := 1) d_9_begins_2 rfl rfl ?_
  refine zr_bipush (v := (34 : Int32)) d_9_begins_3 rfl ?_
  refine zr_icmp_ge (tgt := 21) d_9_begins_5 rfl (fun hc4 => ?_) (fun hc4 => ?_)
  · replace h := z_ip h hc4
    refine zr_aload_n (i := 0) d_9_begins_8 rfl rfl ?_
    refine zr_gets (i' := 0) d_9_begins_9 fw_9_113 rfl ?_
    refine zr_iload_n (i := 1) d_9_begins_12 rfl rfl ?_
    refine zr_iconst (v := (0 : Int32)) d_9_begins_13 rfl ?_
    obtain ⟨hb7, h⟩ := z_gd h
    obtain ⟨m5, hm6, h⟩ := z_lt h
    refine zr_iast d_9_begins_14 sa_149 rfl hb7 hm6 ?_
    refine zr_iinc (v := (x2 + (1 : Int32))) (l' := [some (zA 9 0), some (zI (x2 + (1 : Int32))), none]) d_9_begins_15 (by decide) rfl rfl rfl ?_
    refine zr_goto (tgt := 2) d_9_begins_18 rfl ?_
    obtain rfl := Option.some.inj h
    exact zr_wk2 (hI (x2 + (1 : Int32)) m5 rfl) ⟨rfl, ⟨rfl, trivial⟩⟩
  · replace h := z_im h hc4
    obtain rfl := Option.some.inj h
    exact zr_wk2 (hE xm3 rfl) ⟨rfl, trivial⟩
theorem s9_begins_L10 {P : zP} {ro : Option zV} {μo : zMem}  (x11 : Int32) (xm12 : zMem) (K : (Int32 × zMem) ⊕ (zMem)) (h : f9_begins_L10  (x11, xm12) = some K) (hI : ∀ (y0 : Int32) (y1 : zMem), K = .inl (y0, y1) → z_RQ P M_9_begins (z_rm 1) (z_mq P ro μo) 0 0 23 [some (zA 9 0), some (zI y0), none] [] y1) (hE : ∀ (z0 : zMem), K = .inr z0 → z_RQ P M_9_begins (z_rm 1) (z_mq P ro μo) 0 0 90 [some (zA 9 0), none, none] [] z0)  : z_RQ P M_9_begins (z_rm 1) (z_mq P ro μo) 0 0 23 [some (zA 9 0), some (zI x11), none] [] xm12 := by
  unfold f9_begins_L10 at h
  replace h := z_h2 h
  refine zr_iload_n (i := 1) d_9_begins_23 rfl rfl ?_
  refine zr_aload_n (i := 0) d_9_begins_24 rfl rfl ?_
  refine zr_gets (i' := 0) d_9_begins_25 fw_9_55 rfl ?_
  refine zr_aload_n (i := 0) d_9_begins_28 rfl rfl ?_
  refine zr_geti d_9_begins_29 fw_9_233 (by decide) ?_
  obtain ⟨hb13, h⟩ := z_gd h
  refine zr_iald d_9_begins_32 sa_126 rfl hb13 ?_
  refine zr_icmp_ge (tgt := 90) d_9_begins_33 rfl (fun hc14 => ?_) (fun hc14 => ?_)
  · replace h := z_ip h hc14
    refine zr_aload_n (i := 0) d_9_begins_36 rfl rfl ?_
    refine zr_gets (i' := 0) d_9_begins_37 fw_9_61 rfl ?_
    refine zr_bipush (v := (7 : Int32)) d_9_begins_40 rfl ?_
    refine zr_aload_n (i := 0) d_9_begins_42 rfl rfl ?_
    refine zr_geti d_9_begins_43 fw_9_233 (by decide) ?_
    refine zr_imul d_9_begins_46 ?_
    refine zr_iload_n (i := 1) d_9_begins_47 rfl rfl ?_
    refine zr_iadd d_9_begins_48 ?_
    obtain ⟨hb15, h⟩ := z_gd h
    refine zr_iald d_9_begins_49 sa_128 rfl hb15 ?_
    obtain ⟨v16, hv17, h⟩ := z_lt h
    refine zr_nm hv17 ?_
    refine zr_istore_n (i := 2) (l' := [some (zA 9 0), some (zI x11), some (zI v16)]) d_9_begins_50 rfl (by decide) rfl ?_
    refine zr_aload_n (i := 0) d_9_begins_51 rfl rfl ?_
    refine zr_gets (i' := 0) d_9_begins_52 fw_9_113 rfl ?_
    refine zr_iload_n (i := 1) d_9_begins_55 rfl rfl ?_
    refine zr_iload_n (i := 2) d_9_begins_56 rfl rfl ?_
    obtain ⟨j21, hT18, h⟩ := z_bd h
    have hJ19 : z_RQ P M_9_begins (z_rm 1) (z_mq P ro μo) 0 0 65 [some (zA 9 0), some (zI x11), some (zI v16)] [zI j21, zI x11, zA 149 0] xm12 := by
      obtain ⟨hb24, h⟩ := z_gd h
      obtain ⟨m22, hm23, h⟩ := z_lt h
      refine zr_iast d_9_begins_65 sa_149 rfl hb24 hm23 ?_
      refine zr_aload_n (i := 0) d_9_begins_66 rfl rfl ?_
      refine zr_gets (i' := 0) d_9_begins_67 fw_9_113 rfl ?_
      refine zr_bipush (v := (7 : Int32)) d_9_begins_70 rfl ?_
      refine zr_iload_n (i := 1) d_9_begins_72 rfl rfl ?_
      refine zr_iadd d_9_begins_73 ?_
      refine zr_iload_n (i := 2) d_9_begins_74 rfl rfl ?_
      obtain ⟨j28, hT25, h⟩ := z_bd h
      have hJ26 : z_RQ P M_9_begins (z_rm 1) (z_mq P ro μo) 0 0 83 [some (zA 9 0), some (zI x11), none] [zI j28, zI ((7 : Int32) + x11), zA 149 0] m22 := by
        obtain ⟨hb31, h⟩ := z_gd h
        obtain ⟨m29, hm30, h⟩ := z_lt h
        refine zr_iast d_9_begins_83 sa_149 rfl hb31 hm30 ?_
        refine zr_iinc (v := (x11 + (1 : Int32))) (l' := [some (zA 9 0), some (zI (x11 + (1 : Int32))), none]) d_9_begins_84 (by decide) rfl rfl rfl ?_
        refine zr_goto (tgt := 23) d_9_begins_87 rfl ?_
        obtain rfl := Option.some.inj h
        exact zr_wk2 (hI (x11 + (1 : Int32)) m29 rfl) ⟨rfl, ⟨rfl, trivial⟩⟩
      refine zr_if_ge (tgt := 82) d_9_begins_75 rfl (fun hc27 => ?_) (fun hc27 => ?_)
      · replace hT25 := z_ip hT25 hc27
        refine zr_iconst (v := (0 : Int32)) d_9_begins_78 rfl ?_
        refine zr_goto (tgt := 83) d_9_begins_79 rfl ?_
        obtain rfl := Option.some.inj hT25
        exact zr_wk2 hJ26 ⟨rfl, ⟨rfl, trivial⟩⟩
      · replace hT25 := z_im hT25 hc27
        refine zr_iload_n (i := 2) d_9_begins_82 rfl rfl ?_
        obtain rfl := Option.some.inj hT25
        exact zr_wk2 hJ26 ⟨rfl, ⟨rfl, trivial⟩⟩
    refine zr_if_ge (tgt := 64) d_9_begins_57 rfl (fun hc20 => ?_) (fun hc20 => ?_)
    · replace hT18 := z_ip hT18 hc20
      refine zr_iconst (v := (0 : Int32)) d_9_begins_60 rfl ?_
      refine zr_goto (tgt := 65) d_9_begins_61 rfl ?_
      obtain rfl := Option.some.inj hT18
      exact zr_wk2 hJ19 ⟨rfl, ⟨rfl, ⟨rfl, trivial⟩⟩⟩
    · replace hT18 := z_im hT18 hc20
      refine zr_iconst (v := (1 : Int32)) d_9_begins_64 rfl ?_
      obtain rfl := Option.some.inj hT18
      exact zr_wk2 hJ19 ⟨rfl, ⟨rfl, ⟨rfl, trivial⟩⟩⟩
  · replace h := z_im h hc14
    obtain rfl := Option.some.inj h
    exact zr_wk2 (hE xm12 rfl) ⟨rfl, trivial⟩
theorem s9_begins_L34 {P : zP} {ro : Option zV} {μo : zMem}  (x35 : Int32) (xm36 : zMem) (K : (Int32 × zMem) ⊕ (zMem)) (h : f9_begins_L34  (x35, xm36) = some K) (hI : ∀ (y0 : Int32) (y1 : zMem), K = .inl (y0, y1) → z_RQ P M_9_begins (z_rm 1) (z_mq P ro μo) 0 0 92 [some (zA 9 0), some (zI y0), none] [] y1) (hE : ∀ (z0 : zMem), K = .inr z0 → z_RQ P M_9_begins (z_rm 1) (z_mq P ro μo) 0 0 133 [some (zA 9 0), none, none] [] z0)  : z_RQ P M_9_begins (z_rm 1) (z_mq P ro μo) 0 0 92 [some (zA 9 0), some (zI x35), none] [] xm36 := by
  unfold f9_begins_L34 at h
  replace h := z_h2 h
  refine zr_iload_n (i := 1) d_9_begins_92 rfl rfl ?_
  refine zr_aload_n (i := 0) d_9_begins_93 rfl rfl ?_
  refine zr_gets (i' := 0) d_9_begins_94 fw_9_46 rfl ?_
  refine zr_aload_n (i := 0) d_9_begins_97 rfl rfl ?_
  refine zr_geti d_9_begins_98 fw_9_233 (by decide) ?_
  obtain ⟨hb37, h⟩ := z_gd h
  refine zr_iald d_9_begins_101 sa_123 rfl hb37 ?_
  refine zr_icmp_ge (tgt := 133) d_9_begins_102 rfl (fun hc38 => ?_) (fun hc38 => ?_)
  · replace h := z_ip h hc38
    refine zr_aload_n (i := 0) d_9_begins_105 rfl rfl ?_
    refine zr_gets (i' := 0) d_9_begins_106 fw_9_113 rfl ?_
    refine zr_bipush (v := (28 : Int32)) d_9_begins_109 rfl ?_
    refine zr_iload_n (i := 1) d_9_begins_111 rfl rfl ?_
    refine zr_iadd d_9_begins_112 ?_
    refine zr_aload_n (i := 0) d_9_begins_113 rfl rfl ?_
    refine zr_gets (i' := 0) d_9_begins_114 fw_9_52 rfl ?_
    refine zr_iconst (v := (5 : Int32)) d_9_begins_117 rfl ?_
    refine zr_aload_n (i := 0) d_9_begins_118 rfl rfl ?_
    refine zr_geti d_9_begins_119 fw_9_233 (by decide) ?_
    refine zr_imul d_9_begins_122 ?_
    refine zr_iload_n (i := 1) d_9_begins_123 rfl rfl ?_
    refine zr_iadd d_9_begins_124 ?_
    obtain ⟨hb39, h⟩ := z_gd h
    refine zr_iald d_9_begins_125 sa_125 rfl hb39 ?_
    obtain ⟨hb42, h⟩ := z_gd h
    obtain ⟨m40, hm41, h⟩ := z_lt h
    refine zr_iast d_9_begins_126 sa_149 rfl hb42 hm41 ?_
    refine zr_iinc (v := (x35 + (1 : Int32))) (l' := [some (zA 9 0), some (zI (x35 + (1 : Int32))), none]) d_9_begins_127 (by decide) rfl rfl rfl ?_
    refine zr_goto (tgt := 92) d_9_begins_130 rfl ?_
    obtain rfl := Option.some.inj h
    exact zr_wk2 (hI (x35 + (1 : Int32)) m40 rfl) ⟨rfl, ⟨rfl, trivial⟩⟩
  · replace h := z_im h hc38
    obtain rfl := Option.some.inj h
    exact zr_wk2 (hE xm36 rfl) ⟨rfl, trivial⟩
theorem s9_begins {P : zP} {μ : zMem} {μ' : zMem} (h : f9_begins μ = some μ') : z_Sp P y_9_begins M_9_begins 1 [zA 9 0] μ none μ' := by
  refine z_Sp.of (plainFor_of_name (by decide)) rfl (l0 := [some (zA 9 0), none, none]) rfl (Nat.le_of_ble_eq_true rfl) ?_
  unfold f9_begins at h
  refine zr_iconst (v := (0 : Int32)) d_9_begins_0 rfl ?_
  refine zr_istore_n (i := 1) (l' := [some (zA 9 0), some (zI (0 : Int32)), none]) d_9_begins_1 rfl (by decide) rfl ?_
  obtain ⟨e8, hl9, h⟩ := z_bd h
  refine zr_wk (l' := [some (zA 9 0), some (zI (0 : Int32)), none]) ⟨rfl, ⟨rfl, trivial⟩⟩ ?_
  refine z_loop (Hd := (z_u2 fun y0 y1 => z_RQ P M_9_begins (z_rm 1) (z_mq P none μ') 0 0 2 [some (zA 9 0), some (zI y0), none] [] y1)) (Ex := (fun z0 => z_RQ P M_9_begins (z_rm 1) (z_mq P none μ') 0 0 21 [some (zA 9 0), none, none] [] z0)) (fun ⟨x2, xm3⟩ K h hI hE => s9_begins_L1  x2 xm3 K h (fun y0 y1 e => hI (y0, y1) e) (fun z0 e => hE z0 e) ) _ _ _ hl9 ?_
  refine zr_iconst (v := (0 : Int32)) d_9_begins_21 rfl ?_
  refine zr_istore_n (i := 1) (l' := [some (zA 9 0), some (zI (0 : Int32)), none]) d_9_begins_22 rfl (by decide) rfl ?_
  obtain ⟨e32, hl33, h⟩ := z_bd h
  refine zr_wk (l' := [some (zA 9 0), some (zI (0 : Int32)), none]) ⟨rfl, ⟨rfl, trivial⟩⟩ ?_
  refine z_loop (Hd := (z_u2 fun y0 y1 => z_RQ P M_9_begins (z_rm 1) (z_mq P none μ') 0 0 23 [some (zA 9 0), some (zI y0), none] [] y1)) (Ex := (fun z0 => z_RQ P M_9_begins (z_rm 1) (z_mq P none μ') 0 0 90 [some (zA 9 0), none, none] [] z0)) (fun ⟨x11, xm12⟩ K h hI hE => s9_begins_L10  x11 xm12 K h (fun y0 y1 e => hI (y0, y1) e) (fun z0 e => hE z0 e) ) _ _ _ hl33 ?_
  refine zr_iconst (v := (0 : Int32)) d_9_begins_90 rfl ?_
  refine zr_istore_n (i := 1) (l' := [some (zA 9 0), some (zI (0 : Int32)), none]) d_9_begins_91 rfl (by decide) rfl ?_
  obtain ⟨e43, hl44, h⟩ := z_bd h
  refine zr_wk (l' := [some (zA 9 0), some (zI (0 : Int32)), none]) ⟨rfl, ⟨rfl, trivial⟩⟩ ?_
  refine z_loop (Hd := (z_u2 fun y0 y1 => z_RQ P M_9_begins (z_rm 1) (z_mq P none μ') 0 0 92 [some (zA 9 0), some (zI y0), none] [] y1)) (Ex := (fun z0 => z_RQ P M_9_begins (z_rm 1) (z_mq P none μ') 0 0 133 [some (zA 9 0), none, none] [] z0)) (fun ⟨x35, xm36⟩ K h hI hE => s9_begins_L34  x35 xm36 K h (fun y0 y1 e => hI (y0, y1) e) (fun z0 e => hE z0 e) ) _ _ _ hl44 ?_
  refine zr_aload_n (i := 0) d_9_begins_133 rfl rfl ?_
  refine zr_aload_n (i := 0) d_9_begins_134 rfl rfl ?_
  refine zr_gets (i' := 0) d_9_begins_135 fw_9_70 rfl ?_
  refine zr_aload_n (i := 0) d_9_begins_138 rfl rfl ?_
  refine zr_geti d_9_begins_139 fw_9_233 (by decide) ?_
  obtain ⟨hb45, h⟩ := z_gd h
  refine zr_iald d_9_begins_142 sa_131 rfl hb45 ?_
  obtain ⟨m46, hm47, h⟩ := z_lt h
  refine zr_puti d_9_begins_143 fw_9_319 pw_9_50 hm47 ?_
  refine zr_aload_n (i := 0) d_9_begins_146 rfl rfl ?_
  refine zr_iconst (v := (0 : Int32)) d_9_begins_147 rfl ?_
  obtain ⟨m48, hm49, h⟩ := z_lt h
  refine zr_putb d_9_begins_148 fw_9_322 pw_9_51 rfl rfl hm49 ?_
  obtain rfl := Option.some.inj h
  exact ze_v d_9_begins_151 rfl
def f9_keepsRow_L1  : (Int32 × zMem) → Option ((Int32 × zMem) ⊕ (zMem)) := (z_u2 fun x2 xm3 => 
  (if x2 < (34 : Int32) then if z_in x2 34 = true then z_let (z_sI xm3 148 0 x2.toNatClampNeg (xm3.1 149 0 x2.toNatClampNeg)) fun m6 => some (.inl ((x2 + (1 : Int32)), m6)) else none else some (.inr xm3)))
def f9_keepsRow  (μ : zMem) : Option (zMem) :=
  (z_it (f9_keepsRow_L1) z_fu ((0 : Int32), μ)).bind (fun e8 => some e8)
theorem s9_keepsRow_L1 {P : zP} {ro : Option zV} {μo : zMem}  (x2 : Int32) (xm3 : zMem) (K : (Int32 × zMem) ⊕ (zMem)) (h : f9_keepsRow_L1  (x2, xm3) = some K) (hI : ∀ (y0 : Int32) (y1 : zMem), K = .inl (y0, y1) → z_RQ P M_9_keepsRow (z_rm 1) (z_mq P ro μo) 0 0 2 [some (zA 9 0), some (zI y0)] [] y1) (hE : ∀ (z0 : zMem), K = .inr z0 → z_RQ P M_9_keepsRow (z_rm 1) (z_mq P ro μo) 0 0 26 [none, none] [] z0)  : z_RQ P M_9_keepsRow (z_rm 1) (z_mq P ro μo) 0 0 2 [some (zA 9 0), some (zI x2)] [] xm3 := by
  unfold f9_keepsRow_L1 at h
  replace h := z_h2 h
  refine zr_iload_n (i := 1) d_9_keepsRow_2 rfl rfl ?_
  refine zr_bipush (v := (34 : Int32)) d_9_keepsRow_3 rfl ?_
  refine zr_icmp_ge (tgt := 26) d_9_keepsRow_5 rfl (fun hc4 => ?_) (fun hc4 => ?_)
  · replace h := z_ip h hc4
    refine zr_aload_n (i := 0) d_9_keepsRow_8 rfl rfl ?_
    refine zr_gets (i' := 0) d_9_keepsRow_9 fw_9_110 rfl ?_
    refine zr_iload_n (i := 1) d_9_keepsRow_12 rfl rfl ?_
    refine zr_aload_n (i := 0) d_9_keepsRow_13 rfl rfl ?_
    refine zr_gets (i' := 0) d_9_keepsRow_14 fw_9_113 rfl ?_
    refine zr_iload_n (i := 1) d_9_keepsRow_17 rfl rfl ?_
    obtain ⟨hb5, h⟩ := z_gd h
    refine zr_iald d_9_keepsRow_18 sa_149 rfl hb5 ?_
    obtain ⟨m6, hm7, h⟩ := z_lt h
    refine zr_iast d_9_keepsRow_19 sa_148 rfl hb5 hm7 ?_
    refine zr_iinc (v := (x2 + (1 : Int32))) (l' := [some (zA 9 0), some (zI (x2 + (1 : Int32)))]) d_9_keepsRow_20 (by decide) rfl rfl rfl ?_
    refine zr_goto (tgt := 2) d_9_keepsRow_23 rfl ?_
    obtain rfl := Option.some.inj h
    exact zr_wk2 (hI (x2 + (1 : Int32)) m6 rfl) ⟨rfl, ⟨rfl, trivial⟩⟩
  · replace h := z_im h hc4
    obtain rfl := Option.some.inj h
    exact zr_wk2 (hE xm3 rfl) trivial
theorem s9_keepsRow {P : zP} {μ : zMem} {μ' : zMem} (h : f9_keepsRow μ = some μ') : z_Sp P y_9_keepsRow M_9_keepsRow 1 [zA 9 0] μ none μ' := by
  refine z_Sp.of (plainFor_of_name (by decide)) rfl (l0 := [some (zA 9 0), none]) rfl (Nat.le_of_ble_eq_true rfl) ?_
  unfold f9_keepsRow at h
  refine zr_iconst (v := (0 : Int32)) d_9_keepsRow_0 rfl ?_
  refine zr_istore_n (i := 1) (l' := [some (zA 9 0), some (zI (0 : Int32))]) d_9_keepsRow_1 rfl (by decide) rfl ?_
  obtain ⟨e8, hl9, h⟩ := z_bd h
  refine zr_wk (l' := [some (zA 9 0), some (zI (0 : Int32))]) ⟨rfl, ⟨rfl, trivial⟩⟩ ?_
  refine z_loop (Hd := (z_u2 fun y0 y1 => z_RQ P M_9_keepsRow (z_rm 1) (z_mq P none μ') 0 0 2 [some (zA 9 0), some (zI y0)] [] y1)) (Ex := (fun z0 => z_RQ P M_9_keepsRow (z_rm 1) (z_mq P none μ') 0 0 26 [none, none] [] z0)) (fun ⟨x2, xm3⟩ K h hI hE => s9_keepsRow_L1  x2 xm3 K h (fun y0 y1 e => hI (y0, y1) e) (fun z0 e => hE z0 e) ) _ _ _ hl9 ?_
  obtain rfl := Option.some.inj h
  exact ze_v d_9_keepsRow_26 rfl
def f9_put_L1 (a1 : Int32) : (Int32 × zMem) → Option ((Int32 × zMem) ⊕ (zMem)) := (z_u2 fun x2 xm3 => 
  (if x2 < 0 then some (.inr xm3) else if z_in (xm3.1 9 0 2) 2000 = true then z_let (z_sI xm3 101 0 (xm3.1 9 0 2).toNatClampNeg (a1 >>> (x2 &&& 31)).toInt8.toInt32.toInt8.toInt32) fun m5 => z_let (z_sI m5 9 0 2 ((m5.1 9 0 2) + (1 : Int32))) fun m8 => some (.inl ((x2 + (-8 : Int32)), m8)) else none))
def f9_put (a1 : Int32) (μ : zMem) : Option (zMem) :=
  (z_it (f9_put_L1 a1) z_fu ((24 : Int32), μ)).bind (fun e10 => some e10)
theorem s9_put_L1 {P : zP} {ro : Option zV} {μo : zMem} (a1 : Int32) (x2 : Int32) (xm3 : zMem) (K : (Int32 × zMem) ⊕ (zMem)) (h : f9_put_L1 a1 (x2, xm3) = some K) (hI : ∀ (y0 : Int32) (y1 : zMem), K = .inl (y0, y1) → z_RQ P M_9_put (z_rm 1) (z_mq P ro μo) 0 0 3 [some (zA 9 0), some (zI a1), some (zI y0)] [] y1) (hE : ∀ (z0 : zMem), K = .inr z0 → z_RQ P M_9_put (z_rm 1) (z_mq P ro μo) 0 0 36 [none, none, none] [] z0)  : z_RQ P M_9_put (z_rm 1) (z_mq P ro μo) 0 0 3 [some (zA 9 0), some (zI a1), some (zI x2)] [] xm3 := by
  unfold f9_put_L1 at h
  replace h := z_h2 h
  refine zr_iload_n (i := 2) d_9_put_3 rfl rfl ?_
  refine zr_if_lt (tgt := 36) d_9_put_4 rfl (fun hc4 => ?_) (fun hc4 => ?_)
  · replace h := z_ip h hc4
    obtain rfl := Option.some.inj h
    exact zr_wk2 (hE xm3 rfl) trivial
  · replace h := z_im h hc4
    refine zr_aload_n (i := 0) d_9_put_7 rfl rfl ?_
    refine zr_gets (i' := 0) d_9_put_8 fw_9_13 rfl ?_
    refine zr_aload_n (i := 0) d_9_put_11 rfl rfl ?_
    refine zr_geti d_9_put_12 fw_9_166 (by decide) ?_
    refine zr_iload_n (i := 1) d_9_put_15 rfl rfl ?_
    refine zr_iload_n (i := 2) d_9_put_16 rfl rfl ?_
    refine zr_ishr d_9_put_17 ?_
    refine zr_i2b d_9_put_18 ?_
    obtain ⟨hb7, h⟩ := z_gd h
    obtain ⟨m5, hm6, h⟩ := z_lt h
    refine zr_bast d_9_put_19 sa_101 rfl hb7 hm6 ?_
    refine zr_aload_n (i := 0) d_9_put_20 rfl rfl ?_
    refine zr_dupa d_9_put_21 ?_
    refine zr_geti d_9_put_22 fw_9_166 (by decide) ?_
    refine zr_iconst (v := (1 : Int32)) d_9_put_25 rfl ?_
    refine zr_iadd d_9_put_26 ?_
    obtain ⟨m8, hm9, h⟩ := z_lt h
    refine zr_puti d_9_put_27 fw_9_166 pw_9_2 hm9 ?_
    refine zr_iinc (v := (x2 + (-8 : Int32))) (l' := [some (zA 9 0), some (zI a1), some (zI (x2 + (-8 : Int32)))]) d_9_put_30 (by decide) rfl (z_neg_8 _) rfl ?_
    refine zr_goto (tgt := 3) d_9_put_33 rfl ?_
    obtain rfl := Option.some.inj h
    exact zr_wk2 (hI (x2 + (-8 : Int32)) m8 rfl) ⟨rfl, ⟨rfl, ⟨rfl, trivial⟩⟩⟩
theorem s9_put {P : zP} {μ : zMem} {a1 : Int32} {μ' : zMem} (h : f9_put a1 μ = some μ') : z_Sp P y_9_put M_9_put 1 [zA 9 0, zI a1] μ none μ' := by
  refine z_Sp.of (plainFor_of_name (by decide)) rfl (l0 := [some (zA 9 0), some (zI a1), none]) rfl (Nat.le_of_ble_eq_true rfl) ?_
  unfold f9_put at h
  refine zr_bipush (v := (24 : Int32)) d_9_put_0 rfl ?_
  refine zr_istore_n (i := 2) (l' := [some (zA 9 0), some (zI a1), some (zI (24 : Int32))]) d_9_put_2 rfl (by decide) rfl ?_
  obtain ⟨e10, hl11, h⟩ := z_bd h
  refine zr_wk (l' := [some (zA 9 0), some (zI a1), some (zI (24 : Int32))]) ⟨rfl, ⟨rfl, ⟨rfl, trivial⟩⟩⟩ ?_
  refine z_loop (Hd := (z_u2 fun y0 y1 => z_RQ P M_9_put (z_rm 1) (z_mq P none μ') 0 0 3 [some (zA 9 0), some (zI a1), some (zI y0)] [] y1)) (Ex := (fun z0 => z_RQ P M_9_put (z_rm 1) (z_mq P none μ') 0 0 36 [none, none, none] [] z0)) (fun ⟨x2, xm3⟩ K h hI hE => s9_put_L1 a1 x2 xm3 K h (fun y0 y1 e => hI (y0, y1) e) (fun z0 e => hE z0 e) ) _ _ _ hl11 ?_
  obtain rfl := Option.some.inj h
  exact ze_v d_9_put_36 rfl
def f9_feed (a1 : Int32) (a2 : Int32) (a3 : Int32) (a4 : Int32) (a5 : Int32) (μ : zMem) : Option (Int32 × zMem) :=
  (if (2000 : Int32) < ((μ.1 9 0 2) + (20 : Int32)) then some ((-1 : Int32), μ) else (f9_put a1 μ).bind (fun qm2 => (f9_put a2 qm2).bind (fun qm4 => (f9_put a3 qm4).bind (fun qm6 => (f9_put a4 qm6).bind (fun qm8 => (f9_put a5 qm8).bind (fun qm10 => some ((qm10.1 9 0 2), qm10)))))))
theorem s9_feed {P : zP} {μ : zMem} {a1 : Int32} {a2 : Int32} {a3 : Int32} {a4 : Int32} {a5 : Int32} {r : Int32} {μ' : zMem} (h : f9_feed a1 a2 a3 a4 a5 μ = some (r, μ')) : z_Sp P y_9_feed M_9_feed 2 [zA 9 0, zI a1, zI a2, zI a3, zI a4, zI a5] μ (some (zI r)) μ' := by
  refine z_Sp.of (plainFor_of_name (by decide)) rfl (l0 := [some (zA 9 0), some (zI a1), some (zI a2), some (zI a3), some (zI a4), some (zI a5)]) rfl (Nat.le_of_ble_eq_true rfl) ?_
  unfold f9_feed at h
  refine zr_aload_n (i := 0) d_9_feed_0 rfl rfl ?_
  refine zr_geti d_9_feed_1 fw_9_166 (by decide) ?_
  refine zr_bipush (v := (20 : Int32)) d_9_feed_4 rfl ?_
  refine zr_iadd d_9_feed_6 ?_
  refine zr_sipush (v := (2000 : Int32)) d_9_feed_7 rfl ?_
  refine zr_icmp_le (tgt := 15) d_9_feed_10 rfl (fun hc1 => ?_) (fun hc1 => ?_)
  · replace h := z_ip h hc1
    refine zr_iconst (v := (-1 : Int32)) d_9_feed_13 rfl ?_
    obtain ⟨rfl, rfl⟩ := Prod.mk.inj (Option.some.inj h)
    exact ze_i d_9_feed_14 rfl
  · replace h := z_im h hc1
    refine zr_aload_n (i := 0) d_9_feed_15 rfl rfl ?_
    refine zr_iload_n (i := 1) d_9_feed_16 rfl rfl ?_
    obtain ⟨qm2, hq3, h⟩ := z_bd h
    refine zr_callVv (av := [zI a1]) (st := []) d_9_feed_17 mw_9_put ml_9_169 im_9_put se_9_put rfl rfl (Nat.le_of_ble_eq_true rfl) fit_1_3_2 rfl rfl rfl (s9_put hq3) ?_
    refine zr_aload_n (i := 0) d_9_feed_20 rfl rfl ?_
    refine zr_iload_n (i := 2) d_9_feed_21 rfl rfl ?_
    obtain ⟨qm4, hq5, h⟩ := z_bd h
    refine zr_callVv (av := [zI a2]) (st := []) d_9_feed_22 mw_9_put ml_9_169 im_9_put se_9_put rfl rfl (Nat.le_of_ble_eq_true rfl) fit_1_3_2 rfl rfl rfl (s9_put hq5) ?_
    refine zr_aload_n (i := 0) d_9_feed_25 rfl rfl ?_
    refine zr_iload_n (i := 3) d_9_feed_26 rfl rfl ?_
    obtain ⟨qm6, hq7, h⟩ := z_bd h
    refine zr_callVv (av := [zI a3]) (st := []) d_9_feed_27 mw_9_put ml_9_169 im_9_put se_9_put rfl rfl (Nat.le_of_ble_eq_true rfl) fit_1_3_2 rfl rfl rfl (s9_put hq7) ?_
    refine zr_aload_n (i := 0) d_9_feed_30 rfl rfl ?_
    refine zr_iload d_9_feed_31 rfl ?_
    obtain ⟨qm8, hq9, h⟩ := z_bd h
    refine zr_callVv (av := [zI a4]) (st := []) d_9_feed_33 mw_9_put ml_9_169 im_9_put se_9_put rfl rfl (Nat.le_of_ble_eq_true rfl) fit_1_3_2 rfl rfl rfl (s9_put hq9) ?_
    refine zr_aload_n (i := 0) d_9_feed_36 rfl rfl ?_
    refine zr_iload d_9_feed_37 rfl ?_
    obtain ⟨qm10, hq11, h⟩ := z_bd h
    refine zr_callVv (av := [zI a5]) (st := []) d_9_feed_39 mw_9_put ml_9_169 im_9_put se_9_put rfl rfl (Nat.le_of_ble_eq_true rfl) fit_1_3_2 rfl rfl rfl (s9_put hq11) ?_
    refine zr_aload_n (i := 0) d_9_feed_42 rfl rfl ?_
    refine zr_geti d_9_feed_43 fw_9_166 (by decide) ?_
    obtain ⟨rfl, rfl⟩ := Prod.mk.inj (Option.some.inj h)
    exact ze_i d_9_feed_46 rfl
def f9_back (a1 : Int32) (μ : zMem) : Int32 × zMem :=
  (if a1 < 0 then ((-1 : Int32), μ) else (if (μ.1 9 0 2) < a1 then ((-1 : Int32), μ) else z_let (z_sI μ 9 0 2 ((μ.1 9 0 2) - a1)) fun m3 => ((m3.1 9 0 2), m3)))
theorem s9_back {P : zP} {μ : zMem} {a1 : Int32} {r : Int32} {μ' : zMem} (h : f9_back a1 μ = (r, μ')) : z_Sp P y_9_back M_9_back 1 [zA 9 0, zI a1] μ (some (zI r)) μ' := by
  refine z_Sp.of (plainFor_of_name (by decide)) rfl (l0 := [some (zA 9 0), some (zI a1)]) rfl (Nat.le_of_ble_eq_true rfl) ?_
  unfold f9_back at h
  refine zr_iload_n (i := 1) d_9_back_0 rfl rfl ?_
  refine zr_if_lt (tgt := 12) d_9_back_1 rfl (fun hc1 => ?_) (fun hc1 => ?_)
  · replace h := z_ip h hc1
    refine zr_iconst (v := (-1 : Int32)) d_9_back_12 rfl ?_
    obtain ⟨rfl, rfl⟩ := Prod.mk.inj h
    exact ze_i d_9_back_13 rfl
  · replace h := z_im h hc1
    refine zr_iload_n (i := 1) d_9_back_4 rfl rfl ?_
    refine zr_aload_n (i := 0) d_9_back_5 rfl rfl ?_
    refine zr_geti d_9_back_6 fw_9_166 (by decide) ?_
    refine zr_icmp_le (tgt := 14) d_9_back_9 rfl (fun hc2 => ?_) (fun hc2 => ?_)
    · replace h := z_ip h hc2
      refine zr_iconst (v := (-1 : Int32)) d_9_back_12 rfl ?_
      obtain ⟨rfl, rfl⟩ := Prod.mk.inj h
      exact ze_i d_9_back_13 rfl
    · replace h := z_im h hc2
      refine zr_aload_n (i := 0) d_9_back_14 rfl rfl ?_
      refine zr_dupa d_9_back_15 ?_
      refine zr_geti d_9_back_16 fw_9_166 (by decide) ?_
      refine zr_iload_n (i := 1) d_9_back_19 rfl rfl ?_
      refine zr_isub d_9_back_20 ?_
      obtain ⟨m3, hm4, h⟩ := z_lt h
      refine zr_puti d_9_back_21 fw_9_166 pw_9_2 hm4 ?_
      refine zr_aload_n (i := 0) d_9_back_24 rfl rfl ?_
      refine zr_geti d_9_back_25 fw_9_166 (by decide) ?_
      obtain ⟨rfl, rfl⟩ := Prod.mk.inj h
      exact ze_i d_9_back_28 rfl
def f9_byteAt (a1 : Int32) (μ : zMem) : Option (Int32) :=
  (if a1 < (μ.1 9 0 4) then if z_in a1 2000 = true then some ((μ.1 103 0 a1.toNatClampNeg) &&& (255 : Int32)) else none else some (0 : Int32))
theorem s9_byteAt {P : zP} {μ : zMem} {a1 : Int32} {r : Int32} (h : f9_byteAt a1 μ = some r) : z_Sp P y_9_byteAt M_9_byteAt 1 [zA 9 0, zI a1] μ (some (zI r)) μ := by
  refine z_Sp.of (plainFor_of_name (by decide)) rfl (l0 := [some (zA 9 0), some (zI a1)]) rfl (Nat.le_of_ble_eq_true rfl) ?_
  unfold f9_byteAt at h
  refine zr_iload_n (i := 1) d_9_byteAt_0 rfl rfl ?_
  refine zr_aload_n (i := 0) d_9_byteAt_1 rfl rfl ?_
  refine zr_geti d_9_byteAt_2 fw_9_172 (by decide) ?_
  refine zr_icmp_ge (tgt := 21) d_9_byteAt_5 rfl (fun hc1 => ?_) (fun hc1 => ?_)
  · replace h := z_ip h hc1
    refine zr_aload_n (i := 0) d_9_byteAt_8 rfl rfl ?_
    refine zr_gets (i' := 0) d_9_byteAt_9 fw_9_17 rfl ?_
    refine zr_iload_n (i := 1) d_9_byteAt_12 rfl rfl ?_
    obtain ⟨hb2, h⟩ := z_gd h
    refine zr_bald d_9_byteAt_13 sa_103 rfl hb2 ?_
    refine zr_sipush (v := (255 : Int32)) d_9_byteAt_14 rfl ?_
    refine zr_iand d_9_byteAt_17 ?_
    refine zr_goto (tgt := 22) d_9_byteAt_18 rfl ?_
    obtain rfl := Option.some.inj h
    exact ze_i d_9_byteAt_22 rfl
  · replace h := z_im h hc1
    refine zr_iconst (v := (0 : Int32)) d_9_byteAt_21 rfl ?_
    obtain rfl := Option.some.inj h
    exact ze_i d_9_byteAt_22 rfl
def f9_isDigit (a0 : Int32) : Int32 :=
  (if a0 < (48 : Int32) then (0 : Int32) else (if (57 : Int32) < a0 then (0 : Int32) else (1 : Int32)))
theorem s9_isDigit {P : zP} {μ : zMem} {a0 : Int32} {r : Int32} (h : f9_isDigit a0 = r) : z_Sp P y_9_isDigit M_9_isDigit 1 [zI a0] μ (some (zI r)) μ := by
  refine z_Sp.of (plainFor_of_name (by decide)) rfl (l0 := [some (zI a0)]) rfl (Nat.le_of_ble_eq_true rfl) ?_
  unfold f9_isDigit at h
  refine zr_iload_n (i := 0) d_9_isDigit_0 rfl rfl ?_
  refine zr_bipush (v := (48 : Int32)) d_9_isDigit_1 rfl ?_
  refine zr_icmp_lt (tgt := 16) d_9_isDigit_3 rfl (fun hc1 => ?_) (fun hc1 => ?_)
  · replace h := z_ip h hc1
    refine zr_iconst (v := (0 : Int32)) d_9_isDigit_16 rfl ?_
    obtain rfl := h
    exact ze_z d_9_isDigit_17 rfl rfl
  · replace h := z_im h hc1
    refine zr_iload_n (i := 0) d_9_isDigit_6 rfl rfl ?_
    refine zr_bipush (v := (57 : Int32)) d_9_isDigit_7 rfl ?_
    refine zr_icmp_gt (tgt := 16) d_9_isDigit_9 rfl (fun hc2 => ?_) (fun hc2 => ?_)
    · replace h := z_ip h hc2
      refine zr_iconst (v := (0 : Int32)) d_9_isDigit_16 rfl ?_
      obtain rfl := h
      exact ze_z d_9_isDigit_17 rfl rfl
    · replace h := z_im h hc2
      refine zr_iconst (v := (1 : Int32)) d_9_isDigit_12 rfl ?_
      refine zr_goto (tgt := 17) d_9_isDigit_13 rfl ?_
      obtain rfl := h
      exact ze_z d_9_isDigit_17 rfl rfl
def f9_isLetter (a0 : Int32) : Int32 :=
  (if a0 < (97 : Int32) then (0 : Int32) else (if (122 : Int32) < a0 then (0 : Int32) else (1 : Int32)))
theorem s9_isLetter {P : zP} {μ : zMem} {a0 : Int32} {r : Int32} (h : f9_isLetter a0 = r) : z_Sp P y_9_isLetter M_9_isLetter 1 [zI a0] μ (some (zI r)) μ := by
  refine z_Sp.of (plainFor_of_name (by decide)) rfl (l0 := [some (zI a0)]) rfl (Nat.le_of_ble_eq_true rfl) ?_
  unfold f9_isLetter at h
  refine zr_iload_n (i := 0) d_9_isLetter_0 rfl rfl ?_
  refine zr_bipush (v := (97 : Int32)) d_9_isLetter_1 rfl ?_
  refine zr_icmp_lt (tgt := 16) d_9_isLetter_3 rfl (fun hc1 => ?_) (fun hc1 => ?_)
  · replace h := z_ip h hc1
    refine zr_iconst (v := (0 : Int32)) d_9_isLetter_16 rfl ?_
    obtain rfl := h
    exact ze_z d_9_isLetter_17 rfl rfl
  · replace h := z_im h hc1
    refine zr_iload_n (i := 0) d_9_isLetter_6 rfl rfl ?_
    refine zr_bipush (v := (122 : Int32)) d_9_isLetter_7 rfl ?_
    refine zr_icmp_gt (tgt := 16) d_9_isLetter_9 rfl (fun hc2 => ?_) (fun hc2 => ?_)
    · replace h := z_ip h hc2
      refine zr_iconst (v := (0 : Int32)) d_9_isLetter_16 rfl ?_
      obtain rfl := h
      exact ze_z d_9_isLetter_17 rfl rfl
    · replace h := z_im h hc2
      refine zr_iconst (v := (1 : Int32)) d_9_isLetter_12 rfl ?_
      refine zr_goto (tgt := 17) d_9_isLetter_13 rfl ?_
      obtain rfl := h
      exact ze_z d_9_isLetter_17 rfl rfl
def f9_token (a1 : Int32) (a2 : Int32) (a3 : Int32) (a4 : Int64) (μ : zMem) : Option (zMem) :=
  if z_in (μ.1 9 0 10) 403 = true then z_let (z_sI μ 105 0 (μ.1 9 0 10).toNatClampNeg a1) fun m1 => if z_in (m1.1 9 0 10) 403 = true then z_let (z_sI m1 106 0 (m1.1 9 0 10).toNatClampNeg a2) fun m4 => if z_in (m4.1 9 0 10) 403 = true then z_let (z_sI m4 107 0 (m4.1 9 0 10).toNatClampNeg a3) fun m7 => if z_in (m7.1 9 0 10) 403 = true then z_let (z_sL m7 108 0 (m7.1 9 0 10).toNatClampNeg a4) fun m10 => z_let (z_sI m10 9 0 10 ((m10.1 9 0 10) + (1 : Int32))) fun m13 => some m13 else none else none else none else none
theorem s9_token {P : zP} {μ : zMem} {a1 : Int32} {a2 : Int32} {a3 : Int32} {a4 : Int64} {μ' : zMem} (h : f9_token a1 a2 a3 a4 μ = some μ') : z_Sp P y_9_token M_9_token 1 [zA 9 0, zI a1, zI a2, zI a3, zL a4] μ none μ' := by
  refine z_Sp.of (plainFor_of_name (by decide)) rfl (l0 := [some (zA 9 0), some (zI a1), some (zI a2), some (zI a3), some (zL a4), none]) rfl (Nat.le_of_ble_eq_true rfl) ?_
  unfold f9_token at h
  refine zr_aload_n (i := 0) d_9_token_0 rfl rfl ?_
  refine zr_gets (i' := 0) d_9_token_1 fw_9_20 rfl ?_
  refine zr_aload_n (i := 0) d_9_token_4 rfl rfl ?_
  refine zr_geti d_9_token_5 fw_9_181 (by decide) ?_
  refine zr_iload_n (i := 1) d_9_token_8 rfl rfl ?_
  obtain ⟨hb3, h⟩ := z_gd h
  obtain ⟨m1, hm2, h⟩ := z_lt h
  refine zr_iast d_9_token_9 sa_105 rfl hb3 hm2 ?_
  refine zr_aload_n (i := 0) d_9_token_10 rfl rfl ?_
  refine zr_gets (i' := 0) d_9_token_11 fw_9_24 rfl ?_
  refine zr_aload_n (i := 0) d_9_token_14 rfl rfl ?_
  refine zr_geti d_9_token_15 fw_9_181 (by decide) ?_
  refine zr_iload_n (i := 2) d_9_token_18 rfl rfl ?_
  obtain ⟨hb6, h⟩ := z_gd h
  obtain ⟨m4, hm5, h⟩ := z_lt h
  refine zr_iast d_9_token_19 sa_106 rfl hb6 hm5 ?_
  refine zr_aload_n (i := 0) d_9_token_20 rfl rfl ?_
  refine zr_gets (i' := 0) d_9_token_21 fw_9_27 rfl ?_
  refine zr_aload_n (i := 0) d_9_token_24 rfl rfl ?_
  refine zr_geti d_9_token_25 fw_9_181 (by decide) ?_
  refine zr_iload_n (i := 3) d_9_token_28 rfl rfl ?_
  obtain ⟨hb9, h⟩ := z_gd h
  obtain ⟨m7, hm8, h⟩ := z_lt h
  refine zr_iast d_9_token_29 sa_107 rfl hb9 hm8 ?_
  refine zr_aload_n (i := 0) d_9_token_30 rfl rfl ?_
  refine zr_gets (i' := 0) d_9_token_31 fw_9_30 rfl ?_
  refine zr_aload_n (i := 0) d_9_token_34 rfl rfl ?_
  refine zr_geti d_9_token_35 fw_9_181 (by decide) ?_
  refine zr_lload d_9_token_38 rfl ?_
  obtain ⟨hb12, h⟩ := z_gd h
  obtain ⟨m10, hm11, h⟩ := z_lt h
  refine zr_last d_9_token_40 sa_108 rfl hb12 hm11 ?_
  refine zr_aload_n (i := 0) d_9_token_41 rfl rfl ?_
  refine zr_dupa d_9_token_42 ?_
  refine zr_geti d_9_token_43 fw_9_181 (by decide) ?_
  refine zr_iconst (v := (1 : Int32)) d_9_token_46 rfl ?_
  refine zr_iadd d_9_token_47 ?_
  obtain ⟨m13, hm14, h⟩ := z_lt h
  refine zr_puti d_9_token_48 fw_9_181 pw_9_10 hm14 ?_
  obtain rfl := Option.some.inj h
  exact ze_v d_9_token_51 rfl
def f9_sign (a1 : Int32) (a2 : Int32) (a3 : Int32) (μ : zMem) : Option (Int32 × zMem) :=
  ((if a2 = (59 : Int32) then some (4 : Int32) else (if a2 = (61 : Int32) then some (5 : Int32) else (if a2 = (40 : Int32) then some (6 : Int32) else (if a2 = (41 : Int32) then some (7 : Int32) else some (3 : Int32))))) : Option (Int32)).bind (fun j7 => ((if a2 = (43 : Int32) then some (8 : Int32) else some j7) : Option (Int32)).bind (fun j11 => ((if a2 = (45 : Int32) then some (9 : Int32) else some j11) : Option (Int32)).bind (fun j15 => ((if a2 = (42 : Int32) then some (10 : Int32) else some j15) : Option (Int32)).bind (fun j19 => ((if a2 = (47 : Int32) then some (15 : Int32) else some j19) : Option (Int32)).bind (fun j23 => ((if a2 = (60 : Int32) then some (13 : Int32) else some j23) : Option (Int32)).bind (fun j27 => (f9_token j27 a1 (0 : Int32) (0 : Int64) μ).bind (fun qm28 => some ((1 : Int32), qm28))))))))
theorem s9_sign {P : zP} {μ : zMem} {a1 : Int32} {a2 : Int32} {a3 : Int32} {r : Int32} {μ' : zMem} (h : f9_sign a1 a2 a3 μ = some (r, μ')) : z_Sp P y_9_sign M_9_sign 2 [zA 9 0, zI a1, zI a2, zI a3] μ (some (zI r)) μ' := by
  refine z_Sp.of (plainFor_of_name (by decide)) rfl (l0 := [some (zA 9 0), some (zI a1), some (zI a2), some (zI a3), none]) rfl (Nat.le_of_ble_eq_true rfl) ?_
  unfold f9_sign at h
  refine zr_iload_n (i := 2) d_9_sign_0 rfl rfl ?_
  refine zr_bipush (v := (59 : Int32)) d_9_sign_1 rfl ?_
  obtain ⟨j7, hT1, h⟩ := z_bd h
  have hJ2 : z_RQ P M_9_sign (z_rm 2) (z_mq P (some (zI r)) μ') 0 0 43 [some (zA 9 0), some (zI a1), some (zI a2), none, none] [zI j7] μ := by
    refine zr_istore (i := 4) (l' := [some (zA 9 0), some (zI a1), some (zI a2), none, some (zI j7)]) d_9_sign_43 (by decide) rfl ?_
    refine zr_iload_n (i := 2) d_9_sign_45 rfl rfl ?_
    refine zr_bipush (v := (43 : Int32)) d_9_sign_46 rfl ?_
    obtain ⟨j11, hT8, h⟩ := z_bd h
    have hJ9 : z_RQ P M_9_sign (z_rm 2) (z_mq P (some (zI r)) μ') 0 0 55 [some (zA 9 0), some (zI a1), some (zI a2), none, some (zI j11)] [] μ := by
      refine zr_iload_n (i := 2) d_9_sign_55 rfl rfl ?_
      refine zr_bipush (v := (45 : Int32)) d_9_sign_56 rfl ?_
      obtain ⟨j15, hT12, h⟩ := z_bd h
      have hJ13 : z_RQ P M_9_sign (z_rm 2) (z_mq P (some (zI r)) μ') 0 0 65 [some (zA 9 0), some (zI a1), some (zI a2), none, some (zI j15)] [] μ := by
        refine zr_iload_n (i := 2) d_9_sign_65 rfl rfl ?_
        refine zr_bipush (v := (42 : Int32)) d_9_sign_66 rfl ?_
        obtain ⟨j19, hT16, h⟩ := z_bd h
        have hJ17 : z_RQ P M_9_sign (z_rm 2) (z_mq P (some (zI r)) μ') 0 0 75 [some (zA 9 0), some (zI a1), some (zI a2), none, some (zI j19)] [] μ := by
          refine zr_iload_n (i := 2) d_9_sign_75 rfl rfl ?_
          refine zr_bipush (v := (47 : Int32)) d_9_sign_76 rfl ?_
          obtain ⟨j23, hT20, h⟩ := z_bd h
          have hJ21 : z_RQ P M_9_sign (z_rm 2) (z_mq P (some (zI r)) μ') 0 0 85 [some (zA 9 0), some (zI a1), some (zI a2), none, some (zI j23)] [] μ := by
            refine zr_iload_n (i := 2) d_9_sign_85 rfl rfl ?_
            refine zr_bipush (v := (60 : Int32)) d_9_sign_86 rfl ?_
            obtain ⟨j27, hT24, h⟩ := z_bd h
            have hJ25 : z_RQ P M_9_sign (z_rm 2) (z_mq P (some (zI r)) μ') 0 0 95 [some (zA 9 0), some (zI a1), none, none, some (zI j27)] [] μ := by
              refine zr_aload_n (i := 0) d_9_sign_95 rfl rfl ?_
              refine zr_iload d_9_sign_96 rfl ?_
              refine zr_iload_n (i := 1) d_9_sign_98 rfl rfl ?_
              refine zr_iconst (v := (0 : Int32)) d_9_sign_99 rfl ?_
              refine zr_lconst (v := (0 : Int64)) d_9_sign_100 rfl ?_
              obtain ⟨qm28, hq29, h⟩ := z_bd h
              refine zr_callVv (av := [zI j27, zI a1, zI (0 : Int32), zL (0 : Int64)]) (st := []) d_9_sign_101 mw_9_token ml_9_188 im_9_token se_9_token rfl rfl (Nat.le_of_ble_eq_true rfl) fit_1_6_2 rfl rfl rfl (s9_token hq29) ?_
              refine zr_iconst (v := (1 : Int32)) d_9_sign_104 rfl ?_
              obtain ⟨rfl, rfl⟩ := Prod.mk.inj (Option.some.inj h)
              exact ze_i d_9_sign_105 rfl
            refine zr_icmp_ne (tgt := 95) d_9_sign_88 rfl (fun hc26 => ?_) (fun hc26 => ?_)
            · replace hT24 := z_ip hT24 hc26
              refine zr_bipush (v := (13 : Int32)) d_9_sign_91 rfl ?_
              refine zr_istore (i := 4) (l' := [some (zA 9 0), some (zI a1), some (zI a2), none, some (zI (13 : Int32))]) d_9_sign_93 (by decide) rfl ?_
              obtain rfl := Option.some.inj hT24
              exact zr_wk2 hJ25 ⟨rfl, ⟨rfl, ⟨rfl, trivial⟩⟩⟩
            · replace hT24 := z_im hT24 hc26
              obtain rfl := Option.some.inj hT24
              exact zr_wk2 hJ25 ⟨rfl, ⟨rfl, ⟨rfl, trivial⟩⟩⟩
          refine zr_icmp_ne (tgt := 85) d_9_sign_78 rfl (fun hc22 => ?_) (fun hc22 => ?_)
          · replace hT20 := z_ip hT20 hc22
            refine zr_bipush (v := (15 : Int32)) d_9_sign_81 rfl ?_
            refine zr_istore (i := 4) (l' := [some (zA 9 0), some (zI a1), some (zI a2), none, some (zI (15 : Int32))]) d_9_sign_83 (by decide) rfl ?_
            obtain rfl := Option.some.inj hT20
            exact zr_wk2 hJ21 ⟨rfl, ⟨rfl, ⟨rfl, ⟨rfl, trivial⟩⟩⟩⟩
          · replace hT20 := z_im hT20 hc22
            obtain rfl := Option.some.inj hT20
            exact zr_wk2 hJ21 ⟨rfl, ⟨rfl, ⟨rfl, ⟨rfl, trivial⟩⟩⟩⟩
        refine zr_icmp_ne (tgt := 75) d_9_sign_68 rfl (fun hc18 => ?_) (fun hc18 => ?_)
        · replace hT16 := z_ip hT16 hc18
          refine zr_bipush (v := (10 : Int32)) d_9_sign_71 rfl ?_
          refine zr_istore (i := 4) (l' := [some (zA 9 0), some (zI a1), some (zI a2), none, some (zI (10 : Int32))]) d_9_sign_73 (by decide) rfl ?_
          obtain rfl := Option.some.inj hT16
          exact zr_wk2 hJ17 ⟨rfl, ⟨rfl, ⟨rfl, ⟨rfl, trivial⟩⟩⟩⟩
        · replace hT16 := z_im hT16 hc18
          obtain rfl := Option.some.inj hT16
          exact zr_wk2 hJ17 ⟨rfl, ⟨rfl, ⟨rfl, ⟨rfl, trivial⟩⟩⟩⟩
      refine zr_icmp_ne (tgt := 65) d_9_sign_58 rfl (fun hc14 => ?_) (fun hc14 => ?_)
      · replace hT12 := z_ip hT12 hc14
        refine zr_bipush (v := (9 : Int32)) d_9_sign_61 rfl ?_
        refine zr_istore (i := 4) (l' := [some (zA 9 0), some (zI a1), some (zI a2), none, some (zI (9 : Int32))]) d_9_sign_63 (by decide) rfl ?_
        obtain rfl := Option.some.inj hT12
        exact zr_wk2 hJ13 ⟨rfl, ⟨rfl, ⟨rfl, ⟨rfl, trivial⟩⟩⟩⟩
      · replace hT12 := z_im hT12 hc14
        obtain rfl := Option.some.inj hT12
        exact zr_wk2 hJ13 ⟨rfl, ⟨rfl, ⟨rfl, ⟨rfl, trivial⟩⟩⟩⟩
    refine zr_icmp_ne (tgt := 55) d_9_sign_48 rfl (fun hc10 => ?_) (fun hc10 => ?_)
    · replace hT8 := z_ip hT8 hc10
      refine zr_bipush (v := (8 : Int32)) d_9_sign_51 rfl ?_
      refine zr_istore (i := 4) (l' := [some (zA 9 0), some (zI a1), some (zI a2), none, some (zI (8 : Int32))]) d_9_sign_53 (by decide) rfl ?_
      obtain rfl := Option.some.inj hT8
      exact zr_wk2 hJ9 ⟨rfl, ⟨rfl, ⟨rfl, ⟨rfl, trivial⟩⟩⟩⟩
    · replace hT8 := z_im hT8 hc10
      obtain rfl := Option.some.inj hT8
      exact zr_wk2 hJ9 ⟨rfl, ⟨rfl, ⟨rfl, ⟨rfl, trivial⟩⟩⟩⟩
  refine zr_icmp_ne (tgt := 10) d_9_sign_3 rfl (fun hc3 => ?_) (fun hc3 => ?_)
  · replace hT1 := z_ip hT1 hc3
    refine zr_iconst (v := (4 : Int32)) d_9_sign_6 rfl ?_
    refine zr_goto (tgt := 43) d_9_sign_7 rfl ?_
    obtain rfl := Option.some.inj hT1
    exact zr_wk2 hJ2 ⟨rfl, ⟨rfl, ⟨rfl, trivial⟩⟩⟩
  · replace hT1 := z_im hT1 hc3
    refine zr_iload_n (i := 2) d_9_sign_10 rfl rfl ?_
    refine zr_bipush (v := (61 : Int32)) d_9_sign_11 rfl ?_
    refine zr_icmp_ne (tgt := 20) d_9_sign_13 rfl (fun hc4 => ?_) (fun hc4 => ?_)
    · replace hT1 := z_ip hT1 hc4
      refine zr_iconst (v := (5 : Int32)) d_9_sign_16 rfl ?_
      refine zr_goto (tgt := 43) d_9_sign_17 rfl ?_
      obtain rfl := Option.some.inj hT1
      exact zr_wk2 hJ2 ⟨rfl, ⟨rfl, ⟨rfl, trivial⟩⟩⟩
    · replace hT1 := z_im hT1 hc4
      refine zr_iload_n (i := 2) d_9_sign_20 rfl rfl ?_
      refine zr_bipush (v := (40 : Int32)) d_9_sign_21 rfl ?_
      refine zr_icmp_ne (tgt := 31) d_9_sign_23 rfl (fun hc5 => ?_) (fun hc5 => ?_)
      · replace hT1 := z_ip hT1 hc5
        refine zr_bipush (v := (6 : Int32)) d_9_sign_26 rfl ?_
        refine zr_goto (tgt := 43) d_9_sign_28 rfl ?_
        obtain rfl := Option.some.inj hT1
        exact zr_wk2 hJ2 ⟨rfl, ⟨rfl, ⟨rfl, trivial⟩⟩⟩
      · replace hT1 := z_im hT1 hc5
        refine zr_iload_n (i := 2) d_9_sign_31 rfl rfl ?_
        refine zr_bipush (v := (41 : Int32)) d_9_sign_32 rfl ?_
        refine zr_icmp_ne (tgt := 42) d_9_sign_34 rfl (fun hc6 => ?_) (fun hc6 => ?_)
        · replace hT1 := z_ip hT1 hc6
          refine zr_bipush (v := (7 : Int32)) d_9_sign_37 rfl ?_
          refine zr_goto (tgt := 43) d_9_sign_39 rfl ?_
          obtain rfl := Option.some.inj hT1
          exact zr_wk2 hJ2 ⟨rfl, ⟨rfl, ⟨rfl, trivial⟩⟩⟩
        · replace hT1 := z_im hT1 hc6
          refine zr_iconst (v := (3 : Int32)) d_9_sign_42 rfl ?_
          obtain rfl := Option.some.inj hT1
          exact zr_wk2 hJ2 ⟨rfl, ⟨rfl, ⟨rfl, trivial⟩⟩⟩
