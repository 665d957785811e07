/-! 16.meth.lean.txt -/
def y_9_loss : MethodName := ⟨zR9, "loss", "(II)I"⟩
abbrev M_9_loss : zM := (zR9, prog_11_method_84_code, 4, (Option.some Jvm.ClassFile.FieldType.int))
def y_9_isDuel : MethodName := ⟨zR9, "isDuel", "(III)Z"⟩
abbrev M_9_isDuel : zM := (zR9, prog_11_method_85_code, 4, (Option.some Jvm.ClassFile.FieldType.boolean))
def y_9_duelGain : MethodName := ⟨zR9, "duelGain", "(IIIII)I"⟩
abbrev M_9_duelGain : zM := (zR9, prog_11_method_86_code, 6, (Option.some Jvm.ClassFile.FieldType.int))
def y_9_duel : MethodName := ⟨zR9, "duel", "(IIIII)I"⟩
abbrev M_9_duel : zM := (zR9, prog_11_method_87_code, 6, (Option.some Jvm.ClassFile.FieldType.int))
def y_9_rest : MethodName := ⟨zR9, "rest", "(III)I"⟩
abbrev M_9_rest : zM := (zR9, prog_11_method_88_code, 7, (Option.some Jvm.ClassFile.FieldType.int))
def y_9_aliveBits : MethodName := ⟨zR9, "aliveBits", "()I"⟩
abbrev M_9_aliveBits : zM := (zR9, prog_11_method_89_code, 1, (Option.some Jvm.ClassFile.FieldType.int))
def y_9_doCover : MethodName := ⟨zR9, "doCover", "(I)Z"⟩
abbrev M_9_doCover : zM := (zR9, prog_11_method_90_code, 4, (Option.some Jvm.ClassFile.FieldType.boolean))
def y_9_coverOf : MethodName := ⟨zR9, "coverOf", "(II)I"⟩
abbrev M_9_coverOf : zM := (zR9, prog_11_method_91_code, 5, (Option.some Jvm.ClassFile.FieldType.int))
def y_9_fill : MethodName := ⟨zR9, "fill", "(I)I"⟩
abbrev M_9_fill : zM := (zR9, prog_11_method_92_code, 3, (Option.some Jvm.ClassFile.FieldType.int))
def y_9_agents : MethodName := ⟨zR9, "agents", "(I)I"⟩
abbrev M_9_agents : zM := (zR9, prog_11_method_93_code, 3, (Option.some Jvm.ClassFile.FieldType.int))
def y_9_richest : MethodName := ⟨zR9, "richest", "(I)I"⟩
abbrev M_9_richest : zM := (zR9, prog_11_method_94_code, 4, (Option.some Jvm.ClassFile.FieldType.int))
def y_9_eldest : MethodName := ⟨zR9, "eldest", "(I)I"⟩
abbrev M_9_eldest : zM := (zR9, prog_11_method_95_code, 4, (Option.some Jvm.ClassFile.FieldType.int))
def y_9_mayHave : MethodName := ⟨zR9, "mayHave", "(III)Z"⟩
abbrev M_9_mayHave : zM := (zR9, prog_11_method_96_code, 4, (Option.some Jvm.ClassFile.FieldType.boolean))
def y_9_lordsWith : MethodName := ⟨zR9, "lordsWith", "(III)I"⟩
abbrev M_9_lordsWith : zM := (zR9, prog_11_method_97_code, 4, (Option.some Jvm.ClassFile.FieldType.int))
def y_9_fillsLords : MethodName := ⟨zR9, "fillsLords", "()V"⟩
abbrev M_9_fillsLords : zM := (zR9, prog_11_method_98_code, 6, (Option.none : Option Jvm.ClassFile.FieldType))
def y_9_lordFor : MethodName := ⟨zR9, "lordFor", "(II)I"⟩
abbrev M_9_lordFor : zM := (zR9, prog_11_method_99_code, 4, (Option.some Jvm.ClassFile.FieldType.int))
def y_9_lords : MethodName := ⟨zR9, "lords", "(I)I"⟩
abbrev M_9_lords : zM := (zR9, prog_11_method_100_code, 5, (Option.some Jvm.ClassFile.FieldType.int))
def y_9_bound : MethodName := ⟨zR9, "bound", "(I)I"⟩
abbrev M_9_bound : zM := (zR9, prog_11_method_101_code, 6, (Option.some Jvm.ClassFile.FieldType.int))
def y_9_idle : MethodName := ⟨zR9, "idle", "()I"⟩
abbrev M_9_idle : zM := (zR9, prog_11_method_102_code, 1, (Option.some Jvm.ClassFile.FieldType.int))
def y_9_rightsAll : MethodName := ⟨zR9, "rightsAll", "()I"⟩
abbrev M_9_rightsAll : zM := (zR9, prog_11_method_103_code, 3, (Option.some Jvm.ClassFile.FieldType.int))
def y_9_share : MethodName := ⟨zR9, "share", "(I)I"⟩
abbrev M_9_share : zM := (zR9, prog_11_method_104_code, 2, (Option.some Jvm.ClassFile.FieldType.int))
def y_9_lordIn : MethodName := ⟨zR9, "lordIn", "(II)I"⟩
abbrev M_9_lordIn : zM := (zR9, prog_11_method_105_code, 3, (Option.some Jvm.ClassFile.FieldType.int))
def y_9_then : MethodName := ⟨zR9, "then", "(II)I"⟩
abbrev M_9_then : zM := (zR9, prog_11_method_106_code, 3, (Option.some Jvm.ClassFile.FieldType.int))
def y_9_gotIn : MethodName := ⟨zR9, "gotIn", "(II)I"⟩
abbrev M_9_gotIn : zM := (zR9, prog_11_method_107_code, 3, (Option.some Jvm.ClassFile.FieldType.int))
def y_9_year : MethodName := ⟨zR9, "year", "(III)I"⟩
abbrev M_9_year : zM := (zR9, prog_11_method_108_code, 6, (Option.some Jvm.ClassFile.FieldType.int))
def y_9_tell : MethodName := ⟨zR9, "tell", "(II)I"⟩
abbrev M_9_tell : zM := (zR9, prog_11_method_109_code, 3, (Option.some Jvm.ClassFile.FieldType.int))
def y_9_forget : MethodName := ⟨zR9, "forget", "()I"⟩
abbrev M_9_forget : zM := (zR9, prog_11_method_110_code, 2, (Option.some Jvm.ClassFile.FieldType.int))
def y_9_isKnown : MethodName := ⟨zR9, "isKnown", "(I)Z"⟩
abbrev M_9_isKnown : zM := (zR9, prog_11_method_111_code, 2, (Option.some Jvm.ClassFile.FieldType.boolean))
def y_9_allBits : MethodName := ⟨zR9, "allBits", "()I"⟩
abbrev M_9_allBits : zM := (zR9, prog_11_method_112_code, 1, (Option.some Jvm.ClassFile.FieldType.int))
def y_9_mayGo : MethodName := ⟨zR9, "mayGo", "(II)Z"⟩
abbrev M_9_mayGo : zM := (zR9, prog_11_method_113_code, 3, (Option.some Jvm.ClassFile.FieldType.boolean))
def y_9_fillsNeeds : MethodName := ⟨zR9, "fillsNeeds", "(I)V"⟩
abbrev M_9_fillsNeeds : zM := (zR9, prog_11_method_114_code, 3, (Option.none : Option Jvm.ClassFile.FieldType))
def y_9_counts : MethodName := ⟨zR9, "counts", "()I"⟩
abbrev M_9_counts : zM := (zR9, prog_11_method_115_code, 5, (Option.some Jvm.ClassFile.FieldType.int))
def y_9_countsBy : MethodName := ⟨zR9, "countsBy", "(I)I"⟩
abbrev M_9_countsBy : zM := (zR9, prog_11_method_116_code, 2, (Option.some Jvm.ClassFile.FieldType.int))
def y_9_orders : MethodName := ⟨zR9, "orders", "(I)I"⟩
abbrev M_9_orders : zM := (zR9, prog_11_method_117_code, 2, (Option.some Jvm.ClassFile.FieldType.int))
def y_9_placedAt : MethodName := ⟨zR9, "placedAt", "(II)I"⟩
abbrev M_9_placedAt : zM := (zR9, prog_11_method_118_code, 5, (Option.some Jvm.ClassFile.FieldType.int))
def y_9_first : MethodName := ⟨zR9, "first", "(II)I"⟩
abbrev M_9_first : zM := (zR9, prog_11_method_119_code, 4, (Option.some Jvm.ClassFile.FieldType.int))
def y_9_last : MethodName := ⟨zR9, "last", "(II)I"⟩
abbrev M_9_last : zM := (zR9, prog_11_method_120_code, 4, (Option.some Jvm.ClassFile.FieldType.int))
def y_9_placed : MethodName := ⟨zR9, "placed", "(III)I"⟩
abbrev M_9_placed : zM := (zR9, prog_11_method_121_code, 4, (Option.some Jvm.ClassFile.FieldType.int))
def y_9_beforeBy : MethodName := ⟨zR9, "beforeBy", "(III)I"⟩
abbrev M_9_beforeBy : zM := (zR9, prog_11_method_122_code, 4, (Option.some Jvm.ClassFile.FieldType.int))
def y_9_before : MethodName := ⟨zR9, "before", "(III)I"⟩
abbrev M_9_before : zM := (zR9, prog_11_method_123_code, 4, (Option.some Jvm.ClassFile.FieldType.int))
def y_9_sum : MethodName := ⟨zR9, "sum", "(II)I"⟩
abbrev M_9_sum : zM := (zR9, prog_11_method_124_code, 5, (Option.some Jvm.ClassFile.FieldType.int))
def y_9_ahead : MethodName := ⟨zR9, "ahead", "(II)I"⟩
abbrev M_9_ahead : zM := (zR9, prog_11_method_125_code, 6, (Option.some Jvm.ClassFile.FieldType.int))
theorem kc_9_421 : Cond.constant zR9 421 (-100000 : Int32) ∈ lw_gd := z_m7 (List.mem_of_getElem? (i := 165) rfl) rfl
theorem mw_9_gotBy : z_MW y_9_gotBy M_9_gotBy 2 := ⟨z_m1 (List.mem_of_getElem? (i := 10) rfl) rfl, z_m7 (List.mem_of_getElem? (i := 169) rfl) rfl, by decide, by decide, by decide +kernel⟩
theorem fit_10_5_11 : z_fit (z_rm 11) 0 0 10 5 := ⟨by decide, by decide, by decide, by decide⟩
theorem ml_9_422 : Cond.methodLink zR9 422 y_9_gotBy ∈ lw_gd := z_m7 (List.mem_of_getElem? (i := 166) rfl) rfl
theorem im_9_gotBy : Cond.instanceMethod y_9_gotBy ∈ lw_gd := z_m7 (List.mem_of_getElem? (i := 168) rfl) rfl
theorem se_9_gotBy : Cond.selects y_9_gotBy.cls y_9_gotBy y_9_gotBy ∈ lw_gd := z_s (q := (y_9_gotBy, _)) (List.mem_of_getElem? (i := 115) rfl)
theorem mw_9_isDuel : z_MW y_9_isDuel M_9_isDuel 3 := ⟨z_m1 (List.mem_of_getElem? (i := 10) rfl) rfl, z_m7 (List.mem_of_getElem? (i := 177) rfl) rfl, by decide, by decide, by decide +kernel⟩
theorem fit_4_4_11 : z_fit (z_rm 11) 0 0 4 4 := ⟨by decide, by decide, by decide, by decide⟩
theorem ml_9_425 : Cond.methodLink zR9 425 y_9_isDuel ∈ lw_gd := z_m7 (List.mem_of_getElem? (i := 174) rfl) rfl
theorem im_9_isDuel : Cond.instanceMethod y_9_isDuel ∈ lw_gd := z_m7 (List.mem_of_getElem? (i := 176) rfl) rfl
theorem se_9_isDuel : Cond.selects y_9_isDuel.cls y_9_isDuel y_9_isDuel ∈ lw_gd := z_s (q := (y_9_isDuel, _)) (List.mem_of_getElem? (i := 116) rfl)
theorem mw_9_duelGain : z_MW y_9_duelGain M_9_duelGain 5 := ⟨z_m1 (List.mem_of_getElem? (i := 10) rfl) rfl, z_m7 (List.mem_of_getElem? (i := 181) rfl) rfl, by decide, by decide, by decide +kernel⟩
theorem fit_10_6_11 : z_fit (z_rm 11) 0 0 10 6 := ⟨by decide, by decide, by decide, by decide⟩
theorem ml_9_428 : Cond.methodLink zR9 428 y_9_duelGain ∈ lw_gd := z_m7 (List.mem_of_getElem? (i := 178) rfl) rfl
theorem im_9_duelGain : Cond.instanceMethod y_9_duelGain ∈ lw_gd := z_m7 (List.mem_of_getElem? (i := 180) rfl) rfl
theorem se_9_duelGain : Cond.selects y_9_duelGain.cls y_9_duelGain y_9_duelGain ∈ lw_gd := z_s (q := (y_9_duelGain, _)) (List.mem_of_getElem? (i := 117) rfl)
theorem mw_9_aliveBits : z_MW y_9_aliveBits M_9_aliveBits 0 := ⟨z_m1 (List.mem_of_getElem? (i := 10) rfl) rfl, z_m7 (List.mem_of_getElem? (i := 201) rfl) rfl, by decide, by decide, by decide +kernel⟩
theorem ml_9_432 : Cond.methodLink zR9 432 y_9_aliveBits ∈ lw_gd := z_m7 (List.mem_of_getElem? (i := 198) rfl) rfl
theorem im_9_aliveBits : Cond.instanceMethod y_9_aliveBits ∈ lw_gd := z_m7 (List.mem_of_getElem? (i := 200) rfl) rfl
theorem se_9_aliveBits : Cond.selects y_9_aliveBits.cls y_9_aliveBits y_9_aliveBits ∈ lw_gd := z_s (q := (y_9_aliveBits, _)) (List.mem_of_getElem? (i := 120) rfl)
theorem mw_9_doCover : z_MW y_9_doCover M_9_doCover 1 := ⟨z_m1 (List.mem_of_getElem? (i := 10) rfl) rfl, z_m7 (List.mem_of_getElem? (i := 197) rfl) rfl, by decide, by decide, by decide +kernel⟩
theorem ml_9_435 : Cond.methodLink zR9 435 y_9_doCover ∈ lw_gd := z_m7 (List.mem_of_getElem? (i := 194) rfl) rfl
theorem im_9_doCover : Cond.instanceMethod y_9_doCover ∈ lw_gd := z_m7 (List.mem_of_getElem? (i := 196) rfl) rfl
theorem se_9_doCover : Cond.selects y_9_doCover.cls y_9_doCover y_9_doCover ∈ lw_gd := z_s (q := (y_9_doCover, _)) (List.mem_of_getElem? (i := 119) rfl)
theorem fit_1_3_4 : z_fit (z_rm 4) 0 0 1 3 := ⟨by decide, by decide, by decide, by decide⟩
theorem mw_9_coverOf : z_MW y_9_coverOf M_9_coverOf 2 := ⟨z_m1 (List.mem_of_getElem? (i := 10) rfl) rfl, z_m7 (List.mem_of_getElem? (i := 193) rfl) rfl, by decide, by decide, by decide +kernel⟩
theorem ml_9_438 : Cond.methodLink zR9 438 y_9_coverOf ∈ lw_gd := z_m7 (List.mem_of_getElem? (i := 190) rfl) rfl
theorem im_9_coverOf : Cond.instanceMethod y_9_coverOf ∈ lw_gd := z_m7 (List.mem_of_getElem? (i := 192) rfl) rfl
theorem se_9_coverOf : Cond.selects y_9_coverOf.cls y_9_coverOf y_9_coverOf ∈ lw_gd := z_s (q := (y_9_coverOf, _)) (List.mem_of_getElem? (i := 118) rfl)
theorem fw_9_128 : z_FW zR9 128 9 57 (2, 157, fun i => i) := ⟨_, _, rfl, rfl, rfl, by decide, z_m5 (List.mem_of_getElem? (i := 205) rfl) rfl⟩
theorem sa_157 : z_SA 157 0 := ⟨rfl, rfl, by decide⟩
theorem mw_9_mayHave : z_MW y_9_mayHave M_9_mayHave 3 := ⟨z_m1 (List.mem_of_getElem? (i := 10) rfl) rfl, z_m7 (List.mem_of_getElem? (i := 225) rfl) rfl, by decide, by decide, by decide +kernel⟩
theorem ml_9_441 : Cond.methodLink zR9 441 y_9_mayHave ∈ lw_gd := z_m7 (List.mem_of_getElem? (i := 222) rfl) rfl
theorem im_9_mayHave : Cond.instanceMethod y_9_mayHave ∈ lw_gd := z_m7 (List.mem_of_getElem? (i := 224) rfl) rfl
theorem se_9_mayHave : Cond.selects y_9_mayHave.cls y_9_mayHave y_9_mayHave ∈ lw_gd := z_s (q := (y_9_mayHave, _)) (List.mem_of_getElem? (i := 122) rfl)
theorem mw_9_lordsWith : z_MW y_9_lordsWith M_9_lordsWith 3 := ⟨z_m1 (List.mem_of_getElem? (i := 10) rfl) rfl, z_m7 (List.mem_of_getElem? (i := 229) rfl) rfl, by decide, by decide, by decide +kernel⟩
theorem ml_9_444 : Cond.methodLink zR9 444 y_9_lordsWith ∈ lw_gd := z_m7 (List.mem_of_getElem? (i := 226) rfl) rfl
theorem im_9_lordsWith : Cond.instanceMethod y_9_lordsWith ∈ lw_gd := z_m7 (List.mem_of_getElem? (i := 228) rfl) rfl
theorem se_9_lordsWith : Cond.selects y_9_lordsWith.cls y_9_lordsWith y_9_lordsWith ∈ lw_gd := z_s (q := (y_9_lordsWith, _)) (List.mem_of_getElem? (i := 123) rfl)
theorem mw_9_fillsLords : z_MW y_9_fillsLords M_9_fillsLords 0 := ⟨z_m1 (List.mem_of_getElem? (i := 10) rfl) rfl, z_m7 (List.mem_of_getElem? (i := 221) rfl) rfl, by decide, by decide, by decide +kernel⟩
theorem ml_9_447 : Cond.methodLink zR9 447 y_9_fillsLords ∈ lw_gd := z_m7 (List.mem_of_getElem? (i := 218) rfl) rfl
theorem im_9_fillsLords : Cond.instanceMethod y_9_fillsLords ∈ lw_gd := z_m7 (List.mem_of_getElem? (i := 220) rfl) rfl
theorem se_9_fillsLords : Cond.selects y_9_fillsLords.cls y_9_fillsLords y_9_fillsLords ∈ lw_gd := z_s (q := (y_9_fillsLords, _)) (List.mem_of_getElem? (i := 121) rfl)
theorem mw_9_lordFor : z_MW y_9_lordFor M_9_lordFor 2 := ⟨z_m1 (List.mem_of_getElem? (i := 10) rfl) rfl, z_m7 (List.mem_of_getElem? (i := 233) rfl) rfl, by decide, by decide, by decide +kernel⟩
theorem ml_9_450 : Cond.methodLink zR9 450 y_9_lordFor ∈ lw_gd := z_m7 (List.mem_of_getElem? (i := 230) rfl) rfl
theorem im_9_lordFor : Cond.instanceMethod y_9_lordFor ∈ lw_gd := z_m7 (List.mem_of_getElem? (i := 232) rfl) rfl
theorem se_9_lordFor : Cond.selects y_9_lordFor.cls y_9_lordFor y_9_lordFor ∈ lw_gd := z_s (q := (y_9_lordFor, _)) (List.mem_of_getElem? (i := 124) rfl)
theorem mw_9_rightsAll : z_MW y_9_rightsAll M_9_rightsAll 0 := ⟨z_m1 (List.mem_of_getElem? (i := 10) rfl) rfl, z_m8 (List.mem_of_getElem? (i := 9) rfl) rfl, by decide, by decide, by decide +kernel⟩
theorem ml_9_453 : Cond.methodLink zR9 453 y_9_rightsAll ∈ lw_gd := z_m8 (List.mem_of_getElem? (i := 6) rfl) rfl
theorem im_9_rightsAll : Cond.instanceMethod y_9_rightsAll ∈ lw_gd := z_m8 (List.mem_of_getElem? (i := 8) rfl) rfl
theorem se_9_rightsAll : Cond.selects y_9_rightsAll.cls y_9_rightsAll y_9_rightsAll ∈ lw_gd := z_s (q := (y_9_rightsAll, _)) (List.mem_of_getElem? (i := 125) rfl)
theorem fit_3_2_10 : z_fit (z_rm 10) 0 0 3 2 := ⟨by decide, by decide, by decide, by decide⟩
theorem fit_1_4_10 : z_fit (z_rm 10) 0 0 1 4 := ⟨by decide, by decide, by decide, by decide⟩
theorem fit_4_4_10 : z_fit (z_rm 10) 0 0 4 4 := ⟨by decide, by decide, by decide, by decide⟩
theorem fw_9_131 : z_FW zR9 131 9 59 (2, 159, fun i => i) := ⟨_, _, rfl, rfl, rfl, by decide, z_m5 (List.mem_of_getElem? (i := 207) rfl) rfl⟩
theorem sa_159 : z_SA 159 0 := ⟨rfl, rfl, by decide⟩
theorem fw_9_134 : z_FW zR9 134 9 60 (2, 160, fun i => i) := ⟨_, _, rfl, rfl, rfl, by decide, z_m5 (List.mem_of_getElem? (i := 208) rfl) rfl⟩
theorem sa_160 : z_SA 160 0 := ⟨rfl, rfl, by decide⟩
theorem fw_9_137 : z_FW zR9 137 9 61 (2, 161, fun i => i) := ⟨_, _, rfl, rfl, rfl, by decide, z_m5 (List.mem_of_getElem? (i := 209) rfl) rfl⟩
theorem sa_161 : z_SA 161 0 := ⟨rfl, rfl, by decide⟩
theorem mw_9_allBits : z_MW y_9_allBits M_9_allBits 0 := ⟨z_m1 (List.mem_of_getElem? (i := 10) rfl) rfl, z_m8 (List.mem_of_getElem? (i := 57) rfl) rfl, by decide, by decide, by decide +kernel⟩
theorem ml_9_456 : Cond.methodLink zR9 456 y_9_allBits ∈ lw_gd := z_m8 (List.mem_of_getElem? (i := 54) rfl) rfl
theorem im_9_allBits : Cond.instanceMethod y_9_allBits ∈ lw_gd := z_m8 (List.mem_of_getElem? (i := 56) rfl) rfl
theorem se_9_allBits : Cond.selects y_9_allBits.cls y_9_allBits y_9_allBits ∈ lw_gd := z_s (q := (y_9_allBits, _)) (List.mem_of_getElem? (i := 130) rfl)
theorem fw_9_140 : z_FW zR9 140 9 62 (2, 162, fun i => i) := ⟨_, _, rfl, rfl, rfl, by decide, z_m5 (List.mem_of_getElem? (i := 210) rfl) rfl⟩
theorem sa_162 : z_SA 162 0 := ⟨rfl, rfl, by decide⟩
theorem mw_9_mayGo : z_MW y_9_mayGo M_9_mayGo 2 := ⟨z_m1 (List.mem_of_getElem? (i := 10) rfl) rfl, z_m8 (List.mem_of_getElem? (i := 61) rfl) rfl, by decide, by decide, by decide +kernel⟩
theorem ml_9_459 : Cond.methodLink zR9 459 y_9_mayGo ∈ lw_gd := z_m8 (List.mem_of_getElem? (i := 58) rfl) rfl
theorem im_9_mayGo : Cond.instanceMethod y_9_mayGo ∈ lw_gd := z_m8 (List.mem_of_getElem? (i := 60) rfl) rfl
theorem se_9_mayGo : Cond.selects y_9_mayGo.cls y_9_mayGo y_9_mayGo ∈ lw_gd := z_s (q := (y_9_mayGo, _)) (List.mem_of_getElem? (i := 131) rfl)
theorem fw_9_143 : z_FW zR9 143 9 63 (2, 163, fun i => i) := ⟨_, _, rfl, rfl, rfl, by decide, z_m5 (List.mem_of_getElem? (i := 211) rfl) rfl⟩
theorem sa_163 : z_SA 163 0 := ⟨rfl, rfl, by decide⟩
theorem mw_9_fillsNeeds : z_MW y_9_fillsNeeds M_9_fillsNeeds 1 := ⟨z_m1 (List.mem_of_getElem? (i := 10) rfl) rfl, z_m8 (List.mem_of_getElem? (i := 49) rfl) rfl, by decide, by decide, by decide +kernel⟩
theorem ml_9_462 : Cond.methodLink zR9 462 y_9_fillsNeeds ∈ lw_gd := z_m8 (List.mem_of_getElem? (i := 46) rfl) rfl
theorem im_9_fillsNeeds : Cond.instanceMethod y_9_fillsNeeds ∈ lw_gd := z_m8 (List.mem_of_getElem? (i := 48) rfl) rfl
theorem se_9_fillsNeeds : Cond.selects y_9_fillsNeeds.cls y_9_fillsNeeds y_9_fillsNeeds ∈ lw_gd := z_s (q := (y_9_fillsNeeds, _)) (List.mem_of_getElem? (i := 128) rfl)
theorem mw_9_counts : z_MW y_9_counts M_9_counts 0 := ⟨z_m1 (List.mem_of_getElem? (i := 10) rfl) rfl, z_m8 (List.mem_of_getElem? (i := 53) rfl) rfl, by decide, by decide, by decide +kernel⟩
theorem ml_9_465 : Cond.methodLink zR9 465 y_9_counts ∈ lw_gd := z_m8 (List.mem_of_getElem? (i := 50) rfl) rfl
theorem im_9_counts : Cond.instanceMethod y_9_counts ∈ lw_gd := z_m8 (List.mem_of_getElem? (i := 52) rfl) rfl
theorem se_9_counts : Cond.selects y_9_counts.cls y_9_counts y_9_counts ∈ lw_gd := z_s (q := (y_9_counts, _)) (List.mem_of_getElem? (i := 129) rfl)
theorem mw_9_isKnown : z_MW y_9_isKnown M_9_isKnown 1 := ⟨z_m1 (List.mem_of_getElem? (i := 10) rfl) rfl, z_m8 (List.mem_of_getElem? (i := 41) rfl) rfl, by decide, by decide, by decide +kernel⟩
theorem ml_9_468 : Cond.methodLink zR9 468 y_9_isKnown ∈ lw_gd := z_m8 (List.mem_of_getElem? (i := 38) rfl) rfl
theorem im_9_isKnown : Cond.instanceMethod y_9_isKnown ∈ lw_gd := z_m8 (List.mem_of_getElem? (i := 40) rfl) rfl
theorem se_9_isKnown : Cond.selects y_9_isKnown.cls y_9_isKnown y_9_isKnown ∈ lw_gd := z_s (q := (y_9_isKnown, _)) (List.mem_of_getElem? (i := 126) rfl)
theorem mw_9_countsBy : z_MW y_9_countsBy M_9_countsBy 1 := ⟨z_m1 (List.mem_of_getElem? (i := 10) rfl) rfl, z_m8 (List.mem_of_getElem? (i := 45) rfl) rfl, by decide, by decide, by decide +kernel⟩
theorem ml_9_471 : Cond.methodLink zR9 471 y_9_countsBy ∈ lw_gd := z_m8 (List.mem_of_getElem? (i := 42) rfl) rfl
theorem im_9_countsBy : Cond.instanceMethod y_9_countsBy ∈ lw_gd := z_m8 (List.mem_of_getElem? (i := 44) rfl) rfl
theorem se_9_countsBy : Cond.selects y_9_countsBy.cls y_9_countsBy y_9_countsBy ∈ lw_gd := z_s (q := (y_9_countsBy, _)) (List.mem_of_getElem? (i := 127) rfl)
theorem mw_9_placedAt : z_MW y_9_placedAt M_9_placedAt 2 := ⟨z_m1 (List.mem_of_getElem? (i := 10) rfl) rfl, z_m8 (List.mem_of_getElem? (i := 69) rfl) rfl, by decide, by decide, by decide +kernel⟩
theorem ml_9_474 : Cond.methodLink zR9 474 y_9_placedAt ∈ lw_gd := z_m8 (List.mem_of_getElem? (i := 66) rfl) rfl
theorem im_9_placedAt : Cond.instanceMethod y_9_placedAt ∈ lw_gd := z_m8 (List.mem_of_getElem? (i := 68) rfl) rfl
theorem se_9_placedAt : Cond.selects y_9_placedAt.cls y_9_placedAt y_9_placedAt ∈ lw_gd := z_s (q := (y_9_placedAt, _)) (List.mem_of_getElem? (i := 132) rfl)
theorem mw_9_beforeBy : z_MW y_9_beforeBy M_9_beforeBy 3 := ⟨z_m1 (List.mem_of_getElem? (i := 10) rfl) rfl, z_m8 (List.mem_of_getElem? (i := 85) rfl) rfl, by decide, by decide, by decide +kernel⟩
theorem ml_9_477 : Cond.methodLink zR9 477 y_9_beforeBy ∈ lw_gd := z_m8 (List.mem_of_getElem? (i := 82) rfl) rfl
theorem im_9_beforeBy : Cond.instanceMethod y_9_beforeBy ∈ lw_gd := z_m8 (List.mem_of_getElem? (i := 84) rfl) rfl
theorem se_9_beforeBy : Cond.selects y_9_beforeBy.cls y_9_beforeBy y_9_beforeBy ∈ lw_gd := z_s (q := (y_9_beforeBy, _)) (List.mem_of_getElem? (i := 133) rfl)
theorem d_9_loss_0 : zD prog_11_method_84_code 0 (.aload_n 0) 1 1 := ⟨by decide +kernel, rfl⟩
theorem d_9_loss_1 : zD prog_11_method_84_code 1 (.iload_n 1) 1 2 := ⟨by decide +kernel, rfl⟩
theorem d_9_loss_2 : zD prog_11_method_84_code 2 (.iconst 1) 1 3 := ⟨by decide +kernel, rfl⟩
theorem d_9_loss_3 : zD prog_11_method_84_code 3 (.invokevirtual 397) 3 6 := ⟨by decide +kernel, rfl⟩
theorem d_9_loss_6 : zD prog_11_method_84_code 6 (.ifCond .eq 10) 3 9 := ⟨by decide +kernel, rfl⟩
theorem d_9_loss_9 : zD prog_11_method_84_code 9 (.iload_n 2) 1 10 := ⟨by decide +kernel, rfl⟩
theorem d_9_loss_10 : zD prog_11_method_84_code 10 (.invokestatic 403) 3 13 := ⟨by decide +kernel, rfl⟩
theorem d_9_loss_13 : zD prog_11_method_84_code 13 (.ifCond .ne 7) 3 16 := ⟨by decide +kernel, rfl⟩
theorem d_9_loss_16 : zD prog_11_method_84_code 16 (.ldc_w 421) 3 19 := ⟨by decide +kernel, rfl⟩
theorem d_9_loss_19 : zD prog_11_method_84_code 19 (.ireturn) 1 20 := ⟨by decide +kernel, rfl⟩
theorem d_9_loss_20 : zD prog_11_method_84_code 20 (.aload_n 0) 1 21 := ⟨by decide +kernel, rfl⟩
theorem d_9_loss_21 : zD prog_11_method_84_code 21 (.invokevirtual 412) 3 24 := ⟨by decide +kernel, rfl⟩
theorem d_9_loss_24 : zD prog_11_method_84_code 24 (.aload_n 0) 1 25 := ⟨by decide +kernel, rfl⟩
theorem d_9_loss_25 : zD prog_11_method_84_code 25 (.iload_n 2) 1 26 := ⟨by decide +kernel, rfl⟩
theorem d_9_loss_26 : zD prog_11_method_84_code 26 (.iload_n 1) 1 27 := ⟨by decide +kernel, rfl⟩
theorem d_9_loss_27 : zD prog_11_method_84_code 27 (.invokevirtual 422) 3 30 := ⟨by decide +kernel, rfl⟩
theorem d_9_loss_30 : zD prog_11_method_84_code 30 (.istore_n 3) 1 31 := ⟨by decide +kernel, rfl⟩
theorem d_9_loss_31 : zD prog_11_method_84_code 31 (.aload_n 0) 1 32 := ⟨by decide +kernel, rfl⟩
theorem d_9_loss_32 : zD prog_11_method_84_code 32 (.invokevirtual 412) 3 35 := ⟨by decide +kernel, rfl⟩
theorem d_9_loss_35 : zD prog_11_method_84_code 35 (.aload_n 0) 1 36 := ⟨by decide +kernel, rfl⟩
theorem d_9_loss_36 : zD prog_11_method_84_code 36 (.iload_n 1) 1 37 := ⟨by decide +kernel, rfl⟩
theorem d_9_loss_37 : zD prog_11_method_84_code 37 (.iconst 0) 1 38 := ⟨by decide +kernel, rfl⟩
theorem d_9_loss_38 : zD prog_11_method_84_code 38 (.invokevirtual 376) 3 41 := ⟨by decide +kernel, rfl⟩
theorem d_9_loss_41 : zD prog_11_method_84_code 41 (.aload_n 0) 1 42 := ⟨by decide +kernel, rfl⟩
theorem d_9_loss_42 : zD prog_11_method_84_code 42 (.iload_n 2) 1 43 := ⟨by decide +kernel, rfl⟩
theorem d_9_loss_43 : zD prog_11_method_84_code 43 (.iload_n 1) 1 44 := ⟨by decide +kernel, rfl⟩
theorem d_9_loss_44 : zD prog_11_method_84_code 44 (.invokevirtual 422) 3 47 := ⟨by decide +kernel, rfl⟩
theorem d_9_loss_47 : zD prog_11_method_84_code 47 (.iload_n 3) 1 48 := ⟨by decide +kernel, rfl⟩
theorem d_9_loss_48 : zD prog_11_method_84_code 48 (.isub) 1 49 := ⟨by decide +kernel, rfl⟩
theorem d_9_loss_49 : zD prog_11_method_84_code 49 (.ireturn) 1 50 := ⟨by decide +kernel, rfl⟩
theorem d_9_isDuel_0 : zD prog_11_method_85_code 0 (.aload_n 0) 1 1 := ⟨by decide +kernel, rfl⟩
theorem d_9_isDuel_1 : zD prog_11_method_85_code 1 (.iload_n 1) 1 2 := ⟨by decide +kernel, rfl⟩
theorem d_9_isDuel_2 : zD prog_11_method_85_code 2 (.iconst 0) 1 3 := ⟨by decide +kernel, rfl⟩
theorem d_9_isDuel_3 : zD prog_11_method_85_code 3 (.invokevirtual 397) 3 6 := ⟨by decide +kernel, rfl⟩
theorem d_9_isDuel_6 : zD prog_11_method_85_code 6 (.ifCond .eq 28) 3 9 := ⟨by decide +kernel, rfl⟩
theorem d_9_isDuel_9 : zD prog_11_method_85_code 9 (.aload_n 0) 1 10 := ⟨by decide +kernel, rfl⟩
theorem d_9_isDuel_10 : zD prog_11_method_85_code 10 (.iload_n 2) 1 11 := ⟨by decide +kernel, rfl⟩
theorem d_9_isDuel_11 : zD prog_11_method_85_code 11 (.iconst 0) 1 12 := ⟨by decide +kernel, rfl⟩
theorem d_9_isDuel_12 : zD prog_11_method_85_code 12 (.invokevirtual 397) 3 15 := ⟨by decide +kernel, rfl⟩
theorem d_9_isDuel_15 : zD prog_11_method_85_code 15 (.ifCond .eq 19) 3 18 := ⟨by decide +kernel, rfl⟩
theorem d_9_isDuel_18 : zD prog_11_method_85_code 18 (.iload_n 1) 1 19 := ⟨by decide +kernel, rfl⟩
theorem d_9_isDuel_19 : zD prog_11_method_85_code 19 (.iload_n 2) 1 20 := ⟨by decide +kernel, rfl⟩
theorem d_9_isDuel_20 : zD prog_11_method_85_code 20 (.if_icmp .eq 14) 3 23 := ⟨by decide +kernel, rfl⟩
theorem d_9_isDuel_23 : zD prog_11_method_85_code 23 (.iload_n 3) 1 24 := ⟨by decide +kernel, rfl⟩
theorem d_9_isDuel_24 : zD prog_11_method_85_code 24 (.invokestatic 415) 3 27 := ⟨by decide +kernel, rfl⟩
theorem d_9_isDuel_27 : zD prog_11_method_85_code 27 (.ifCond .eq 7) 3 30 := ⟨by decide +kernel, rfl⟩
theorem d_9_isDuel_30 : zD prog_11_method_85_code 30 (.iconst 1) 1 31 := ⟨by decide +kernel, rfl⟩
theorem d_9_isDuel_31 : zD prog_11_method_85_code 31 (.goto 4) 3 34 := ⟨by decide +kernel, rfl⟩
theorem d_9_isDuel_34 : zD prog_11_method_85_code 34 (.iconst 0) 1 35 := ⟨by decide +kernel, rfl⟩
theorem d_9_isDuel_35 : zD prog_11_method_85_code 35 (.ireturn) 1 36 := ⟨by decide +kernel, rfl⟩
theorem d_9_duelGain_0 : zD prog_11_method_86_code 0 (.aload_n 0) 1 1 := ⟨by decide +kernel, rfl⟩
theorem d_9_duelGain_1 : zD prog_11_method_86_code 1 (.invokevirtual 412) 3 4 := ⟨by decide +kernel, rfl⟩
theorem d_9_duelGain_4 : zD prog_11_method_86_code 4 (.iload 4) 2 6 := ⟨by decide +kernel, rfl⟩
theorem d_9_duelGain_6 : zD prog_11_method_86_code 6 (.iconst 1) 1 7 := ⟨by decide +kernel, rfl⟩
theorem d_9_duelGain_7 : zD prog_11_method_86_code 7 (.iand) 1 8 := ⟨by decide +kernel, rfl⟩
theorem d_9_duelGain_8 : zD prog_11_method_86_code 8 (.iconst 1) 1 9 := ⟨by decide +kernel, rfl⟩
theorem d_9_duelGain_9 : zD prog_11_method_86_code 9 (.if_icmp .ne 9) 3 12 := ⟨by decide +kernel, rfl⟩
theorem d_9_duelGain_12 : zD prog_11_method_86_code 12 (.aload_n 0) 1 13 := ⟨by decide +kernel, rfl⟩
theorem d_9_duelGain_13 : zD prog_11_method_86_code 13 (.iload_n 1) 1 14 := ⟨by decide +kernel, rfl⟩
theorem d_9_duelGain_14 : zD prog_11_method_86_code 14 (.iconst 1) 1 15 := ⟨by decide +kernel, rfl⟩
theorem d_9_duelGain_15 : zD prog_11_method_86_code 15 (.invokevirtual 376) 3 18 := ⟨by decide +kernel, rfl⟩
theorem d_9_duelGain_18 : zD prog_11_method_86_code 18 (.iload 4) 2 20 := ⟨by decide +kernel, rfl⟩
theorem d_9_duelGain_20 : zD prog_11_method_86_code 20 (.iconst 2) 1 21 := ⟨by decide +kernel, rfl⟩
theorem d_9_duelGain_21 : zD prog_11_method_86_code 21 (.iand) 1 22 := ⟨by decide +kernel, rfl⟩
theorem d_9_duelGain_22 : zD prog_11_method_86_code 22 (.iconst 2) 1 23 := ⟨by decide +kernel, rfl⟩
theorem d_9_duelGain_23 : zD prog_11_method_86_code 23 (.if_icmp .ne 9) 3 26 := ⟨by decide +kernel, rfl⟩
theorem d_9_duelGain_26 : zD prog_11_method_86_code 26 (.aload_n 0) 1 27 := ⟨by decide +kernel, rfl⟩
theorem d_9_duelGain_27 : zD prog_11_method_86_code 27 (.iload_n 2) 1 28 := ⟨by decide +kernel, rfl⟩
theorem d_9_duelGain_28 : zD prog_11_method_86_code 28 (.iconst 1) 1 29 := ⟨by decide +kernel, rfl⟩
theorem d_9_duelGain_29 : zD prog_11_method_86_code 29 (.invokevirtual 376) 3 32 := ⟨by decide +kernel, rfl⟩
theorem d_9_duelGain_32 : zD prog_11_method_86_code 32 (.aload_n 0) 1 33 := ⟨by decide +kernel, rfl⟩
theorem d_9_duelGain_33 : zD prog_11_method_86_code 33 (.iload_n 3) 1 34 := ⟨by decide +kernel, rfl⟩
theorem d_9_duelGain_34 : zD prog_11_method_86_code 34 (.invokevirtual 406) 3 37 := ⟨by decide +kernel, rfl⟩
theorem d_9_duelGain_37 : zD prog_11_method_86_code 37 (.aload_n 0) 1 38 := ⟨by decide +kernel, rfl⟩
theorem d_9_duelGain_38 : zD prog_11_method_86_code 38 (.getfield 113) 3 41 := ⟨by decide +kernel, rfl⟩
theorem d_9_duelGain_41 : zD prog_11_method_86_code 41 (.bipush 14) 2 43 := ⟨by decide +kernel, rfl⟩
theorem d_9_duelGain_43 : zD prog_11_method_86_code 43 (.iload 5) 2 45 := ⟨by decide +kernel, rfl⟩
theorem d_9_duelGain_45 : zD prog_11_method_86_code 45 (.iadd) 1 46 := ⟨by decide +kernel, rfl⟩
theorem d_9_duelGain_46 : zD prog_11_method_86_code 46 (.iaload) 1 47 := ⟨by decide +kernel, rfl⟩
theorem d_9_duelGain_47 : zD prog_11_method_86_code 47 (.aload_n 0) 1 48 := ⟨by decide +kernel, rfl⟩
theorem d_9_duelGain_48 : zD prog_11_method_86_code 48 (.getfield 110) 3 51 := ⟨by decide +kernel, rfl⟩
theorem d_9_duelGain_51 : zD prog_11_method_86_code 51 (.bipush 14) 2 53 := ⟨by decide +kernel, rfl⟩
theorem d_9_duelGain_53 : zD prog_11_method_86_code 53 (.iload 5) 2 55 := ⟨by decide +kernel, rfl⟩
theorem d_9_duelGain_55 : zD prog_11_method_86_code 55 (.iadd) 1 56 := ⟨by decide +kernel, rfl⟩
theorem d_9_duelGain_56 : zD prog_11_method_86_code 56 (.iaload) 1 57 := ⟨by decide +kernel, rfl⟩
theorem d_9_duelGain_57 : zD prog_11_method_86_code 57 (.isub) 1 58 := ⟨by decide +kernel, rfl⟩
theorem d_9_duelGain_58 : zD prog_11_method_86_code 58 (.ireturn) 1 59 := ⟨by decide +kernel, rfl⟩
theorem d_9_duel_0 : zD prog_11_method_87_code 0 (.aload_n 0) 1 1 := ⟨by decide +kernel, rfl⟩
theorem d_9_duel_1 : zD prog_11_method_87_code 1 (.iload_n 1) 1 2 := ⟨by decide +kernel, rfl⟩
theorem d_9_duel_2 : zD prog_11_method_87_code 2 (.iload_n 2) 1 3 := ⟨by decide +kernel, rfl⟩
theorem d_9_duel_3 : zD prog_11_method_87_code 3 (.iload_n 3) 1 4 := ⟨by decide +kernel, rfl⟩
theorem d_9_duel_4 : zD prog_11_method_87_code 4 (.invokevirtual 425) 3 7 := ⟨by decide +kernel, rfl⟩
theorem d_9_duel_7 : zD prog_11_method_87_code 7 (.ifCond .eq 23) 3 10 := ⟨by decide +kernel, rfl⟩
theorem d_9_duel_10 : zD prog_11_method_87_code 10 (.iload 4) 2 12 := ⟨by decide +kernel, rfl⟩
theorem d_9_duel_12 : zD prog_11_method_87_code 12 (.iconst 0) 1 13 := ⟨by decide +kernel, rfl⟩
theorem d_9_duel_13 : zD prog_11_method_87_code 13 (.iconst 3) 1 14 := ⟨by decide +kernel, rfl⟩
theorem d_9_duel_14 : zD prog_11_method_87_code 14 (.invokestatic 312) 3 17 := ⟨by decide +kernel, rfl⟩
theorem d_9_duel_17 : zD prog_11_method_87_code 17 (.ifCond .eq 13) 3 20 := ⟨by decide +kernel, rfl⟩
theorem d_9_duel_20 : zD prog_11_method_87_code 20 (.iload 5) 2 22 := ⟨by decide +kernel, rfl⟩
theorem d_9_duel_22 : zD prog_11_method_87_code 22 (.iconst 0) 1 23 := ⟨by decide +kernel, rfl⟩
theorem d_9_duel_23 : zD prog_11_method_87_code 23 (.iconst 1) 1 24 := ⟨by decide +kernel, rfl⟩
theorem d_9_duel_24 : zD prog_11_method_87_code 24 (.invokestatic 312) 3 27 := ⟨by decide +kernel, rfl⟩
theorem d_9_duel_27 : zD prog_11_method_87_code 27 (.ifCond .ne 5) 3 30 := ⟨by decide +kernel, rfl⟩
theorem d_9_duel_30 : zD prog_11_method_87_code 30 (.iconst (-1)) 1 31 := ⟨by decide +kernel, rfl⟩
theorem d_9_duel_31 : zD prog_11_method_87_code 31 (.ireturn) 1 32 := ⟨by decide +kernel, rfl⟩
theorem d_9_duel_32 : zD prog_11_method_87_code 32 (.aload_n 0) 1 33 := ⟨by decide +kernel, rfl⟩
theorem d_9_duel_33 : zD prog_11_method_87_code 33 (.iload_n 1) 1 34 := ⟨by decide +kernel, rfl⟩
theorem d_9_duel_34 : zD prog_11_method_87_code 34 (.iload_n 2) 1 35 := ⟨by decide +kernel, rfl⟩
theorem d_9_duel_35 : zD prog_11_method_87_code 35 (.iload_n 3) 1 36 := ⟨by decide +kernel, rfl⟩
theorem d_9_duel_36 : zD prog_11_method_87_code 36 (.iload 4) 2 38 := ⟨by decide +kernel, rfl⟩
theorem d_9_duel_38 : zD prog_11_method_87_code 38 (.iload 5) 2 40 := ⟨by decide +kernel, rfl⟩
theorem d_9_duel_40 : zD prog_11_method_87_code 40 (.ifCond .ne 7) 3 43 := ⟨by decide +kernel, rfl⟩
theorem d_9_duel_43 : zD prog_11_method_87_code 43 (.iload_n 1) 1 44 := ⟨by decide +kernel, rfl⟩
theorem d_9_duel_44 : zD prog_11_method_87_code 44 (.goto 4) 3 47 := ⟨by decide +kernel, rfl⟩
theorem d_9_duel_47 : zD prog_11_method_87_code 47 (.iload_n 2) 1 48 := ⟨by decide +kernel, rfl⟩
theorem d_9_duel_48 : zD prog_11_method_87_code 48 (.invokevirtual 428) 3 51 := ⟨by decide +kernel, rfl⟩
theorem d_9_duel_51 : zD prog_11_method_87_code 51 (.ireturn) 1 52 := ⟨by decide +kernel, rfl⟩
theorem d_9_rest_0 : zD prog_11_method_88_code 0 (.aload_n 0) 1 1 := ⟨by decide +kernel, rfl⟩
theorem d_9_rest_1 : zD prog_11_method_88_code 1 (.iload_n 1) 1 2 := ⟨by decide +kernel, rfl⟩
theorem d_9_rest_2 : zD prog_11_method_88_code 2 (.iload_n 2) 1 3 := ⟨by decide +kernel, rfl⟩
theorem d_9_rest_3 : zD prog_11_method_88_code 3 (.iload_n 3) 1 4 := ⟨by decide +kernel, rfl⟩
theorem d_9_rest_4 : zD prog_11_method_88_code 4 (.invokevirtual 425) 3 7 := ⟨by decide +kernel, rfl⟩
theorem d_9_rest_7 : zD prog_11_method_88_code 7 (.ifCond .ne 5) 3 10 := ⟨by decide +kernel, rfl⟩
theorem d_9_rest_10 : zD prog_11_method_88_code 10 (.iconst (-1)) 1 11 := ⟨by decide +kernel, rfl⟩
theorem d_9_rest_11 : zD prog_11_method_88_code 11 (.ireturn) 1 12 := ⟨by decide +kernel, rfl⟩
theorem d_9_rest_12 : zD prog_11_method_88_code 12 (.iconst 0) 1 13 := ⟨by decide +kernel, rfl⟩
theorem d_9_rest_13 : zD prog_11_method_88_code 13 (.istore 4) 2 15 := ⟨by decide +kernel, rfl⟩
theorem d_9_rest_15 : zD prog_11_method_88_code 15 (.iconst 0) 1 16 := ⟨by decide +kernel, rfl⟩
theorem d_9_rest_16 : zD prog_11_method_88_code 16 (.istore 5) 2 18 := ⟨by decide +kernel, rfl⟩
theorem d_9_rest_18 : zD prog_11_method_88_code 18 (.iload 5) 2 20 := ⟨by decide +kernel, rfl⟩
theorem d_9_rest_20 : zD prog_11_method_88_code 20 (.iconst 4) 1 21 := ⟨by decide +kernel, rfl⟩
theorem d_9_rest_21 : zD prog_11_method_88_code 21 (.if_icmp .ge 80) 3 24 := ⟨by decide +kernel, rfl⟩
theorem d_9_rest_24 : zD prog_11_method_88_code 24 (.aload_n 0) 1 25 := ⟨by decide +kernel, rfl⟩
theorem d_9_rest_25 : zD prog_11_method_88_code 25 (.iload_n 1) 1 26 := ⟨by decide +kernel, rfl⟩
theorem d_9_rest_26 : zD prog_11_method_88_code 26 (.iload_n 2) 1 27 := ⟨by decide +kernel, rfl⟩
theorem d_9_rest_27 : zD prog_11_method_88_code 27 (.iload_n 3) 1 28 := ⟨by decide +kernel, rfl⟩
theorem d_9_rest_28 : zD prog_11_method_88_code 28 (.iload 5) 2 30 := ⟨by decide +kernel, rfl⟩
theorem d_9_rest_30 : zD prog_11_method_88_code 30 (.iconst 1) 1 31 := ⟨by decide +kernel, rfl⟩
theorem d_9_rest_31 : zD prog_11_method_88_code 31 (.ixor) 1 32 := ⟨by decide +kernel, rfl⟩
theorem d_9_rest_32 : zD prog_11_method_88_code 32 (.iload_n 1) 1 33 := ⟨by decide +kernel, rfl⟩
theorem d_9_rest_33 : zD prog_11_method_88_code 33 (.invokevirtual 428) 3 36 := ⟨by decide +kernel, rfl⟩
theorem d_9_rest_36 : zD prog_11_method_88_code 36 (.aload_n 0) 1 37 := ⟨by decide +kernel, rfl⟩
theorem d_9_rest_37 : zD prog_11_method_88_code 37 (.iload_n 1) 1 38 := ⟨by decide +kernel, rfl⟩
theorem d_9_rest_38 : zD prog_11_method_88_code 38 (.iload_n 2) 1 39 := ⟨by decide +kernel, rfl⟩
theorem d_9_rest_39 : zD prog_11_method_88_code 39 (.iload_n 3) 1 40 := ⟨by decide +kernel, rfl⟩
theorem d_9_rest_40 : zD prog_11_method_88_code 40 (.iload 5) 2 42 := ⟨by decide +kernel, rfl⟩
theorem d_9_rest_42 : zD prog_11_method_88_code 42 (.iload_n 1) 1 43 := ⟨by decide +kernel, rfl⟩
theorem d_9_rest_43 : zD prog_11_method_88_code 43 (.invokevirtual 428) 3 46 := ⟨by decide +kernel, rfl⟩
theorem d_9_rest_46 : zD prog_11_method_88_code 46 (.if_icmp .gt 7) 3 49 := ⟨by decide +kernel, rfl⟩
theorem d_9_rest_49 : zD prog_11_method_88_code 49 (.iconst 1) 1 50 := ⟨by decide +kernel, rfl⟩
theorem d_9_rest_50 : zD prog_11_method_88_code 50 (.goto 4) 3 53 := ⟨by decide +kernel, rfl⟩
theorem d_9_rest_53 : zD prog_11_method_88_code 53 (.iconst 0) 1 54 := ⟨by decide +kernel, rfl⟩
theorem d_9_rest_54 : zD prog_11_method_88_code 54 (.istore 6) 2 56 := ⟨by decide +kernel, rfl⟩
theorem d_9_rest_56 : zD prog_11_method_88_code 56 (.iload 6) 2 58 := ⟨by decide +kernel, rfl⟩
theorem d_9_rest_58 : zD prog_11_method_88_code 58 (.ifCond .eq 37) 3 61 := ⟨by decide +kernel, rfl⟩
theorem d_9_rest_61 : zD prog_11_method_88_code 61 (.aload_n 0) 1 62 := ⟨by decide +kernel, rfl⟩
theorem d_9_rest_62 : zD prog_11_method_88_code 62 (.iload_n 1) 1 63 := ⟨by decide +kernel, rfl⟩
theorem d_9_rest_63 : zD prog_11_method_88_code 63 (.iload_n 2) 1 64 := ⟨by decide +kernel, rfl⟩
theorem d_9_rest_64 : zD prog_11_method_88_code 64 (.iload_n 3) 1 65 := ⟨by decide +kernel, rfl⟩
theorem d_9_rest_65 : zD prog_11_method_88_code 65 (.iload 5) 2 67 := ⟨by decide +kernel, rfl⟩
theorem d_9_rest_67 : zD prog_11_method_88_code 67 (.iconst 2) 1 68 := ⟨by decide +kernel, rfl⟩
theorem d_9_rest_68 : zD prog_11_method_88_code 68 (.ixor) 1 69 := ⟨by decide +kernel, rfl⟩
theorem d_9_rest_69 : zD prog_11_method_88_code 69 (.iload_n 2) 1 70 := ⟨by decide +kernel, rfl⟩
theorem d_9_rest_70 : zD prog_11_method_88_code 70 (.invokevirtual 428) 3 73 := ⟨by decide +kernel, rfl⟩
theorem d_9_rest_73 : zD prog_11_method_88_code 73 (.aload_n 0) 1 74 := ⟨by decide +kernel, rfl⟩
theorem d_9_rest_74 : zD prog_11_method_88_code 74 (.iload_n 1) 1 75 := ⟨by decide +kernel, rfl⟩
theorem d_9_rest_75 : zD prog_11_method_88_code 75 (.iload_n 2) 1 76 := ⟨by decide +kernel, rfl⟩
theorem d_9_rest_76 : zD prog_11_method_88_code 76 (.iload_n 3) 1 77 := ⟨by decide +kernel, rfl⟩
theorem d_9_rest_77 : zD prog_11_method_88_code 77 (.iload 5) 2 79 := ⟨by decide +kernel, rfl⟩
theorem d_9_rest_79 : zD prog_11_method_88_code 79 (.iload_n 2) 1 80 := ⟨by decide +kernel, rfl⟩
theorem d_9_rest_80 : zD prog_11_method_88_code 80 (.invokevirtual 428) 3 83 := ⟨by decide +kernel, rfl⟩
theorem d_9_rest_83 : zD prog_11_method_88_code 83 (.if_icmp .gt 12) 3 86 := ⟨by decide +kernel, rfl⟩
theorem d_9_rest_86 : zD prog_11_method_88_code 86 (.iload 4) 2 88 := ⟨by decide +kernel, rfl⟩
theorem d_9_rest_88 : zD prog_11_method_88_code 88 (.iconst 1) 1 89 := ⟨by decide +kernel, rfl⟩
theorem d_9_rest_89 : zD prog_11_method_88_code 89 (.iload 5) 2 91 := ⟨by decide +kernel, rfl⟩
theorem d_9_rest_91 : zD prog_11_method_88_code 91 (.ishl) 1 92 := ⟨by decide +kernel, rfl⟩
theorem d_9_rest_92 : zD prog_11_method_88_code 92 (.ior) 1 93 := ⟨by decide +kernel, rfl⟩
theorem d_9_rest_93 : zD prog_11_method_88_code 93 (.istore 4) 2 95 := ⟨by decide +kernel, rfl⟩
theorem d_9_rest_95 : zD prog_11_method_88_code 95 (.iinc 5 1) 3 98 := ⟨by decide +kernel, rfl⟩
theorem d_9_rest_98 : zD prog_11_method_88_code 98 (.goto (-80)) 3 101 := ⟨by decide +kernel, rfl⟩
theorem d_9_rest_101 : zD prog_11_method_88_code 101 (.iload 4) 2 103 := ⟨by decide +kernel, rfl⟩
theorem d_9_rest_103 : zD prog_11_method_88_code 103 (.ireturn) 1 104 := ⟨by decide +kernel, rfl⟩
theorem d_9_aliveBits_0 : zD prog_11_method_89_code 0 (.aload_n 0) 1 1 := ⟨by decide +kernel, rfl⟩
theorem d_9_aliveBits_1 : zD prog_11_method_89_code 1 (.iconst 0) 1 2 := ⟨by decide +kernel, rfl⟩
theorem d_9_aliveBits_2 : zD prog_11_method_89_code 2 (.invokevirtual 358) 3 5 := ⟨by decide +kernel, rfl⟩
theorem d_9_aliveBits_5 : zD prog_11_method_89_code 5 (.aload_n 0) 1 6 := ⟨by decide +kernel, rfl⟩
theorem d_9_aliveBits_6 : zD prog_11_method_89_code 6 (.iconst 1) 1 7 := ⟨by decide +kernel, rfl⟩
theorem d_9_aliveBits_7 : zD prog_11_method_89_code 7 (.invokevirtual 358) 3 10 := ⟨by decide +kernel, rfl⟩
theorem d_9_aliveBits_10 : zD prog_11_method_89_code 10 (.ior) 1 11 := ⟨by decide +kernel, rfl⟩
theorem d_9_aliveBits_11 : zD prog_11_method_89_code 11 (.ireturn) 1 12 := ⟨by decide +kernel, rfl⟩
theorem d_9_doCover_0 : zD prog_11_method_90_code 0 (.aload_n 0) 1 1 := ⟨by decide +kernel, rfl⟩
theorem d_9_doCover_1 : zD prog_11_method_90_code 1 (.invokevirtual 432) 3 4 := ⟨by decide +kernel, rfl⟩
theorem d_9_doCover_4 : zD prog_11_method_90_code 4 (.istore_n 2) 1 5 := ⟨by decide +kernel, rfl⟩
theorem d_9_doCover_5 : zD prog_11_method_90_code 5 (.iconst 0) 1 6 := ⟨by decide +kernel, rfl⟩
theorem d_9_doCover_6 : zD prog_11_method_90_code 6 (.istore_n 3) 1 7 := ⟨by decide +kernel, rfl⟩
theorem d_9_doCover_7 : zD prog_11_method_90_code 7 (.iload_n 3) 1 8 := ⟨by decide +kernel, rfl⟩
theorem d_9_doCover_8 : zD prog_11_method_90_code 8 (.aload_n 0) 1 9 := ⟨by decide +kernel, rfl⟩
theorem d_9_doCover_9 : zD prog_11_method_90_code 9 (.getfield 46) 3 12 := ⟨by decide +kernel, rfl⟩
theorem d_9_doCover_12 : zD prog_11_method_90_code 12 (.aload_n 0) 1 13 := ⟨by decide +kernel, rfl⟩
theorem d_9_doCover_13 : zD prog_11_method_90_code 13 (.getfield 233) 3 16 := ⟨by decide +kernel, rfl⟩
theorem d_9_doCover_16 : zD prog_11_method_90_code 16 (.iaload) 1 17 := ⟨by decide +kernel, rfl⟩
theorem d_9_doCover_17 : zD prog_11_method_90_code 17 (.if_icmp .ge 39) 3 20 := ⟨by decide +kernel, rfl⟩
theorem d_9_doCover_20 : zD prog_11_method_90_code 20 (.aload_n 0) 1 21 := ⟨by decide +kernel, rfl⟩
theorem d_9_doCover_21 : zD prog_11_method_90_code 21 (.getfield 113) 3 24 := ⟨by decide +kernel, rfl⟩
theorem d_9_doCover_24 : zD prog_11_method_90_code 24 (.bipush 28) 2 26 := ⟨by decide +kernel, rfl⟩
theorem d_9_doCover_26 : zD prog_11_method_90_code 26 (.iload_n 3) 1 27 := ⟨by decide +kernel, rfl⟩
theorem d_9_doCover_27 : zD prog_11_method_90_code 27 (.iadd) 1 28 := ⟨by decide +kernel, rfl⟩
theorem d_9_doCover_28 : zD prog_11_method_90_code 28 (.iaload) 1 29 := ⟨by decide +kernel, rfl⟩
theorem d_9_doCover_29 : zD prog_11_method_90_code 29 (.iload_n 2) 1 30 := ⟨by decide +kernel, rfl⟩
theorem d_9_doCover_30 : zD prog_11_method_90_code 30 (.iand) 1 31 := ⟨by decide +kernel, rfl⟩
theorem d_9_doCover_31 : zD prog_11_method_90_code 31 (.ifCond .eq 19) 3 34 := ⟨by decide +kernel, rfl⟩
theorem d_9_doCover_34 : zD prog_11_method_90_code 34 (.aload_n 0) 1 35 := ⟨by decide +kernel, rfl⟩
theorem d_9_doCover_35 : zD prog_11_method_90_code 35 (.getfield 113) 3 38 := ⟨by decide +kernel, rfl⟩
theorem d_9_doCover_38 : zD prog_11_method_90_code 38 (.bipush 28) 2 40 := ⟨by decide +kernel, rfl⟩
theorem d_9_doCover_40 : zD prog_11_method_90_code 40 (.iload_n 3) 1 41 := ⟨by decide +kernel, rfl⟩
theorem d_9_doCover_41 : zD prog_11_method_90_code 41 (.iadd) 1 42 := ⟨by decide +kernel, rfl⟩
theorem d_9_doCover_42 : zD prog_11_method_90_code 42 (.iaload) 1 43 := ⟨by decide +kernel, rfl⟩
theorem d_9_doCover_43 : zD prog_11_method_90_code 43 (.iload_n 1) 1 44 := ⟨by decide +kernel, rfl⟩
theorem d_9_doCover_44 : zD prog_11_method_90_code 44 (.iand) 1 45 := ⟨by decide +kernel, rfl⟩
theorem d_9_doCover_45 : zD prog_11_method_90_code 45 (.ifCond .ne 5) 3 48 := ⟨by decide +kernel, rfl⟩
theorem d_9_doCover_48 : zD prog_11_method_90_code 48 (.iconst 0) 1 49 := ⟨by decide +kernel, rfl⟩
theorem d_9_doCover_49 : zD prog_11_method_90_code 49 (.ireturn) 1 50 := ⟨by decide +kernel, rfl⟩
theorem d_9_doCover_50 : zD prog_11_method_90_code 50 (.iinc 3 1) 3 53 := ⟨by decide +kernel, rfl⟩
theorem d_9_doCover_53 : zD prog_11_method_90_code 53 (.goto (-46)) 3 56 := ⟨by decide +kernel, rfl⟩
theorem d_9_doCover_56 : zD prog_11_method_90_code 56 (.iconst 1) 1 57 := ⟨by decide +kernel, rfl⟩
theorem d_9_doCover_57 : zD prog_11_method_90_code 57 (.ireturn) 1 58 := ⟨by decide +kernel, rfl⟩
theorem d_9_coverOf_0 : zD prog_11_method_91_code 0 (.iconst (-1)) 1 1 := ⟨by decide +kernel, rfl⟩
theorem d_9_coverOf_1 : zD prog_11_method_91_code 1 (.istore_n 3) 1 2 := ⟨by decide +kernel, rfl⟩
theorem d_9_coverOf_2 : zD prog_11_method_91_code 2 (.iconst 0) 1 3 := ⟨by decide +kernel, rfl⟩
theorem d_9_coverOf_3 : zD prog_11_method_91_code 3 (.istore 4) 2 5 := ⟨by decide +kernel, rfl⟩
theorem d_9_coverOf_5 : zD prog_11_method_91_code 5 (.iload 4) 2 7 := ⟨by decide +kernel, rfl⟩
theorem d_9_coverOf_7 : zD prog_11_method_91_code 7 (.sipush 128) 3 10 := ⟨by decide +kernel, rfl⟩
theorem d_9_coverOf_10 : zD prog_11_method_91_code 10 (.if_icmp .ge 48) 3 13 := ⟨by decide +kernel, rfl⟩
theorem d_9_coverOf_13 : zD prog_11_method_91_code 13 (.iload 4) 2 15 := ⟨by decide +kernel, rfl⟩
theorem d_9_coverOf_15 : zD prog_11_method_91_code 15 (.iload_n 1) 1 16 := ⟨by decide +kernel, rfl⟩
theorem d_9_coverOf_16 : zD prog_11_method_91_code 16 (.iconst (-1)) 1 17 := ⟨by decide +kernel, rfl⟩
theorem d_9_coverOf_17 : zD prog_11_method_91_code 17 (.ixor) 1 18 := ⟨by decide +kernel, rfl⟩
theorem d_9_coverOf_18 : zD prog_11_method_91_code 18 (.iand) 1 19 := ⟨by decide +kernel, rfl⟩
theorem d_9_coverOf_19 : zD prog_11_method_91_code 19 (.ifCond .ne 33) 3 22 := ⟨by decide +kernel, rfl⟩
theorem d_9_coverOf_22 : zD prog_11_method_91_code 22 (.iload_n 3) 1 23 := ⟨by decide +kernel, rfl⟩
theorem d_9_coverOf_23 : zD prog_11_method_91_code 23 (.ifCond .lt 15) 3 26 := ⟨by decide +kernel, rfl⟩
theorem d_9_coverOf_26 : zD prog_11_method_91_code 26 (.iload 4) 2 28 := ⟨by decide +kernel, rfl⟩
theorem d_9_coverOf_28 : zD prog_11_method_91_code 28 (.invokestatic 355) 3 31 := ⟨by decide +kernel, rfl⟩
theorem d_9_coverOf_31 : zD prog_11_method_91_code 31 (.iload_n 3) 1 32 := ⟨by decide +kernel, rfl⟩
theorem d_9_coverOf_32 : zD prog_11_method_91_code 32 (.invokestatic 355) 3 35 := ⟨by decide +kernel, rfl⟩
theorem d_9_coverOf_35 : zD prog_11_method_91_code 35 (.if_icmp .ge 17) 3 38 := ⟨by decide +kernel, rfl⟩
theorem d_9_coverOf_38 : zD prog_11_method_91_code 38 (.aload_n 0) 1 39 := ⟨by decide +kernel, rfl⟩
theorem d_9_coverOf_39 : zD prog_11_method_91_code 39 (.iload 4) 2 41 := ⟨by decide +kernel, rfl⟩
theorem d_9_coverOf_41 : zD prog_11_method_91_code 41 (.iload_n 2) 1 42 := ⟨by decide +kernel, rfl⟩
theorem d_9_coverOf_42 : zD prog_11_method_91_code 42 (.ior) 1 43 := ⟨by decide +kernel, rfl⟩
theorem d_9_coverOf_43 : zD prog_11_method_91_code 43 (.invokevirtual 435) 3 46 := ⟨by decide +kernel, rfl⟩
theorem d_9_coverOf_46 : zD prog_11_method_91_code 46 (.ifCond .eq 6) 3 49 := ⟨by decide +kernel, rfl⟩
theorem d_9_coverOf_49 : zD prog_11_method_91_code 49 (.iload 4) 2 51 := ⟨by decide +kernel, rfl⟩
theorem d_9_coverOf_51 : zD prog_11_method_91_code 51 (.istore_n 3) 1 52 := ⟨by decide +kernel, rfl⟩
theorem d_9_coverOf_52 : zD prog_11_method_91_code 52 (.iinc 4 1) 3 55 := ⟨by decide +kernel, rfl⟩
theorem d_9_coverOf_55 : zD prog_11_method_91_code 55 (.goto (-50)) 3 58 := ⟨by decide +kernel, rfl⟩
theorem d_9_coverOf_58 : zD prog_11_method_91_code 58 (.iload_n 3) 1 59 := ⟨by decide +kernel, rfl⟩
theorem d_9_coverOf_59 : zD prog_11_method_91_code 59 (.ireturn) 1 60 := ⟨by decide +kernel, rfl⟩
theorem d_9_fill_0 : zD prog_11_method_92_code 0 (.iload_n 1) 1 1 := ⟨by decide +kernel, rfl⟩
theorem d_9_fill_1 : zD prog_11_method_92_code 1 (.iconst 0) 1 2 := ⟨by decide +kernel, rfl⟩
theorem d_9_fill_2 : zD prog_11_method_92_code 2 (.iconst 1) 1 3 := ⟨by decide +kernel, rfl⟩
theorem d_9_fill_3 : zD prog_11_method_92_code 3 (.invokestatic 312) 3 6 := ⟨by decide +kernel, rfl⟩
theorem d_9_fill_6 : zD prog_11_method_92_code 6 (.ifCond .ne 5) 3 9 := ⟨by decide +kernel, rfl⟩
theorem d_9_fill_9 : zD prog_11_method_92_code 9 (.iconst (-1)) 1 10 := ⟨by decide +kernel, rfl⟩
theorem d_9_fill_10 : zD prog_11_method_92_code 10 (.ireturn) 1 11 := ⟨by decide +kernel, rfl⟩
theorem d_9_fill_11 : zD prog_11_method_92_code 11 (.aload_n 0) 1 12 := ⟨by decide +kernel, rfl⟩
theorem d_9_fill_12 : zD prog_11_method_92_code 12 (.invokevirtual 325) 3 15 := ⟨by decide +kernel, rfl⟩
theorem d_9_fill_15 : zD prog_11_method_92_code 15 (.aload_n 0) 1 16 := ⟨by decide +kernel, rfl⟩
theorem d_9_fill_16 : zD prog_11_method_92_code 16 (.aload_n 0) 1 17 := ⟨by decide +kernel, rfl⟩
theorem d_9_fill_17 : zD prog_11_method_92_code 17 (.iconst 0) 1 18 := ⟨by decide +kernel, rfl⟩
theorem d_9_fill_18 : zD prog_11_method_92_code 18 (.invokevirtual 358) 3 21 := ⟨by decide +kernel, rfl⟩
theorem d_9_fill_21 : zD prog_11_method_92_code 21 (.aload_n 0) 1 22 := ⟨by decide +kernel, rfl⟩
theorem d_9_fill_22 : zD prog_11_method_92_code 22 (.iconst 1) 1 23 := ⟨by decide +kernel, rfl⟩
theorem d_9_fill_23 : zD prog_11_method_92_code 23 (.invokevirtual 358) 3 26 := ⟨by decide +kernel, rfl⟩
theorem d_9_fill_26 : zD prog_11_method_92_code 26 (.invokevirtual 438) 3 29 := ⟨by decide +kernel, rfl⟩
theorem d_9_fill_29 : zD prog_11_method_92_code 29 (.istore_n 2) 1 30 := ⟨by decide +kernel, rfl⟩
theorem d_9_fill_30 : zD prog_11_method_92_code 30 (.iload_n 1) 1 31 := ⟨by decide +kernel, rfl⟩
theorem d_9_fill_31 : zD prog_11_method_92_code 31 (.ifCond .ne 10) 3 34 := ⟨by decide +kernel, rfl⟩
theorem d_9_fill_34 : zD prog_11_method_92_code 34 (.iload_n 2) 1 35 := ⟨by decide +kernel, rfl⟩
theorem d_9_fill_35 : zD prog_11_method_92_code 35 (.invokestatic 355) 3 38 := ⟨by decide +kernel, rfl⟩
theorem d_9_fill_38 : zD prog_11_method_92_code 38 (.goto 4) 3 41 := ⟨by decide +kernel, rfl⟩
theorem d_9_fill_41 : zD prog_11_method_92_code 41 (.iload_n 2) 1 42 := ⟨by decide +kernel, rfl⟩
theorem d_9_fill_42 : zD prog_11_method_92_code 42 (.ireturn) 1 43 := ⟨by decide +kernel, rfl⟩
theorem d_9_agents_0 : zD prog_11_method_93_code 0 (.iload_n 1) 1 1 := ⟨by decide +kernel, rfl⟩
theorem d_9_agents_1 : zD prog_11_method_93_code 1 (.iconst 0) 1 2 := ⟨by decide +kernel, rfl⟩
theorem d_9_agents_2 : zD prog_11_method_93_code 2 (.iconst 1) 1 3 := ⟨by decide +kernel, rfl⟩
theorem d_9_agents_3 : zD prog_11_method_93_code 3 (.invokestatic 312) 3 6 := ⟨by decide +kernel, rfl⟩
theorem d_9_agents_6 : zD prog_11_method_93_code 6 (.ifCond .ne 5) 3 9 := ⟨by decide +kernel, rfl⟩
theorem d_9_agents_9 : zD prog_11_method_93_code 9 (.iconst (-1)) 1 10 := ⟨by decide +kernel, rfl⟩
theorem d_9_agents_10 : zD prog_11_method_93_code 10 (.ireturn) 1 11 := ⟨by decide +kernel, rfl⟩
theorem d_9_agents_11 : zD prog_11_method_93_code 11 (.aload_n 0) 1 12 := ⟨by decide +kernel, rfl⟩
theorem d_9_agents_12 : zD prog_11_method_93_code 12 (.invokevirtual 325) 3 15 := ⟨by decide +kernel, rfl⟩
theorem d_9_agents_15 : zD prog_11_method_93_code 15 (.aload_n 0) 1 16 := ⟨by decide +kernel, rfl⟩
theorem d_9_agents_16 : zD prog_11_method_93_code 16 (.aload_n 0) 1 17 := ⟨by decide +kernel, rfl⟩
theorem d_9_agents_17 : zD prog_11_method_93_code 17 (.invokevirtual 432) 3 20 := ⟨by decide +kernel, rfl⟩
theorem d_9_agents_20 : zD prog_11_method_93_code 20 (.iconst 0) 1 21 := ⟨by decide +kernel, rfl⟩
theorem d_9_agents_21 : zD prog_11_method_93_code 21 (.invokevirtual 438) 3 24 := ⟨by decide +kernel, rfl⟩
theorem d_9_agents_24 : zD prog_11_method_93_code 24 (.istore_n 2) 1 25 := ⟨by decide +kernel, rfl⟩
theorem d_9_agents_25 : zD prog_11_method_93_code 25 (.iload_n 1) 1 26 := ⟨by decide +kernel, rfl⟩
theorem d_9_agents_26 : zD prog_11_method_93_code 26 (.ifCond .ne 10) 3 29 := ⟨by decide +kernel, rfl⟩
theorem d_9_agents_29 : zD prog_11_method_93_code 29 (.iload_n 2) 1 30 := ⟨by decide +kernel, rfl⟩
theorem d_9_agents_30 : zD prog_11_method_93_code 30 (.invokestatic 355) 3 33 := ⟨by decide +kernel, rfl⟩
theorem d_9_agents_33 : zD prog_11_method_93_code 33 (.goto 4) 3 36 := ⟨by decide +kernel, rfl⟩
theorem d_9_agents_36 : zD prog_11_method_93_code 36 (.iload_n 2) 1 37 := ⟨by decide +kernel, rfl⟩
theorem d_9_agents_37 : zD prog_11_method_93_code 37 (.ireturn) 1 38 := ⟨by decide +kernel, rfl⟩
theorem d_9_richest_0 : zD prog_11_method_94_code 0 (.iload_n 1) 1 1 := ⟨by decide +kernel, rfl⟩
theorem d_9_richest_1 : zD prog_11_method_94_code 1 (.iconst 0) 1 2 := ⟨by decide +kernel, rfl⟩
theorem d_9_richest_2 : zD prog_11_method_94_code 2 (.iconst 1) 1 3 := ⟨by decide +kernel, rfl⟩
theorem d_9_richest_3 : zD prog_11_method_94_code 3 (.invokestatic 312) 3 6 := ⟨by decide +kernel, rfl⟩
theorem d_9_richest_6 : zD prog_11_method_94_code 6 (.ifCond .ne 5) 3 9 := ⟨by decide +kernel, rfl⟩
theorem d_9_richest_9 : zD prog_11_method_94_code 9 (.iconst (-1)) 1 10 := ⟨by decide +kernel, rfl⟩
theorem d_9_richest_10 : zD prog_11_method_94_code 10 (.ireturn) 1 11 := ⟨by decide +kernel, rfl⟩
theorem d_9_richest_11 : zD prog_11_method_94_code 11 (.bipush (-2)) 2 13 := ⟨by decide +kernel, rfl⟩
theorem d_9_richest_13 : zD prog_11_method_94_code 13 (.istore_n 2) 1 14 := ⟨by decide +kernel, rfl⟩
theorem d_9_richest_14 : zD prog_11_method_94_code 14 (.iconst 0) 1 15 := ⟨by decide +kernel, rfl⟩
theorem d_9_richest_15 : zD prog_11_method_94_code 15 (.istore_n 3) 1 16 := ⟨by decide +kernel, rfl⟩
theorem d_9_richest_16 : zD prog_11_method_94_code 16 (.iload_n 3) 1 17 := ⟨by decide +kernel, rfl⟩
theorem d_9_richest_17 : zD prog_11_method_94_code 17 (.aload_n 0) 1 18 := ⟨by decide +kernel, rfl⟩
theorem d_9_richest_18 : zD prog_11_method_94_code 18 (.getfield 55) 3 21 := ⟨by decide +kernel, rfl⟩
theorem d_9_richest_21 : zD prog_11_method_94_code 21 (.aload_n 0) 1 22 := ⟨by decide +kernel, rfl⟩
theorem d_9_richest_22 : zD prog_11_method_94_code 22 (.getfield 233) 3 25 := ⟨by decide +kernel, rfl⟩
theorem d_9_richest_25 : zD prog_11_method_94_code 25 (.iaload) 1 26 := ⟨by decide +kernel, rfl⟩
theorem d_9_richest_26 : zD prog_11_method_94_code 26 (.if_icmp .ge 36) 3 29 := ⟨by decide +kernel, rfl⟩
theorem d_9_richest_29 : zD prog_11_method_94_code 29 (.iload_n 2) 1 30 := ⟨by decide +kernel, rfl⟩
theorem d_9_richest_30 : zD prog_11_method_94_code 30 (.ifCond .lt 24) 3 33 := ⟨by decide +kernel, rfl⟩
theorem d_9_richest_33 : zD prog_11_method_94_code 33 (.aload_n 0) 1 34 := ⟨by decide +kernel, rfl⟩
theorem d_9_richest_34 : zD prog_11_method_94_code 34 (.getfield 110) 3 37 := ⟨by decide +kernel, rfl⟩
theorem d_9_richest_37 : zD prog_11_method_94_code 37 (.bipush 14) 2 39 := ⟨by decide +kernel, rfl⟩
theorem d_9_richest_39 : zD prog_11_method_94_code 39 (.iload_n 3) 1 40 := ⟨by decide +kernel, rfl⟩
theorem d_9_richest_40 : zD prog_11_method_94_code 40 (.iadd) 1 41 := ⟨by decide +kernel, rfl⟩
theorem d_9_richest_41 : zD prog_11_method_94_code 41 (.iaload) 1 42 := ⟨by decide +kernel, rfl⟩
theorem d_9_richest_42 : zD prog_11_method_94_code 42 (.aload_n 0) 1 43 := ⟨by decide +kernel, rfl⟩
theorem d_9_richest_43 : zD prog_11_method_94_code 43 (.getfield 110) 3 46 := ⟨by decide +kernel, rfl⟩
theorem d_9_richest_46 : zD prog_11_method_94_code 46 (.bipush 14) 2 48 := ⟨by decide +kernel, rfl⟩
theorem d_9_richest_48 : zD prog_11_method_94_code 48 (.iload_n 2) 1 49 := ⟨by decide +kernel, rfl⟩
theorem d_9_richest_49 : zD prog_11_method_94_code 49 (.iadd) 1 50 := ⟨by decide +kernel, rfl⟩
theorem d_9_richest_50 : zD prog_11_method_94_code 50 (.iaload) 1 51 := ⟨by decide +kernel, rfl⟩
theorem d_9_richest_51 : zD prog_11_method_94_code 51 (.if_icmp .le 5) 3 54 := ⟨by decide +kernel, rfl⟩
theorem d_9_richest_54 : zD prog_11_method_94_code 54 (.iload_n 3) 1 55 := ⟨by decide +kernel, rfl⟩
theorem d_9_richest_55 : zD prog_11_method_94_code 55 (.istore_n 2) 1 56 := ⟨by decide +kernel, rfl⟩
theorem d_9_richest_56 : zD prog_11_method_94_code 56 (.iinc 3 1) 3 59 := ⟨by decide +kernel, rfl⟩
theorem d_9_richest_59 : zD prog_11_method_94_code 59 (.goto (-43)) 3 62 := ⟨by decide +kernel, rfl⟩
theorem d_9_richest_62 : zD prog_11_method_94_code 62 (.iload_n 2) 1 63 := ⟨by decide +kernel, rfl⟩
theorem d_9_richest_63 : zD prog_11_method_94_code 63 (.ifCond .lt 7) 3 66 := ⟨by decide +kernel, rfl⟩
theorem d_9_richest_66 : zD prog_11_method_94_code 66 (.iload_n 1) 1 67 := ⟨by decide +kernel, rfl⟩
theorem d_9_richest_67 : zD prog_11_method_94_code 67 (.ifCond .ne 7) 3 70 := ⟨by decide +kernel, rfl⟩
theorem d_9_richest_70 : zD prog_11_method_94_code 70 (.iload_n 2) 1 71 := ⟨by decide +kernel, rfl⟩
theorem d_9_richest_71 : zD prog_11_method_94_code 71 (.goto 12) 3 74 := ⟨by decide +kernel, rfl⟩
theorem d_9_richest_74 : zD prog_11_method_94_code 74 (.aload_n 0) 1 75 := ⟨by decide +kernel, rfl⟩
theorem d_9_richest_75 : zD prog_11_method_94_code 75 (.getfield 110) 3 78 := ⟨by decide +kernel, rfl⟩
theorem d_9_richest_78 : zD prog_11_method_94_code 78 (.bipush 14) 2 80 := ⟨by decide +kernel, rfl⟩
theorem d_9_richest_80 : zD prog_11_method_94_code 80 (.iload_n 2) 1 81 := ⟨by decide +kernel, rfl⟩
theorem d_9_richest_81 : zD prog_11_method_94_code 81 (.iadd) 1 82 := ⟨by decide +kernel, rfl⟩
theorem d_9_richest_82 : zD prog_11_method_94_code 82 (.iaload) 1 83 := ⟨by decide +kernel, rfl⟩
theorem d_9_richest_83 : zD prog_11_method_94_code 83 (.ireturn) 1 84 := ⟨by decide +kernel, rfl⟩
theorem d_9_eldest_0 : zD prog_11_method_95_code 0 (.iload_n 1) 1 1 := ⟨by decide +kernel, rfl⟩
theorem d_9_eldest_1 : zD prog_11_method_95_code 1 (.iconst 0) 1 2 := ⟨by decide +kernel, rfl⟩
theorem d_9_eldest_2 : zD prog_11_method_95_code 2 (.iconst 1) 1 3 := ⟨by decide +kernel, rfl⟩
theorem d_9_eldest_3 : zD prog_11_method_95_code 3 (.invokestatic 312) 3 6 := ⟨by decide +kernel, rfl⟩
theorem d_9_eldest_6 : zD prog_11_method_95_code 6 (.ifCond .ne 5) 3 9 := ⟨by decide +kernel, rfl⟩
theorem d_9_eldest_9 : zD prog_11_method_95_code 9 (.iconst (-1)) 1 10 := ⟨by decide +kernel, rfl⟩
theorem d_9_eldest_10 : zD prog_11_method_95_code 10 (.ireturn) 1 11 := ⟨by decide +kernel, rfl⟩
theorem d_9_eldest_11 : zD prog_11_method_95_code 11 (.aload_n 0) 1 12 := ⟨by decide +kernel, rfl⟩
theorem d_9_eldest_12 : zD prog_11_method_95_code 12 (.invokevirtual 325) 3 15 := ⟨by decide +kernel, rfl⟩
theorem d_9_eldest_15 : zD prog_11_method_95_code 15 (.bipush (-2)) 2 17 := ⟨by decide +kernel, rfl⟩
theorem d_9_eldest_17 : zD prog_11_method_95_code 17 (.istore_n 2) 1 18 := ⟨by decide +kernel, rfl⟩
theorem d_9_eldest_18 : zD prog_11_method_95_code 18 (.iconst 0) 1 19 := ⟨by decide +kernel, rfl⟩
theorem d_9_eldest_19 : zD prog_11_method_95_code 19 (.istore_n 3) 1 20 := ⟨by decide +kernel, rfl⟩
theorem d_9_eldest_20 : zD prog_11_method_95_code 20 (.iload_n 3) 1 21 := ⟨by decide +kernel, rfl⟩
theorem d_9_eldest_21 : zD prog_11_method_95_code 21 (.aload_n 0) 1 22 := ⟨by decide +kernel, rfl⟩
theorem d_9_eldest_22 : zD prog_11_method_95_code 22 (.getfield 55) 3 25 := ⟨by decide +kernel, rfl⟩
theorem d_9_eldest_25 : zD prog_11_method_95_code 25 (.aload_n 0) 1 26 := ⟨by decide +kernel, rfl⟩
theorem d_9_eldest_26 : zD prog_11_method_95_code 26 (.getfield 233) 3 29 := ⟨by decide +kernel, rfl⟩
theorem d_9_eldest_29 : zD prog_11_method_95_code 29 (.iaload) 1 30 := ⟨by decide +kernel, rfl⟩
theorem d_9_eldest_30 : zD prog_11_method_95_code 30 (.if_icmp .ge 38) 3 33 := ⟨by decide +kernel, rfl⟩
theorem d_9_eldest_33 : zD prog_11_method_95_code 33 (.aload_n 0) 1 34 := ⟨by decide +kernel, rfl⟩
theorem d_9_eldest_34 : zD prog_11_method_95_code 34 (.getfield 113) 3 37 := ⟨by decide +kernel, rfl⟩
theorem d_9_eldest_37 : zD prog_11_method_95_code 37 (.iload_n 3) 1 38 := ⟨by decide +kernel, rfl⟩
theorem d_9_eldest_38 : zD prog_11_method_95_code 38 (.iaload) 1 39 := ⟨by decide +kernel, rfl⟩
theorem d_9_eldest_39 : zD prog_11_method_95_code 39 (.iconst 2) 1 40 := ⟨by decide +kernel, rfl⟩
theorem d_9_eldest_40 : zD prog_11_method_95_code 40 (.if_icmp .eq 22) 3 43 := ⟨by decide +kernel, rfl⟩
theorem d_9_eldest_43 : zD prog_11_method_95_code 43 (.iload_n 2) 1 44 := ⟨by decide +kernel, rfl⟩
theorem d_9_eldest_44 : zD prog_11_method_95_code 44 (.ifCond .lt 16) 3 47 := ⟨by decide +kernel, rfl⟩
theorem d_9_eldest_47 : zD prog_11_method_95_code 47 (.aload_n 0) 1 48 := ⟨by decide +kernel, rfl⟩
theorem d_9_eldest_48 : zD prog_11_method_95_code 48 (.iload_n 3) 1 49 := ⟨by decide +kernel, rfl⟩
theorem d_9_eldest_49 : zD prog_11_method_95_code 49 (.invokevirtual 349) 3 52 := ⟨by decide +kernel, rfl⟩
theorem d_9_eldest_52 : zD prog_11_method_95_code 52 (.aload_n 0) 1 53 := ⟨by decide +kernel, rfl⟩
theorem d_9_eldest_53 : zD prog_11_method_95_code 53 (.iload_n 2) 1 54 := ⟨by decide +kernel, rfl⟩
theorem d_9_eldest_54 : zD prog_11_method_95_code 54 (.invokevirtual 349) 3 57 := ⟨by decide +kernel, rfl⟩
theorem d_9_eldest_57 : zD prog_11_method_95_code 57 (.if_icmp .le 5) 3 60 := ⟨by decide +kernel, rfl⟩
theorem d_9_eldest_60 : zD prog_11_method_95_code 60 (.iload_n 3) 1 61 := ⟨by decide +kernel, rfl⟩
theorem d_9_eldest_61 : zD prog_11_method_95_code 61 (.istore_n 2) 1 62 := ⟨by decide +kernel, rfl⟩
theorem d_9_eldest_62 : zD prog_11_method_95_code 62 (.iinc 3 1) 3 65 := ⟨by decide +kernel, rfl⟩
theorem d_9_eldest_65 : zD prog_11_method_95_code 65 (.goto (-45)) 3 68 := ⟨by decide +kernel, rfl⟩
theorem d_9_eldest_68 : zD prog_11_method_95_code 68 (.iload_n 2) 1 69 := ⟨by decide +kernel, rfl⟩
theorem d_9_eldest_69 : zD prog_11_method_95_code 69 (.ifCond .lt 7) 3 72 := ⟨by decide +kernel, rfl⟩
theorem d_9_eldest_72 : zD prog_11_method_95_code 72 (.iload_n 1) 1 73 := ⟨by decide +kernel, rfl⟩
theorem d_9_eldest_73 : zD prog_11_method_95_code 73 (.ifCond .ne 7) 3 76 := ⟨by decide +kernel, rfl⟩
theorem d_9_eldest_76 : zD prog_11_method_95_code 76 (.iload_n 2) 1 77 := ⟨by decide +kernel, rfl⟩
theorem d_9_eldest_77 : zD prog_11_method_95_code 77 (.goto 8) 3 80 := ⟨by decide +kernel, rfl⟩
theorem d_9_eldest_80 : zD prog_11_method_95_code 80 (.aload_n 0) 1 81 := ⟨by decide +kernel, rfl⟩
theorem d_9_eldest_81 : zD prog_11_method_95_code 81 (.iload_n 2) 1 82 := ⟨by decide +kernel, rfl⟩
theorem d_9_eldest_82 : zD prog_11_method_95_code 82 (.invokevirtual 349) 3 85 := ⟨by decide +kernel, rfl⟩
theorem d_9_eldest_85 : zD prog_11_method_95_code 85 (.ireturn) 1 86 := ⟨by decide +kernel, rfl⟩
theorem d_9_mayHave_0 : zD prog_11_method_96_code 0 (.aload_n 0) 1 1 := ⟨by decide +kernel, rfl⟩
theorem d_9_mayHave_1 : zD prog_11_method_96_code 1 (.getfield 113) 3 4 := ⟨by decide +kernel, rfl⟩
theorem d_9_mayHave_4 : zD prog_11_method_96_code 4 (.iload_n 1) 1 5 := ⟨by decide +kernel, rfl⟩
theorem d_9_mayHave_5 : zD prog_11_method_96_code 5 (.iaload) 1 6 := ⟨by decide +kernel, rfl⟩
theorem d_9_mayHave_6 : zD prog_11_method_96_code 6 (.iconst 1) 1 7 := ⟨by decide +kernel, rfl⟩
theorem d_9_mayHave_7 : zD prog_11_method_96_code 7 (.if_icmp .ne 24) 3 10 := ⟨by decide +kernel, rfl⟩
theorem d_9_mayHave_10 : zD prog_11_method_96_code 10 (.aload_n 0) 1 11 := ⟨by decide +kernel, rfl⟩
theorem d_9_mayHave_11 : zD prog_11_method_96_code 11 (.iload_n 1) 1 12 := ⟨by decide +kernel, rfl⟩
theorem d_9_mayHave_12 : zD prog_11_method_96_code 12 (.iload_n 2) 1 13 := ⟨by decide +kernel, rfl⟩
theorem d_9_mayHave_13 : zD prog_11_method_96_code 13 (.invokevirtual 333) 3 16 := ⟨by decide +kernel, rfl⟩
theorem d_9_mayHave_16 : zD prog_11_method_96_code 16 (.ifCond .eq 15) 3 19 := ⟨by decide +kernel, rfl⟩
theorem d_9_mayHave_19 : zD prog_11_method_96_code 19 (.iload_n 3) 1 20 := ⟨by decide +kernel, rfl⟩
theorem d_9_mayHave_20 : zD prog_11_method_96_code 20 (.iload_n 1) 1 21 := ⟨by decide +kernel, rfl⟩
theorem d_9_mayHave_21 : zD prog_11_method_96_code 21 (.ishr) 1 22 := ⟨by decide +kernel, rfl⟩
theorem d_9_mayHave_22 : zD prog_11_method_96_code 22 (.iconst 1) 1 23 := ⟨by decide +kernel, rfl⟩
theorem d_9_mayHave_23 : zD prog_11_method_96_code 23 (.iand) 1 24 := ⟨by decide +kernel, rfl⟩
theorem d_9_mayHave_24 : zD prog_11_method_96_code 24 (.ifCond .ne 7) 3 27 := ⟨by decide +kernel, rfl⟩
theorem d_9_mayHave_27 : zD prog_11_method_96_code 27 (.iconst 1) 1 28 := ⟨by decide +kernel, rfl⟩
theorem d_9_mayHave_28 : zD prog_11_method_96_code 28 (.goto 4) 3 31 := ⟨by decide +kernel, rfl⟩
theorem d_9_mayHave_31 : zD prog_11_method_96_code 31 (.iconst 0) 1 32 := ⟨by decide +kernel, rfl⟩
theorem d_9_mayHave_32 : zD prog_11_method_96_code 32 (.ireturn) 1 33 := ⟨by decide +kernel, rfl⟩
theorem d_9_lordsWith_0 : zD prog_11_method_97_code 0 (.iconst 1) 1 1 := ⟨by decide +kernel, rfl⟩
theorem d_9_lordsWith_1 : zD prog_11_method_97_code 1 (.aload_n 0) 1 2 := ⟨by decide +kernel, rfl⟩
theorem d_9_lordsWith_2 : zD prog_11_method_97_code 2 (.getfield 128) 3 5 := ⟨by decide +kernel, rfl⟩
theorem d_9_lordsWith_5 : zD prog_11_method_97_code 5 (.sipush 128) 3 8 := ⟨by decide +kernel, rfl⟩
theorem d_9_lordsWith_8 : zD prog_11_method_97_code 8 (.iload_n 1) 1 9 := ⟨by decide +kernel, rfl⟩
theorem d_9_lordsWith_9 : zD prog_11_method_97_code 9 (.imul) 1 10 := ⟨by decide +kernel, rfl⟩
theorem d_9_lordsWith_10 : zD prog_11_method_97_code 10 (.sipush 128) 3 13 := ⟨by decide +kernel, rfl⟩
theorem d_9_lordsWith_13 : zD prog_11_method_97_code 13 (.iadd) 1 14 := ⟨by decide +kernel, rfl⟩
theorem d_9_lordsWith_14 : zD prog_11_method_97_code 14 (.iload_n 3) 1 15 := ⟨by decide +kernel, rfl⟩
theorem d_9_lordsWith_15 : zD prog_11_method_97_code 15 (.iconst 1) 1 16 := ⟨by decide +kernel, rfl⟩
theorem d_9_lordsWith_16 : zD prog_11_method_97_code 16 (.iload_n 2) 1 17 := ⟨by decide +kernel, rfl⟩
theorem d_9_lordsWith_17 : zD prog_11_method_97_code 17 (.ishl) 1 18 := ⟨by decide +kernel, rfl⟩
theorem d_9_lordsWith_18 : zD prog_11_method_97_code 18 (.ior) 1 19 := ⟨by decide +kernel, rfl⟩
theorem d_9_lordsWith_19 : zD prog_11_method_97_code 19 (.iadd) 1 20 := ⟨by decide +kernel, rfl⟩
theorem d_9_lordsWith_20 : zD prog_11_method_97_code 20 (.iaload) 1 21 := ⟨by decide +kernel, rfl⟩
theorem d_9_lordsWith_21 : zD prog_11_method_97_code 21 (.iadd) 1 22 := ⟨by decide +kernel, rfl⟩
theorem d_9_lordsWith_22 : zD prog_11_method_97_code 22 (.ireturn) 1 23 := ⟨by decide +kernel, rfl⟩
theorem d_9_fillsLords_0 : zD prog_11_method_98_code 0 (.aload_n 0) 1 1 := ⟨by decide +kernel, rfl⟩
theorem d_9_fillsLords_1 : zD prog_11_method_98_code 1 (.invokevirtual 325) 3 4 := ⟨by decide +kernel, rfl⟩
theorem d_9_fillsLords_4 : zD prog_11_method_98_code 4 (.aload_n 0) 1 5 := ⟨by decide +kernel, rfl⟩
theorem d_9_fillsLords_5 : zD prog_11_method_98_code 5 (.getfield 46) 3 8 := ⟨by decide +kernel, rfl⟩
theorem d_9_fillsLords_8 : zD prog_11_method_98_code 8 (.aload_n 0) 1 9 := ⟨by decide +kernel, rfl⟩
theorem d_9_fillsLords_9 : zD prog_11_method_98_code 9 (.getfield 233) 3 12 := ⟨by decide +kernel, rfl⟩
theorem d_9_fillsLords_12 : zD prog_11_method_98_code 12 (.iaload) 1 13 := ⟨by decide +kernel, rfl⟩
theorem d_9_fillsLords_13 : zD prog_11_method_98_code 13 (.istore_n 1) 1 14 := ⟨by decide +kernel, rfl⟩
theorem d_9_fillsLords_14 : zD prog_11_method_98_code 14 (.iconst 0) 1 15 := ⟨by decide +kernel, rfl⟩
theorem d_9_fillsLords_15 : zD prog_11_method_98_code 15 (.istore_n 2) 1 16 := ⟨by decide +kernel, rfl⟩
theorem d_9_fillsLords_16 : zD prog_11_method_98_code 16 (.iload_n 2) 1 17 := ⟨by decide +kernel, rfl⟩
theorem d_9_fillsLords_17 : zD prog_11_method_98_code 17 (.sipush 128) 3 20 := ⟨by decide +kernel, rfl⟩
theorem d_9_fillsLords_20 : zD prog_11_method_98_code 20 (.if_icmp .ge 22) 3 23 := ⟨by decide +kernel, rfl⟩
theorem d_9_fillsLords_23 : zD prog_11_method_98_code 23 (.aload_n 0) 1 24 := ⟨by decide +kernel, rfl⟩
theorem d_9_fillsLords_24 : zD prog_11_method_98_code 24 (.getfield 128) 3 27 := ⟨by decide +kernel, rfl⟩
theorem d_9_fillsLords_27 : zD prog_11_method_98_code 27 (.sipush 128) 3 30 := ⟨by decide +kernel, rfl⟩
theorem d_9_fillsLords_30 : zD prog_11_method_98_code 30 (.iload_n 1) 1 31 := ⟨by decide +kernel, rfl⟩
theorem d_9_fillsLords_31 : zD prog_11_method_98_code 31 (.imul) 1 32 := ⟨by decide +kernel, rfl⟩
theorem d_9_fillsLords_32 : zD prog_11_method_98_code 32 (.iload_n 2) 1 33 := ⟨by decide +kernel, rfl⟩
theorem d_9_fillsLords_33 : zD prog_11_method_98_code 33 (.iadd) 1 34 := ⟨by decide +kernel, rfl⟩
theorem d_9_fillsLords_34 : zD prog_11_method_98_code 34 (.iconst 0) 1 35 := ⟨by decide +kernel, rfl⟩
theorem d_9_fillsLords_35 : zD prog_11_method_98_code 35 (.iastore) 1 36 := ⟨by decide +kernel, rfl⟩
theorem d_9_fillsLords_36 : zD prog_11_method_98_code 36 (.iinc 2 1) 3 39 := ⟨by decide +kernel, rfl⟩
theorem d_9_fillsLords_39 : zD prog_11_method_98_code 39 (.goto (-23)) 3 42 := ⟨by decide +kernel, rfl⟩
theorem d_9_fillsLords_42 : zD prog_11_method_98_code 42 (.iload_n 1) 1 43 := ⟨by decide +kernel, rfl⟩
theorem d_9_fillsLords_43 : zD prog_11_method_98_code 43 (.iconst 1) 1 44 := ⟨by decide +kernel, rfl⟩
theorem d_9_fillsLords_44 : zD prog_11_method_98_code 44 (.isub) 1 45 := ⟨by decide +kernel, rfl⟩
theorem d_9_fillsLords_45 : zD prog_11_method_98_code 45 (.istore_n 2) 1 46 := ⟨by decide +kernel, rfl⟩
theorem d_9_fillsLords_46 : zD prog_11_method_98_code 46 (.iload_n 2) 1 47 := ⟨by decide +kernel, rfl⟩
theorem d_9_fillsLords_47 : zD prog_11_method_98_code 47 (.ifCond .lt 113) 3 50 := ⟨by decide +kernel, rfl⟩
theorem d_9_fillsLords_50 : zD prog_11_method_98_code 50 (.iconst 0) 1 51 := ⟨by decide +kernel, rfl⟩
theorem d_9_fillsLords_51 : zD prog_11_method_98_code 51 (.istore_n 3) 1 52 := ⟨by decide +kernel, rfl⟩
theorem d_9_fillsLords_52 : zD prog_11_method_98_code 52 (.iload_n 3) 1 53 := ⟨by decide +kernel, rfl⟩
theorem d_9_fillsLords_53 : zD prog_11_method_98_code 53 (.sipush 128) 3 56 := ⟨by decide +kernel, rfl⟩
theorem d_9_fillsLords_56 : zD prog_11_method_98_code 56 (.if_icmp .ge 98) 3 59 := ⟨by decide +kernel, rfl⟩
theorem d_9_fillsLords_59 : zD prog_11_method_98_code 59 (.aload_n 0) 1 60 := ⟨by decide +kernel, rfl⟩
theorem d_9_fillsLords_60 : zD prog_11_method_98_code 60 (.getfield 128) 3 63 := ⟨by decide +kernel, rfl⟩
theorem d_9_fillsLords_63 : zD prog_11_method_98_code 63 (.sipush 128) 3 66 := ⟨by decide +kernel, rfl⟩
theorem d_9_fillsLords_66 : zD prog_11_method_98_code 66 (.iload_n 2) 1 67 := ⟨by decide +kernel, rfl⟩
theorem d_9_fillsLords_67 : zD prog_11_method_98_code 67 (.imul) 1 68 := ⟨by decide +kernel, rfl⟩
theorem d_9_fillsLords_68 : zD prog_11_method_98_code 68 (.sipush 128) 3 71 := ⟨by decide +kernel, rfl⟩
theorem d_9_fillsLords_71 : zD prog_11_method_98_code 71 (.iadd) 1 72 := ⟨by decide +kernel, rfl⟩
theorem d_9_fillsLords_72 : zD prog_11_method_98_code 72 (.iload_n 3) 1 73 := ⟨by decide +kernel, rfl⟩
theorem d_9_fillsLords_73 : zD prog_11_method_98_code 73 (.iadd) 1 74 := ⟨by decide +kernel, rfl⟩
theorem d_9_fillsLords_74 : zD prog_11_method_98_code 74 (.iaload) 1 75 := ⟨by decide +kernel, rfl⟩
theorem d_9_fillsLords_75 : zD prog_11_method_98_code 75 (.istore 4) 2 77 := ⟨by decide +kernel, rfl⟩
theorem d_9_fillsLords_77 : zD prog_11_method_98_code 77 (.iconst 0) 1 78 := ⟨by decide +kernel, rfl⟩
theorem d_9_fillsLords_78 : zD prog_11_method_98_code 78 (.istore 5) 2 80 := ⟨by decide +kernel, rfl⟩
theorem d_9_fillsLords_80 : zD prog_11_method_98_code 80 (.iload 5) 2 82 := ⟨by decide +kernel, rfl⟩
theorem d_9_fillsLords_82 : zD prog_11_method_98_code 82 (.aload_n 0) 1 83 := ⟨by decide +kernel, rfl⟩
theorem d_9_fillsLords_83 : zD prog_11_method_98_code 83 (.getfield 55) 3 86 := ⟨by decide +kernel, rfl⟩
theorem d_9_fillsLords_86 : zD prog_11_method_98_code 86 (.aload_n 0) 1 87 := ⟨by decide +kernel, rfl⟩
theorem d_9_fillsLords_87 : zD prog_11_method_98_code 87 (.getfield 233) 3 90 := ⟨by decide +kernel, rfl⟩
theorem d_9_fillsLords_90 : zD prog_11_method_98_code 90 (.iaload) 1 91 := ⟨by decide +kernel, rfl⟩
theorem d_9_fillsLords_91 : zD prog_11_method_98_code 91 (.if_icmp .ge 43) 3 94 := ⟨by decide +kernel, rfl⟩
theorem d_9_fillsLords_94 : zD prog_11_method_98_code 94 (.aload_n 0) 1 95 := ⟨by decide +kernel, rfl⟩
theorem d_9_fillsLords_95 : zD prog_11_method_98_code 95 (.iload 5) 2 97 := ⟨by decide +kernel, rfl⟩
theorem d_9_fillsLords_97 : zD prog_11_method_98_code 97 (.iload_n 2) 1 98 := ⟨by decide +kernel, rfl⟩
theorem d_9_fillsLords_98 : zD prog_11_method_98_code 98 (.iload_n 3) 1 99 := ⟨by decide +kernel, rfl⟩
theorem d_9_fillsLords_99 : zD prog_11_method_98_code 99 (.invokevirtual 441) 3 102 := ⟨by decide +kernel, rfl⟩
theorem d_9_fillsLords_102 : zD prog_11_method_98_code 102 (.ifCond .eq 26) 3 105 := ⟨by decide +kernel, rfl⟩
theorem d_9_fillsLords_105 : zD prog_11_method_98_code 105 (.aload_n 0) 1 106 := ⟨by decide +kernel, rfl⟩
theorem d_9_fillsLords_106 : zD prog_11_method_98_code 106 (.iload_n 2) 1 107 := ⟨by decide +kernel, rfl⟩
theorem d_9_fillsLords_107 : zD prog_11_method_98_code 107 (.iload 5) 2 109 := ⟨by decide +kernel, rfl⟩
theorem d_9_fillsLords_109 : zD prog_11_method_98_code 109 (.iload_n 3) 1 110 := ⟨by decide +kernel, rfl⟩
theorem d_9_fillsLords_110 : zD prog_11_method_98_code 110 (.invokevirtual 444) 3 113 := ⟨by decide +kernel, rfl⟩
theorem d_9_fillsLords_113 : zD prog_11_method_98_code 113 (.iload 4) 2 115 := ⟨by decide +kernel, rfl⟩
theorem d_9_fillsLords_115 : zD prog_11_method_98_code 115 (.if_icmp .le 13) 3 118 := ⟨by decide +kernel, rfl⟩
theorem d_9_fillsLords_118 : zD prog_11_method_98_code 118 (.aload_n 0) 1 119 := ⟨by decide +kernel, rfl⟩
theorem d_9_fillsLords_119 : zD prog_11_method_98_code 119 (.iload_n 2) 1 120 := ⟨by decide +kernel, rfl⟩
theorem d_9_fillsLords_120 : zD prog_11_method_98_code 120 (.iload 5) 2 122 := ⟨by decide +kernel, rfl⟩
theorem d_9_fillsLords_122 : zD prog_11_method_98_code 122 (.iload_n 3) 1 123 := ⟨by decide +kernel, rfl⟩
theorem d_9_fillsLords_123 : zD prog_11_method_98_code 123 (.invokevirtual 444) 3 126 := ⟨by decide +kernel, rfl⟩
theorem d_9_fillsLords_126 : zD prog_11_method_98_code 126 (.istore 4) 2 128 := ⟨by decide +kernel, rfl⟩
theorem d_9_fillsLords_128 : zD prog_11_method_98_code 128 (.iinc 5 1) 3 131 := ⟨by decide +kernel, rfl⟩
theorem d_9_fillsLords_131 : zD prog_11_method_98_code 131 (.goto (-51)) 3 134 := ⟨by decide +kernel, rfl⟩
theorem d_9_fillsLords_134 : zD prog_11_method_98_code 134 (.aload_n 0) 1 135 := ⟨by decide +kernel, rfl⟩
theorem d_9_fillsLords_135 : zD prog_11_method_98_code 135 (.getfield 128) 3 138 := ⟨by decide +kernel, rfl⟩
theorem d_9_fillsLords_138 : zD prog_11_method_98_code 138 (.sipush 128) 3 141 := ⟨by decide +kernel, rfl⟩
theorem d_9_fillsLords_141 : zD prog_11_method_98_code 141 (.iload_n 2) 1 142 := ⟨by decide +kernel, rfl⟩
theorem d_9_fillsLords_142 : zD prog_11_method_98_code 142 (.imul) 1 143 := ⟨by decide +kernel, rfl⟩
theorem d_9_fillsLords_143 : zD prog_11_method_98_code 143 (.iload_n 3) 1 144 := ⟨by decide +kernel, rfl⟩
theorem d_9_fillsLords_144 : zD prog_11_method_98_code 144 (.iadd) 1 145 := ⟨by decide +kernel, rfl⟩
theorem d_9_fillsLords_145 : zD prog_11_method_98_code 145 (.iload 4) 2 147 := ⟨by decide +kernel, rfl⟩
theorem d_9_fillsLords_147 : zD prog_11_method_98_code 147 (.iastore) 1 148 := ⟨by decide +kernel, rfl⟩
theorem d_9_fillsLords_148 : zD prog_11_method_98_code 148 (.iinc 3 1) 3 151 := ⟨by decide +kernel, rfl⟩
theorem d_9_fillsLords_151 : zD prog_11_method_98_code 151 (.goto (-99)) 3 154 := ⟨by decide +kernel, rfl⟩
theorem d_9_fillsLords_154 : zD prog_11_method_98_code 154 (.iinc 2 (-1)) 3 157 := ⟨by decide +kernel, rfl⟩
theorem d_9_fillsLords_157 : zD prog_11_method_98_code 157 (.goto (-111)) 3 160 := ⟨by decide +kernel, rfl⟩
theorem d_9_fillsLords_160 : zD prog_11_method_98_code 160 (.return_) 1 161 := ⟨by decide +kernel, rfl⟩
theorem d_9_lordFor_0 : zD prog_11_method_99_code 0 (.iconst 0) 1 1 := ⟨by decide +kernel, rfl⟩
theorem d_9_lordFor_1 : zD prog_11_method_99_code 1 (.istore_n 3) 1 2 := ⟨by decide +kernel, rfl⟩
theorem d_9_lordFor_2 : zD prog_11_method_99_code 2 (.iload_n 3) 1 3 := ⟨by decide +kernel, rfl⟩
theorem d_9_lordFor_3 : zD prog_11_method_99_code 3 (.aload_n 0) 1 4 := ⟨by decide +kernel, rfl⟩
theorem d_9_lordFor_4 : zD prog_11_method_99_code 4 (.getfield 55) 3 7 := ⟨by decide +kernel, rfl⟩
theorem d_9_lordFor_7 : zD prog_11_method_99_code 7 (.aload_n 0) 1 8 := ⟨by decide +kernel, rfl⟩
theorem d_9_lordFor_8 : zD prog_11_method_99_code 8 (.getfield 233) 3 11 := ⟨by decide +kernel, rfl⟩
theorem d_9_lordFor_11 : zD prog_11_method_99_code 11 (.iaload) 1 12 := ⟨by decide +kernel, rfl⟩
theorem d_9_lordFor_12 : zD prog_11_method_99_code 12 (.if_icmp .ge 43) 3 15 := ⟨by decide +kernel, rfl⟩
theorem d_9_lordFor_15 : zD prog_11_method_99_code 15 (.aload_n 0) 1 16 := ⟨by decide +kernel, rfl⟩
theorem d_9_lordFor_16 : zD prog_11_method_99_code 16 (.iload_n 3) 1 17 := ⟨by decide +kernel, rfl⟩
theorem d_9_lordFor_17 : zD prog_11_method_99_code 17 (.iload_n 1) 1 18 := ⟨by decide +kernel, rfl⟩
theorem d_9_lordFor_18 : zD prog_11_method_99_code 18 (.iload_n 2) 1 19 := ⟨by decide +kernel, rfl⟩
theorem d_9_lordFor_19 : zD prog_11_method_99_code 19 (.invokevirtual 441) 3 22 := ⟨by decide +kernel, rfl⟩
theorem d_9_lordFor_22 : zD prog_11_method_99_code 22 (.ifCond .eq 27) 3 25 := ⟨by decide +kernel, rfl⟩
theorem d_9_lordFor_25 : zD prog_11_method_99_code 25 (.aload_n 0) 1 26 := ⟨by decide +kernel, rfl⟩
theorem d_9_lordFor_26 : zD prog_11_method_99_code 26 (.iload_n 1) 1 27 := ⟨by decide +kernel, rfl⟩
theorem d_9_lordFor_27 : zD prog_11_method_99_code 27 (.iload_n 3) 1 28 := ⟨by decide +kernel, rfl⟩
theorem d_9_lordFor_28 : zD prog_11_method_99_code 28 (.iload_n 2) 1 29 := ⟨by decide +kernel, rfl⟩
theorem d_9_lordFor_29 : zD prog_11_method_99_code 29 (.invokevirtual 444) 3 32 := ⟨by decide +kernel, rfl⟩
theorem d_9_lordFor_32 : zD prog_11_method_99_code 32 (.aload_n 0) 1 33 := ⟨by decide +kernel, rfl⟩
theorem d_9_lordFor_33 : zD prog_11_method_99_code 33 (.getfield 128) 3 36 := ⟨by decide +kernel, rfl⟩
theorem d_9_lordFor_36 : zD prog_11_method_99_code 36 (.sipush 128) 3 39 := ⟨by decide +kernel, rfl⟩
theorem d_9_lordFor_39 : zD prog_11_method_99_code 39 (.iload_n 1) 1 40 := ⟨by decide +kernel, rfl⟩
theorem d_9_lordFor_40 : zD prog_11_method_99_code 40 (.imul) 1 41 := ⟨by decide +kernel, rfl⟩
theorem d_9_lordFor_41 : zD prog_11_method_99_code 41 (.iload_n 2) 1 42 := ⟨by decide +kernel, rfl⟩
theorem d_9_lordFor_42 : zD prog_11_method_99_code 42 (.iadd) 1 43 := ⟨by decide +kernel, rfl⟩
theorem d_9_lordFor_43 : zD prog_11_method_99_code 43 (.iaload) 1 44 := ⟨by decide +kernel, rfl⟩
theorem d_9_lordFor_44 : zD prog_11_method_99_code 44 (.if_icmp .ne 5) 3 47 := ⟨by decide +kernel, rfl⟩
theorem d_9_lordFor_47 : zD prog_11_method_99_code 47 (.iload_n 3) 1 48 := ⟨by decide +kernel, rfl⟩
theorem d_9_lordFor_48 : zD prog_11_method_99_code 48 (.ireturn) 1 49 := ⟨by decide +kernel, rfl⟩
theorem d_9_lordFor_49 : zD prog_11_method_99_code 49 (.iinc 3 1) 3 52 := ⟨by decide +kernel, rfl⟩
theorem d_9_lordFor_52 : zD prog_11_method_99_code 52 (.goto (-50)) 3 55 := ⟨by decide +kernel, rfl⟩
theorem d_9_lordFor_55 : zD prog_11_method_99_code 55 (.bipush (-2)) 2 57 := ⟨by decide +kernel, rfl⟩
theorem d_9_lordFor_57 : zD prog_11_method_99_code 57 (.ireturn) 1 58 := ⟨by decide +kernel, rfl⟩
theorem d_9_lords_0 : zD prog_11_method_100_code 0 (.iload_n 1) 1 1 := ⟨by decide +kernel, rfl⟩
theorem d_9_lords_1 : zD prog_11_method_100_code 1 (.iconst (-1)) 1 2 := ⟨by decide +kernel, rfl⟩
theorem d_9_lords_2 : zD prog_11_method_100_code 2 (.if_icmp .eq 13) 3 5 := ⟨by decide +kernel, rfl⟩
theorem d_9_lords_5 : zD prog_11_method_100_code 5 (.aload_n 0) 1 6 := ⟨by decide +kernel, rfl⟩
theorem d_9_lords_6 : zD prog_11_method_100_code 6 (.iload_n 1) 1 7 := ⟨by decide +kernel, rfl⟩
theorem d_9_lords_7 : zD prog_11_method_100_code 7 (.invokevirtual 391) 3 10 := ⟨by decide +kernel, rfl⟩
theorem d_9_lords_10 : zD prog_11_method_100_code 10 (.ifCond .ne 5) 3 13 := ⟨by decide +kernel, rfl⟩
theorem d_9_lords_13 : zD prog_11_method_100_code 13 (.iconst (-1)) 1 14 := ⟨by decide +kernel, rfl⟩
theorem d_9_lords_14 : zD prog_11_method_100_code 14 (.ireturn) 1 15 := ⟨by decide +kernel, rfl⟩
theorem d_9_lords_15 : zD prog_11_method_100_code 15 (.aload_n 0) 1 16 := ⟨by decide +kernel, rfl⟩
theorem d_9_lords_16 : zD prog_11_method_100_code 16 (.invokevirtual 447) 3 19 := ⟨by decide +kernel, rfl⟩
theorem d_9_lords_19 : zD prog_11_method_100_code 19 (.iload_n 1) 1 20 := ⟨by decide +kernel, rfl⟩
theorem d_9_lords_20 : zD prog_11_method_100_code 20 (.iconst (-1)) 1 21 := ⟨by decide +kernel, rfl⟩
theorem d_9_lords_21 : zD prog_11_method_100_code 21 (.if_icmp .ne 10) 3 24 := ⟨by decide +kernel, rfl⟩
theorem d_9_lords_24 : zD prog_11_method_100_code 24 (.aload_n 0) 1 25 := ⟨by decide +kernel, rfl⟩
theorem d_9_lords_25 : zD prog_11_method_100_code 25 (.getfield 128) 3 28 := ⟨by decide +kernel, rfl⟩
theorem d_9_lords_28 : zD prog_11_method_100_code 28 (.iconst 0) 1 29 := ⟨by decide +kernel, rfl⟩
theorem d_9_lords_29 : zD prog_11_method_100_code 29 (.iaload) 1 30 := ⟨by decide +kernel, rfl⟩
theorem d_9_lords_30 : zD prog_11_method_100_code 30 (.ireturn) 1 31 := ⟨by decide +kernel, rfl⟩
theorem d_9_lords_31 : zD prog_11_method_100_code 31 (.iconst 0) 1 32 := ⟨by decide +kernel, rfl⟩
theorem d_9_lords_32 : zD prog_11_method_100_code 32 (.istore_n 2) 1 33 := ⟨by decide +kernel, rfl⟩
theorem d_9_lords_33 : zD prog_11_method_100_code 33 (.iconst 0) 1 34 := ⟨by decide +kernel, rfl⟩
theorem d_9_lords_34 : zD prog_11_method_100_code 34 (.istore_n 3) 1 35 := ⟨by decide +kernel, rfl⟩
theorem d_9_lords_35 : zD prog_11_method_100_code 35 (.iload_n 3) 1 36 := ⟨by decide +kernel, rfl⟩
theorem d_9_lords_36 : zD prog_11_method_100_code 36 (.iload_n 1) 1 37 := ⟨by decide +kernel, rfl⟩
theorem d_9_lords_37 : zD prog_11_method_100_code 37 (.if_icmp .ge 29) 3 40 := ⟨by decide +kernel, rfl⟩
theorem d_9_lords_40 : zD prog_11_method_100_code 40 (.aload_n 0) 1 41 := ⟨by decide +kernel, rfl⟩
theorem d_9_lords_41 : zD prog_11_method_100_code 41 (.iload_n 3) 1 42 := ⟨by decide +kernel, rfl⟩
theorem d_9_lords_42 : zD prog_11_method_100_code 42 (.iload_n 2) 1 43 := ⟨by decide +kernel, rfl⟩
theorem d_9_lords_43 : zD prog_11_method_100_code 43 (.invokevirtual 450) 3 46 := ⟨by decide +kernel, rfl⟩
theorem d_9_lords_46 : zD prog_11_method_100_code 46 (.istore 4) 2 48 := ⟨by decide +kernel, rfl⟩
theorem d_9_lords_48 : zD prog_11_method_100_code 48 (.iload 4) 2 50 := ⟨by decide +kernel, rfl⟩
theorem d_9_lords_50 : zD prog_11_method_100_code 50 (.ifCond .lt 10) 3 53 := ⟨by decide +kernel, rfl⟩
theorem d_9_lords_53 : zD prog_11_method_100_code 53 (.iload_n 2) 1 54 := ⟨by decide +kernel, rfl⟩
theorem d_9_lords_54 : zD prog_11_method_100_code 54 (.iconst 1) 1 55 := ⟨by decide +kernel, rfl⟩
theorem d_9_lords_55 : zD prog_11_method_100_code 55 (.iload 4) 2 57 := ⟨by decide +kernel, rfl⟩
theorem d_9_lords_57 : zD prog_11_method_100_code 57 (.ishl) 1 58 := ⟨by decide +kernel, rfl⟩
theorem d_9_lords_58 : zD prog_11_method_100_code 58 (.ior) 1 59 := ⟨by decide +kernel, rfl⟩
theorem d_9_lords_59 : zD prog_11_method_100_code 59 (.istore_n 2) 1 60 := ⟨by decide +kernel, rfl⟩
theorem d_9_lords_60 : zD prog_11_method_100_code 60 (.iinc 3 1) 3 63 := ⟨by decide +kernel, rfl⟩
theorem d_9_lords_63 : zD prog_11_method_100_code 63 (.goto (-28)) 3 66 := ⟨by decide +kernel, rfl⟩
theorem d_9_lords_66 : zD prog_11_method_100_code 66 (.aload_n 0) 1 67 := ⟨by decide +kernel, rfl⟩
theorem d_9_lords_67 : zD prog_11_method_100_code 67 (.iload_n 1) 1 68 := ⟨by decide +kernel, rfl⟩
theorem d_9_lords_68 : zD prog_11_method_100_code 68 (.iload_n 2) 1 69 := ⟨by decide +kernel, rfl⟩
theorem d_9_lords_69 : zD prog_11_method_100_code 69 (.invokevirtual 450) 3 72 := ⟨by decide +kernel, rfl⟩
theorem d_9_lords_72 : zD prog_11_method_100_code 72 (.ireturn) 1 73 := ⟨by decide +kernel, rfl⟩
theorem d_9_bound_0 : zD prog_11_method_101_code 0 (.aload_n 0) 1 1 := ⟨by decide +kernel, rfl⟩
theorem d_9_bound_1 : zD prog_11_method_101_code 1 (.iload_n 1) 1 2 := ⟨by decide +kernel, rfl⟩
theorem d_9_bound_2 : zD prog_11_method_101_code 2 (.invokevirtual 316) 3 5 := ⟨by decide +kernel, rfl⟩
theorem d_9_bound_5 : zD prog_11_method_101_code 5 (.ifCond .eq 13) 3 8 := ⟨by decide +kernel, rfl⟩
theorem d_9_bound_8 : zD prog_11_method_101_code 8 (.aload_n 0) 1 9 := ⟨by decide +kernel, rfl⟩
theorem d_9_bound_9 : zD prog_11_method_101_code 9 (.getfield 110) 3 12 := ⟨by decide +kernel, rfl⟩
theorem d_9_bound_12 : zD prog_11_method_101_code 12 (.iload_n 1) 1 13 := ⟨by decide +kernel, rfl⟩
theorem d_9_bound_13 : zD prog_11_method_101_code 13 (.iaload) 1 14 := ⟨by decide +kernel, rfl⟩
theorem d_9_bound_14 : zD prog_11_method_101_code 14 (.iconst 2) 1 15 := ⟨by decide +kernel, rfl⟩
theorem d_9_bound_15 : zD prog_11_method_101_code 15 (.if_icmp .ne 5) 3 18 := ⟨by decide +kernel, rfl⟩
theorem d_9_bound_18 : zD prog_11_method_101_code 18 (.iconst (-1)) 1 19 := ⟨by decide +kernel, rfl⟩
theorem d_9_bound_19 : zD prog_11_method_101_code 19 (.ireturn) 1 20 := ⟨by decide +kernel, rfl⟩
theorem d_9_bound_20 : zD prog_11_method_101_code 20 (.aload_n 0) 1 21 := ⟨by decide +kernel, rfl⟩
theorem d_9_bound_21 : zD prog_11_method_101_code 21 (.invokevirtual 325) 3 24 := ⟨by decide +kernel, rfl⟩
theorem d_9_bound_24 : zD prog_11_method_101_code 24 (.aload_n 0) 1 25 := ⟨by decide +kernel, rfl⟩
theorem d_9_bound_25 : zD prog_11_method_101_code 25 (.invokevirtual 432) 3 28 := ⟨by decide +kernel, rfl⟩
theorem d_9_bound_28 : zD prog_11_method_101_code 28 (.istore_n 2) 1 29 := ⟨by decide +kernel, rfl⟩
theorem d_9_bound_29 : zD prog_11_method_101_code 29 (.iconst 1) 1 30 := ⟨by decide +kernel, rfl⟩
theorem d_9_bound_30 : zD prog_11_method_101_code 30 (.iload_n 1) 1 31 := ⟨by decide +kernel, rfl⟩
theorem d_9_bound_31 : zD prog_11_method_101_code 31 (.ishl) 1 32 := ⟨by decide +kernel, rfl⟩
theorem d_9_bound_32 : zD prog_11_method_101_code 32 (.istore_n 3) 1 33 := ⟨by decide +kernel, rfl⟩
theorem d_9_bound_33 : zD prog_11_method_101_code 33 (.iconst 0) 1 34 := ⟨by decide +kernel, rfl⟩
theorem d_9_bound_34 : zD prog_11_method_101_code 34 (.istore 4) 2 36 := ⟨by decide +kernel, rfl⟩
theorem d_9_bound_36 : zD prog_11_method_101_code 36 (.iload 4) 2 38 := ⟨by decide +kernel, rfl⟩
theorem d_9_bound_38 : zD prog_11_method_101_code 38 (.iconst 5) 1 39 := ⟨by decide +kernel, rfl⟩
theorem d_9_bound_39 : zD prog_11_method_101_code 39 (.if_icmp .ge 62) 3 42 := ⟨by decide +kernel, rfl⟩
theorem d_9_bound_42 : zD prog_11_method_101_code 42 (.iconst 0) 1 43 := ⟨by decide +kernel, rfl⟩
theorem d_9_bound_43 : zD prog_11_method_101_code 43 (.istore 5) 2 45 := ⟨by decide +kernel, rfl⟩
theorem d_9_bound_45 : zD prog_11_method_101_code 45 (.iload 5) 2 47 := ⟨by decide +kernel, rfl⟩
theorem d_9_bound_47 : zD prog_11_method_101_code 47 (.aload_n 0) 1 48 := ⟨by decide +kernel, rfl⟩
theorem d_9_bound_48 : zD prog_11_method_101_code 48 (.getfield 46) 3 51 := ⟨by decide +kernel, rfl⟩
theorem d_9_bound_51 : zD prog_11_method_101_code 51 (.aload_n 0) 1 52 := ⟨by decide +kernel, rfl⟩
theorem d_9_bound_52 : zD prog_11_method_101_code 52 (.getfield 233) 3 55 := ⟨by decide +kernel, rfl⟩
theorem d_9_bound_55 : zD prog_11_method_101_code 55 (.iaload) 1 56 := ⟨by decide +kernel, rfl⟩
theorem d_9_bound_56 : zD prog_11_method_101_code 56 (.if_icmp .ge 39) 3 59 := ⟨by decide +kernel, rfl⟩
theorem d_9_bound_59 : zD prog_11_method_101_code 59 (.aload_n 0) 1 60 := ⟨by decide +kernel, rfl⟩
theorem d_9_bound_60 : zD prog_11_method_101_code 60 (.getfield 113) 3 63 := ⟨by decide +kernel, rfl⟩
theorem d_9_bound_63 : zD prog_11_method_101_code 63 (.bipush 28) 2 65 := ⟨by decide +kernel, rfl⟩
theorem d_9_bound_65 : zD prog_11_method_101_code 65 (.iload 5) 2 67 := ⟨by decide +kernel, rfl⟩
theorem d_9_bound_67 : zD prog_11_method_101_code 67 (.iadd) 1 68 := ⟨by decide +kernel, rfl⟩
theorem d_9_bound_68 : zD prog_11_method_101_code 68 (.iaload) 1 69 := ⟨by decide +kernel, rfl⟩
theorem d_9_bound_69 : zD prog_11_method_101_code 69 (.iload_n 3) 1 70 := ⟨by decide +kernel, rfl⟩
theorem d_9_bound_70 : zD prog_11_method_101_code 70 (.iand) 1 71 := ⟨by decide +kernel, rfl⟩
theorem d_9_bound_71 : zD prog_11_method_101_code 71 (.ifCond .eq 18) 3 74 := ⟨by decide +kernel, rfl⟩
theorem d_9_bound_74 : zD prog_11_method_101_code 74 (.iload_n 3) 1 75 := ⟨by decide +kernel, rfl⟩
theorem d_9_bound_75 : zD prog_11_method_101_code 75 (.aload_n 0) 1 76 := ⟨by decide +kernel, rfl⟩
theorem d_9_bound_76 : zD prog_11_method_101_code 76 (.getfield 113) 3 79 := ⟨by decide +kernel, rfl⟩
theorem d_9_bound_79 : zD prog_11_method_101_code 79 (.bipush 28) 2 81 := ⟨by decide +kernel, rfl⟩
theorem d_9_bound_81 : zD prog_11_method_101_code 81 (.iload 5) 2 83 := ⟨by decide +kernel, rfl⟩
theorem d_9_bound_83 : zD prog_11_method_101_code 83 (.iadd) 1 84 := ⟨by decide +kernel, rfl⟩
theorem d_9_bound_84 : zD prog_11_method_101_code 84 (.iaload) 1 85 := ⟨by decide +kernel, rfl⟩
theorem d_9_bound_85 : zD prog_11_method_101_code 85 (.iload_n 2) 1 86 := ⟨by decide +kernel, rfl⟩
theorem d_9_bound_86 : zD prog_11_method_101_code 86 (.iand) 1 87 := ⟨by decide +kernel, rfl⟩
theorem d_9_bound_87 : zD prog_11_method_101_code 87 (.ior) 1 88 := ⟨by decide +kernel, rfl⟩
theorem d_9_bound_88 : zD prog_11_method_101_code 88 (.istore_n 3) 1 89 := ⟨by decide +kernel, rfl⟩
theorem d_9_bound_89 : zD prog_11_method_101_code 89 (.iinc 5 1) 3 92 := ⟨by decide +kernel, rfl⟩
theorem d_9_bound_92 : zD prog_11_method_101_code 92 (.goto (-47)) 3 95 := ⟨by decide +kernel, rfl⟩
theorem d_9_bound_95 : zD prog_11_method_101_code 95 (.iinc 4 1) 3 98 := ⟨by decide +kernel, rfl⟩
theorem d_9_bound_98 : zD prog_11_method_101_code 98 (.goto (-62)) 3 101 := ⟨by decide +kernel, rfl⟩
theorem d_9_bound_101 : zD prog_11_method_101_code 101 (.iload_n 3) 1 102 := ⟨by decide +kernel, rfl⟩
theorem d_9_bound_102 : zD prog_11_method_101_code 102 (.ireturn) 1 103 := ⟨by decide +kernel, rfl⟩
theorem d_9_idle_0 : zD prog_11_method_102_code 0 (.aload_n 0) 1 1 := ⟨by decide +kernel, rfl⟩
theorem d_9_idle_1 : zD prog_11_method_102_code 1 (.invokevirtual 325) 3 4 := ⟨by decide +kernel, rfl⟩
theorem d_9_idle_4 : zD prog_11_method_102_code 4 (.aload_n 0) 1 5 := ⟨by decide +kernel, rfl⟩
theorem d_9_idle_5 : zD prog_11_method_102_code 5 (.bipush (-2)) 2 7 := ⟨by decide +kernel, rfl⟩
theorem d_9_idle_7 : zD prog_11_method_102_code 7 (.invokevirtual 346) 3 10 := ⟨by decide +kernel, rfl⟩
theorem d_9_idle_10 : zD prog_11_method_102_code 10 (.ireturn) 1 11 := ⟨by decide +kernel, rfl⟩
theorem d_9_rightsAll_0 : zD prog_11_method_103_code 0 (.iconst 0) 1 1 := ⟨by decide +kernel, rfl⟩
theorem d_9_rightsAll_1 : zD prog_11_method_103_code 1 (.istore_n 1) 1 2 := ⟨by decide +kernel, rfl⟩
theorem d_9_rightsAll_2 : zD prog_11_method_103_code 2 (.iconst 0) 1 3 := ⟨by decide +kernel, rfl⟩
theorem d_9_rightsAll_3 : zD prog_11_method_103_code 3 (.istore_n 2) 1 4 := ⟨by decide +kernel, rfl⟩
theorem d_9_rightsAll_4 : zD prog_11_method_103_code 4 (.iload_n 2) 1 5 := ⟨by decide +kernel, rfl⟩
theorem d_9_rightsAll_5 : zD prog_11_method_103_code 5 (.aload_n 0) 1 6 := ⟨by decide +kernel, rfl⟩
theorem d_9_rightsAll_6 : zD prog_11_method_103_code 6 (.getfield 46) 3 9 := ⟨by decide +kernel, rfl⟩
theorem d_9_rightsAll_9 : zD prog_11_method_103_code 9 (.aload_n 0) 1 10 := ⟨by decide +kernel, rfl⟩
theorem d_9_rightsAll_10 : zD prog_11_method_103_code 10 (.getfield 233) 3 13 := ⟨by decide +kernel, rfl⟩
theorem d_9_rightsAll_13 : zD prog_11_method_103_code 13 (.iaload) 1 14 := ⟨by decide +kernel, rfl⟩
theorem d_9_rightsAll_14 : zD prog_11_method_103_code 14 (.if_icmp .ge 24) 3 17 := ⟨by decide +kernel, rfl⟩
theorem d_9_rightsAll_17 : zD prog_11_method_103_code 17 (.iload_n 1) 1 18 := ⟨by decide +kernel, rfl⟩
theorem d_9_rightsAll_18 : zD prog_11_method_103_code 18 (.aload_n 0) 1 19 := ⟨by decide +kernel, rfl⟩
theorem d_9_rightsAll_19 : zD prog_11_method_103_code 19 (.getfield 110) 3 22 := ⟨by decide +kernel, rfl⟩
theorem d_9_rightsAll_22 : zD prog_11_method_103_code 22 (.bipush 28) 2 24 := ⟨by decide +kernel, rfl⟩
theorem d_9_rightsAll_24 : zD prog_11_method_103_code 24 (.iload_n 2) 1 25 := ⟨by decide +kernel, rfl⟩
theorem d_9_rightsAll_25 : zD prog_11_method_103_code 25 (.iadd) 1 26 := ⟨by decide +kernel, rfl⟩
theorem d_9_rightsAll_26 : zD prog_11_method_103_code 26 (.iaload) 1 27 := ⟨by decide +kernel, rfl⟩
theorem d_9_rightsAll_27 : zD prog_11_method_103_code 27 (.invokestatic 355) 3 30 := ⟨by decide +kernel, rfl⟩
theorem d_9_rightsAll_30 : zD prog_11_method_103_code 30 (.iadd) 1 31 := ⟨by decide +kernel, rfl⟩
theorem d_9_rightsAll_31 : zD prog_11_method_103_code 31 (.istore_n 1) 1 32 := ⟨by decide +kernel, rfl⟩
theorem d_9_rightsAll_32 : zD prog_11_method_103_code 32 (.iinc 2 1) 3 35 := ⟨by decide +kernel, rfl⟩
theorem d_9_rightsAll_35 : zD prog_11_method_103_code 35 (.goto (-31)) 3 38 := ⟨by decide +kernel, rfl⟩
theorem d_9_rightsAll_38 : zD prog_11_method_103_code 38 (.iload_n 1) 1 39 := ⟨by decide +kernel, rfl⟩
theorem d_9_rightsAll_39 : zD prog_11_method_103_code 39 (.ireturn) 1 40 := ⟨by decide +kernel, rfl⟩
theorem d_9_share_0 : zD prog_11_method_104_code 0 (.aload_n 0) 1 1 := ⟨by decide +kernel, rfl⟩
theorem d_9_share_1 : zD prog_11_method_104_code 1 (.iload_n 1) 1 2 := ⟨by decide +kernel, rfl⟩
theorem d_9_share_2 : zD prog_11_method_104_code 2 (.invokevirtual 316) 3 5 := ⟨by decide +kernel, rfl⟩
theorem d_9_share_5 : zD prog_11_method_104_code 5 (.ifCond .ne 5) 3 8 := ⟨by decide +kernel, rfl⟩
theorem d_9_share_8 : zD prog_11_method_104_code 8 (.iconst (-1)) 1 9 := ⟨by decide +kernel, rfl⟩
theorem d_9_share_9 : zD prog_11_method_104_code 9 (.ireturn) 1 10 := ⟨by decide +kernel, rfl⟩
theorem d_9_share_10 : zD prog_11_method_104_code 10 (.aload_n 0) 1 11 := ⟨by decide +kernel, rfl⟩
theorem d_9_share_11 : zD prog_11_method_104_code 11 (.invokevirtual 325) 3 14 := ⟨by decide +kernel, rfl⟩
theorem d_9_share_14 : zD prog_11_method_104_code 14 (.aload_n 0) 1 15 := ⟨by decide +kernel, rfl⟩
theorem d_9_share_15 : zD prog_11_method_104_code 15 (.invokevirtual 453) 3 18 := ⟨by decide +kernel, rfl⟩
theorem d_9_share_18 : zD prog_11_method_104_code 18 (.ifCond .ne 7) 3 21 := ⟨by decide +kernel, rfl⟩
theorem d_9_share_21 : zD prog_11_method_104_code 21 (.iconst 0) 1 22 := ⟨by decide +kernel, rfl⟩
theorem d_9_share_22 : zD prog_11_method_104_code 22 (.goto 20) 3 25 := ⟨by decide +kernel, rfl⟩
theorem d_9_share_25 : zD prog_11_method_104_code 25 (.sipush 1000) 3 28 := ⟨by decide +kernel, rfl⟩
theorem d_9_share_28 : zD prog_11_method_104_code 28 (.aload_n 0) 1 29 := ⟨by decide +kernel, rfl⟩
theorem d_9_share_29 : zD prog_11_method_104_code 29 (.iload_n 1) 1 30 := ⟨by decide +kernel, rfl⟩
theorem d_9_share_30 : zD prog_11_method_104_code 30 (.invokevirtual 352) 3 33 := ⟨by decide +kernel, rfl⟩
theorem d_9_share_33 : zD prog_11_method_104_code 33 (.invokestatic 355) 3 36 := ⟨by decide +kernel, rfl⟩
theorem d_9_share_36 : zD prog_11_method_104_code 36 (.imul) 1 37 := ⟨by decide +kernel, rfl⟩
theorem d_9_share_37 : zD prog_11_method_104_code 37 (.aload_n 0) 1 38 := ⟨by decide +kernel, rfl⟩
theorem d_9_share_38 : zD prog_11_method_104_code 38 (.invokevirtual 453) 3 41 := ⟨by decide +kernel, rfl⟩
theorem d_9_share_41 : zD prog_11_method_104_code 41 (.idiv) 1 42 := ⟨by decide +kernel, rfl⟩
theorem d_9_share_42 : zD prog_11_method_104_code 42 (.ireturn) 1 43 := ⟨by decide +kernel, rfl⟩
theorem d_9_lordIn_0 : zD prog_11_method_105_code 0 (.aload_n 0) 1 1 := ⟨by decide +kernel, rfl⟩
theorem d_9_lordIn_1 : zD prog_11_method_105_code 1 (.iload_n 1) 1 2 := ⟨by decide +kernel, rfl⟩
theorem d_9_lordIn_2 : zD prog_11_method_105_code 2 (.invokevirtual 391) 3 5 := ⟨by decide +kernel, rfl⟩
theorem d_9_lordIn_5 : zD prog_11_method_105_code 5 (.ifCond .eq 10) 3 8 := ⟨by decide +kernel, rfl⟩
theorem d_9_lordIn_8 : zD prog_11_method_105_code 8 (.iload_n 2) 1 9 := ⟨by decide +kernel, rfl⟩
theorem d_9_lordIn_9 : zD prog_11_method_105_code 9 (.invokestatic 403) 3 12 := ⟨by decide +kernel, rfl⟩
theorem d_9_lordIn_12 : zD prog_11_method_105_code 12 (.ifCond .ne 5) 3 15 := ⟨by decide +kernel, rfl⟩
theorem d_9_lordIn_15 : zD prog_11_method_105_code 15 (.iconst (-1)) 1 16 := ⟨by decide +kernel, rfl⟩
theorem d_9_lordIn_16 : zD prog_11_method_105_code 16 (.ireturn) 1 17 := ⟨by decide +kernel, rfl⟩
theorem d_9_lordIn_17 : zD prog_11_method_105_code 17 (.aload_n 0) 1 18 := ⟨by decide +kernel, rfl⟩
theorem d_9_lordIn_18 : zD prog_11_method_105_code 18 (.invokevirtual 325) 3 21 := ⟨by decide +kernel, rfl⟩
theorem d_9_lordIn_21 : zD prog_11_method_105_code 21 (.aload_n 0) 1 22 := ⟨by decide +kernel, rfl⟩
theorem d_9_lordIn_22 : zD prog_11_method_105_code 22 (.iload_n 2) 1 23 := ⟨by decide +kernel, rfl⟩
theorem d_9_lordIn_23 : zD prog_11_method_105_code 23 (.invokevirtual 406) 3 26 := ⟨by decide +kernel, rfl⟩
theorem d_9_lordIn_26 : zD prog_11_method_105_code 26 (.aload_n 0) 1 27 := ⟨by decide +kernel, rfl⟩
theorem d_9_lordIn_27 : zD prog_11_method_105_code 27 (.iload_n 1) 1 28 := ⟨by decide +kernel, rfl⟩
theorem d_9_lordIn_28 : zD prog_11_method_105_code 28 (.invokevirtual 340) 3 31 := ⟨by decide +kernel, rfl⟩
theorem d_9_lordIn_31 : zD prog_11_method_105_code 31 (.ireturn) 1 32 := ⟨by decide +kernel, rfl⟩
theorem d_9_then_0 : zD prog_11_method_106_code 0 (.iload_n 1) 1 1 := ⟨by decide +kernel, rfl⟩
theorem d_9_then_1 : zD prog_11_method_106_code 1 (.invokestatic 403) 3 4 := ⟨by decide +kernel, rfl⟩
theorem d_9_then_4 : zD prog_11_method_106_code 4 (.ifCond .eq 12) 3 7 := ⟨by decide +kernel, rfl⟩
theorem d_9_then_7 : zD prog_11_method_106_code 7 (.iload_n 2) 1 8 := ⟨by decide +kernel, rfl⟩
theorem d_9_then_8 : zD prog_11_method_106_code 8 (.iconst 0) 1 9 := ⟨by decide +kernel, rfl⟩
theorem d_9_then_9 : zD prog_11_method_106_code 9 (.iconst 2) 1 10 := ⟨by decide +kernel, rfl⟩
theorem d_9_then_10 : zD prog_11_method_106_code 10 (.invokestatic 312) 3 13 := ⟨by decide +kernel, rfl⟩
theorem d_9_then_13 : zD prog_11_method_106_code 13 (.ifCond .ne 5) 3 16 := ⟨by decide +kernel, rfl⟩
theorem d_9_then_16 : zD prog_11_method_106_code 16 (.iconst (-1)) 1 17 := ⟨by decide +kernel, rfl⟩
theorem d_9_then_17 : zD prog_11_method_106_code 17 (.ireturn) 1 18 := ⟨by decide +kernel, rfl⟩
theorem d_9_then_18 : zD prog_11_method_106_code 18 (.aload_n 0) 1 19 := ⟨by decide +kernel, rfl⟩
theorem d_9_then_19 : zD prog_11_method_106_code 19 (.invokevirtual 325) 3 22 := ⟨by decide +kernel, rfl⟩
theorem d_9_then_22 : zD prog_11_method_106_code 22 (.aload_n 0) 1 23 := ⟨by decide +kernel, rfl⟩
theorem d_9_then_23 : zD prog_11_method_106_code 23 (.iload_n 1) 1 24 := ⟨by decide +kernel, rfl⟩
theorem d_9_then_24 : zD prog_11_method_106_code 24 (.invokevirtual 406) 3 27 := ⟨by decide +kernel, rfl⟩
theorem d_9_then_27 : zD prog_11_method_106_code 27 (.aload_n 0) 1 28 := ⟨by decide +kernel, rfl⟩
theorem d_9_then_28 : zD prog_11_method_106_code 28 (.iload_n 2) 1 29 := ⟨by decide +kernel, rfl⟩
theorem d_9_then_29 : zD prog_11_method_106_code 29 (.invokevirtual 358) 3 32 := ⟨by decide +kernel, rfl⟩
theorem d_9_then_32 : zD prog_11_method_106_code 32 (.ireturn) 1 33 := ⟨by decide +kernel, rfl⟩
theorem d_9_gotIn_0 : zD prog_11_method_107_code 0 (.aload_n 0) 1 1 := ⟨by decide +kernel, rfl⟩
theorem d_9_gotIn_1 : zD prog_11_method_107_code 1 (.iload_n 1) 1 2 := ⟨by decide +kernel, rfl⟩
theorem d_9_gotIn_2 : zD prog_11_method_107_code 2 (.invokevirtual 316) 3 5 := ⟨by decide +kernel, rfl⟩
theorem d_9_gotIn_5 : zD prog_11_method_107_code 5 (.ifCond .eq 10) 3 8 := ⟨by decide +kernel, rfl⟩
theorem d_9_gotIn_8 : zD prog_11_method_107_code 8 (.iload_n 2) 1 9 := ⟨by decide +kernel, rfl⟩
theorem d_9_gotIn_9 : zD prog_11_method_107_code 9 (.invokestatic 403) 3 12 := ⟨by decide +kernel, rfl⟩
theorem d_9_gotIn_12 : zD prog_11_method_107_code 12 (.ifCond .ne 5) 3 15 := ⟨by decide +kernel, rfl⟩
theorem d_9_gotIn_15 : zD prog_11_method_107_code 15 (.iconst (-1)) 1 16 := ⟨by decide +kernel, rfl⟩
theorem d_9_gotIn_16 : zD prog_11_method_107_code 16 (.ireturn) 1 17 := ⟨by decide +kernel, rfl⟩
theorem d_9_gotIn_17 : zD prog_11_method_107_code 17 (.aload_n 0) 1 18 := ⟨by decide +kernel, rfl⟩
theorem d_9_gotIn_18 : zD prog_11_method_107_code 18 (.invokevirtual 325) 3 21 := ⟨by decide +kernel, rfl⟩
theorem d_9_gotIn_21 : zD prog_11_method_107_code 21 (.aload_n 0) 1 22 := ⟨by decide +kernel, rfl⟩
theorem d_9_gotIn_22 : zD prog_11_method_107_code 22 (.iload_n 2) 1 23 := ⟨by decide +kernel, rfl⟩
theorem d_9_gotIn_23 : zD prog_11_method_107_code 23 (.invokevirtual 406) 3 26 := ⟨by decide +kernel, rfl⟩
theorem d_9_gotIn_26 : zD prog_11_method_107_code 26 (.aload_n 0) 1 27 := ⟨by decide +kernel, rfl⟩
theorem d_9_gotIn_27 : zD prog_11_method_107_code 27 (.getfield 113) 3 30 := ⟨by decide +kernel, rfl⟩
theorem d_9_gotIn_30 : zD prog_11_method_107_code 30 (.bipush 14) 2 32 := ⟨by decide +kernel, rfl⟩
theorem d_9_gotIn_32 : zD prog_11_method_107_code 32 (.iload_n 1) 1 33 := ⟨by decide +kernel, rfl⟩
theorem d_9_gotIn_33 : zD prog_11_method_107_code 33 (.iadd) 1 34 := ⟨by decide +kernel, rfl⟩
theorem d_9_gotIn_34 : zD prog_11_method_107_code 34 (.iaload) 1 35 := ⟨by decide +kernel, rfl⟩
theorem d_9_gotIn_35 : zD prog_11_method_107_code 35 (.ireturn) 1 36 := ⟨by decide +kernel, rfl⟩
theorem d_9_year_0 : zD prog_11_method_108_code 0 (.aload_n 0) 1 1 := ⟨by decide +kernel, rfl⟩
theorem d_9_year_1 : zD prog_11_method_108_code 1 (.iload_n 1) 1 2 := ⟨by decide +kernel, rfl⟩
theorem d_9_year_2 : zD prog_11_method_108_code 2 (.invokevirtual 316) 3 5 := ⟨by decide +kernel, rfl⟩
theorem d_9_year_5 : zD prog_11_method_108_code 5 (.ifCond .eq 20) 3 8 := ⟨by decide +kernel, rfl⟩
theorem d_9_year_8 : zD prog_11_method_108_code 8 (.iload_n 2) 1 9 := ⟨by decide +kernel, rfl⟩
theorem d_9_year_9 : zD prog_11_method_108_code 9 (.invokestatic 403) 3 12 := ⟨by decide +kernel, rfl⟩
theorem d_9_year_12 : zD prog_11_method_108_code 12 (.ifCond .eq 13) 3 15 := ⟨by decide +kernel, rfl⟩
theorem d_9_year_15 : zD prog_11_method_108_code 15 (.iload_n 3) 1 16 := ⟨by decide +kernel, rfl⟩
theorem d_9_year_16 : zD prog_11_method_108_code 16 (.iconst 1) 1 17 := ⟨by decide +kernel, rfl⟩
theorem d_9_year_17 : zD prog_11_method_108_code 17 (.bipush 20) 2 19 := ⟨by decide +kernel, rfl⟩
theorem d_9_year_19 : zD prog_11_method_108_code 19 (.invokestatic 312) 3 22 := ⟨by decide +kernel, rfl⟩
theorem d_9_year_22 : zD prog_11_method_108_code 22 (.ifCond .ne 5) 3 25 := ⟨by decide +kernel, rfl⟩
theorem d_9_year_25 : zD prog_11_method_108_code 25 (.iconst (-1)) 1 26 := ⟨by decide +kernel, rfl⟩
theorem d_9_year_26 : zD prog_11_method_108_code 26 (.ireturn) 1 27 := ⟨by decide +kernel, rfl⟩
theorem d_9_year_27 : zD prog_11_method_108_code 27 (.iconst 0) 1 28 := ⟨by decide +kernel, rfl⟩
theorem d_9_year_28 : zD prog_11_method_108_code 28 (.istore 4) 2 30 := ⟨by decide +kernel, rfl⟩
theorem d_9_year_30 : zD prog_11_method_108_code 30 (.iconst 0) 1 31 := ⟨by decide +kernel, rfl⟩
theorem d_9_year_31 : zD prog_11_method_108_code 31 (.istore 5) 2 33 := ⟨by decide +kernel, rfl⟩
theorem d_9_year_33 : zD prog_11_method_108_code 33 (.iload 5) 2 35 := ⟨by decide +kernel, rfl⟩
theorem d_9_year_35 : zD prog_11_method_108_code 35 (.iload_n 3) 1 36 := ⟨by decide +kernel, rfl⟩
theorem d_9_year_36 : zD prog_11_method_108_code 36 (.if_icmp .ge 40) 3 39 := ⟨by decide +kernel, rfl⟩
theorem d_9_year_39 : zD prog_11_method_108_code 39 (.aload_n 0) 1 40 := ⟨by decide +kernel, rfl⟩
theorem d_9_year_40 : zD prog_11_method_108_code 40 (.invokevirtual 325) 3 43 := ⟨by decide +kernel, rfl⟩
theorem d_9_year_43 : zD prog_11_method_108_code 43 (.aload_n 0) 1 44 := ⟨by decide +kernel, rfl⟩
theorem d_9_year_44 : zD prog_11_method_108_code 44 (.dup) 1 45 := ⟨by decide +kernel, rfl⟩
theorem d_9_year_45 : zD prog_11_method_108_code 45 (.getfield 319) 3 48 := ⟨by decide +kernel, rfl⟩
theorem d_9_year_48 : zD prog_11_method_108_code 48 (.iload 5) 2 50 := ⟨by decide +kernel, rfl⟩
theorem d_9_year_50 : zD prog_11_method_108_code 50 (.iadd) 1 51 := ⟨by decide +kernel, rfl⟩
theorem d_9_year_51 : zD prog_11_method_108_code 51 (.putfield 319) 3 54 := ⟨by decide +kernel, rfl⟩
theorem d_9_year_54 : zD prog_11_method_108_code 54 (.aload_n 0) 1 55 := ⟨by decide +kernel, rfl⟩
theorem d_9_year_55 : zD prog_11_method_108_code 55 (.iload_n 2) 1 56 := ⟨by decide +kernel, rfl⟩
theorem d_9_year_56 : zD prog_11_method_108_code 56 (.invokevirtual 406) 3 59 := ⟨by decide +kernel, rfl⟩
theorem d_9_year_59 : zD prog_11_method_108_code 59 (.aload_n 0) 1 60 := ⟨by decide +kernel, rfl⟩
theorem d_9_year_60 : zD prog_11_method_108_code 60 (.iload_n 1) 1 61 := ⟨by decide +kernel, rfl⟩
theorem d_9_year_61 : zD prog_11_method_108_code 61 (.invokevirtual 346) 3 64 := ⟨by decide +kernel, rfl⟩
theorem d_9_year_64 : zD prog_11_method_108_code 64 (.ifCond .eq 6) 3 67 := ⟨by decide +kernel, rfl⟩
theorem d_9_year_67 : zD prog_11_method_108_code 67 (.iinc 4 1) 3 70 := ⟨by decide +kernel, rfl⟩
theorem d_9_year_70 : zD prog_11_method_108_code 70 (.iinc 5 1) 3 73 := ⟨by decide +kernel, rfl⟩
theorem d_9_year_73 : zD prog_11_method_108_code 73 (.goto (-40)) 3 76 := ⟨by decide +kernel, rfl⟩
theorem d_9_year_76 : zD prog_11_method_108_code 76 (.iload 4) 2 78 := ⟨by decide +kernel, rfl⟩
theorem d_9_year_78 : zD prog_11_method_108_code 78 (.ireturn) 1 79 := ⟨by decide +kernel, rfl⟩
theorem d_9_tell_0 : zD prog_11_method_109_code 0 (.aload_n 0) 1 1 := ⟨by decide +kernel, rfl⟩
theorem d_9_tell_1 : zD prog_11_method_109_code 1 (.getfield 254) 3 4 := ⟨by decide +kernel, rfl⟩
theorem d_9_tell_4 : zD prog_11_method_109_code 4 (.bipush 20) 2 6 := ⟨by decide +kernel, rfl⟩
theorem d_9_tell_6 : zD prog_11_method_109_code 6 (.if_icmp .eq 24) 3 9 := ⟨by decide +kernel, rfl⟩
theorem d_9_tell_9 : zD prog_11_method_109_code 9 (.aload_n 0) 1 10 := ⟨by decide +kernel, rfl⟩
theorem d_9_tell_10 : zD prog_11_method_109_code 10 (.iload_n 1) 1 11 := ⟨by decide +kernel, rfl⟩
theorem d_9_tell_11 : zD prog_11_method_109_code 11 (.invokevirtual 316) 3 14 := ⟨by decide +kernel, rfl⟩
theorem d_9_tell_14 : zD prog_11_method_109_code 14 (.ifCond .eq 16) 3 17 := ⟨by decide +kernel, rfl⟩
theorem d_9_tell_17 : zD prog_11_method_109_code 17 (.aload_n 0) 1 18 := ⟨by decide +kernel, rfl⟩
theorem d_9_tell_18 : zD prog_11_method_109_code 18 (.iload_n 2) 1 19 := ⟨by decide +kernel, rfl⟩
theorem d_9_tell_19 : zD prog_11_method_109_code 19 (.invokevirtual 316) 3 22 := ⟨by decide +kernel, rfl⟩
theorem d_9_tell_22 : zD prog_11_method_109_code 22 (.ifCond .eq 8) 3 25 := ⟨by decide +kernel, rfl⟩
theorem d_9_tell_25 : zD prog_11_method_109_code 25 (.iload_n 1) 1 26 := ⟨by decide +kernel, rfl⟩
theorem d_9_tell_26 : zD prog_11_method_109_code 26 (.iload_n 2) 1 27 := ⟨by decide +kernel, rfl⟩
theorem d_9_tell_27 : zD prog_11_method_109_code 27 (.if_icmp .ne 5) 3 30 := ⟨by decide +kernel, rfl⟩
theorem d_9_tell_30 : zD prog_11_method_109_code 30 (.iconst (-1)) 1 31 := ⟨by decide +kernel, rfl⟩
theorem d_9_tell_31 : zD prog_11_method_109_code 31 (.ireturn) 1 32 := ⟨by decide +kernel, rfl⟩
theorem d_9_tell_32 : zD prog_11_method_109_code 32 (.aload_n 0) 1 33 := ⟨by decide +kernel, rfl⟩
theorem d_9_tell_33 : zD prog_11_method_109_code 33 (.getfield 131) 3 36 := ⟨by decide +kernel, rfl⟩
theorem d_9_tell_36 : zD prog_11_method_109_code 36 (.aload_n 0) 1 37 := ⟨by decide +kernel, rfl⟩
theorem d_9_tell_37 : zD prog_11_method_109_code 37 (.getfield 254) 3 40 := ⟨by decide +kernel, rfl⟩
theorem d_9_tell_40 : zD prog_11_method_109_code 40 (.iload_n 1) 1 41 := ⟨by decide +kernel, rfl⟩
theorem d_9_tell_41 : zD prog_11_method_109_code 41 (.iastore) 1 42 := ⟨by decide +kernel, rfl⟩
theorem d_9_tell_42 : zD prog_11_method_109_code 42 (.aload_n 0) 1 43 := ⟨by decide +kernel, rfl⟩
theorem d_9_tell_43 : zD prog_11_method_109_code 43 (.getfield 134) 3 46 := ⟨by decide +kernel, rfl⟩
theorem d_9_tell_46 : zD prog_11_method_109_code 46 (.aload_n 0) 1 47 := ⟨by decide +kernel, rfl⟩
theorem d_9_tell_47 : zD prog_11_method_109_code 47 (.getfield 254) 3 50 := ⟨by decide +kernel, rfl⟩
theorem d_9_tell_50 : zD prog_11_method_109_code 50 (.iload_n 2) 1 51 := ⟨by decide +kernel, rfl⟩
theorem d_9_tell_51 : zD prog_11_method_109_code 51 (.iastore) 1 52 := ⟨by decide +kernel, rfl⟩
theorem d_9_tell_52 : zD prog_11_method_109_code 52 (.aload_n 0) 1 53 := ⟨by decide +kernel, rfl⟩
theorem d_9_tell_53 : zD prog_11_method_109_code 53 (.dup) 1 54 := ⟨by decide +kernel, rfl⟩
theorem d_9_tell_54 : zD prog_11_method_109_code 54 (.getfield 254) 3 57 := ⟨by decide +kernel, rfl⟩
theorem d_9_tell_57 : zD prog_11_method_109_code 57 (.iconst 1) 1 58 := ⟨by decide +kernel, rfl⟩
theorem d_9_tell_58 : zD prog_11_method_109_code 58 (.iadd) 1 59 := ⟨by decide +kernel, rfl⟩
theorem d_9_tell_59 : zD prog_11_method_109_code 59 (.putfield 254) 3 62 := ⟨by decide +kernel, rfl⟩
theorem d_9_tell_62 : zD prog_11_method_109_code 62 (.aload_n 0) 1 63 := ⟨by decide +kernel, rfl⟩
theorem d_9_tell_63 : zD prog_11_method_109_code 63 (.getfield 254) 3 66 := ⟨by decide +kernel, rfl⟩
theorem d_9_tell_66 : zD prog_11_method_109_code 66 (.iconst 1) 1 67 := ⟨by decide +kernel, rfl⟩
theorem d_9_tell_67 : zD prog_11_method_109_code 67 (.isub) 1 68 := ⟨by decide +kernel, rfl⟩
theorem d_9_tell_68 : zD prog_11_method_109_code 68 (.ireturn) 1 69 := ⟨by decide +kernel, rfl⟩
theorem d_9_forget_0 : zD prog_11_method_110_code 0 (.aload_n 0) 1 1 := ⟨by decide +kernel, rfl⟩
theorem d_9_forget_1 : zD prog_11_method_110_code 1 (.getfield 254) 3 4 := ⟨by decide +kernel, rfl⟩
theorem d_9_forget_4 : zD prog_11_method_110_code 4 (.istore_n 1) 1 5 := ⟨by decide +kernel, rfl⟩
theorem d_9_forget_5 : zD prog_11_method_110_code 5 (.aload_n 0) 1 6 := ⟨by decide +kernel, rfl⟩
theorem d_9_forget_6 : zD prog_11_method_110_code 6 (.iconst 0) 1 7 := ⟨by decide +kernel, rfl⟩
theorem d_9_forget_7 : zD prog_11_method_110_code 7 (.putfield 254) 3 10 := ⟨by decide +kernel, rfl⟩
theorem d_9_forget_10 : zD prog_11_method_110_code 10 (.iload_n 1) 1 11 := ⟨by decide +kernel, rfl⟩
theorem d_9_forget_11 : zD prog_11_method_110_code 11 (.ireturn) 1 12 := ⟨by decide +kernel, rfl⟩
theorem d_9_isKnown_0 : zD prog_11_method_111_code 0 (.iload_n 1) 1 1 := ⟨by decide +kernel, rfl⟩
theorem d_9_isKnown_1 : zD prog_11_method_111_code 1 (.iconst 0) 1 2 := ⟨by decide +kernel, rfl⟩
theorem d_9_isKnown_2 : zD prog_11_method_111_code 2 (.aload_n 0) 1 3 := ⟨by decide +kernel, rfl⟩
theorem d_9_isKnown_3 : zD prog_11_method_111_code 3 (.getfield 254) 3 6 := ⟨by decide +kernel, rfl⟩
theorem d_9_isKnown_6 : zD prog_11_method_111_code 6 (.invokestatic 312) 3 9 := ⟨by decide +kernel, rfl⟩
theorem d_9_isKnown_9 : zD prog_11_method_111_code 9 (.ireturn) 1 10 := ⟨by decide +kernel, rfl⟩
theorem d_9_allBits_0 : zD prog_11_method_112_code 0 (.iconst 1) 1 1 := ⟨by decide +kernel, rfl⟩
theorem d_9_allBits_1 : zD prog_11_method_112_code 1 (.aload_n 0) 1 2 := ⟨by decide +kernel, rfl⟩
theorem d_9_allBits_2 : zD prog_11_method_112_code 2 (.getfield 55) 3 5 := ⟨by decide +kernel, rfl⟩
theorem d_9_allBits_5 : zD prog_11_method_112_code 5 (.aload_n 0) 1 6 := ⟨by decide +kernel, rfl⟩
theorem d_9_allBits_6 : zD prog_11_method_112_code 6 (.getfield 233) 3 9 := ⟨by decide +kernel, rfl⟩
theorem d_9_allBits_9 : zD prog_11_method_112_code 9 (.iaload) 1 10 := ⟨by decide +kernel, rfl⟩
theorem d_9_allBits_10 : zD prog_11_method_112_code 10 (.ishl) 1 11 := ⟨by decide +kernel, rfl⟩
theorem d_9_allBits_11 : zD prog_11_method_112_code 11 (.iconst 1) 1 12 := ⟨by decide +kernel, rfl⟩
theorem d_9_allBits_12 : zD prog_11_method_112_code 12 (.isub) 1 13 := ⟨by decide +kernel, rfl⟩
theorem d_9_allBits_13 : zD prog_11_method_112_code 13 (.ireturn) 1 14 := ⟨by decide +kernel, rfl⟩
theorem d_9_mayGo_0 : zD prog_11_method_113_code 0 (.iload_n 2) 1 1 := ⟨by decide +kernel, rfl⟩
theorem d_9_mayGo_1 : zD prog_11_method_113_code 1 (.iload_n 1) 1 2 := ⟨by decide +kernel, rfl⟩
theorem d_9_mayGo_2 : zD prog_11_method_113_code 2 (.ishr) 1 3 := ⟨by decide +kernel, rfl⟩
theorem d_9_mayGo_3 : zD prog_11_method_113_code 3 (.iconst 1) 1 4 := ⟨by decide +kernel, rfl⟩
theorem d_9_mayGo_4 : zD prog_11_method_113_code 4 (.iand) 1 5 := ⟨by decide +kernel, rfl⟩
theorem d_9_mayGo_5 : zD prog_11_method_113_code 5 (.ifCond .ne 20) 3 8 := ⟨by decide +kernel, rfl⟩
theorem d_9_mayGo_8 : zD prog_11_method_113_code 8 (.aload_n 0) 1 9 := ⟨by decide +kernel, rfl⟩
theorem d_9_mayGo_9 : zD prog_11_method_113_code 9 (.getfield 137) 3 12 := ⟨by decide +kernel, rfl⟩
theorem d_9_mayGo_12 : zD prog_11_method_113_code 12 (.iload_n 1) 1 13 := ⟨by decide +kernel, rfl⟩
theorem d_9_mayGo_13 : zD prog_11_method_113_code 13 (.iaload) 1 14 := ⟨by decide +kernel, rfl⟩
theorem d_9_mayGo_14 : zD prog_11_method_113_code 14 (.iload_n 2) 1 15 := ⟨by decide +kernel, rfl⟩
theorem d_9_mayGo_15 : zD prog_11_method_113_code 15 (.iconst (-1)) 1 16 := ⟨by decide +kernel, rfl⟩
theorem d_9_mayGo_16 : zD prog_11_method_113_code 16 (.ixor) 1 17 := ⟨by decide +kernel, rfl⟩
theorem d_9_mayGo_17 : zD prog_11_method_113_code 17 (.iand) 1 18 := ⟨by decide +kernel, rfl⟩
theorem d_9_mayGo_18 : zD prog_11_method_113_code 18 (.ifCond .ne 7) 3 21 := ⟨by decide +kernel, rfl⟩
theorem d_9_mayGo_21 : zD prog_11_method_113_code 21 (.iconst 1) 1 22 := ⟨by decide +kernel, rfl⟩
theorem d_9_mayGo_22 : zD prog_11_method_113_code 22 (.goto 4) 3 25 := ⟨by decide +kernel, rfl⟩
theorem d_9_mayGo_25 : zD prog_11_method_113_code 25 (.iconst 0) 1 26 := ⟨by decide +kernel, rfl⟩
theorem d_9_mayGo_26 : zD prog_11_method_113_code 26 (.ireturn) 1 27 := ⟨by decide +kernel, rfl⟩
theorem d_9_fillsNeeds_0 : zD prog_11_method_114_code 0 (.iconst 0) 1 1 := ⟨by decide +kernel, rfl⟩
theorem d_9_fillsNeeds_1 : zD prog_11_method_114_code 1 (.istore_n 2) 1 2 := ⟨by decide +kernel, rfl⟩
theorem d_9_fillsNeeds_2 : zD prog_11_method_114_code 2 (.iload_n 2) 1 3 := ⟨by decide +kernel, rfl⟩
theorem d_9_fillsNeeds_3 : zD prog_11_method_114_code 3 (.bipush 7) 2 5 := ⟨by decide +kernel, rfl⟩
theorem d_9_fillsNeeds_5 : zD prog_11_method_114_code 5 (.if_icmp .ge 16) 3 8 := ⟨by decide +kernel, rfl⟩
theorem d_9_fillsNeeds_8 : zD prog_11_method_114_code 8 (.aload_n 0) 1 9 := ⟨by decide +kernel, rfl⟩
theorem d_9_fillsNeeds_9 : zD prog_11_method_114_code 9 (.getfield 137) 3 12 := ⟨by decide +kernel, rfl⟩
theorem d_9_fillsNeeds_12 : zD prog_11_method_114_code 12 (.iload_n 2) 1 13 := ⟨by decide +kernel, rfl⟩
theorem d_9_fillsNeeds_13 : zD prog_11_method_114_code 13 (.iconst 0) 1 14 := ⟨by decide +kernel, rfl⟩
theorem d_9_fillsNeeds_14 : zD prog_11_method_114_code 14 (.iastore) 1 15 := ⟨by decide +kernel, rfl⟩
theorem d_9_fillsNeeds_15 : zD prog_11_method_114_code 15 (.iinc 2 1) 3 18 := ⟨by decide +kernel, rfl⟩
theorem d_9_fillsNeeds_18 : zD prog_11_method_114_code 18 (.goto (-16)) 3 21 := ⟨by decide +kernel, rfl⟩
theorem d_9_fillsNeeds_21 : zD prog_11_method_114_code 21 (.iconst 0) 1 22 := ⟨by decide +kernel, rfl⟩
theorem d_9_fillsNeeds_22 : zD prog_11_method_114_code 22 (.istore_n 2) 1 23 := ⟨by decide +kernel, rfl⟩
theorem d_9_fillsNeeds_23 : zD prog_11_method_114_code 23 (.iload_n 2) 1 24 := ⟨by decide +kernel, rfl⟩
theorem d_9_fillsNeeds_24 : zD prog_11_method_114_code 24 (.iload_n 1) 1 25 := ⟨by decide +kernel, rfl⟩
theorem d_9_fillsNeeds_25 : zD prog_11_method_114_code 25 (.if_icmp .ge 31) 3 28 := ⟨by decide +kernel, rfl⟩
theorem d_9_fillsNeeds_28 : zD prog_11_method_114_code 28 (.aload_n 0) 1 29 := ⟨by decide +kernel, rfl⟩
theorem d_9_fillsNeeds_29 : zD prog_11_method_114_code 29 (.getfield 137) 3 32 := ⟨by decide +kernel, rfl⟩
theorem d_9_fillsNeeds_32 : zD prog_11_method_114_code 32 (.aload_n 0) 1 33 := ⟨by decide +kernel, rfl⟩
theorem d_9_fillsNeeds_33 : zD prog_11_method_114_code 33 (.getfield 134) 3 36 := ⟨by decide +kernel, rfl⟩
theorem d_9_fillsNeeds_36 : zD prog_11_method_114_code 36 (.iload_n 2) 1 37 := ⟨by decide +kernel, rfl⟩
theorem d_9_fillsNeeds_37 : zD prog_11_method_114_code 37 (.iaload) 1 38 := ⟨by decide +kernel, rfl⟩
theorem d_9_fillsNeeds_38 : zD prog_11_method_114_code 38 (.dup2) 1 39 := ⟨by decide +kernel, rfl⟩
theorem d_9_fillsNeeds_39 : zD prog_11_method_114_code 39 (.iaload) 1 40 := ⟨by decide +kernel, rfl⟩
theorem d_9_fillsNeeds_40 : zD prog_11_method_114_code 40 (.iconst 1) 1 41 := ⟨by decide +kernel, rfl⟩
theorem d_9_fillsNeeds_41 : zD prog_11_method_114_code 41 (.aload_n 0) 1 42 := ⟨by decide +kernel, rfl⟩
theorem d_9_fillsNeeds_42 : zD prog_11_method_114_code 42 (.getfield 131) 3 45 := ⟨by decide +kernel, rfl⟩
theorem d_9_fillsNeeds_45 : zD prog_11_method_114_code 45 (.iload_n 2) 1 46 := ⟨by decide +kernel, rfl⟩
theorem d_9_fillsNeeds_46 : zD prog_11_method_114_code 46 (.iaload) 1 47 := ⟨by decide +kernel, rfl⟩
theorem d_9_fillsNeeds_47 : zD prog_11_method_114_code 47 (.ishl) 1 48 := ⟨by decide +kernel, rfl⟩
theorem d_9_fillsNeeds_48 : zD prog_11_method_114_code 48 (.ior) 1 49 := ⟨by decide +kernel, rfl⟩
theorem d_9_fillsNeeds_49 : zD prog_11_method_114_code 49 (.iastore) 1 50 := ⟨by decide +kernel, rfl⟩
theorem d_9_fillsNeeds_50 : zD prog_11_method_114_code 50 (.iinc 2 1) 3 53 := ⟨by decide +kernel, rfl⟩
theorem d_9_fillsNeeds_53 : zD prog_11_method_114_code 53 (.goto (-30)) 3 56 := ⟨by decide +kernel, rfl⟩
theorem d_9_fillsNeeds_56 : zD prog_11_method_114_code 56 (.return_) 1 57 := ⟨by decide +kernel, rfl⟩
theorem d_9_counts_0 : zD prog_11_method_115_code 0 (.aload_n 0) 1 1 := ⟨by decide +kernel, rfl⟩
theorem d_9_counts_1 : zD prog_11_method_115_code 1 (.invokevirtual 456) 3 4 := ⟨by decide +kernel, rfl⟩
theorem d_9_counts_4 : zD prog_11_method_115_code 4 (.istore_n 1) 1 5 := ⟨by decide +kernel, rfl⟩
theorem d_9_counts_5 : zD prog_11_method_115_code 5 (.iconst 0) 1 6 := ⟨by decide +kernel, rfl⟩
theorem d_9_counts_6 : zD prog_11_method_115_code 6 (.istore_n 2) 1 7 := ⟨by decide +kernel, rfl⟩
theorem d_9_counts_7 : zD prog_11_method_115_code 7 (.iload_n 2) 1 8 := ⟨by decide +kernel, rfl⟩
theorem d_9_counts_8 : zD prog_11_method_115_code 8 (.iload_n 1) 1 9 := ⟨by decide +kernel, rfl⟩
theorem d_9_counts_9 : zD prog_11_method_115_code 9 (.if_icmp .gt 86) 3 12 := ⟨by decide +kernel, rfl⟩
theorem d_9_counts_12 : zD prog_11_method_115_code 12 (.aload_n 0) 1 13 := ⟨by decide +kernel, rfl⟩
theorem d_9_counts_13 : zD prog_11_method_115_code 13 (.getfield 140) 3 16 := ⟨by decide +kernel, rfl⟩
theorem d_9_counts_16 : zD prog_11_method_115_code 16 (.iload_n 2) 1 17 := ⟨by decide +kernel, rfl⟩
theorem d_9_counts_17 : zD prog_11_method_115_code 17 (.iload_n 2) 1 18 := ⟨by decide +kernel, rfl⟩
theorem d_9_counts_18 : zD prog_11_method_115_code 18 (.ifCond .ne 7) 3 21 := ⟨by decide +kernel, rfl⟩
theorem d_9_counts_21 : zD prog_11_method_115_code 21 (.iconst 1) 1 22 := ⟨by decide +kernel, rfl⟩
theorem d_9_counts_22 : zD prog_11_method_115_code 22 (.goto 4) 3 25 := ⟨by decide +kernel, rfl⟩
theorem d_9_counts_25 : zD prog_11_method_115_code 25 (.iconst 0) 1 26 := ⟨by decide +kernel, rfl⟩
theorem d_9_counts_26 : zD prog_11_method_115_code 26 (.iastore) 1 27 := ⟨by decide +kernel, rfl⟩
theorem d_9_counts_27 : zD prog_11_method_115_code 27 (.iconst 0) 1 28 := ⟨by decide +kernel, rfl⟩
theorem d_9_counts_28 : zD prog_11_method_115_code 28 (.istore_n 3) 1 29 := ⟨by decide +kernel, rfl⟩
theorem d_9_counts_29 : zD prog_11_method_115_code 29 (.iload_n 3) 1 30 := ⟨by decide +kernel, rfl⟩
theorem d_9_counts_30 : zD prog_11_method_115_code 30 (.aload_n 0) 1 31 := ⟨by decide +kernel, rfl⟩
theorem d_9_counts_31 : zD prog_11_method_115_code 31 (.getfield 55) 3 34 := ⟨by decide +kernel, rfl⟩
theorem d_9_counts_34 : zD prog_11_method_115_code 34 (.aload_n 0) 1 35 := ⟨by decide +kernel, rfl⟩
theorem d_9_counts_35 : zD prog_11_method_115_code 35 (.getfield 233) 3 38 := ⟨by decide +kernel, rfl⟩
theorem d_9_counts_38 : zD prog_11_method_115_code 38 (.iaload) 1 39 := ⟨by decide +kernel, rfl⟩
theorem d_9_counts_39 : zD prog_11_method_115_code 39 (.if_icmp .ge 50) 3 42 := ⟨by decide +kernel, rfl⟩
theorem d_9_counts_42 : zD prog_11_method_115_code 42 (.iload_n 2) 1 43 := ⟨by decide +kernel, rfl⟩
theorem d_9_counts_43 : zD prog_11_method_115_code 43 (.iconst 1) 1 44 := ⟨by decide +kernel, rfl⟩
theorem d_9_counts_44 : zD prog_11_method_115_code 44 (.iload_n 3) 1 45 := ⟨by decide +kernel, rfl⟩
theorem d_9_counts_45 : zD prog_11_method_115_code 45 (.ishl) 1 46 := ⟨by decide +kernel, rfl⟩
theorem d_9_counts_46 : zD prog_11_method_115_code 46 (.iconst (-1)) 1 47 := ⟨by decide +kernel, rfl⟩
theorem d_9_counts_47 : zD prog_11_method_115_code 47 (.ixor) 1 48 := ⟨by decide +kernel, rfl⟩
theorem d_9_counts_48 : zD prog_11_method_115_code 48 (.iand) 1 49 := ⟨by decide +kernel, rfl⟩
theorem d_9_counts_49 : zD prog_11_method_115_code 49 (.istore 4) 2 51 := ⟨by decide +kernel, rfl⟩
theorem d_9_counts_51 : zD prog_11_method_115_code 51 (.iload 4) 2 53 := ⟨by decide +kernel, rfl⟩
theorem d_9_counts_53 : zD prog_11_method_115_code 53 (.iload_n 2) 1 54 := ⟨by decide +kernel, rfl⟩
theorem d_9_counts_54 : zD prog_11_method_115_code 54 (.if_icmp .eq 29) 3 57 := ⟨by decide +kernel, rfl⟩
theorem d_9_counts_57 : zD prog_11_method_115_code 57 (.aload_n 0) 1 58 := ⟨by decide +kernel, rfl⟩
theorem d_9_counts_58 : zD prog_11_method_115_code 58 (.iload_n 3) 1 59 := ⟨by decide +kernel, rfl⟩
theorem d_9_counts_59 : zD prog_11_method_115_code 59 (.iload 4) 2 61 := ⟨by decide +kernel, rfl⟩
theorem d_9_counts_61 : zD prog_11_method_115_code 61 (.invokevirtual 459) 3 64 := ⟨by decide +kernel, rfl⟩
theorem d_9_counts_64 : zD prog_11_method_115_code 64 (.ifCond .eq 19) 3 67 := ⟨by decide +kernel, rfl⟩
theorem d_9_counts_67 : zD prog_11_method_115_code 67 (.aload_n 0) 1 68 := ⟨by decide +kernel, rfl⟩
theorem d_9_counts_68 : zD prog_11_method_115_code 68 (.getfield 140) 3 71 := ⟨by decide +kernel, rfl⟩
theorem d_9_counts_71 : zD prog_11_method_115_code 71 (.iload_n 2) 1 72 := ⟨by decide +kernel, rfl⟩
theorem d_9_counts_72 : zD prog_11_method_115_code 72 (.dup2) 1 73 := ⟨by decide +kernel, rfl⟩
theorem d_9_counts_73 : zD prog_11_method_115_code 73 (.iaload) 1 74 := ⟨by decide +kernel, rfl⟩
theorem d_9_counts_74 : zD prog_11_method_115_code 74 (.aload_n 0) 1 75 := ⟨by decide +kernel, rfl⟩
theorem d_9_counts_75 : zD prog_11_method_115_code 75 (.getfield 140) 3 78 := ⟨by decide +kernel, rfl⟩
theorem d_9_counts_78 : zD prog_11_method_115_code 78 (.iload 4) 2 80 := ⟨by decide +kernel, rfl⟩
theorem d_9_counts_80 : zD prog_11_method_115_code 80 (.iaload) 1 81 := ⟨by decide +kernel, rfl⟩
theorem d_9_counts_81 : zD prog_11_method_115_code 81 (.iadd) 1 82 := ⟨by decide +kernel, rfl⟩
theorem d_9_counts_82 : zD prog_11_method_115_code 82 (.iastore) 1 83 := ⟨by decide +kernel, rfl⟩
theorem d_9_counts_83 : zD prog_11_method_115_code 83 (.iinc 3 1) 3 86 := ⟨by decide +kernel, rfl⟩
theorem d_9_counts_86 : zD prog_11_method_115_code 86 (.goto (-57)) 3 89 := ⟨by decide +kernel, rfl⟩
theorem d_9_counts_89 : zD prog_11_method_115_code 89 (.iinc 2 1) 3 92 := ⟨by decide +kernel, rfl⟩
theorem d_9_counts_92 : zD prog_11_method_115_code 92 (.goto (-85)) 3 95 := ⟨by decide +kernel, rfl⟩
theorem d_9_counts_95 : zD prog_11_method_115_code 95 (.iload_n 1) 1 96 := ⟨by decide +kernel, rfl⟩
theorem d_9_counts_96 : zD prog_11_method_115_code 96 (.istore_n 2) 1 97 := ⟨by decide +kernel, rfl⟩
theorem d_9_counts_97 : zD prog_11_method_115_code 97 (.iload_n 2) 1 98 := ⟨by decide +kernel, rfl⟩
theorem d_9_counts_98 : zD prog_11_method_115_code 98 (.ifCond .lt 74) 3 101 := ⟨by decide +kernel, rfl⟩
theorem d_9_counts_101 : zD prog_11_method_115_code 101 (.aload_n 0) 1 102 := ⟨by decide +kernel, rfl⟩
theorem d_9_counts_102 : zD prog_11_method_115_code 102 (.getfield 143) 3 105 := ⟨by decide +kernel, rfl⟩
theorem d_9_counts_105 : zD prog_11_method_115_code 105 (.iload_n 2) 1 106 := ⟨by decide +kernel, rfl⟩
theorem d_9_counts_106 : zD prog_11_method_115_code 106 (.iload_n 2) 1 107 := ⟨by decide +kernel, rfl⟩
theorem d_9_counts_107 : zD prog_11_method_115_code 107 (.iload_n 1) 1 108 := ⟨by decide +kernel, rfl⟩
theorem d_9_counts_108 : zD prog_11_method_115_code 108 (.if_icmp .ne 7) 3 111 := ⟨by decide +kernel, rfl⟩
theorem d_9_counts_111 : zD prog_11_method_115_code 111 (.iconst 1) 1 112 := ⟨by decide +kernel, rfl⟩
theorem d_9_counts_112 : zD prog_11_method_115_code 112 (.goto 4) 3 115 := ⟨by decide +kernel, rfl⟩
theorem d_9_counts_115 : zD prog_11_method_115_code 115 (.iconst 0) 1 116 := ⟨by decide +kernel, rfl⟩
theorem d_9_counts_116 : zD prog_11_method_115_code 116 (.iastore) 1 117 := ⟨by decide +kernel, rfl⟩
theorem d_9_counts_117 : zD prog_11_method_115_code 117 (.iconst 0) 1 118 := ⟨by decide +kernel, rfl⟩
theorem d_9_counts_118 : zD prog_11_method_115_code 118 (.istore_n 3) 1 119 := ⟨by decide +kernel, rfl⟩
theorem d_9_counts_119 : zD prog_11_method_115_code 119 (.iload_n 3) 1 120 := ⟨by decide +kernel, rfl⟩
theorem d_9_counts_120 : zD prog_11_method_115_code 120 (.aload_n 0) 1 121 := ⟨by decide +kernel, rfl⟩
theorem d_9_counts_121 : zD prog_11_method_115_code 121 (.getfield 55) 3 124 := ⟨by decide +kernel, rfl⟩
theorem d_9_counts_124 : zD prog_11_method_115_code 124 (.aload_n 0) 1 125 := ⟨by decide +kernel, rfl⟩
theorem d_9_counts_125 : zD prog_11_method_115_code 125 (.getfield 233) 3 128 := ⟨by decide +kernel, rfl⟩
theorem d_9_counts_128 : zD prog_11_method_115_code 128 (.iaload) 1 129 := ⟨by decide +kernel, rfl⟩
theorem d_9_counts_129 : zD prog_11_method_115_code 129 (.if_icmp .ge 37) 3 132 := ⟨by decide +kernel, rfl⟩
theorem d_9_counts_132 : zD prog_11_method_115_code 132 (.aload_n 0) 1 133 := ⟨by decide +kernel, rfl⟩
theorem d_9_counts_133 : zD prog_11_method_115_code 133 (.iload_n 3) 1 134 := ⟨by decide +kernel, rfl⟩
theorem d_9_counts_134 : zD prog_11_method_115_code 134 (.iload_n 2) 1 135 := ⟨by decide +kernel, rfl⟩
theorem d_9_counts_135 : zD prog_11_method_115_code 135 (.invokevirtual 459) 3 138 := ⟨by decide +kernel, rfl⟩
theorem d_9_counts_138 : zD prog_11_method_115_code 138 (.ifCond .eq 22) 3 141 := ⟨by decide +kernel, rfl⟩
theorem d_9_counts_141 : zD prog_11_method_115_code 141 (.aload_n 0) 1 142 := ⟨by decide +kernel, rfl⟩
theorem d_9_counts_142 : zD prog_11_method_115_code 142 (.getfield 143) 3 145 := ⟨by decide +kernel, rfl⟩
theorem d_9_counts_145 : zD prog_11_method_115_code 145 (.iload_n 2) 1 146 := ⟨by decide +kernel, rfl⟩
theorem d_9_counts_146 : zD prog_11_method_115_code 146 (.dup2) 1 147 := ⟨by decide +kernel, rfl⟩
theorem d_9_counts_147 : zD prog_11_method_115_code 147 (.iaload) 1 148 := ⟨by decide +kernel, rfl⟩
theorem d_9_counts_148 : zD prog_11_method_115_code 148 (.aload_n 0) 1 149 := ⟨by decide +kernel, rfl⟩
theorem d_9_counts_149 : zD prog_11_method_115_code 149 (.getfield 143) 3 152 := ⟨by decide +kernel, rfl⟩
theorem d_9_counts_152 : zD prog_11_method_115_code 152 (.iload_n 2) 1 153 := ⟨by decide +kernel, rfl⟩
theorem d_9_counts_153 : zD prog_11_method_115_code 153 (.iconst 1) 1 154 := ⟨by decide +kernel, rfl⟩
theorem d_9_counts_154 : zD prog_11_method_115_code 154 (.iload_n 3) 1 155 := ⟨by decide +kernel, rfl⟩
theorem d_9_counts_155 : zD prog_11_method_115_code 155 (.ishl) 1 156 := ⟨by decide +kernel, rfl⟩
theorem d_9_counts_156 : zD prog_11_method_115_code 156 (.ior) 1 157 := ⟨by decide +kernel, rfl⟩
theorem d_9_counts_157 : zD prog_11_method_115_code 157 (.iaload) 1 158 := ⟨by decide +kernel, rfl⟩
theorem d_9_counts_158 : zD prog_11_method_115_code 158 (.iadd) 1 159 := ⟨by decide +kernel, rfl⟩
theorem d_9_counts_159 : zD prog_11_method_115_code 159 (.iastore) 1 160 := ⟨by decide +kernel, rfl⟩
theorem d_9_counts_160 : zD prog_11_method_115_code 160 (.iinc 3 1) 3 163 := ⟨by decide +kernel, rfl⟩
theorem d_9_counts_163 : zD prog_11_method_115_code 163 (.goto (-44)) 3 166 := ⟨by decide +kernel, rfl⟩
theorem d_9_counts_166 : zD prog_11_method_115_code 166 (.iinc 2 (-1)) 3 169 := ⟨by decide +kernel, rfl⟩
theorem d_9_counts_169 : zD prog_11_method_115_code 169 (.goto (-72)) 3 172 := ⟨by decide +kernel, rfl⟩
theorem d_9_counts_172 : zD prog_11_method_115_code 172 (.aload_n 0) 1 173 := ⟨by decide +kernel, rfl⟩
theorem d_9_counts_173 : zD prog_11_method_115_code 173 (.getfield 143) 3 176 := ⟨by decide +kernel, rfl⟩
theorem d_9_counts_176 : zD prog_11_method_115_code 176 (.iconst 0) 1 177 := ⟨by decide +kernel, rfl⟩
theorem d_9_counts_177 : zD prog_11_method_115_code 177 (.iaload) 1 178 := ⟨by decide +kernel, rfl⟩
theorem d_9_counts_178 : zD prog_11_method_115_code 178 (.ireturn) 1 179 := ⟨by decide +kernel, rfl⟩
theorem d_9_countsBy_0 : zD prog_11_method_116_code 0 (.aload_n 0) 1 1 := ⟨by decide +kernel, rfl⟩
theorem d_9_countsBy_1 : zD prog_11_method_116_code 1 (.iload_n 1) 1 2 := ⟨by decide +kernel, rfl⟩
theorem d_9_countsBy_2 : zD prog_11_method_116_code 2 (.invokevirtual 462) 3 5 := ⟨by decide +kernel, rfl⟩
theorem d_9_countsBy_5 : zD prog_11_method_116_code 5 (.aload_n 0) 1 6 := ⟨by decide +kernel, rfl⟩
theorem d_9_countsBy_6 : zD prog_11_method_116_code 6 (.invokevirtual 465) 3 9 := ⟨by decide +kernel, rfl⟩
theorem d_9_countsBy_9 : zD prog_11_method_116_code 9 (.ireturn) 1 10 := ⟨by decide +kernel, rfl⟩
theorem d_9_orders_0 : zD prog_11_method_117_code 0 (.aload_n 0) 1 1 := ⟨by decide +kernel, rfl⟩
theorem d_9_orders_1 : zD prog_11_method_117_code 1 (.iload_n 1) 1 2 := ⟨by decide +kernel, rfl⟩
theorem d_9_orders_2 : zD prog_11_method_117_code 2 (.invokevirtual 468) 3 5 := ⟨by decide +kernel, rfl⟩
theorem d_9_orders_5 : zD prog_11_method_117_code 5 (.ifCond .eq 11) 3 8 := ⟨by decide +kernel, rfl⟩
theorem d_9_orders_8 : zD prog_11_method_117_code 8 (.aload_n 0) 1 9 := ⟨by decide +kernel, rfl⟩
theorem d_9_orders_9 : zD prog_11_method_117_code 9 (.iload_n 1) 1 10 := ⟨by decide +kernel, rfl⟩
theorem d_9_orders_10 : zD prog_11_method_117_code 10 (.invokevirtual 471) 3 13 := ⟨by decide +kernel, rfl⟩
theorem d_9_orders_13 : zD prog_11_method_117_code 13 (.goto 4) 3 16 := ⟨by decide +kernel, rfl⟩
theorem d_9_orders_16 : zD prog_11_method_117_code 16 (.iconst (-1)) 1 17 := ⟨by decide +kernel, rfl⟩
theorem d_9_orders_17 : zD prog_11_method_117_code 17 (.ireturn) 1 18 := ⟨by decide +kernel, rfl⟩
theorem d_9_placedAt_0 : zD prog_11_method_118_code 0 (.iconst 0) 1 1 := ⟨by decide +kernel, rfl⟩
theorem d_9_placedAt_1 : zD prog_11_method_118_code 1 (.istore_n 3) 1 2 := ⟨by decide +kernel, rfl⟩
theorem d_9_placedAt_2 : zD prog_11_method_118_code 2 (.iconst 0) 1 3 := ⟨by decide +kernel, rfl⟩
theorem d_9_placedAt_3 : zD prog_11_method_118_code 3 (.istore 4) 2 5 := ⟨by decide +kernel, rfl⟩
theorem d_9_placedAt_5 : zD prog_11_method_118_code 5 (.iload 4) 2 7 := ⟨by decide +kernel, rfl⟩
theorem d_9_placedAt_7 : zD prog_11_method_118_code 7 (.aload_n 0) 1 8 := ⟨by decide +kernel, rfl⟩
theorem d_9_placedAt_8 : zD prog_11_method_118_code 8 (.invokevirtual 456) 3 11 := ⟨by decide +kernel, rfl⟩
theorem d_9_placedAt_11 : zD prog_11_method_118_code 11 (.if_icmp .gt 50) 3 14 := ⟨by decide +kernel, rfl⟩
theorem d_9_placedAt_14 : zD prog_11_method_118_code 14 (.iload 4) 2 16 := ⟨by decide +kernel, rfl⟩
theorem d_9_placedAt_16 : zD prog_11_method_118_code 16 (.invokestatic 355) 3 19 := ⟨by decide +kernel, rfl⟩
theorem d_9_placedAt_19 : zD prog_11_method_118_code 19 (.iload_n 2) 1 20 := ⟨by decide +kernel, rfl⟩
theorem d_9_placedAt_20 : zD prog_11_method_118_code 20 (.if_icmp .ne 35) 3 23 := ⟨by decide +kernel, rfl⟩
theorem d_9_placedAt_23 : zD prog_11_method_118_code 23 (.aload_n 0) 1 24 := ⟨by decide +kernel, rfl⟩
theorem d_9_placedAt_24 : zD prog_11_method_118_code 24 (.iload_n 1) 1 25 := ⟨by decide +kernel, rfl⟩
theorem d_9_placedAt_25 : zD prog_11_method_118_code 25 (.iload 4) 2 27 := ⟨by decide +kernel, rfl⟩
theorem d_9_placedAt_27 : zD prog_11_method_118_code 27 (.invokevirtual 459) 3 30 := ⟨by decide +kernel, rfl⟩
theorem d_9_placedAt_30 : zD prog_11_method_118_code 30 (.ifCond .eq 25) 3 33 := ⟨by decide +kernel, rfl⟩
theorem d_9_placedAt_33 : zD prog_11_method_118_code 33 (.iload_n 3) 1 34 := ⟨by decide +kernel, rfl⟩
theorem d_9_placedAt_34 : zD prog_11_method_118_code 34 (.aload_n 0) 1 35 := ⟨by decide +kernel, rfl⟩
theorem d_9_placedAt_35 : zD prog_11_method_118_code 35 (.getfield 140) 3 38 := ⟨by decide +kernel, rfl⟩
theorem d_9_placedAt_38 : zD prog_11_method_118_code 38 (.iload 4) 2 40 := ⟨by decide +kernel, rfl⟩
theorem d_9_placedAt_40 : zD prog_11_method_118_code 40 (.iaload) 1 41 := ⟨by decide +kernel, rfl⟩
theorem d_9_placedAt_41 : zD prog_11_method_118_code 41 (.aload_n 0) 1 42 := ⟨by decide +kernel, rfl⟩
theorem d_9_placedAt_42 : zD prog_11_method_118_code 42 (.getfield 143) 3 45 := ⟨by decide +kernel, rfl⟩
theorem d_9_placedAt_45 : zD prog_11_method_118_code 45 (.iload 4) 2 47 := ⟨by decide +kernel, rfl⟩
theorem d_9_placedAt_47 : zD prog_11_method_118_code 47 (.iconst 1) 1 48 := ⟨by decide +kernel, rfl⟩
theorem d_9_placedAt_48 : zD prog_11_method_118_code 48 (.iload_n 1) 1 49 := ⟨by decide +kernel, rfl⟩
theorem d_9_placedAt_49 : zD prog_11_method_118_code 49 (.ishl) 1 50 := ⟨by decide +kernel, rfl⟩
theorem d_9_placedAt_50 : zD prog_11_method_118_code 50 (.ior) 1 51 := ⟨by decide +kernel, rfl⟩
theorem d_9_placedAt_51 : zD prog_11_method_118_code 51 (.iaload) 1 52 := ⟨by decide +kernel, rfl⟩
theorem d_9_placedAt_52 : zD prog_11_method_118_code 52 (.imul) 1 53 := ⟨by decide +kernel, rfl⟩
theorem d_9_placedAt_53 : zD prog_11_method_118_code 53 (.iadd) 1 54 := ⟨by decide +kernel, rfl⟩
theorem d_9_placedAt_54 : zD prog_11_method_118_code 54 (.istore_n 3) 1 55 := ⟨by decide +kernel, rfl⟩
theorem d_9_placedAt_55 : zD prog_11_method_118_code 55 (.iinc 4 1) 3 58 := ⟨by decide +kernel, rfl⟩
theorem d_9_placedAt_58 : zD prog_11_method_118_code 58 (.goto (-53)) 3 61 := ⟨by decide +kernel, rfl⟩
theorem d_9_placedAt_61 : zD prog_11_method_118_code 61 (.iload_n 3) 1 62 := ⟨by decide +kernel, rfl⟩
theorem d_9_placedAt_62 : zD prog_11_method_118_code 62 (.ireturn) 1 63 := ⟨by decide +kernel, rfl⟩
theorem d_9_first_0 : zD prog_11_method_119_code 0 (.aload_n 0) 1 1 := ⟨by decide +kernel, rfl⟩
theorem d_9_first_1 : zD prog_11_method_119_code 1 (.iload_n 1) 1 2 := ⟨by decide +kernel, rfl⟩
theorem d_9_first_2 : zD prog_11_method_119_code 2 (.invokevirtual 468) 3 5 := ⟨by decide +kernel, rfl⟩
theorem d_9_first_5 : zD prog_11_method_119_code 5 (.ifCond .eq 11) 3 8 := ⟨by decide +kernel, rfl⟩
theorem d_9_first_8 : zD prog_11_method_119_code 8 (.aload_n 0) 1 9 := ⟨by decide +kernel, rfl⟩
theorem d_9_first_9 : zD prog_11_method_119_code 9 (.iload_n 2) 1 10 := ⟨by decide +kernel, rfl⟩
theorem d_9_first_10 : zD prog_11_method_119_code 10 (.invokevirtual 316) 3 13 := ⟨by decide +kernel, rfl⟩
theorem d_9_first_13 : zD prog_11_method_119_code 13 (.ifCond .ne 5) 3 16 := ⟨by decide +kernel, rfl⟩
theorem d_9_first_16 : zD prog_11_method_119_code 16 (.iconst (-1)) 1 17 := ⟨by decide +kernel, rfl⟩
theorem d_9_first_17 : zD prog_11_method_119_code 17 (.ireturn) 1 18 := ⟨by decide +kernel, rfl⟩
theorem d_9_first_18 : zD prog_11_method_119_code 18 (.aload_n 0) 1 19 := ⟨by decide +kernel, rfl⟩
theorem d_9_first_19 : zD prog_11_method_119_code 19 (.iload_n 1) 1 20 := ⟨by decide +kernel, rfl⟩
theorem d_9_first_20 : zD prog_11_method_119_code 20 (.invokevirtual 471) 3 23 := ⟨by decide +kernel, rfl⟩
theorem d_9_first_23 : zD prog_11_method_119_code 23 (.pop) 1 24 := ⟨by decide +kernel, rfl⟩
theorem d_9_first_24 : zD prog_11_method_119_code 24 (.iconst 0) 1 25 := ⟨by decide +kernel, rfl⟩
theorem d_9_first_25 : zD prog_11_method_119_code 25 (.istore_n 3) 1 26 := ⟨by decide +kernel, rfl⟩
theorem d_9_first_26 : zD prog_11_method_119_code 26 (.iload_n 3) 1 27 := ⟨by decide +kernel, rfl⟩
theorem d_9_first_27 : zD prog_11_method_119_code 27 (.aload_n 0) 1 28 := ⟨by decide +kernel, rfl⟩
theorem d_9_first_28 : zD prog_11_method_119_code 28 (.getfield 55) 3 31 := ⟨by decide +kernel, rfl⟩
theorem d_9_first_31 : zD prog_11_method_119_code 31 (.aload_n 0) 1 32 := ⟨by decide +kernel, rfl⟩
theorem d_9_first_32 : zD prog_11_method_119_code 32 (.getfield 233) 3 35 := ⟨by decide +kernel, rfl⟩
theorem d_9_first_35 : zD prog_11_method_119_code 35 (.iaload) 1 36 := ⟨by decide +kernel, rfl⟩
theorem d_9_first_36 : zD prog_11_method_119_code 36 (.if_icmp .ge 20) 3 39 := ⟨by decide +kernel, rfl⟩
theorem d_9_first_39 : zD prog_11_method_119_code 39 (.aload_n 0) 1 40 := ⟨by decide +kernel, rfl⟩
theorem d_9_first_40 : zD prog_11_method_119_code 40 (.iload_n 2) 1 41 := ⟨by decide +kernel, rfl⟩
theorem d_9_first_41 : zD prog_11_method_119_code 41 (.iload_n 3) 1 42 := ⟨by decide +kernel, rfl⟩
theorem d_9_first_42 : zD prog_11_method_119_code 42 (.invokevirtual 474) 3 45 := ⟨by decide +kernel, rfl⟩
theorem d_9_first_45 : zD prog_11_method_119_code 45 (.ifCond .le 5) 3 48 := ⟨by decide +kernel, rfl⟩
theorem d_9_first_48 : zD prog_11_method_119_code 48 (.iload_n 3) 1 49 := ⟨by decide +kernel, rfl⟩
theorem d_9_first_49 : zD prog_11_method_119_code 49 (.ireturn) 1 50 := ⟨by decide +kernel, rfl⟩
theorem d_9_first_50 : zD prog_11_method_119_code 50 (.iinc 3 1) 3 53 := ⟨by decide +kernel, rfl⟩
theorem d_9_first_53 : zD prog_11_method_119_code 53 (.goto (-27)) 3 56 := ⟨by decide +kernel, rfl⟩
theorem d_9_first_56 : zD prog_11_method_119_code 56 (.bipush (-2)) 2 58 := ⟨by decide +kernel, rfl⟩
theorem d_9_first_58 : zD prog_11_method_119_code 58 (.ireturn) 1 59 := ⟨by decide +kernel, rfl⟩
theorem d_9_last_0 : zD prog_11_method_120_code 0 (.aload_n 0) 1 1 := ⟨by decide +kernel, rfl⟩
theorem d_9_last_1 : zD prog_11_method_120_code 1 (.iload_n 1) 1 2 := ⟨by decide +kernel, rfl⟩
theorem d_9_last_2 : zD prog_11_method_120_code 2 (.invokevirtual 468) 3 5 := ⟨by decide +kernel, rfl⟩
theorem d_9_last_5 : zD prog_11_method_120_code 5 (.ifCond .eq 11) 3 8 := ⟨by decide +kernel, rfl⟩
theorem d_9_last_8 : zD prog_11_method_120_code 8 (.aload_n 0) 1 9 := ⟨by decide +kernel, rfl⟩
theorem d_9_last_9 : zD prog_11_method_120_code 9 (.iload_n 2) 1 10 := ⟨by decide +kernel, rfl⟩
theorem d_9_last_10 : zD prog_11_method_120_code 10 (.invokevirtual 316) 3 13 := ⟨by decide +kernel, rfl⟩
theorem d_9_last_13 : zD prog_11_method_120_code 13 (.ifCond .ne 5) 3 16 := ⟨by decide +kernel, rfl⟩
theorem d_9_last_16 : zD prog_11_method_120_code 16 (.iconst (-1)) 1 17 := ⟨by decide +kernel, rfl⟩
theorem d_9_last_17 : zD prog_11_method_120_code 17 (.ireturn) 1 18 := ⟨by decide +kernel, rfl⟩
theorem d_9_last_18 : zD prog_11_method_120_code 18 (.aload_n 0) 1 19 := ⟨by decide +kernel, rfl⟩
theorem d_9_last_19 : zD prog_11_method_120_code 19 (.iload_n 1) 1 20 := ⟨by decide +kernel, rfl⟩
theorem d_9_last_20 : zD prog_11_method_120_code 20 (.invokevirtual 471) 3 23 := ⟨by decide +kernel, rfl⟩
theorem d_9_last_23 : zD prog_11_method_120_code 23 (.pop) 1 24 := ⟨by decide +kernel, rfl⟩
theorem d_9_last_24 : zD prog_11_method_120_code 24 (.aload_n 0) 1 25 := ⟨by decide +kernel, rfl⟩
theorem d_9_last_25 : zD prog_11_method_120_code 25 (.getfield 55) 3 28 := ⟨by decide +kernel, rfl⟩
theorem d_9_last_28 : zD prog_11_method_120_code 28 (.aload_n 0) 1 29 := ⟨by decide +kernel, rfl⟩
theorem d_9_last_29 : zD prog_11_method_120_code 29 (.getfield 233) 3 32 := ⟨by decide +kernel, rfl⟩
theorem d_9_last_32 : zD prog_11_method_120_code 32 (.iaload) 1 33 := ⟨by decide +kernel, rfl⟩
theorem d_9_last_33 : zD prog_11_method_120_code 33 (.iconst 1) 1 34 := ⟨by decide +kernel, rfl⟩
theorem d_9_last_34 : zD prog_11_method_120_code 34 (.isub) 1 35 := ⟨by decide +kernel, rfl⟩
theorem d_9_last_35 : zD prog_11_method_120_code 35 (.istore_n 3) 1 36 := ⟨by decide +kernel, rfl⟩
theorem d_9_last_36 : zD prog_11_method_120_code 36 (.iload_n 3) 1 37 := ⟨by decide +kernel, rfl⟩
theorem d_9_last_37 : zD prog_11_method_120_code 37 (.ifCond .lt 20) 3 40 := ⟨by decide +kernel, rfl⟩
theorem d_9_last_40 : zD prog_11_method_120_code 40 (.aload_n 0) 1 41 := ⟨by decide +kernel, rfl⟩
theorem d_9_last_41 : zD prog_11_method_120_code 41 (.iload_n 2) 1 42 := ⟨by decide +kernel, rfl⟩
theorem d_9_last_42 : zD prog_11_method_120_code 42 (.iload_n 3) 1 43 := ⟨by decide +kernel, rfl⟩
theorem d_9_last_43 : zD prog_11_method_120_code 43 (.invokevirtual 474) 3 46 := ⟨by decide +kernel, rfl⟩
theorem d_9_last_46 : zD prog_11_method_120_code 46 (.ifCond .le 5) 3 49 := ⟨by decide +kernel, rfl⟩
theorem d_9_last_49 : zD prog_11_method_120_code 49 (.iload_n 3) 1 50 := ⟨by decide +kernel, rfl⟩
theorem d_9_last_50 : zD prog_11_method_120_code 50 (.ireturn) 1 51 := ⟨by decide +kernel, rfl⟩
theorem d_9_last_51 : zD prog_11_method_120_code 51 (.iinc 3 (-1)) 3 54 := ⟨by decide +kernel, rfl⟩
theorem d_9_last_54 : zD prog_11_method_120_code 54 (.goto (-18)) 3 57 := ⟨by decide +kernel, rfl⟩
theorem d_9_last_57 : zD prog_11_method_120_code 57 (.bipush (-2)) 2 59 := ⟨by decide +kernel, rfl⟩
theorem d_9_last_59 : zD prog_11_method_120_code 59 (.ireturn) 1 60 := ⟨by decide +kernel, rfl⟩
theorem d_9_placed_0 : zD prog_11_method_121_code 0 (.aload_n 0) 1 1 := ⟨by decide +kernel, rfl⟩
theorem d_9_placed_1 : zD prog_11_method_121_code 1 (.iload_n 1) 1 2 := ⟨by decide +kernel, rfl⟩
theorem d_9_placed_2 : zD prog_11_method_121_code 2 (.invokevirtual 468) 3 5 := ⟨by decide +kernel, rfl⟩
theorem d_9_placed_5 : zD prog_11_method_121_code 5 (.ifCond .eq 30) 3 8 := ⟨by decide +kernel, rfl⟩
theorem d_9_placed_8 : zD prog_11_method_121_code 8 (.aload_n 0) 1 9 := ⟨by decide +kernel, rfl⟩
theorem d_9_placed_9 : zD prog_11_method_121_code 9 (.iload_n 2) 1 10 := ⟨by decide +kernel, rfl⟩
theorem d_9_placed_10 : zD prog_11_method_121_code 10 (.invokevirtual 316) 3 13 := ⟨by decide +kernel, rfl⟩
theorem d_9_placed_13 : zD prog_11_method_121_code 13 (.ifCond .eq 22) 3 16 := ⟨by decide +kernel, rfl⟩
theorem d_9_placed_16 : zD prog_11_method_121_code 16 (.iload_n 3) 1 17 := ⟨by decide +kernel, rfl⟩
theorem d_9_placed_17 : zD prog_11_method_121_code 17 (.iconst 0) 1 18 := ⟨by decide +kernel, rfl⟩
theorem d_9_placed_18 : zD prog_11_method_121_code 18 (.aload_n 0) 1 19 := ⟨by decide +kernel, rfl⟩
theorem d_9_placed_19 : zD prog_11_method_121_code 19 (.getfield 55) 3 22 := ⟨by decide +kernel, rfl⟩
theorem d_9_placed_22 : zD prog_11_method_121_code 22 (.aload_n 0) 1 23 := ⟨by decide +kernel, rfl⟩
theorem d_9_placed_23 : zD prog_11_method_121_code 23 (.getfield 233) 3 26 := ⟨by decide +kernel, rfl⟩
theorem d_9_placed_26 : zD prog_11_method_121_code 26 (.iaload) 1 27 := ⟨by decide +kernel, rfl⟩
theorem d_9_placed_27 : zD prog_11_method_121_code 27 (.iconst 1) 1 28 := ⟨by decide +kernel, rfl⟩
theorem d_9_placed_28 : zD prog_11_method_121_code 28 (.isub) 1 29 := ⟨by decide +kernel, rfl⟩
theorem d_9_placed_29 : zD prog_11_method_121_code 29 (.invokestatic 312) 3 32 := ⟨by decide +kernel, rfl⟩
theorem d_9_placed_32 : zD prog_11_method_121_code 32 (.ifCond .ne 5) 3 35 := ⟨by decide +kernel, rfl⟩
theorem d_9_placed_35 : zD prog_11_method_121_code 35 (.iconst (-1)) 1 36 := ⟨by decide +kernel, rfl⟩
theorem d_9_placed_36 : zD prog_11_method_121_code 36 (.ireturn) 1 37 := ⟨by decide +kernel, rfl⟩
theorem d_9_placed_37 : zD prog_11_method_121_code 37 (.aload_n 0) 1 38 := ⟨by decide +kernel, rfl⟩
theorem d_9_placed_38 : zD prog_11_method_121_code 38 (.iload_n 1) 1 39 := ⟨by decide +kernel, rfl⟩
theorem d_9_placed_39 : zD prog_11_method_121_code 39 (.invokevirtual 471) 3 42 := ⟨by decide +kernel, rfl⟩
theorem d_9_placed_42 : zD prog_11_method_121_code 42 (.pop) 1 43 := ⟨by decide +kernel, rfl⟩
theorem d_9_placed_43 : zD prog_11_method_121_code 43 (.aload_n 0) 1 44 := ⟨by decide +kernel, rfl⟩
theorem d_9_placed_44 : zD prog_11_method_121_code 44 (.iload_n 2) 1 45 := ⟨by decide +kernel, rfl⟩
theorem d_9_placed_45 : zD prog_11_method_121_code 45 (.iload_n 3) 1 46 := ⟨by decide +kernel, rfl⟩
theorem d_9_placed_46 : zD prog_11_method_121_code 46 (.invokevirtual 474) 3 49 := ⟨by decide +kernel, rfl⟩
theorem d_9_placed_49 : zD prog_11_method_121_code 49 (.ireturn) 1 50 := ⟨by decide +kernel, rfl⟩
theorem d_9_beforeBy_0 : zD prog_11_method_122_code 0 (.aload_n 0) 1 1 := ⟨by decide +kernel, rfl⟩
theorem d_9_beforeBy_1 : zD prog_11_method_122_code 1 (.iload_n 1) 1 2 := ⟨by decide +kernel, rfl⟩
theorem d_9_beforeBy_2 : zD prog_11_method_122_code 2 (.invokevirtual 462) 3 5 := ⟨by decide +kernel, rfl⟩
theorem d_9_beforeBy_5 : zD prog_11_method_122_code 5 (.aload_n 0) 1 6 := ⟨by decide +kernel, rfl⟩
theorem d_9_beforeBy_6 : zD prog_11_method_122_code 6 (.getfield 137) 3 9 := ⟨by decide +kernel, rfl⟩
theorem d_9_beforeBy_9 : zD prog_11_method_122_code 9 (.iload_n 3) 1 10 := ⟨by decide +kernel, rfl⟩
theorem d_9_beforeBy_10 : zD prog_11_method_122_code 10 (.dup2) 1 11 := ⟨by decide +kernel, rfl⟩
theorem d_9_beforeBy_11 : zD prog_11_method_122_code 11 (.iaload) 1 12 := ⟨by decide +kernel, rfl⟩
theorem d_9_beforeBy_12 : zD prog_11_method_122_code 12 (.iconst 1) 1 13 := ⟨by decide +kernel, rfl⟩
theorem d_9_beforeBy_13 : zD prog_11_method_122_code 13 (.iload_n 2) 1 14 := ⟨by decide +kernel, rfl⟩
theorem d_9_beforeBy_14 : zD prog_11_method_122_code 14 (.ishl) 1 15 := ⟨by decide +kernel, rfl⟩
theorem d_9_beforeBy_15 : zD prog_11_method_122_code 15 (.ior) 1 16 := ⟨by decide +kernel, rfl⟩
theorem d_9_beforeBy_16 : zD prog_11_method_122_code 16 (.iastore) 1 17 := ⟨by decide +kernel, rfl⟩
theorem d_9_beforeBy_17 : zD prog_11_method_122_code 17 (.aload_n 0) 1 18 := ⟨by decide +kernel, rfl⟩
theorem d_9_beforeBy_18 : zD prog_11_method_122_code 18 (.invokevirtual 465) 3 21 := ⟨by decide +kernel, rfl⟩
theorem d_9_beforeBy_21 : zD prog_11_method_122_code 21 (.ireturn) 1 22 := ⟨by decide +kernel, rfl⟩
theorem d_9_before_0 : zD prog_11_method_123_code 0 (.aload_n 0) 1 1 := ⟨by decide +kernel, rfl⟩
theorem d_9_before_1 : zD prog_11_method_123_code 1 (.iload_n 1) 1 2 := ⟨by decide +kernel, rfl⟩
theorem d_9_before_2 : zD prog_11_method_123_code 2 (.invokevirtual 468) 3 5 := ⟨by decide +kernel, rfl⟩
theorem d_9_before_5 : zD prog_11_method_123_code 5 (.ifCond .eq 24) 3 8 := ⟨by decide +kernel, rfl⟩
theorem d_9_before_8 : zD prog_11_method_123_code 8 (.aload_n 0) 1 9 := ⟨by decide +kernel, rfl⟩
theorem d_9_before_9 : zD prog_11_method_123_code 9 (.iload_n 2) 1 10 := ⟨by decide +kernel, rfl⟩
theorem d_9_before_10 : zD prog_11_method_123_code 10 (.invokevirtual 316) 3 13 := ⟨by decide +kernel, rfl⟩
theorem d_9_before_13 : zD prog_11_method_123_code 13 (.ifCond .eq 16) 3 16 := ⟨by decide +kernel, rfl⟩
theorem d_9_before_16 : zD prog_11_method_123_code 16 (.aload_n 0) 1 17 := ⟨by decide +kernel, rfl⟩
theorem d_9_before_17 : zD prog_11_method_123_code 17 (.iload_n 3) 1 18 := ⟨by decide +kernel, rfl⟩
theorem d_9_before_18 : zD prog_11_method_123_code 18 (.invokevirtual 316) 3 21 := ⟨by decide +kernel, rfl⟩
theorem d_9_before_21 : zD prog_11_method_123_code 21 (.ifCond .eq 8) 3 24 := ⟨by decide +kernel, rfl⟩
theorem d_9_before_24 : zD prog_11_method_123_code 24 (.iload_n 2) 1 25 := ⟨by decide +kernel, rfl⟩
theorem d_9_before_25 : zD prog_11_method_123_code 25 (.iload_n 3) 1 26 := ⟨by decide +kernel, rfl⟩
theorem d_9_before_26 : zD prog_11_method_123_code 26 (.if_icmp .ne 5) 3 29 := ⟨by decide +kernel, rfl⟩
theorem d_9_before_29 : zD prog_11_method_123_code 29 (.iconst (-1)) 1 30 := ⟨by decide +kernel, rfl⟩
theorem d_9_before_30 : zD prog_11_method_123_code 30 (.ireturn) 1 31 := ⟨by decide +kernel, rfl⟩
theorem d_9_before_31 : zD prog_11_method_123_code 31 (.aload_n 0) 1 32 := ⟨by decide +kernel, rfl⟩
theorem d_9_before_32 : zD prog_11_method_123_code 32 (.iload_n 1) 1 33 := ⟨by decide +kernel, rfl⟩
theorem d_9_before_33 : zD prog_11_method_123_code 33 (.iload_n 2) 1 34 := ⟨by decide +kernel, rfl⟩
theorem d_9_before_34 : zD prog_11_method_123_code 34 (.iload_n 3) 1 35 := ⟨by decide +kernel, rfl⟩
theorem d_9_before_35 : zD prog_11_method_123_code 35 (.invokevirtual 477) 3 38 := ⟨by decide +kernel, rfl⟩
theorem d_9_before_38 : zD prog_11_method_123_code 38 (.ireturn) 1 39 := ⟨by decide +kernel, rfl⟩
theorem d_9_sum_0 : zD prog_11_method_124_code 0 (.aload_n 0) 1 1 := ⟨by decide +kernel, rfl⟩
theorem d_9_sum_1 : zD prog_11_method_124_code 1 (.iload_n 1) 1 2 := ⟨by decide +kernel, rfl⟩
theorem d_9_sum_2 : zD prog_11_method_124_code 2 (.invokevirtual 468) 3 5 := ⟨by decide +kernel, rfl⟩
theorem d_9_sum_5 : zD prog_11_method_124_code 5 (.ifCond .eq 11) 3 8 := ⟨by decide +kernel, rfl⟩
theorem d_9_sum_8 : zD prog_11_method_124_code 8 (.aload_n 0) 1 9 := ⟨by decide +kernel, rfl⟩
theorem d_9_sum_9 : zD prog_11_method_124_code 9 (.iload_n 2) 1 10 := ⟨by decide +kernel, rfl⟩
theorem d_9_sum_10 : zD prog_11_method_124_code 10 (.invokevirtual 316) 3 13 := ⟨by decide +kernel, rfl⟩
theorem d_9_sum_13 : zD prog_11_method_124_code 13 (.ifCond .ne 5) 3 16 := ⟨by decide +kernel, rfl⟩
theorem d_9_sum_16 : zD prog_11_method_124_code 16 (.iconst (-1)) 1 17 := ⟨by decide +kernel, rfl⟩
theorem d_9_sum_17 : zD prog_11_method_124_code 17 (.ireturn) 1 18 := ⟨by decide +kernel, rfl⟩
theorem d_9_sum_18 : zD prog_11_method_124_code 18 (.aload_n 0) 1 19 := ⟨by decide +kernel, rfl⟩
theorem d_9_sum_19 : zD prog_11_method_124_code 19 (.iload_n 1) 1 20 := ⟨by decide +kernel, rfl⟩
theorem d_9_sum_20 : zD prog_11_method_124_code 20 (.invokevirtual 471) 3 23 := ⟨by decide +kernel, rfl⟩
theorem d_9_sum_23 : zD prog_11_method_124_code 23 (.pop) 1 24 := ⟨by decide +kernel, rfl⟩
theorem d_9_sum_24 : zD prog_11_method_124_code 24 (.iconst 0) 1 25 := ⟨by decide +kernel, rfl⟩
theorem d_9_sum_25 : zD prog_11_method_124_code 25 (.istore_n 3) 1 26 := ⟨by decide +kernel, rfl⟩
theorem d_9_sum_26 : zD prog_11_method_124_code 26 (.iconst 1) 1 27 := ⟨by decide +kernel, rfl⟩
theorem d_9_sum_27 : zD prog_11_method_124_code 27 (.istore 4) 2 29 := ⟨by decide +kernel, rfl⟩
theorem d_9_sum_29 : zD prog_11_method_124_code 29 (.iload 4) 2 31 := ⟨by decide +kernel, rfl⟩
theorem d_9_sum_31 : zD prog_11_method_124_code 31 (.aload_n 0) 1 32 := ⟨by decide +kernel, rfl⟩
theorem d_9_sum_32 : zD prog_11_method_124_code 32 (.getfield 55) 3 35 := ⟨by decide +kernel, rfl⟩
theorem d_9_sum_35 : zD prog_11_method_124_code 35 (.aload_n 0) 1 36 := ⟨by decide +kernel, rfl⟩
theorem d_9_sum_36 : zD prog_11_method_124_code 36 (.getfield 233) 3 39 := ⟨by decide +kernel, rfl⟩
theorem d_9_sum_39 : zD prog_11_method_124_code 39 (.iaload) 1 40 := ⟨by decide +kernel, rfl⟩
theorem d_9_sum_40 : zD prog_11_method_124_code 40 (.if_icmp .ge 22) 3 43 := ⟨by decide +kernel, rfl⟩
theorem d_9_sum_43 : zD prog_11_method_124_code 43 (.iload_n 3) 1 44 := ⟨by decide +kernel, rfl⟩
theorem d_9_sum_44 : zD prog_11_method_124_code 44 (.iload 4) 2 46 := ⟨by decide +kernel, rfl⟩
theorem d_9_sum_46 : zD prog_11_method_124_code 46 (.aload_n 0) 1 47 := ⟨by decide +kernel, rfl⟩
theorem d_9_sum_47 : zD prog_11_method_124_code 47 (.iload_n 2) 1 48 := ⟨by decide +kernel, rfl⟩
theorem d_9_sum_48 : zD prog_11_method_124_code 48 (.iload 4) 2 50 := ⟨by decide +kernel, rfl⟩
theorem d_9_sum_50 : zD prog_11_method_124_code 50 (.invokevirtual 474) 3 53 := ⟨by decide +kernel, rfl⟩
theorem d_9_sum_53 : zD prog_11_method_124_code 53 (.imul) 1 54 := ⟨by decide +kernel, rfl⟩
theorem d_9_sum_54 : zD prog_11_method_124_code 54 (.iadd) 1 55 := ⟨by decide +kernel, rfl⟩
theorem d_9_sum_55 : zD prog_11_method_124_code 55 (.istore_n 3) 1 56 := ⟨by decide +kernel, rfl⟩
theorem d_9_sum_56 : zD prog_11_method_124_code 56 (.iinc 4 1) 3 59 := ⟨by decide +kernel, rfl⟩
theorem d_9_sum_59 : zD prog_11_method_124_code 59 (.goto (-30)) 3 62 := ⟨by decide +kernel, rfl⟩
theorem d_9_sum_62 : zD prog_11_method_124_code 62 (.iload_n 3) 1 63 := ⟨by decide +kernel, rfl⟩
theorem d_9_sum_63 : zD prog_11_method_124_code 63 (.ireturn) 1 64 := ⟨by decide +kernel, rfl⟩
theorem d_9_ahead_0 : zD prog_11_method_125_code 0 (.aload_n 0) 1 1 := ⟨by decide +kernel, rfl⟩
theorem d_9_ahead_1 : zD prog_11_method_125_code 1 (.iload_n 1) 1 2 := ⟨by decide +kernel, rfl⟩
theorem d_9_ahead_2 : zD prog_11_method_125_code 2 (.invokevirtual 468) 3 5 := ⟨by decide +kernel, rfl⟩
theorem d_9_ahead_5 : zD prog_11_method_125_code 5 (.ifCond .eq 11) 3 8 := ⟨by decide +kernel, rfl⟩
theorem d_9_ahead_8 : zD prog_11_method_125_code 8 (.aload_n 0) 1 9 := ⟨by decide +kernel, rfl⟩
theorem d_9_ahead_9 : zD prog_11_method_125_code 9 (.iload_n 2) 1 10 := ⟨by decide +kernel, rfl⟩
theorem d_9_ahead_10 : zD prog_11_method_125_code 10 (.invokevirtual 316) 3 13 := ⟨by decide +kernel, rfl⟩
theorem d_9_ahead_13 : zD prog_11_method_125_code 13 (.ifCond .ne 5) 3 16 := ⟨by decide +kernel, rfl⟩
theorem d_9_ahead_16 : zD prog_11_method_125_code 16 (.iconst (-1)) 1 17 := ⟨by decide +kernel, rfl⟩
theorem d_9_ahead_17 : zD prog_11_method_125_code 17 (.ireturn) 1 18 := ⟨by decide +kernel, rfl⟩
theorem d_9_ahead_18 : zD prog_11_method_125_code 18 (.aload_n 0) 1 19 := ⟨by decide +kernel, rfl⟩
theorem d_9_ahead_19 : zD prog_11_method_125_code 19 (.iload_n 1) 1 20 := ⟨by decide +kernel, rfl⟩
theorem d_9_ahead_20 : zD prog_11_method_125_code 20 (.invokevirtual 471) 3 23 := ⟨by decide +kernel, rfl⟩
theorem d_9_ahead_23 : zD prog_11_method_125_code 23 (.istore_n 3) 1 24 := ⟨by decide +kernel, rfl⟩
theorem d_9_ahead_24 : zD prog_11_method_125_code 24 (.iload_n 3) 1 25 := ⟨by decide +kernel, rfl⟩
theorem d_9_ahead_25 : zD prog_11_method_125_code 25 (.ifCond .ne 6) 3 28 := ⟨by decide +kernel, rfl⟩
theorem d_9_ahead_28 : zD prog_11_method_125_code 28 (.bipush (-2)) 2 30 := ⟨by decide +kernel, rfl⟩
theorem d_9_ahead_30 : zD prog_11_method_125_code 30 (.ireturn) 1 31 := ⟨by decide +kernel, rfl⟩
theorem d_9_ahead_31 : zD prog_11_method_125_code 31 (.iconst 0) 1 32 := ⟨by decide +kernel, rfl⟩
theorem d_9_ahead_32 : zD prog_11_method_125_code 32 (.istore 4) 2 34 := ⟨by decide +kernel, rfl⟩
theorem d_9_ahead_34 : zD prog_11_method_125_code 34 (.iconst 0) 1 35 := ⟨by decide +kernel, rfl⟩
theorem d_9_ahead_35 : zD prog_11_method_125_code 35 (.istore 5) 2 37 := ⟨by decide +kernel, rfl⟩
theorem d_9_ahead_37 : zD prog_11_method_125_code 37 (.iload 5) 2 39 := ⟨by decide +kernel, rfl⟩
theorem d_9_ahead_39 : zD prog_11_method_125_code 39 (.aload_n 0) 1 40 := ⟨by decide +kernel, rfl⟩
theorem d_9_ahead_40 : zD prog_11_method_125_code 40 (.getfield 55) 3 43 := ⟨by decide +kernel, rfl⟩
theorem d_9_ahead_43 : zD prog_11_method_125_code 43 (.aload_n 0) 1 44 := ⟨by decide +kernel, rfl⟩
theorem d_9_ahead_44 : zD prog_11_method_125_code 44 (.getfield 233) 3 47 := ⟨by decide +kernel, rfl⟩
theorem d_9_ahead_47 : zD prog_11_method_125_code 47 (.iaload) 1 48 := ⟨by decide +kernel, rfl⟩
theorem d_9_ahead_48 : zD prog_11_method_125_code 48 (.if_icmp .ge 36) 3 51 := ⟨by decide +kernel, rfl⟩
theorem d_9_ahead_51 : zD prog_11_method_125_code 51 (.iload 5) 2 53 := ⟨by decide +kernel, rfl⟩
theorem d_9_ahead_53 : zD prog_11_method_125_code 53 (.iload_n 2) 1 54 := ⟨by decide +kernel, rfl⟩
theorem d_9_ahead_54 : zD prog_11_method_125_code 54 (.if_icmp .eq 24) 3 57 := ⟨by decide +kernel, rfl⟩
theorem d_9_ahead_57 : zD prog_11_method_125_code 57 (.aload_n 0) 1 58 := ⟨by decide +kernel, rfl⟩
theorem d_9_ahead_58 : zD prog_11_method_125_code 58 (.iload_n 1) 1 59 := ⟨by decide +kernel, rfl⟩
theorem d_9_ahead_59 : zD prog_11_method_125_code 59 (.iload 5) 2 61 := ⟨by decide +kernel, rfl⟩
theorem d_9_ahead_61 : zD prog_11_method_125_code 61 (.iload_n 2) 1 62 := ⟨by decide +kernel, rfl⟩
theorem d_9_ahead_62 : zD prog_11_method_125_code 62 (.invokevirtual 477) 3 65 := ⟨by decide +kernel, rfl⟩
theorem d_9_ahead_65 : zD prog_11_method_125_code 65 (.iload_n 3) 1 66 := ⟨by decide +kernel, rfl⟩
theorem d_9_ahead_66 : zD prog_11_method_125_code 66 (.if_icmp .ne 12) 3 69 := ⟨by decide +kernel, rfl⟩
theorem d_9_ahead_69 : zD prog_11_method_125_code 69 (.iload 4) 2 71 := ⟨by decide +kernel, rfl⟩
theorem d_9_ahead_71 : zD prog_11_method_125_code 71 (.iconst 1) 1 72 := ⟨by decide +kernel, rfl⟩
theorem d_9_ahead_72 : zD prog_11_method_125_code 72 (.iload 5) 2 74 := ⟨by decide +kernel, rfl⟩
theorem d_9_ahead_74 : zD prog_11_method_125_code 74 (.ishl) 1 75 := ⟨by decide +kernel, rfl⟩
theorem d_9_ahead_75 : zD prog_11_method_125_code 75 (.ior) 1 76 := ⟨by decide +kernel, rfl⟩
theorem d_9_ahead_76 : zD prog_11_method_125_code 76 (.istore 4) 2 78 := ⟨by decide +kernel, rfl⟩
theorem d_9_ahead_78 : zD prog_11_method_125_code 78 (.iinc 5 1) 3 81 := ⟨by decide +kernel, rfl⟩
theorem d_9_ahead_81 : zD prog_11_method_125_code 81 (.goto (-44)) 3 84 := ⟨by decide +kernel, rfl⟩
theorem d_9_ahead_84 : zD prog_11_method_125_code 84 (.iload 4) 2 86 := ⟨by decide +kernel, rfl⟩
theorem d_9_ahead_86 : zD prog_11_method_125_code 86 (.ireturn) 1 87 := ⟨by decide +kernel, rfl⟩
def f9_loss (a1 : Int32) (a2 : Int32) (μ : zMem) : Option (Int32 × zMem) :=
  (f9_isNow a1 (1 : Int32) μ).bind (fun q1 => (if q1 = 0 then some ((-100000 : Int32), μ) else (f9_isLong a2).bind (fun q4 => (if q4 = 0 then some ((-100000 : Int32), μ) else (f9_copiesStill μ).bind (fun qm7 => (f9_gotBy a2 a1 qm7).bind (z_u2 fun q9 qm10 => (f9_copiesStill qm10).bind (fun qm12 => (f9_becomes a1 (0 : Int32) qm12).bind (fun qm14 => (f9_gotBy a2 a1 qm14).bind (z_u2 fun q16 qm17 => some ((q16 - q9), qm17))))))))))
theorem s9_loss {P : zP} {μ : zMem} {a1 : Int32} {a2 : Int32} {r : Int32} {μ' : zMem} (h : f9_loss a1 a2 μ = some (r, μ')) : z_Sp P y_9_loss M_9_loss 11 [zA 9 0, zI a1, zI a2] μ (some (zI r)) μ' := by
  refine z_Sp.of (plainFor_of_name (by decide)) rfl (l0 := [some (zA 9 0), some (zI a1), some (zI a2), none]) rfl (Nat.le_of_ble_eq_true rfl) ?_
  unfold f9_loss at h
  refine zr_aload_n (i := 0) d_9_loss_0 rfl rfl ?_
  refine zr_iload_n (i := 1) d_9_loss_1 rfl rfl ?_
  refine zr_iconst (v := (1 : Int32)) d_9_loss_2 rfl ?_
  obtain ⟨q1, hq2, h⟩ := z_bd h
  refine zr_callVi (av := [zI a1, zI (1 : Int32)]) (st := []) d_9_loss_3 mw_9_isNow ml_9_397 im_9_isNow se_9_isNow rfl rfl (Nat.le_of_ble_eq_true rfl) fit_3_3_11 rfl rfl rfl (s9_isNow hq2) ?_
  refine zr_if_eq (tgt := 16) d_9_loss_6 rfl (fun hc3 => ?_) (fun hc3 => ?_)
  · replace h := z_ip h hc3
    refine zr_ldcw (v := (-100000 : Int32)) d_9_loss_16 kc_9_421 ?_
    obtain ⟨rfl, rfl⟩ := Prod.mk.inj (Option.some.inj h)
    exact ze_i d_9_loss_19 rfl
  · replace h := z_im h hc3
    refine zr_iload_n (i := 2) d_9_loss_9 rfl rfl ?_
    obtain ⟨q4, hq5, h⟩ := z_bd h
    refine zr_callSi (av := [zI a2]) (st := []) d_9_loss_10 mw_9_isLong ml_9_403 is_9_isLong rfl rfl (Nat.le_of_ble_eq_true rfl) fit_2_1_11 (s9_isLong hq5) ?_
    refine zr_if_ne (tgt := 20) d_9_loss_13 rfl (fun hc6 => ?_) (fun hc6 => ?_)
    · replace h := z_ip h hc6
      refine zr_ldcw (v := (-100000 : Int32)) d_9_loss_16 kc_9_421 ?_
      obtain ⟨rfl, rfl⟩ := Prod.mk.inj (Option.some.inj h)
      exact ze_i d_9_loss_19 rfl
    · replace h := z_im h hc6
      refine zr_aload_n (i := 0) d_9_loss_20 rfl rfl ?_
      obtain ⟨qm7, hq8, h⟩ := z_bd h
      refine zr_callVv (av := []) (st := []) d_9_loss_21 mw_9_copiesStill ml_9_412 im_9_copiesStill se_9_copiesStill rfl rfl (Nat.le_of_ble_eq_true rfl) fit_2_1_11 rfl rfl rfl (s9_copiesStill hq8) ?_
      refine zr_aload_n (i := 0) d_9_loss_24 rfl rfl ?_
      refine zr_iload_n (i := 2) d_9_loss_25 rfl rfl ?_
      refine zr_iload_n (i := 1) d_9_loss_26 rfl rfl ?_
      obtain ⟨⟨q9, qm10⟩, hq11, h⟩ := z_bd h
      replace h := z_h2 h
      refine zr_callVi (av := [zI a2, zI a1]) (st := []) d_9_loss_27 mw_9_gotBy ml_9_422 im_9_gotBy se_9_gotBy rfl rfl (Nat.le_of_ble_eq_true rfl) fit_10_5_11 rfl rfl rfl (s9_gotBy hq11) ?_
      refine zr_istore_n (i := 3) (l' := [some (zA 9 0), some (zI a1), some (zI a2), some (zI q9)]) d_9_loss_30 rfl (by decide) rfl ?_
      refine zr_aload_n (i := 0) d_9_loss_31 rfl rfl ?_
      obtain ⟨qm12, hq13, h⟩ := z_bd h
      refine zr_callVv (av := []) (st := []) d_9_loss_32 mw_9_copiesStill ml_9_412 im_9_copiesStill se_9_copiesStill rfl rfl (Nat.le_of_ble_eq_true rfl) fit_2_1_11 rfl rfl rfl (s9_copiesStill hq13) ?_
      refine zr_aload_n (i := 0) d_9_loss_35 rfl rfl ?_
      refine zr_iload_n (i := 1) d_9_loss_36 rfl rfl ?_
      refine zr_iconst (v := (0 : Int32)) d_9_loss_37 rfl ?_
      obtain ⟨qm14, hq15, h⟩ := z_bd h
      refine zr_callVv (av := [zI a1, zI (0 : Int32)]) (st := []) d_9_loss_38 mw_9_becomes ml_9_376 im_9_becomes se_9_becomes rfl rfl (Nat.le_of_ble_eq_true rfl) fit_1_3_11 rfl rfl rfl (s9_becomes hq15) ?_
      refine zr_aload_n (i := 0) d_9_loss_41 rfl rfl ?_
      refine zr_iload_n (i := 2) d_9_loss_42 rfl rfl ?_
      refine zr_iload_n (i := 1) d_9_loss_43 rfl rfl ?_
      obtain ⟨⟨q16, qm17⟩, hq18, h⟩ := z_bd h
      replace h := z_h2 h
      refine zr_callVi (av := [zI a2, zI a1]) (st := []) d_9_loss_44 mw_9_gotBy ml_9_422 im_9_gotBy se_9_gotBy rfl rfl (Nat.le_of_ble_eq_true rfl) fit_10_5_11 rfl rfl rfl (s9_gotBy hq18) ?_
      refine zr_iload_n (i := 3) d_9_loss_47 rfl rfl ?_
      refine zr_isub d_9_loss_48 ?_
      obtain ⟨rfl, rfl⟩ := Prod.mk.inj (Option.some.inj h)
      exact ze_i d_9_loss_49 rfl
def f9_isDuel (a1 : Int32) (a2 : Int32) (a3 : Int32) (μ : zMem) : Option (Int32) :=
  (f9_isNow a1 (0 : Int32) μ).bind (fun q1 => (if q1 = 0 then some (0 : Int32) else (f9_isNow a2 (0 : Int32) μ).bind (fun q4 => (if q4 = 0 then some (0 : Int32) else (if a1 = a2 then some (0 : Int32) else (f9_isSpan a3).bind (fun q8 => (if q8 = 0 then some (0 : Int32) else some (1 : Int32))))))))
theorem s9_isDuel {P : zP} {μ : zMem} {a1 : Int32} {a2 : Int32} {a3 : Int32} {r : Int32} (h : f9_isDuel a1 a2 a3 μ = some r) : z_Sp P y_9_isDuel M_9_isDuel 4 [zA 9 0, zI a1, zI a2, zI a3] μ (some (zI r)) μ := by
  refine z_Sp.of (plainFor_of_name (by decide)) rfl (l0 := [some (zA 9 0), some (zI a1), some (zI a2), some (zI a3)]) rfl (Nat.le_of_ble_eq_true rfl) ?_
  unfold f9_isDuel at h
  refine zr_aload_n (i := 0) d_9_isDuel_0 rfl rfl ?_
  refine zr_iload_n (i := 1) d_9_isDuel_1 rfl rfl ?_
  refine zr_iconst (v := (0 : Int32)) d_9_isDuel_2 rfl ?_
  obtain ⟨q1, hq2, h⟩ := z_bd h
  refine zr_callVi (av := [zI a1, zI (0 : Int32)]) (st := []) d_9_isDuel_3 mw_9_isNow ml_9_397 im_9_isNow se_9_isNow rfl rfl (Nat.le_of_ble_eq_true rfl) fit_3_3_4 rfl rfl rfl (s9_isNow hq2) ?_
  refine zr_if_eq (tgt := 34) d_9_isDuel_6 rfl (fun hc3 => ?_) (fun hc3 => ?_)
  · replace h := z_ip h hc3
    refine zr_iconst (v := (0 : Int32)) d_9_isDuel_34 rfl ?_
    obtain rfl := Option.some.inj h
    exact ze_z d_9_isDuel_35 rfl rfl
  · replace h := z_im h hc3
    refine zr_aload_n (i := 0) d_9_isDuel_9 rfl rfl ?_
    refine zr_iload_n (i := 2) d_9_isDuel_10 rfl rfl ?_
    refine zr_iconst (v := (0 : Int32)) d_9_isDuel_11 rfl ?_
    obtain ⟨q4, hq5, h⟩ := z_bd h
    refine zr_callVi (av := [zI a2, zI (0 : Int32)]) (st := []) d_9_isDuel_12 mw_9_isNow ml_9_397 im_9_isNow se_9_isNow rfl rfl (Nat.le_of_ble_eq_true rfl) fit_3_3_4 rfl rfl rfl (s9_isNow hq5) ?_
    refine zr_if_eq (tgt := 34) d_9_isDuel_15 rfl (fun hc6 => ?_) (fun hc6 => ?_)
    · replace h := z_ip h hc6
      refine zr_iconst (v := (0 : Int32)) d_9_isDuel_34 rfl ?_
      obtain rfl := Option.some.inj h
      exact ze_z d_9_isDuel_35 rfl rfl
    · replace h := z_im h hc6
      refine zr_iload_n (i := 1) d_9_isDuel_18 rfl rfl ?_
      refine zr_iload_n (i := 2) d_9_isDuel_19 rfl rfl ?_
      refine zr_icmp_eq (tgt := 34) d_9_isDuel_20 rfl (fun hc7 => ?_) (fun hc7 => ?_)
      · replace h := z_ip h hc7
        refine zr_iconst (v := (0 : Int32)) d_9_isDuel_34 rfl ?_
        obtain rfl := Option.some.inj h
        exact ze_z d_9_isDuel_35 rfl rfl
      · replace h := z_im h hc7
        refine zr_iload_n (i := 3) d_9_isDuel_23 rfl rfl ?_
        obtain ⟨q8, hq9, h⟩ := z_bd h
        refine zr_callSi (av := [zI a3]) (st := []) d_9_isDuel_24 mw_9_isSpan ml_9_415 is_9_isSpan rfl rfl (Nat.le_of_ble_eq_true rfl) fit_2_1_4 (s9_isSpan hq9) ?_
        refine zr_if_eq (tgt := 34) d_9_isDuel_27 rfl (fun hc10 => ?_) (fun hc10 => ?_)
        · replace h := z_ip h hc10
          refine zr_iconst (v := (0 : Int32)) d_9_isDuel_34 rfl ?_
          obtain rfl := Option.some.inj h
          exact ze_z d_9_isDuel_35 rfl rfl
        · replace h := z_im h hc10
          refine zr_iconst (v := (1 : Int32)) d_9_isDuel_30 rfl ?_
          refine zr_goto (tgt := 35) d_9_isDuel_31 rfl ?_
          obtain rfl := Option.some.inj h
          exact ze_z d_9_isDuel_35 rfl rfl
def f9_duelGain (a1 : Int32) (a2 : Int32) (a3 : Int32) (a4 : Int32) (a5 : Int32) (μ : zMem) : Option (Int32 × zMem) :=
  (f9_copiesStill μ).bind (fun qm1 => ((if (a4 &&& (1 : Int32)) = (1 : Int32) then (f9_becomes a1 (1 : Int32) qm1).bind (fun qm6 => some qm6) else some qm1) : Option (zMem)).bind (fun jm8 => ((if (a4 &&& (2 : Int32)) = (2 : Int32) then (f9_becomes a2 (1 : Int32) jm8).bind (fun qm12 => some qm12) else some jm8) : Option (zMem)).bind (fun jm14 => (f9_goes a3 jm14).bind (fun qm15 => if z_in ((14 : Int32) + a5) 34 = true then some (((qm15.1 149 0 ((14 : Int32) + a5).toNatClampNeg) - (qm15.1 148 0 ((14 : Int32) + a5).toNatClampNeg)), qm15) else none))))
theorem s9_duelGain {P : zP} {μ : zMem} {a1 : Int32} {a2 : Int32} {a3 : Int32} {a4 : Int32} {a5 : Int32} {r : Int32} {μ' : zMem} (h : f9_duelGain a1 a2 a3 a4 a5 μ = some (r, μ')) : z_Sp P y_9_duelGain M_9_duelGain 10 [zA 9 0, zI a1, zI a2, zI a3, zI a4, zI a5] μ (some (zI r)) μ' := by
  refine z_Sp.of (plainFor_of_name (by decide)) rfl (l0 := [some (zA 9 0), some (zI a1), some (zI a2), some (zI a3), some (zI a4), some (zI a5)]) rfl (Nat.le_of_ble_eq_true rfl) ?_
  unfold f9_duelGain at h
  refine zr_aload_n (i := 0) d_9_duelGain_0 rfl rfl ?_
  obtain ⟨qm1, hq2, h⟩ := z_bd h
  refine zr_callVv (av := []) (st := []) d_9_duelGain_1 mw_9_copiesStill ml_9_412 im_9_copiesStill se_9_copiesStill rfl rfl (Nat.le_of_ble_eq_true rfl) fit_2_1_10 rfl rfl rfl (s9_copiesStill hq2) ?_
  refine zr_iload d_9_duelGain_4 rfl ?_
  refine zr_iconst (v := (1 : Int32)) d_9_duelGain_6 rfl ?_
  refine zr_iand d_9_duelGain_7 ?_
  refine zr_iconst (v := (1 : Int32)) d_9_duelGain_8 rfl ?_
  obtain ⟨jm8, hT3, h⟩ := z_bd h
  have hJ4 : z_RQ P M_9_duelGain (z_rm 10) (z_mq P (some (zI r)) μ') 0 0 18 [some (zA 9 0), none, some (zI a2), some (zI a3), some (zI a4), some (zI a5)] [] jm8 := by
    refine zr_iload d_9_duelGain_18 rfl ?_
    refine zr_iconst (v := (2 : Int32)) d_9_duelGain_20 rfl ?_
    refine zr_iand d_9_duelGain_21 ?_
    refine zr_iconst (v := (2 : Int32)) d_9_duelGain_22 rfl ?_
    obtain ⟨jm14, hT9, h⟩ := z_bd h
    have hJ10 : z_RQ P M_9_duelGain (z_rm 10) (z_mq P (some (zI r)) μ') 0 0 32 [some (zA 9 0), none, none, some (zI a3), none, some (zI a5)] [] jm14 := by
      refine zr_aload_n (i := 0) d_9_duelGain_32 rfl rfl ?_
      refine zr_iload_n (i := 3) d_9_duelGain_33 rfl rfl ?_
      obtain ⟨qm15, hq16, h⟩ := z_bd h
      refine zr_callVv (av := [zI a3]) (st := []) d_9_duelGain_34 mw_9_goes ml_9_406 im_9_goes se_9_goes rfl rfl (Nat.le_of_ble_eq_true rfl) fit_9_3_10 rfl rfl rfl (s9_goes hq16) ?_
      refine zr_aload_n (i := 0) d_9_duelGain_37 rfl rfl ?_
      refine zr_gets (i' := 0) d_9_duelGain_38 fw_9_113 rfl ?_
      refine zr_bipush (v := (14 : Int32)) d_9_duelGain_41 rfl ?_
      refine zr_iload d_9_duelGain_43 rfl ?_
      refine zr_iadd d_9_duelGain_45 ?_
      obtain ⟨hb17, h⟩ := z_gd h
      refine zr_iald d_9_duelGain_46 sa_149 rfl hb17 ?_
      refine zr_aload_n (i := 0) d_9_duelGain_47 rfl rfl ?_
      refine zr_gets (i' := 0) d_9_duelGain_48 fw_9_110 rfl ?_
      refine zr_bipush (v := (14 : Int32)) d_9_duelGain_51 rfl ?_
      refine zr_iload d_9_duelGain_53 rfl ?_
      refine zr_iadd d_9_duelGain_55 ?_
      refine zr_iald d_9_duelGain_56 sa_148 rfl hb17 ?_
      refine zr_isub d_9_duelGain_57 ?_
      obtain ⟨rfl, rfl⟩ := Prod.mk.inj (Option.some.inj h)
      exact ze_i d_9_duelGain_58 rfl
    refine zr_icmp_ne (tgt := 32) d_9_duelGain_23 rfl (fun hc11 => ?_) (fun hc11 => ?_)
    · replace hT9 := z_ip hT9 hc11
      refine zr_aload_n (i := 0) d_9_duelGain_26 rfl rfl ?_
      refine zr_iload_n (i := 2) d_9_duelGain_27 rfl rfl ?_
      refine zr_iconst (v := (1 : Int32)) d_9_duelGain_28 rfl ?_
      obtain ⟨qm12, hq13, hT9⟩ := z_bd hT9
      refine zr_callVv (av := [zI a2, zI (1 : Int32)]) (st := []) d_9_duelGain_29 mw_9_becomes ml_9_376 im_9_becomes se_9_becomes rfl rfl (Nat.le_of_ble_eq_true rfl) fit_1_3_10 rfl rfl rfl (s9_becomes hq13) ?_
      obtain rfl := Option.some.inj hT9
      exact zr_wk2 hJ10 ⟨rfl, ⟨rfl, ⟨rfl, trivial⟩⟩⟩
    · replace hT9 := z_im hT9 hc11
      obtain rfl := Option.some.inj hT9
      exact zr_wk2 hJ10 ⟨rfl, ⟨rfl, ⟨rfl, trivial⟩⟩⟩
  refine zr_icmp_ne (tgt := 18) d_9_duelGain_9 rfl (fun hc5 => ?_) (fun hc5 => ?_)
  · replace hT3 := z_ip hT3 hc5
    refine zr_aload_n (i := 0) d_9_duelGain_12 rfl rfl ?_
    refine zr_iload_n (i := 1) d_9_duelGain_13 rfl rfl ?_
    refine zr_iconst (v := (1 : Int32)) d_9_duelGain_14 rfl ?_
    obtain ⟨qm6, hq7, hT3⟩ := z_bd hT3
    refine zr_callVv (av := [zI a1, zI (1 : Int32)]) (st := []) d_9_duelGain_15 mw_9_becomes ml_9_376 im_9_becomes se_9_becomes rfl rfl (Nat.le_of_ble_eq_true rfl) fit_1_3_10 rfl rfl rfl (s9_becomes hq7) ?_
    obtain rfl := Option.some.inj hT3
    exact zr_wk2 hJ4 ⟨rfl, ⟨rfl, ⟨rfl, ⟨rfl, ⟨rfl, trivial⟩⟩⟩⟩⟩
  · replace hT3 := z_im hT3 hc5
    obtain rfl := Option.some.inj hT3
    exact zr_wk2 hJ4 ⟨rfl, ⟨rfl, ⟨rfl, ⟨rfl, ⟨rfl, trivial⟩⟩⟩⟩⟩
def f9_duel (a1 : Int32) (a2 : Int32) (a3 : Int32) (a4 : Int32) (a5 : Int32) (μ : zMem) : Option (Int32 × zMem) :=
  (f9_isDuel a1 a2 a3 μ).bind (fun q1 => (if q1 = 0 then some ((-1 : Int32), μ) else (if (f9_in a4 (0 : Int32) (3 : Int32)) = 0 then some ((-1 : Int32), μ) else (if (f9_in a5 (0 : Int32) (1 : Int32)) = 0 then some ((-1 : Int32), μ) else ((if a5 = 0 then some a1 else some a2) : Option (Int32)).bind (fun j11 => (f9_duelGain a1 a2 a3 a4 j11 μ).bind (z_u2 fun q12 qm13 => some (q12, qm13)))))))
theorem s9_duel {P : zP} {μ : zMem} {a1 : Int32} {a2 : Int32} {a3 : Int32} {a4 : Int32} {a5 : Int32} {r : Int32} {μ' : zMem} (h : f9_duel a1 a2 a3 a4 a5 μ = some (r, μ')) : z_Sp P y_9_duel M_9_duel 11 [zA 9 0, zI a1, zI a2, zI a3, zI a4, zI a5] μ (some (zI r)) μ' := by
  refine z_Sp.of (plainFor_of_name (by decide)) rfl (l0 := [some (zA 9 0), some (zI a1), some (zI a2), some (zI a3), some (zI a4), some (zI a5)]) rfl (Nat.le_of_ble_eq_true rfl) ?_
  unfold f9_duel at h
  refine zr_aload_n (i := 0) d_9_duel_0 rfl rfl ?_
  refine zr_iload_n (i := 1) d_9_duel_1 rfl rfl ?_
  refine zr_iload_n (i := 2) d_9_duel_2 rfl rfl ?_
  refine zr_iload_n (i := 3) d_9_duel_3 rfl rfl ?_
  obtain ⟨q1, hq2, h⟩ := z_bd h
  refine zr_callVi (av := [zI a1, zI a2, zI a3]) (st := []) d_9_duel_4 mw_9_isDuel ml_9_425 im_9_isDuel se_9_isDuel rfl rfl (Nat.le_of_ble_eq_true rfl) fit_4_4_11 rfl rfl rfl (s9_isDuel hq2) ?_
  refine zr_if_eq (tgt := 30) d_9_duel_7 rfl (fun hc3 => ?_) (fun hc3 => ?_)
  · replace h := z_ip h hc3
    refine zr_iconst (v := (-1 : Int32)) d_9_duel_30 rfl ?_
    obtain ⟨rfl, rfl⟩ := Prod.mk.inj (Option.some.inj h)
    exact ze_i d_9_duel_31 rfl
  · replace h := z_im h hc3
    refine zr_iload d_9_duel_10 rfl ?_
    refine zr_iconst (v := (0 : Int32)) d_9_duel_12 rfl ?_
    refine zr_iconst (v := (3 : Int32)) d_9_duel_13 rfl ?_
    refine zr_callSi (av := [zI a4, zI (0 : Int32), zI (3 : Int32)]) (st := []) d_9_duel_14 mw_9_in ml_9_312 is_9_in rfl rfl (Nat.le_of_ble_eq_true rfl) fit_1_3_11 (s9_in rfl) ?_
    refine zr_if_eq (tgt := 30) d_9_duel_17 rfl (fun hc5 => ?_) (fun hc5 => ?_)
    · replace h := z_ip h hc5
      refine zr_iconst (v := (-1 : Int32)) d_9_duel_30 rfl ?_
      obtain ⟨rfl, rfl⟩ := Prod.mk.inj (Option.some.inj h)
      exact ze_i d_9_duel_31 rfl
    · replace h := z_im h hc5
      refine zr_iload d_9_duel_20 rfl ?_
      refine zr_iconst (v := (0 : Int32)) d_9_duel_22 rfl ?_
      refine zr_iconst (v := (1 : Int32)) d_9_duel_23 rfl ?_
      refine zr_callSi (av := [zI a5, zI (0 : Int32), zI (1 : Int32)]) (st := []) d_9_duel_24 mw_9_in ml_9_312 is_9_in rfl rfl (Nat.le_of_ble_eq_true rfl) fit_1_3_11 (s9_in rfl) ?_
      refine zr_if_ne (tgt := 32) d_9_duel_27 rfl (fun hc7 => ?_) (fun hc7 => ?_)
      · replace h := z_ip h hc7
        refine zr_iconst (v := (-1 : Int32)) d_9_duel_30 rfl ?_
        obtain ⟨rfl, rfl⟩ := Prod.mk.inj (Option.some.inj h)
        exact ze_i d_9_duel_31 rfl
      · replace h := z_im h hc7
        refine zr_aload_n (i := 0) d_9_duel_32 rfl rfl ?_
        refine zr_iload_n (i := 1) d_9_duel_33 rfl rfl ?_
        refine zr_iload_n (i := 2) d_9_duel_34 rfl rfl ?_
        refine zr_iload_n (i := 3) d_9_duel_35 rfl rfl ?_
        refine zr_iload d_9_duel_36 rfl ?_
        refine zr_iload d_9_duel_38 rfl ?_
        obtain ⟨j11, hT8, h⟩ := z_bd h
        have hJ9 : z_RQ P M_9_duel (z_rm 11) (z_mq P (some (zI r)) μ') 0 0 48 [none, none, none, none, none, none] [zI j11, zI a4, zI a3, zI a2, zI a1, zA 9 0] μ := by
          obtain ⟨⟨q12, qm13⟩, hq14, h⟩ := z_bd h
          replace h := z_h2 h
          refine zr_callVi (av := [zI a1, zI a2, zI a3, zI a4, zI j11]) (st := []) d_9_duel_48 mw_9_duelGain ml_9_428 im_9_duelGain se_9_duelGain rfl rfl (Nat.le_of_ble_eq_true rfl) fit_10_6_11 rfl rfl rfl (s9_duelGain hq14) ?_
          obtain ⟨rfl, rfl⟩ := Prod.mk.inj (Option.some.inj h)
          exact ze_i d_9_duel_51 rfl
        refine zr_if_ne (tgt := 47) d_9_duel_40 rfl (fun hc10 => ?_) (fun hc10 => ?_)
        · replace hT8 := z_ip hT8 hc10
          refine zr_iload_n (i := 1) d_9_duel_43 rfl rfl ?_
          refine zr_goto (tgt := 48) d_9_duel_44 rfl ?_
          obtain rfl := Option.some.inj hT8
          exact zr_wk2 hJ9 trivial
        · replace hT8 := z_im hT8 hc10
          refine zr_iload_n (i := 2) d_9_duel_47 rfl rfl ?_
          obtain rfl := Option.some.inj hT8
          exact zr_wk2 hJ9 trivial
def f9_rest_L4 (a1 : Int32) (a2 : Int32) (a3 : Int32) : (Int32 × Int32 × zMem) → Option ((Int32 × Int32 × zMem) ⊕ (Int32 × zMem)) := (z_u3 fun x5 x6 xm7 => 
  (if x6 < (4 : Int32) then (f9_duelGain a1 a2 a3 (x6 ^^^ (1 : Int32)) a1 xm7).bind (z_u2 fun q9 qm10 => (f9_duelGain a1 a2 a3 x6 a1 qm10).bind (z_u2 fun q12 qm13 => ((if q12 < q9 then some (0 : Int32) else some (1 : Int32)) : Option (Int32)).bind (fun j18 => ((if j18 = 0 then some (x5, qm13) else (f9_duelGain a1 a2 a3 (x6 ^^^ (2 : Int32)) a2 qm13).bind (z_u2 fun q22 qm23 => (f9_duelGain a1 a2 a3 x6 a2 qm23).bind (z_u2 fun q25 qm26 => (if q25 < q22 then some (x5, qm26) else z_let (x5 ||| ((1 : Int32) <<< (x6 &&& 31))) fun v29 => some (v29, qm26))))) : Option (Int32 × zMem)).bind (z_u2 fun j31 jm32 => some (.inl (j31, (x6 + (1 : Int32)), jm32)))))) else some (.inr (x5, xm7))))
def f9_rest (a1 : Int32) (a2 : Int32) (a3 : Int32) (μ : zMem) : Option (Int32 × zMem) :=
  (f9_isDuel a1 a2 a3 μ).bind (fun q1 => (if q1 = 0 then some ((-1 : Int32), μ) else (z_it (f9_rest_L4 a1 a2 a3) z_fu ((0 : Int32), (0 : Int32), μ)).bind (z_u2 fun e33 e34 => some (e33, e34))))
theorem s9_rest_L4 {P : zP} {ro : Option zV} {μo : zMem} (a1 : Int32) (a2 : Int32) (a3 : Int32) (x5 : Int32) (x6 : Int32) (xm7 : zMem) (K : (Int32 × Int32 × zMem) ⊕ (Int32 × zMem)) (h : f9_rest_L4 a1 a2 a3 (x5, x6, xm7) = some K) (hI : ∀ (y0 : Int32) (y1 : Int32) (y2 : zMem), K = .inl (y0, y1, y2) → z_RQ P M_9_rest (z_rm 11) (z_mq P ro μo) 0 0 18 [some (zA 9 0), some (zI a1), some (zI a2), some (zI a3), some (zI y0), some (zI y1), none] [] y2) (hE : ∀ (z0 : Int32) (z1 : zMem), K = .inr (z0, z1) → z_RQ P M_9_rest (z_rm 11) (z_mq P ro μo) 0 0 101 [none, none, none, none, some (zI z0), none, none] [] z1)  : z_RQ P M_9_rest (z_rm 11) (z_mq P ro μo) 0 0 18 [some (zA 9 0), some (zI a1), some (zI a2), some (zI a3), some (zI x5), some (zI x6), none] [] xm7 := by
  unfold f9_rest_L4 at h
  replace h := z_h3 h
  refine zr_iload d_9_rest_18 rfl ?_
  refine zr_iconst (v := (4 : Int32)) d_9_rest_20 rfl ?_
  refine zr_icmp_ge (tgt := 101) d_9_rest_21 rfl (fun hc8 => ?_) (fun hc8 => ?_)
  · replace h := z_ip h hc8
    refine zr_aload_n (i := 0) d_9_rest_24 rfl rfl ?_
    refine zr_iload_n (i := 1) d_9_rest_25 rfl rfl ?_
    refine zr_iload_n (i := 2) d_9_rest_26 rfl rfl ?_
    refine zr_iload_n (i := 3) d_9_rest_27 rfl rfl ?_
    refine zr_iload d_9_rest_28 rfl ?_
    refine zr_iconst (v := (1 : Int32)) d_9_rest_30 rfl ?_
    refine zr_ixor d_9_rest_31 ?_
    refine zr_iload_n (i := 1) d_9_rest_32 rfl rfl ?_
    obtain ⟨⟨q9, qm10⟩, hq11, h⟩ := z_bd h
    replace h := z_h2 h
    refine zr_callVi (av := [zI a1, zI a2, zI a3, zI (x6 ^^^ (1 : Int32)), zI a1]) (st := []) d_9_rest_33 mw_9_duelGain ml_9_428 im_9_duelGain se_9_duelGain rfl rfl (Nat.le_of_ble_eq_true rfl) fit_10_6_11 rfl rfl rfl (s9_duelGain hq11) ?_
    refine zr_aload_n (i := 0) d_9_rest_36 rfl rfl ?_
    refine zr_iload_n (i := 1) d_9_rest_37 rfl rfl ?_
    refine zr_iload_n (i := 2) d_9_rest_38 rfl rfl ?_
    refine zr_iload_n (i := 3) d_9_rest_39 rfl rfl ?_
    refine zr_iload d_9_rest_40 rfl ?_
    refine zr_iload_n (i := 1) d_9_rest_42 rfl rfl ?_
    obtain ⟨⟨q12, qm13⟩, hq14, h⟩ := z_bd h
    replace h := z_h2 h
    refine zr_callVi (av := [zI a1, zI a2, zI a3, zI x6, zI a1]) (st := [zI q9]) d_9_rest_43 mw_9_duelGain ml_9_428 im_9_duelGain se_9_duelGain rfl rfl (Nat.le_of_ble_eq_true rfl) fit_10_6_11 rfl rfl rfl (s9_duelGain hq14) ?_
    obtain ⟨j18, hT15, h⟩ := z_bd h
    have hJ16 : z_RQ P M_9_rest (z_rm 11) (z_mq P ro μo) 0 0 54 [some (zA 9 0), some (zI a1), some (zI a2), some (zI a3), some (zI x5), some (zI x6), none] [zI j18] qm13 := by
      refine zr_istore (i := 6) (l' := [some (zA 9 0), some (zI a1), some (zI a2), some (zI a3), some (zI x5), some (zI x6), some (zI j18)]) d_9_rest_54 (by decide) rfl ?_
      refine zr_iload d_9_rest_56 rfl ?_
      obtain ⟨⟨j31, jm32⟩, hT19, h⟩ := z_bd h
      replace h := z_h2 h
      have hJ20 : z_RQ P M_9_rest (z_rm 11) (z_mq P ro μo) 0 0 95 [some (zA 9 0), some (zI a1), some (zI a2), some (zI a3), some (zI j31), some (zI x6), none] [] jm32 := by
        refine zr_iinc (v := (x6 + (1 : Int32))) (l' := [some (zA 9 0), some (zI a1), some (zI a2), some (zI a3), some (zI j31), some (zI (x6 + (1 : Int32))), none]) d_9_rest_95 (by decide) rfl rfl rfl ?_
        refine zr_goto (tgt := 18) d_9_rest_98 rfl ?_
        obtain rfl := Option.some.inj h
        exact zr_wk2 (hI j31 (x6 + (1 : Int32)) jm32 rfl) ⟨rfl, ⟨rfl, ⟨rfl, ⟨rfl, ⟨rfl, ⟨rfl, trivial⟩⟩⟩⟩⟩⟩
      refine zr_if_eq (tgt := 95) d_9_rest_58 rfl (fun hc21 => ?_) (fun hc21 => ?_)
      · replace hT19 := z_ip hT19 hc21
        obtain ⟨rfl, rfl⟩ := z_i2 (Option.some.inj hT19)
        exact zr_wk2 hJ20 ⟨rfl, ⟨rfl, ⟨rfl, ⟨rfl, ⟨rfl, ⟨rfl, trivial⟩⟩⟩⟩⟩⟩
      · replace hT19 := z_im hT19 hc21
        refine zr_aload_n (i := 0) d_9_rest_61 rfl rfl ?_
        refine zr_iload_n (i := 1) d_9_rest_62 rfl rfl ?_
        refine zr_iload_n (i := 2) d_9_rest_63 rfl rfl ?_
        refine zr_iload_n (i := 3) d_9_rest_64 rfl rfl ?_
        refine zr_iload d_9_rest_65 rfl ?_
        refine zr_iconst (v := (2 : Int32)) d_9_rest_67 rfl ?_
        refine zr_ixor d_9_rest_68 ?_
        refine zr_iload_n (i := 2) d_9_rest_69 rfl rfl ?_
        obtain ⟨⟨q22, qm23⟩, hq24, hT19⟩ := z_bd hT19
        replace hT19 := z_h2 hT19
        refine zr_callVi (av := [zI a1, zI a2, zI a3, zI (x6 ^^^ (2 : Int32)), zI a2]) (st := []) d_9_rest_70 mw_9_duelGain ml_9_428 im_9_duelGain se_9_duelGain rfl rfl (Nat.le_of_ble_eq_true rfl) fit_10_6_11 rfl rfl rfl (s9_duelGain hq24) ?_
        refine zr_aload_n (i := 0) d_9_rest_73 rfl rfl ?_
        refine zr_iload_n (i := 1) d_9_rest_74 rfl rfl ?_
        refine zr_iload_n (i := 2) d_9_rest_75 rfl rfl ?_
        refine zr_iload_n (i := 3) d_9_rest_76 rfl rfl ?_
        refine zr_iload d_9_rest_77 rfl ?_
        refine zr_iload_n (i := 2) d_9_rest_79 rfl rfl ?_
        obtain ⟨⟨q25, qm26⟩, hq27, hT19⟩ := z_bd hT19
        replace hT19 := z_h2 hT19
        refine zr_callVi (av := [zI a1, zI a2, zI a3, zI x6, zI a2]) (st := [zI q22]) d_9_rest_80 mw_9_duelGain ml_9_428 im_9_duelGain se_9_duelGain rfl rfl (Nat.le_of_ble_eq_true rfl) fit_10_6_11 rfl rfl rfl (s9_duelGain hq27) ?_
        refine zr_icmp_gt (tgt := 95) d_9_rest_83 rfl (fun hc28 => ?_) (fun hc28 => ?_)
        · replace hT19 := z_ip hT19 hc28
          obtain ⟨rfl, rfl⟩ := z_i2 (Option.some.inj hT19)
          exact zr_wk2 hJ20 ⟨rfl, ⟨rfl, ⟨rfl, ⟨rfl, ⟨rfl, ⟨rfl, trivial⟩⟩⟩⟩⟩⟩
        · replace hT19 := z_im hT19 hc28
          refine zr_iload d_9_rest_86 rfl ?_
          refine zr_iconst (v := (1 : Int32)) d_9_rest_88 rfl ?_
          refine zr_iload d_9_rest_89 rfl ?_
          refine zr_ishl d_9_rest_91 ?_
          refine zr_ior d_9_rest_92 ?_
          obtain ⟨v29, hv30, hT19⟩ := z_lt hT19
          refine zr_nm hv30 ?_
          refine zr_istore (i := 4) (l' := [some (zA 9 0), some (zI a1), some (zI a2), some (zI a3), some (zI v29), some (zI x6), some (zI j18)]) d_9_rest_93 (by decide) rfl ?_
          obtain ⟨rfl, rfl⟩ := z_i2 (Option.some.inj hT19)
          exact zr_wk2 hJ20 ⟨rfl, ⟨rfl, ⟨rfl, ⟨rfl, ⟨rfl, ⟨rfl, trivial⟩⟩⟩⟩⟩⟩
    refine zr_icmp_gt (tgt := 53) d_9_rest_46 rfl (fun hc17 => ?_) (fun hc17 => ?_)
    · replace hT15 := z_ip hT15 hc17
      refine zr_iconst (v := (0 : Int32)) d_9_rest_53 rfl ?_
      obtain rfl := Option.some.inj hT15
      exact zr_wk2 hJ16 ⟨rfl, ⟨rfl, ⟨rfl, ⟨rfl, ⟨rfl, ⟨rfl, trivial⟩⟩⟩⟩⟩⟩
    · replace hT15 := z_im hT15 hc17
      refine zr_iconst (v := (1 : Int32)) d_9_rest_49 rfl ?_
      refine zr_goto (tgt := 54) d_9_rest_50 rfl ?_
      obtain rfl := Option.some.inj hT15
      exact zr_wk2 hJ16 ⟨rfl, ⟨rfl, ⟨rfl, ⟨rfl, ⟨rfl, ⟨rfl, trivial⟩⟩⟩⟩⟩⟩
  · replace h := z_im h hc8
    obtain rfl := Option.some.inj h
    exact zr_wk2 (hE x5 xm7 rfl) ⟨rfl, trivial⟩
theorem s9_rest {P : zP} {μ : zMem} {a1 : Int32} {a2 : Int32} {a3 : Int32} {r : Int32} {μ' : zMem} (h : f9_rest a1 a2 a3 μ = some (r, μ')) : z_Sp P y_9_rest M_9_rest 11 [zA 9 0, zI a1, zI a2, zI a3] μ (some (zI r)) μ' := by
  refine z_Sp.of (plainFor_of_name (by decide)) rfl (l0 := [some (zA 9 0), some (zI a1), some (zI a2), some (zI a3), none, none, none]) rfl (Nat.le_of_ble_eq_true rfl) ?_
  unfold f9_rest at h
  refine zr_aload_n (i := 0) d_9_rest_0 rfl rfl ?_
  refine zr_iload_n (i := 1) d_9_rest_1 rfl rfl ?_
  refine zr_iload_n (i := 2) d_9_rest_2 rfl rfl ?_
  refine zr_iload_n (i := 3) d_9_rest_3 rfl rfl ?_
  obtain ⟨q1, hq2, h⟩ := z_bd h
  refine zr_callVi (av := [zI a1, zI a2, zI a3]) (st := []) d_9_rest_4 mw_9_isDuel ml_9_425 im_9_isDuel se_9_isDuel rfl rfl (Nat.le_of_ble_eq_true rfl) fit_4_4_11 rfl rfl rfl (s9_isDuel hq2) ?_
  refine zr_if_ne (tgt := 12) d_9_rest_7 rfl (fun hc3 => ?_) (fun hc3 => ?_)
  · replace h := z_ip h hc3
    refine zr_iconst (v := (-1 : Int32)) d_9_rest_10 rfl ?_
    obtain ⟨rfl, rfl⟩ := Prod.mk.inj (Option.some.inj h)
    exact ze_i d_9_rest_11 rfl
  · replace h := z_im h hc3
    refine zr_iconst (v := (0 : Int32)) d_9_rest_12 rfl ?_
    refine zr_istore (i := 4) (l' := [some (zA 9 0), some (zI a1), some (zI a2), some (zI a3), some (zI (0 : Int32)), none, none]) d_9_rest_13 (by decide) rfl ?_
    refine zr_iconst (v := (0 : Int32)) d_9_rest_15 rfl ?_
    refine zr_istore (i := 5) (l' := [some (zA 9 0), some (zI a1), some (zI a2), some (zI a3), some (zI (0 : Int32)), some (zI (0 : Int32)), none]) d_9_rest_16 (by decide) rfl ?_
    obtain ⟨⟨e33, e34⟩, hl35, h⟩ := z_bd h
    replace h := z_h2 h
    refine zr_wk (l' := [some (zA 9 0), some (zI a1), some (zI a2), some (zI a3), some (zI (0 : Int32)), some (zI (0 : Int32)), none]) ⟨rfl, ⟨rfl, ⟨rfl, ⟨rfl, ⟨rfl, ⟨rfl, trivial⟩⟩⟩⟩⟩⟩ ?_
    refine z_loop (Hd := (z_u3 fun y0 y1 y2 => z_RQ P M_9_rest (z_rm 11) (z_mq P (some (zI r)) μ') 0 0 18 [some (zA 9 0), some (zI a1), some (zI a2), some (zI a3), some (zI y0), some (zI y1), none] [] y2)) (Ex := (z_u2 fun z0 z1 => z_RQ P M_9_rest (z_rm 11) (z_mq P (some (zI r)) μ') 0 0 101 [none, none, none, none, some (zI z0), none, none] [] z1)) (fun ⟨x5, x6, xm7⟩ K h hI hE => s9_rest_L4 a1 a2 a3 x5 x6 xm7 K h (fun y0 y1 y2 e => hI (y0, y1, y2) e) (fun z0 z1 e => hE (z0, z1) e) ) _ _ _ hl35 ?_
    refine zr_iload d_9_rest_101 rfl ?_
    obtain ⟨rfl, rfl⟩ := Prod.mk.inj (Option.some.inj h)
    exact ze_i d_9_rest_103 rfl
def f9_aliveBits  (μ : zMem) : Option (Int32) :=
  (f9_inState (0 : Int32) μ).bind (fun q1 => (f9_inState (1 : Int32) μ).bind (fun q3 => some (q1 ||| q3)))
theorem s9_aliveBits {P : zP} {μ : zMem} {r : Int32} (h : f9_aliveBits μ = some r) : z_Sp P y_9_aliveBits M_9_aliveBits 2 [zA 9 0] μ (some (zI r)) μ := by
  refine z_Sp.of (plainFor_of_name (by decide)) rfl (l0 := [some (zA 9 0)]) rfl (Nat.le_of_ble_eq_true rfl) ?_
  unfold f9_aliveBits at h
  refine zr_aload_n (i := 0) d_9_aliveBits_0 rfl rfl ?_
  refine zr_iconst (v := (0 : Int32)) d_9_aliveBits_1 rfl ?_
  obtain ⟨q1, hq2, h⟩ := z_bd h
  refine zr_callVi (av := [zI (0 : Int32)]) (st := []) d_9_aliveBits_2 mw_9_inState ml_9_358 im_9_inState se_9_inState rfl rfl (Nat.le_of_ble_eq_true rfl) fit_1_4_2 rfl rfl rfl (s9_inState hq2) ?_
  refine zr_aload_n (i := 0) d_9_aliveBits_5 rfl rfl ?_
  refine zr_iconst (v := (1 : Int32)) d_9_aliveBits_6 rfl ?_
  obtain ⟨q3, hq4, h⟩ := z_bd h
  refine zr_callVi (av := [zI (1 : Int32)]) (st := [zI q1]) d_9_aliveBits_7 mw_9_inState ml_9_358 im_9_inState se_9_inState rfl rfl (Nat.le_of_ble_eq_true rfl) fit_1_4_2 rfl rfl rfl (s9_inState hq4) ?_
  refine zr_ior d_9_aliveBits_10 ?_
  obtain rfl := Option.some.inj h
  exact ze_i d_9_aliveBits_11 rfl
def f9_doCover_L3 (a1 : Int32) (μ : zMem) (q1 : Int32) : (Int32) → Option ((Int32) ⊕ ((Unit) ⊕ (Int32))) := (fun x4 => 
  if z_in (μ.1 9 0 18) 2 = true then (if x4 < (μ.1 123 0 (μ.1 9 0 18).toNatClampNeg) then if z_in ((28 : Int32) + x4) 34 = true then (if ((μ.1 149 0 ((28 : Int32) + x4).toNatClampNeg) &&& q1) = 0 then some (.inl (x4 + (1 : Int32))) else (if ((μ.1 149 0 ((28 : Int32) + x4).toNatClampNeg) &&& a1) = 0 then some (.inr (.inr (0 : Int32))) else some (.inl (x4 + (1 : Int32))))) else none else some (.inr (.inl ()))) else none)
def f9_doCover (a1 : Int32) (μ : zMem) : Option (Int32) :=
  (f9_aliveBits μ).bind (fun q1 => (z_it (f9_doCover_L3 a1 μ q1) z_fu (0 : Int32)).bind (Sum.elim (fun (_ : Unit) => some (1 : Int32)) (fun qr11 => some qr11)))
theorem s9_doCover_L3 {P : zP} {ro : Option zV} {μo : zMem} (a1 : Int32) (μ : zMem) (q1 : Int32) (x4 : Int32) (K : (Int32) ⊕ ((Unit) ⊕ (Int32))) (h : f9_doCover_L3 a1 μ q1 x4 = some K) (hI : ∀ (y0 : Int32), K = .inl y0 → z_RQ P M_9_doCover (z_rm 3) (z_mq P ro μo) 0 0 7 [some (zA 9 0), some (zI a1), some (zI q1), some (zI y0)] [] μ) (hE : K = .inr (.inl ()) → z_RQ P M_9_doCover (z_rm 3) (z_mq P ro μo) 0 0 56 [none, none, none, none] [] μ) (hR : ∀ (qr : Int32), K = .inr (.inr qr) → ro = some (zI qr) ∧ μo = μ) : z_RQ P M_9_doCover (z_rm 3) (z_mq P ro μo) 0 0 7 [some (zA 9 0), some (zI a1), some (zI q1), some (zI x4)] [] μ := by
  unfold f9_doCover_L3 at h
  refine zr_iload_n (i := 3) d_9_doCover_7 rfl rfl ?_
  refine zr_aload_n (i := 0) d_9_doCover_8 rfl rfl ?_
  refine zr_gets (i' := 0) d_9_doCover_9 fw_9_46 rfl ?_
  refine zr_aload_n (i := 0) d_9_doCover_12 rfl rfl ?_
  refine zr_geti d_9_doCover_13 fw_9_233 (by decide) ?_
  obtain ⟨hb5, h⟩ := z_gd h
  refine zr_iald d_9_doCover_16 sa_123 rfl hb5 ?_
  refine zr_icmp_ge (tgt := 56) d_9_doCover_17 rfl (fun hc6 => ?_) (fun hc6 => ?_)
  · replace h := z_ip h hc6
    refine zr_aload_n (i := 0) d_9_doCover_20 rfl rfl ?_
    refine zr_gets (i' := 0) d_9_doCover_21 fw_9_113 rfl ?_
    refine zr_bipush (v := (28 : Int32)) d_9_doCover_24 rfl ?_
    refine zr_iload_n (i := 3) d_9_doCover_26 rfl rfl ?_
    refine zr_iadd d_9_doCover_27 ?_
    obtain ⟨hb7, h⟩ := z_gd h
    refine zr_iald d_9_doCover_28 sa_149 rfl hb7 ?_
    refine zr_iload_n (i := 2) d_9_doCover_29 rfl rfl ?_
    refine zr_iand d_9_doCover_30 ?_
    refine zr_if_eq (tgt := 50) d_9_doCover_31 rfl (fun hc8 => ?_) (fun hc8 => ?_)
    · replace h := z_ip h hc8
      refine zr_iinc (v := (x4 + (1 : Int32))) (l' := [some (zA 9 0), some (zI a1), some (zI q1), some (zI (x4 + (1 : Int32)))]) d_9_doCover_50 (by decide) rfl rfl rfl ?_
      refine zr_goto (tgt := 7) d_9_doCover_53 rfl ?_
      obtain rfl := Option.some.inj h
      exact zr_wk2 (hI (x4 + (1 : Int32)) rfl) ⟨rfl, ⟨rfl, ⟨rfl, ⟨rfl, trivial⟩⟩⟩⟩
    · replace h := z_im h hc8
      refine zr_aload_n (i := 0) d_9_doCover_34 rfl rfl ?_
      refine zr_gets (i' := 0) d_9_doCover_35 fw_9_113 rfl ?_
      refine zr_bipush (v := (28 : Int32)) d_9_doCover_38 rfl ?_
      refine zr_iload_n (i := 3) d_9_doCover_40 rfl rfl ?_
      refine zr_iadd d_9_doCover_41 ?_
      refine zr_iald d_9_doCover_42 sa_149 rfl hb7 ?_
      refine zr_iload_n (i := 1) d_9_doCover_43 rfl rfl ?_
      refine zr_iand d_9_doCover_44 ?_
      refine zr_if_ne (tgt := 50) d_9_doCover_45 rfl (fun hc9 => ?_) (fun hc9 => ?_)
      · replace h := z_ip h hc9
        refine zr_iconst (v := (0 : Int32)) d_9_doCover_48 rfl ?_
        obtain rfl := Option.some.inj h
        obtain ⟨rfl, rfl⟩ := hR (0 : Int32) rfl
        exact ze_z d_9_doCover_49 rfl rfl
      · replace h := z_im h hc9
        refine zr_iinc (v := (x4 + (1 : Int32))) (l' := [some (zA 9 0), some (zI a1), some (zI q1), some (zI (x4 + (1 : Int32)))]) d_9_doCover_50 (by decide) rfl rfl rfl ?_
        refine zr_goto (tgt := 7) d_9_doCover_53 rfl ?_
        obtain rfl := Option.some.inj h
        exact zr_wk2 (hI (x4 + (1 : Int32)) rfl) ⟨rfl, ⟨rfl, ⟨rfl, ⟨rfl, trivial⟩⟩⟩⟩
  · replace h := z_im h hc6
    obtain rfl := Option.some.inj h
    exact zr_wk2 (hE  rfl) trivial
theorem s9_doCover {P : zP} {μ : zMem} {a1 : Int32} {r : Int32} (h : f9_doCover a1 μ = some r) : z_Sp P y_9_doCover M_9_doCover 3 [zA 9 0, zI a1] μ (some (zI r)) μ := by
  refine z_Sp.of (plainFor_of_name (by decide)) rfl (l0 := [some (zA 9 0), some (zI a1), none, none]) rfl (Nat.le_of_ble_eq_true rfl) ?_
  unfold f9_doCover at h
  refine zr_aload_n (i := 0) d_9_doCover_0 rfl rfl ?_
  obtain ⟨q1, hq2, h⟩ := z_bd h
  refine zr_callVi (av := []) (st := []) d_9_doCover_1 mw_9_aliveBits ml_9_432 im_9_aliveBits se_9_aliveBits rfl rfl (Nat.le_of_ble_eq_true rfl) fit_2_1_3 rfl rfl rfl (s9_aliveBits hq2) ?_
  refine zr_istore_n (i := 2) (l' := [some (zA 9 0), some (zI a1), some (zI q1), none]) d_9_doCover_4 rfl (by decide) rfl ?_
  refine zr_iconst (v := (0 : Int32)) d_9_doCover_5 rfl ?_
  refine zr_istore_n (i := 3) (l' := [some (zA 9 0), some (zI a1), some (zI q1), some (zI (0 : Int32))]) d_9_doCover_6 rfl (by decide) rfl ?_
  rcases z_bs h with ⟨⟨⟩, hl10, h⟩ | ⟨qr11, hl10, h⟩
  · refine zr_wk (l' := [some (zA 9 0), some (zI a1), some (zI q1), some (zI (0 : Int32))]) ⟨rfl, ⟨rfl, ⟨rfl, ⟨rfl, trivial⟩⟩⟩⟩ ?_
    refine z_loop (Hd := (fun y0 => z_RQ P M_9_doCover (z_rm 3) (z_mq P (some (zI r)) μ) 0 0 7 [some (zA 9 0), some (zI a1), some (zI q1), some (zI y0)] [] μ)) (Ex := (Sum.elim (fun (_ : Unit) => z_RQ P M_9_doCover (z_rm 3) (z_mq P (some (zI r)) μ) 0 0 56 [none, none, none, none] [] μ) (fun qr => (some (zI r)) = some (zI qr) ∧ μ = μ))) (fun x4 K h hI hE => s9_doCover_L3 a1 μ q1 x4 K h (fun y0 e => hI y0 e) (fun  e => hE (.inl ()) e) (fun qr e => hE (.inr qr) e)) _ _ _ hl10 ?_
    refine zr_iconst (v := (1 : Int32)) d_9_doCover_56 rfl ?_
    obtain rfl := Option.some.inj h
    exact ze_z d_9_doCover_57 rfl rfl
  · refine zr_wk (l' := [some (zA 9 0), some (zI a1), some (zI q1), some (zI (0 : Int32))]) ⟨rfl, ⟨rfl, ⟨rfl, ⟨rfl, trivial⟩⟩⟩⟩ ?_
    refine z_loop (Hd := (fun y0 => z_RQ P M_9_doCover (z_rm 3) (z_mq P (some (zI r)) μ) 0 0 7 [some (zA 9 0), some (zI a1), some (zI q1), some (zI y0)] [] μ)) (Ex := (Sum.elim (fun (_ : Unit) => z_RQ P M_9_doCover (z_rm 3) (z_mq P (some (zI r)) μ) 0 0 56 [none, none, none, none] [] μ) (fun qr => (some (zI r)) = some (zI qr) ∧ μ = μ))) (fun x4 K h hI hE => s9_doCover_L3 a1 μ q1 x4 K h (fun y0 e => hI y0 e) (fun  e => hE (.inl ()) e) (fun qr e => hE (.inr qr) e)) _ _ _ hl10 ?_
    obtain rfl := Option.some.inj h
    exact ⟨rfl, rfl⟩
def f9_coverOf_L1 (a1 : Int32) (a2 : Int32) (μ : zMem) : (Int32 × Int32) → Option ((Int32 × Int32) ⊕ (Int32)) := (z_u2 fun x2 x3 => 
  (if x3 < (128 : Int32) then ((if (x3 &&& (a1 ^^^ (-1 : Int32))) = 0 then (if x2 < 0 then (f9_doCover (x3 ||| a2) μ).bind (fun q9 => (if q9 = 0 then some x2 else some x3)) else (f9_bits x3).bind (fun q12 => (f9_bits x2).bind (fun q14 => (if q12 < q14 then (f9_doCover (x3 ||| a2) μ).bind (fun q17 => (if q17 = 0 then some x2 else some x3)) else some x2)))) else some x2) : Option (Int32)).bind (fun j20 => some (.inl (j20, (x3 + (1 : Int32))))) else some (.inr x2)))
def f9_coverOf (a1 : Int32) (a2 : Int32) (μ : zMem) : Option (Int32) :=
  (z_it (f9_coverOf_L1 a1 a2 μ) z_fu ((-1 : Int32), (0 : Int32))).bind (fun e21 => some e21)
theorem s9_coverOf_L1 {P : zP} {ro : Option zV} {μo : zMem} (a1 : Int32) (a2 : Int32) (μ : zMem) (x2 : Int32) (x3 : Int32) (K : (Int32 × Int32) ⊕ (Int32)) (h : f9_coverOf_L1 a1 a2 μ (x2, x3) = some K) (hI : ∀ (y0 : Int32) (y1 : Int32), K = .inl (y0, y1) → z_RQ P M_9_coverOf (z_rm 4) (z_mq P ro μo) 0 0 5 [some (zA 9 0), some (zI a1), some (zI a2), some (zI y0), some (zI y1)] [] μ) (hE : ∀ (z0 : Int32), K = .inr z0 → z_RQ P M_9_coverOf (z_rm 4) (z_mq P ro μo) 0 0 58 [none, none, none, some (zI z0), none] [] μ)  : z_RQ P M_9_coverOf (z_rm 4) (z_mq P ro μo) 0 0 5 [some (zA 9 0), some (zI a1), some (zI a2), some (zI x2), some (zI x3)] [] μ := by
  unfold f9_coverOf_L1 at h
  replace h := z_h2 h
  refine zr_iload d_9_coverOf_5 rfl ?_
  refine zr_sipush (v := (128 : Int32)) d_9_coverOf_7 rfl ?_
  refine zr_icmp_ge (tgt := 58) d_9_coverOf_10 rfl (fun hc4 => ?_) (fun hc4 => ?_)
  · replace h := z_ip h hc4
    refine zr_iload d_9_coverOf_13 rfl ?_
    refine zr_iload_n (i := 1) d_9_coverOf_15 rfl rfl ?_
    refine zr_iconst (v := (-1 : Int32)) d_9_coverOf_16 rfl ?_
    refine zr_ixor d_9_coverOf_17 ?_
    refine zr_iand d_9_coverOf_18 ?_
    obtain ⟨j20, hT5, h⟩ := z_bd h
    have hJ6 : z_RQ P M_9_coverOf (z_rm 4) (z_mq P ro μo) 0 0 52 [some (zA 9 0), some (zI a1), some (zI a2), some (zI j20), some (zI x3)] [] μ := by
      refine zr_iinc (v := (x3 + (1 : Int32))) (l' := [some (zA 9 0), some (zI a1), some (zI a2), some (zI j20), some (zI (x3 + (1 : Int32)))]) d_9_coverOf_52 (by decide) rfl rfl rfl ?_
      refine zr_goto (tgt := 5) d_9_coverOf_55 rfl ?_
      obtain rfl := Option.some.inj h
      exact zr_wk2 (hI j20 (x3 + (1 : Int32)) rfl) ⟨rfl, ⟨rfl, ⟨rfl, ⟨rfl, ⟨rfl, trivial⟩⟩⟩⟩⟩
    refine zr_if_ne (tgt := 52) d_9_coverOf_19 rfl (fun hc7 => ?_) (fun hc7 => ?_)
    · replace hT5 := z_ip hT5 hc7
      refine zr_iload_n (i := 3) d_9_coverOf_22 rfl rfl ?_
      refine zr_if_lt (tgt := 38) d_9_coverOf_23 rfl (fun hc8 => ?_) (fun hc8 => ?_)
      · replace hT5 := z_ip hT5 hc8
        refine zr_aload_n (i := 0) d_9_coverOf_38 rfl rfl ?_
        refine zr_iload d_9_coverOf_39 rfl ?_
        refine zr_iload_n (i := 2) d_9_coverOf_41 rfl rfl ?_
        refine zr_ior d_9_coverOf_42 ?_
        obtain ⟨q9, hq10, hT5⟩ := z_bd hT5
        refine zr_callVi (av := [zI (x3 ||| a2)]) (st := []) d_9_coverOf_43 mw_9_doCover ml_9_435 im_9_doCover se_9_doCover rfl rfl (Nat.le_of_ble_eq_true rfl) fit_3_4_4 rfl rfl rfl (s9_doCover hq10) ?_
        refine zr_if_eq (tgt := 52) d_9_coverOf_46 rfl (fun hc11 => ?_) (fun hc11 => ?_)
        · replace hT5 := z_ip hT5 hc11
          obtain rfl := Option.some.inj hT5
          exact zr_wk2 hJ6 ⟨rfl, ⟨rfl, ⟨rfl, ⟨rfl, ⟨rfl, trivial⟩⟩⟩⟩⟩
        · replace hT5 := z_im hT5 hc11
          refine zr_iload d_9_coverOf_49 rfl ?_
          refine zr_istore_n (i := 3) (l' := [some (zA 9 0), some (zI a1), some (zI a2), some (zI x3), some (zI x3)]) d_9_coverOf_51 rfl (by decide) rfl ?_
          obtain rfl := Option.some.inj hT5
          exact zr_wk2 hJ6 ⟨rfl, ⟨rfl, ⟨rfl, ⟨rfl, ⟨rfl, trivial⟩⟩⟩⟩⟩
      · replace hT5 := z_im hT5 hc8
        refine zr_iload d_9_coverOf_26 rfl ?_
        obtain ⟨q12, hq13, hT5⟩ := z_bd hT5
        refine zr_callSi (av := [zI x3]) (st := []) d_9_coverOf_28 mw_9_bits ml_9_355 is_9_bits rfl rfl (Nat.le_of_ble_eq_true rfl) fit_1_3_4 (s9_bits hq13) ?_
        refine zr_iload_n (i := 3) d_9_coverOf_31 rfl rfl ?_
        obtain ⟨q14, hq15, hT5⟩ := z_bd hT5
        refine zr_callSi (av := [zI x2]) (st := [zI q12]) d_9_coverOf_32 mw_9_bits ml_9_355 is_9_bits rfl rfl (Nat.le_of_ble_eq_true rfl) fit_1_3_4 (s9_bits hq15) ?_
        refine zr_icmp_ge (tgt := 52) d_9_coverOf_35 rfl (fun hc16 => ?_) (fun hc16 => ?_)
        · replace hT5 := z_ip hT5 hc16
          refine zr_aload_n (i := 0) d_9_coverOf_38 rfl rfl ?_
          refine zr_iload d_9_coverOf_39 rfl ?_
          refine zr_iload_n (i := 2) d_9_coverOf_41 rfl rfl ?_
          refine zr_ior d_9_coverOf_42 ?_
          obtain ⟨q17, hq18, hT5⟩ := z_bd hT5
          refine zr_callVi (av := [zI (x3 ||| a2)]) (st := []) d_9_coverOf_43 mw_9_doCover ml_9_435 im_9_doCover se_9_doCover rfl rfl (Nat.le_of_ble_eq_true rfl) fit_3_4_4 rfl rfl rfl (s9_doCover hq18) ?_
          refine zr_if_eq (tgt := 52) d_9_coverOf_46 rfl (fun hc19 => ?_) (fun hc19 => ?_)
          · replace hT5 := z_ip hT5 hc19
            obtain rfl := Option.some.inj hT5
            exact zr_wk2 hJ6 ⟨rfl, ⟨rfl, ⟨rfl, ⟨rfl, ⟨rfl, trivial⟩⟩⟩⟩⟩
          · replace hT5 := z_im hT5 hc19
            refine zr_iload d_9_coverOf_49 rfl ?_
            refine zr_istore_n (i := 3) (l' := [some (zA 9 0), some (zI a1), some (zI a2), some (zI x3), some (zI x3)]) d_9_coverOf_51 rfl (by decide) rfl ?_
            obtain rfl := Option.some.inj hT5
            exact zr_wk2 hJ6 ⟨rfl, ⟨rfl, ⟨rfl, ⟨rfl, ⟨rfl, trivial⟩⟩⟩⟩⟩
        · replace hT5 := z_im hT5 hc16
          obtain rfl := Option.some.inj hT5
          exact zr_wk2 hJ6 ⟨rfl, ⟨rfl, ⟨rfl, ⟨rfl, ⟨rfl, trivial⟩⟩⟩⟩⟩
    · replace hT5 := z_im hT5 hc7
      obtain rfl := Option.some.inj hT5
      exact zr_wk2 hJ6 ⟨rfl, ⟨rfl, ⟨rfl, ⟨rfl, ⟨rfl, trivial⟩⟩⟩⟩⟩
  · replace h := z_im h hc4
    obtain rfl := Option.some.inj h
    exact zr_wk2 (hE x2 rfl) ⟨rfl, trivial⟩
theorem s9_coverOf {P : zP} {μ : zMem} {a1 : Int32} {a2 : Int32} {r : Int32} (h : f9_coverOf a1 a2 μ = some r) : z_Sp P y_9_coverOf M_9_coverOf 4 [zA 9 0, zI a1, zI a2] μ (some (zI r)) μ := by
  refine z_Sp.of (plainFor_of_name (by decide)) rfl (l0 := [some (zA 9 0), some (zI a1), some (zI a2), none, none]) rfl (Nat.le_of_ble_eq_true rfl) ?_
  unfold f9_coverOf at h
  refine zr_iconst (v := (-1 : Int32)) d_9_coverOf_0 rfl ?_
  refine zr_istore_n (i := 3) (l' := [some (zA 9 0), some (zI a1), some (zI a2), some (zI (-1 : Int32)), none]) d_9_coverOf_1 rfl (by decide) rfl ?_
  refine zr_iconst (v := (0 : Int32)) d_9_coverOf_2 rfl ?_
  refine zr_istore (i := 4) (l' := [some (zA 9 0), some (zI a1), some (zI a2), some (zI (-1 : Int32)), some (zI (0 : Int32))]) d_9_coverOf_3 (by decide) rfl ?_
  obtain ⟨e21, hl22, h⟩ := z_bd h
  refine zr_wk (l' := [some (zA 9 0), some (zI a1), some (zI a2), some (zI (-1 : Int32)), some (zI (0 : Int32))]) ⟨rfl, ⟨rfl, ⟨rfl, ⟨rfl, ⟨rfl, trivial⟩⟩⟩⟩⟩ ?_
  refine z_loop (Hd := (z_u2 fun y0 y1 => z_RQ P M_9_coverOf (z_rm 4) (z_mq P (some (zI r)) μ) 0 0 5 [some (zA 9 0), some (zI a1), some (zI a2), some (zI y0), some (zI y1)] [] μ)) (Ex := (fun z0 => z_RQ P M_9_coverOf (z_rm 4) (z_mq P (some (zI r)) μ) 0 0 58 [none, none, none, some (zI z0), none] [] μ)) (fun ⟨x2, x3⟩ K h hI hE => s9_coverOf_L1 a1 a2 μ x2 x3 K h (fun y0 y1 e => hI (y0, y1) e) (fun z0 e => hE z0 e) ) _ _ _ hl22 ?_
  refine zr_iload_n (i := 3) d_9_coverOf_58 rfl rfl ?_
  obtain rfl := Option.some.inj h
  exact ze_i d_9_coverOf_59 rfl
def f9_fill (a1 : Int32) (μ : zMem) : Option (Int32 × zMem) :=
  (if (f9_in a1 (0 : Int32) (1 : Int32)) = 0 then some ((-1 : Int32), μ) else (f9_copies μ).bind (fun qm3 => (f9_inState (0 : Int32) qm3).bind (fun q5 => (f9_inState (1 : Int32) qm3).bind (fun q7 => (f9_coverOf q5 q7 qm3).bind (fun q9 => (if a1 = 0 then (f9_bits q9).bind (fun q12 => some (q12, qm3)) else some (q9, qm3)))))))
theorem s9_fill {P : zP} {μ : zMem} {a1 : Int32} {r : Int32} {μ' : zMem} (h : f9_fill a1 μ = some (r, μ')) : z_Sp P y_9_fill M_9_fill 5 [zA 9 0, zI a1] μ (some (zI r)) μ' := by
  refine z_Sp.of (plainFor_of_name (by decide)) rfl (l0 := [some (zA 9 0), some (zI a1), none]) rfl (Nat.le_of_ble_eq_true rfl) ?_
  unfold f9_fill at h
  refine zr_iload_n (i := 1) d_9_fill_0 rfl rfl ?_
  refine zr_iconst (v := (0 : Int32)) d_9_fill_1 rfl ?_
  refine zr_iconst (v := (1 : Int32)) d_9_fill_2 rfl ?_
  refine zr_callSi (av := [zI a1, zI (0 : Int32), zI (1 : Int32)]) (st := []) d_9_fill_3 mw_9_in ml_9_312 is_9_in rfl rfl (Nat.le_of_ble_eq_true rfl) fit_1_3_5 (s9_in rfl) ?_
  refine zr_if_ne (tgt := 11) d_9_fill_6 rfl (fun hc2 => ?_) (fun hc2 => ?_)
  · replace h := z_ip h hc2
    refine zr_iconst (v := (-1 : Int32)) d_9_fill_9 rfl ?_
    obtain ⟨rfl, rfl⟩ := Prod.mk.inj (Option.some.inj h)
    exact ze_i d_9_fill_10 rfl
  · replace h := z_im h hc2
    refine zr_aload_n (i := 0) d_9_fill_11 rfl rfl ?_
    obtain ⟨qm3, hq4, h⟩ := z_bd h
    refine zr_callVv (av := []) (st := []) d_9_fill_12 mw_9_copies ml_9_325 im_9_copies se_9_copies rfl rfl (Nat.le_of_ble_eq_true rfl) fit_1_2_5 rfl rfl rfl (s9_copies hq4) ?_
    refine zr_aload_n (i := 0) d_9_fill_15 rfl rfl ?_
    refine zr_aload_n (i := 0) d_9_fill_16 rfl rfl ?_
    refine zr_iconst (v := (0 : Int32)) d_9_fill_17 rfl ?_
    obtain ⟨q5, hq6, h⟩ := z_bd h
    refine zr_callVi (av := [zI (0 : Int32)]) (st := [zA 9 0]) d_9_fill_18 mw_9_inState ml_9_358 im_9_inState se_9_inState rfl rfl (Nat.le_of_ble_eq_true rfl) fit_1_4_5 rfl rfl rfl (s9_inState hq6) ?_
    refine zr_aload_n (i := 0) d_9_fill_21 rfl rfl ?_
    refine zr_iconst (v := (1 : Int32)) d_9_fill_22 rfl ?_
    obtain ⟨q7, hq8, h⟩ := z_bd h
    refine zr_callVi (av := [zI (1 : Int32)]) (st := [zI q5, zA 9 0]) d_9_fill_23 mw_9_inState ml_9_358 im_9_inState se_9_inState rfl rfl (Nat.le_of_ble_eq_true rfl) fit_1_4_5 rfl rfl rfl (s9_inState hq8) ?_
    obtain ⟨q9, hq10, h⟩ := z_bd h
    refine zr_callVi (av := [zI q5, zI q7]) (st := []) d_9_fill_26 mw_9_coverOf ml_9_438 im_9_coverOf se_9_coverOf rfl rfl (Nat.le_of_ble_eq_true rfl) fit_4_5_5 rfl rfl rfl (s9_coverOf hq10) ?_
    refine zr_istore_n (i := 2) (l' := [some (zA 9 0), some (zI a1), some (zI q9)]) d_9_fill_29 rfl (by decide) rfl ?_
    refine zr_iload_n (i := 1) d_9_fill_30 rfl rfl ?_
    refine zr_if_ne (tgt := 41) d_9_fill_31 rfl (fun hc11 => ?_) (fun hc11 => ?_)
    · replace h := z_ip h hc11
      refine zr_iload_n (i := 2) d_9_fill_34 rfl rfl ?_
      obtain ⟨q12, hq13, h⟩ := z_bd h
      refine zr_callSi (av := [zI q9]) (st := []) d_9_fill_35 mw_9_bits ml_9_355 is_9_bits rfl rfl (Nat.le_of_ble_eq_true rfl) fit_1_3_5 (s9_bits hq13) ?_
      refine zr_goto (tgt := 42) d_9_fill_38 rfl ?_
      obtain ⟨rfl, rfl⟩ := Prod.mk.inj (Option.some.inj h)
      exact ze_i d_9_fill_42 rfl
    · replace h := z_im h hc11
      refine zr_iload_n (i := 2) d_9_fill_41 rfl rfl ?_
      obtain ⟨rfl, rfl⟩ := Prod.mk.inj (Option.some.inj h)
      exact ze_i d_9_fill_42 rfl
def f9_agents (a1 : Int32) (μ : zMem) : Option (Int32 × zMem) :=
  (if (f9_in a1 (0 : Int32) (1 : Int32)) = 0 then some ((-1 : Int32), μ) else (f9_copies μ).bind (fun qm3 => (f9_aliveBits qm3).bind (fun q5 => (f9_coverOf q5 (0 : Int32) qm3).bind (fun q7 => (if a1 = 0 then (f9_bits q7).bind (fun q10 => some (q10, qm3)) else some (q7, qm3))))))
theorem s9_agents {P : zP} {μ : zMem} {a1 : Int32} {r : Int32} {μ' : zMem} (h : f9_agents a1 μ = some (r, μ')) : z_Sp P y_9_agents M_9_agents 5 [zA 9 0, zI a1] μ (some (zI r)) μ' := by
  refine z_Sp.of (plainFor_of_name (by decide)) rfl (l0 := [some (zA 9 0), some (zI a1), none]) rfl (Nat.le_of_ble_eq_true rfl) ?_
  unfold f9_agents at h
  refine zr_iload_n (i := 1) d_9_agents_0 rfl rfl ?_
  refine zr_iconst (v := (0 : Int32)) d_9_agents_1 rfl ?_
  refine zr_iconst (v := (1 : Int32)) d_9_agents_2 rfl ?_
  refine zr_callSi (av := [zI a1, zI (0 : Int32), zI (1 : Int32)]) (st := []) d_9_agents_3 mw_9_in ml_9_312 is_9_in rfl rfl (Nat.le_of_ble_eq_true rfl) fit_1_3_5 (s9_in rfl) ?_
  refine zr_if_ne (tgt := 11) d_9_agents_6 rfl (fun hc2 => ?_) (fun hc2 => ?_)
  · replace h := z_ip h hc2
    refine zr_iconst (v := (-1 : Int32)) d_9_agents_9 rfl ?_
    obtain ⟨rfl, rfl⟩ := Prod.mk.inj (Option.some.inj h)
    exact ze_i d_9_agents_10 rfl
  · replace h := z_im h hc2
    refine zr_aload_n (i := 0) d_9_agents_11 rfl rfl ?_
    obtain ⟨qm3, hq4, h⟩ := z_bd h
    refine zr_callVv (av := []) (st := []) d_9_agents_12 mw_9_copies ml_9_325 im_9_copies se_9_copies rfl rfl (Nat.le_of_ble_eq_true rfl) fit_1_2_5 rfl rfl rfl (s9_copies hq4) ?_
    refine zr_aload_n (i := 0) d_9_agents_15 rfl rfl ?_
    refine zr_aload_n (i := 0) d_9_agents_16 rfl rfl ?_
    obtain ⟨q5, hq6, h⟩ := z_bd h
    refine zr_callVi (av := []) (st := [zA 9 0]) d_9_agents_17 mw_9_aliveBits ml_9_432 im_9_aliveBits se_9_aliveBits rfl rfl (Nat.le_of_ble_eq_true rfl) fit_2_1_5 rfl rfl rfl (s9_aliveBits hq6) ?_
    refine zr_iconst (v := (0 : Int32)) d_9_agents_20 rfl ?_
    obtain ⟨q7, hq8, h⟩ := z_bd h
    refine zr_callVi (av := [zI q5, zI (0 : Int32)]) (st := []) d_9_agents_21 mw_9_coverOf ml_9_438 im_9_coverOf se_9_coverOf rfl rfl (Nat.le_of_ble_eq_true rfl) fit_4_5_5 rfl rfl rfl (s9_coverOf hq8) ?_
    refine zr_istore_n (i := 2) (l' := [some (zA 9 0), some (zI a1), some (zI q7)]) d_9_agents_24 rfl (by decide) rfl ?_
    refine zr_iload_n (i := 1) d_9_agents_25 rfl rfl ?_
    refine zr_if_ne (tgt := 36) d_9_agents_26 rfl (fun hc9 => ?_) (fun hc9 => ?_)
    · replace h := z_ip h hc9
      refine zr_iload_n (i := 2) d_9_agents_29 rfl rfl ?_
      obtain ⟨q10, hq11, h⟩ := z_bd h
      refine zr_callSi (av := [zI q7]) (st := []) d_9_agents_30 mw_9_bits ml_9_355 is_9_bits rfl rfl (Nat.le_of_ble_eq_true rfl) fit_1_3_5 (s9_bits hq11) ?_
      refine zr_goto (tgt := 37) d_9_agents_33 rfl ?_
      obtain ⟨rfl, rfl⟩ := Prod.mk.inj (Option.some.inj h)
      exact ze_i d_9_agents_37 rfl
    · replace h := z_im h hc9
      refine zr_iload_n (i := 2) d_9_agents_36 rfl rfl ?_
      obtain ⟨rfl, rfl⟩ := Prod.mk.inj (Option.some.inj h)
      exact ze_i d_9_agents_37 rfl
def f9_richest_L3 (μ : zMem) : (Int32 × Int32) → Option ((Int32 × Int32) ⊕ (Int32)) := (z_u2 fun x4 x5 => 
  if z_in (μ.1 9 0 18) 2 = true then (if x5 < (μ.1 126 0 (μ.1 9 0 18).toNatClampNeg) then ((if x4 < 0 then some x5 else if z_in ((14 : Int32) + x5) 34 = true then if z_in ((14 : Int32) + x4) 34 = true then (if (μ.1 148 0 ((14 : Int32) + x4).toNatClampNeg) < (μ.1 148 0 ((14 : Int32) + x5).toNatClampNeg) then some x5 else some x4) else none else none) : Option (Int32)).bind (fun j14 => some (.inl (j14, (x5 + (1 : Int32))))) else some (.inr x4)) else none)
def f9_richest (a1 : Int32) (μ : zMem) : Option (Int32) :=
  (if (f9_in a1 (0 : Int32) (1 : Int32)) = 0 then some (-1 : Int32) else (z_it (f9_richest_L3 μ) z_fu ((-2 : Int32), (0 : Int32))).bind (fun e15 => (if e15 < 0 then some e15 else (if a1 = 0 then some e15 else if z_in ((14 : Int32) + e15) 34 = true then some (μ.1 148 0 ((14 : Int32) + e15).toNatClampNeg) else none))))
theorem s9_richest_L3 {P : zP} {ro : Option zV} {μo : zMem} (a1 : Int32) (μ : zMem) (x4 : Int32) (x5 : Int32) (K : (Int32 × Int32) ⊕ (Int32)) (h : f9_richest_L3 μ (x4, x5) = some K) (hI : ∀ (y0 : Int32) (y1 : Int32), K = .inl (y0, y1) → z_RQ P M_9_richest (z_rm 2) (z_mq P ro μo) 0 0 16 [some (zA 9 0), some (zI a1), some (zI y0), some (zI y1)] [] μ) (hE : ∀ (z0 : Int32), K = .inr z0 → z_RQ P M_9_richest (z_rm 2) (z_mq P ro μo) 0 0 62 [some (zA 9 0), some (zI a1), some (zI z0), none] [] μ)  : z_RQ P M_9_richest (z_rm 2) (z_mq P ro μo) 0 0 16 [some (zA 9 0), some (zI a1), some (zI x4), some (zI x5)] [] μ := by
  unfold f9_richest_L3 at h
  replace h := z_h2 h
  refine zr_iload_n (i := 3) d_9_richest_16 rfl rfl ?_
  refine zr_aload_n (i := 0) d_9_richest_17 rfl rfl ?_
  refine zr_gets (i' := 0) d_9_richest_18 fw_9_55 rfl ?_
  refine zr_aload_n (i := 0) d_9_richest_21 rfl rfl ?_
  refine zr_geti d_9_richest_22 fw_9_233 (by decide) ?_
  obtain ⟨hb6, h⟩ := z_gd h
  refine zr_iald d_9_richest_25 sa_126 rfl hb6 ?_
  refine zr_icmp_ge (tgt := 62) d_9_richest_26 rfl (fun hc7 => ?_) (fun hc7 => ?_)
  · replace h := z_ip h hc7
    refine zr_iload_n (i := 2) d_9_richest_29 rfl rfl ?_
    obtain ⟨j14, hT8, h⟩ := z_bd h
    have hJ9 : z_RQ P M_9_richest (z_rm 2) (z_mq P ro μo) 0 0 56 [some (zA 9 0), some (zI a1), some (zI j14), some (zI x5)] [] μ := by
      refine zr_iinc (v := (x5 + (1 : Int32))) (l' := [some (zA 9 0), some (zI a1), some (zI j14), some (zI (x5 + (1 : Int32)))]) d_9_richest_56 (by decide) rfl rfl rfl ?_
      refine zr_goto (tgt := 16) d_9_richest_59 rfl ?_
      obtain rfl := Option.some.inj h
      exact zr_wk2 (hI j14 (x5 + (1 : Int32)) rfl) ⟨rfl, ⟨rfl, ⟨rfl, ⟨rfl, trivial⟩⟩⟩⟩
    refine zr_if_lt (tgt := 54) d_9_richest_30 rfl (fun hc10 => ?_) (fun hc10 => ?_)
    · replace hT8 := z_ip hT8 hc10
      refine zr_iload_n (i := 3) d_9_richest_54 rfl rfl ?_
      refine zr_istore_n (i := 2) (l' := [some (zA 9 0), some (zI a1), some (zI x5), some (zI x5)]) d_9_richest_55 rfl (by decide) rfl ?_
      obtain rfl := Option.some.inj hT8
      exact zr_wk2 hJ9 ⟨rfl, ⟨rfl, ⟨rfl, ⟨rfl, trivial⟩⟩⟩⟩
    · replace hT8 := z_im hT8 hc10
      refine zr_aload_n (i := 0) d_9_richest_33 rfl rfl ?_
      refine zr_gets (i' := 0) d_9_richest_34 fw_9_110 rfl ?_
      refine zr_bipush (v := (14 : Int32)) d_9_richest_37 rfl ?_
      refine zr_iload_n (i := 3) d_9_richest_39 rfl rfl ?_
      refine zr_iadd d_9_richest_40 ?_
      obtain ⟨hb11, hT8⟩ := z_gd hT8
      refine zr_iald d_9_richest_41 sa_148 rfl hb11 ?_
      refine zr_aload_n (i := 0) d_9_richest_42 rfl rfl ?_
      refine zr_gets (i' := 0) d_9_richest_43 fw_9_110 rfl ?_
      refine zr_bipush (v := (14 : Int32)) d_9_richest_46 rfl ?_
      refine zr_iload_n (i := 2) d_9_richest_48 rfl rfl ?_
      refine zr_iadd d_9_richest_49 ?_
      obtain ⟨hb12, hT8⟩ := z_gd hT8
      refine zr_iald d_9_richest_50 sa_148 rfl hb12 ?_
      refine zr_icmp_le (tgt := 56) d_9_richest_51 rfl (fun hc13 => ?_) (fun hc13 => ?_)
      · replace hT8 := z_ip hT8 hc13
        refine zr_iload_n (i := 3) d_9_richest_54 rfl rfl ?_
        refine zr_istore_n (i := 2) (l' := [some (zA 9 0), some (zI a1), some (zI x5), some (zI x5)]) d_9_richest_55 rfl (by decide) rfl ?_
        obtain rfl := Option.some.inj hT8
        exact zr_wk2 hJ9 ⟨rfl, ⟨rfl, ⟨rfl, ⟨rfl, trivial⟩⟩⟩⟩
      · replace hT8 := z_im hT8 hc13
        obtain rfl := Option.some.inj hT8
        exact zr_wk2 hJ9 ⟨rfl, ⟨rfl, ⟨rfl, ⟨rfl, trivial⟩⟩⟩⟩
  · replace h := z_im h hc7
    obtain rfl := Option.some.inj h
    exact zr_wk2 (hE x4 rfl) ⟨rfl, ⟨rfl, ⟨rfl, trivial⟩⟩⟩
theorem s9_richest {P : zP} {μ : zMem} {a1 : Int32} {r : Int32} (h : f9_richest a1 μ = some r) : z_Sp P y_9_richest M_9_richest 2 [zA 9 0, zI a1] μ (some (zI r)) μ := by
  refine z_Sp.of (plainFor_of_name (by decide)) rfl (l0 := [some (zA 9 0), some (zI a1), none, none]) rfl (Nat.le_of_ble_eq_true rfl) ?_
  unfold f9_richest at h
  refine zr_iload_n (i := 1) d_9_richest_0 rfl rfl ?_
  refine zr_iconst (v := (0 : Int32)) d_9_richest_1 rfl ?_
  refine zr_iconst (v := (1 : Int32)) d_9_richest_2 rfl ?_
  refine zr_callSi (av := [zI a1, zI (0 : Int32), zI (1 : Int32)]) (st := []) d_9_richest_3 mw_9_in ml_9_312 is_9_in rfl rfl (Nat.le_of_ble_eq_true rfl) fit_1_3_2 (s9_in rfl) ?_
  refine zr_if_ne (tgt := 11) d_9_richest_6 rfl (fun hc2 => ?_) (fun hc2 => ?_)
  · replace h := z_ip h hc2
    refine zr_iconst (v := (-1 : Int32)) d_9_richest_9 rfl ?_
    obtain rfl := Option.some.inj h
    exact ze_i d_9_richest_10 rfl
  · replace h := z_im h hc2
    refine zr_bipush (v := (-2 : Int32)) d_9_richest_11 (by decide) ?_
    refine zr_istore_n (i := 2) (l' := [some (zA 9 0), some (zI a1), some (zI (-2 : Int32)), none]) d_9_richest_13 rfl (by decide) rfl ?_
    refine zr_iconst (v := (0 : Int32)) d_9_richest_14 rfl ?_
    refine zr_istore_n (i := 3) (l' := [some (zA 9 0), some (zI a1), some (zI (-2 : Int32)), some (zI (0 : Int32))]) d_9_richest_15 rfl (by decide) rfl ?_
    obtain ⟨e15, hl16, h⟩ := z_bd h
    refine zr_wk (l' := [some (zA 9 0), some (zI a1), some (zI (-2 : Int32)), some (zI (0 : Int32))]) ⟨rfl, ⟨rfl, ⟨rfl, ⟨rfl, trivial⟩⟩⟩⟩ ?_
    refine z_loop (Hd := (z_u2 fun y0 y1 => z_RQ P M_9_richest (z_rm 2) (z_mq P (some (zI r)) μ) 0 0 16 [some (zA 9 0), some (zI a1), some (zI y0), some (zI y1)] [] μ)) (Ex := (fun z0 => z_RQ P M_9_richest (z_rm 2) (z_mq P (some (zI r)) μ) 0 0 62 [some (zA 9 0), some (zI a1), some (zI z0), none] [] μ)) (fun ⟨x4, x5⟩ K h hI hE => s9_richest_L3 a1 μ x4 x5 K h (fun y0 y1 e => hI (y0, y1) e) (fun z0 e => hE z0 e) ) _ _ _ hl16 ?_
    refine zr_iload_n (i := 2) d_9_richest_62 rfl rfl ?_
    refine zr_if_lt (tgt := 70) d_9_richest_63 rfl (fun hc17 => ?_) (fun hc17 => ?_)
    · replace h := z_ip h hc17
      refine zr_iload_n (i := 2) d_9_richest_70 rfl rfl ?_
      refine zr_goto (tgt := 83) d_9_richest_71 rfl ?_
      obtain rfl := Option.some.inj h
      exact ze_i d_9_richest_83 rfl
    · replace h := z_im h hc17
      refine zr_iload_n (i := 1) d_9_richest_66 rfl rfl ?_
      refine zr_if_ne (tgt := 74) d_9_richest_67 rfl (fun hc18 => ?_) (fun hc18 => ?_)
      · replace h := z_ip h hc18
        refine zr_iload_n (i := 2) d_9_richest_70 rfl rfl ?_
        refine zr_goto (tgt := 83) d_9_richest_71 rfl ?_
        obtain rfl := Option.some.inj h
        exact ze_i d_9_richest_83 rfl
      · replace h := z_im h hc18
        refine zr_aload_n (i := 0) d_9_richest_74 rfl rfl ?_
        refine zr_gets (i' := 0) d_9_richest_75 fw_9_110 rfl ?_
        refine zr_bipush (v := (14 : Int32)) d_9_richest_78 rfl ?_
        refine zr_iload_n (i := 2) d_9_richest_80 rfl rfl ?_
        refine zr_iadd d_9_richest_81 ?_
        obtain ⟨hb19, h⟩ := z_gd h
        refine zr_iald d_9_richest_82 sa_148 rfl hb19 ?_
        obtain rfl := Option.some.inj h
        exact ze_i d_9_richest_83 rfl
def f9_eldest_L5 (qm3 : zMem) : (Int32 × Int32) → Option ((Int32 × Int32) ⊕ (Int32)) := (z_u2 fun x6 x7 => 
  if z_in (qm3.1 9 0 18) 2 = true then (if x7 < (qm3.1 126 0 (qm3.1 9 0 18).toNatClampNeg) then if z_in x7 34 = true then ((if (qm3.1 149 0 x7.toNatClampNeg) = (2 : Int32) then some x6 else (if x6 < 0 then some x7 else (f9_ageNow x7 qm3).bind (fun q15 => (f9_ageNow x6 qm3).bind (fun q17 => (if q17 < q15 then some x7 else some x6))))) : Option (Int32)).bind (fun j20 => some (.inl (j20, (x7 + (1 : Int32))))) else none else some (.inr x6)) else none)
def f9_eldest (a1 : Int32) (μ : zMem) : Option (Int32 × zMem) :=
  (if (f9_in a1 (0 : Int32) (1 : Int32)) = 0 then some ((-1 : Int32), μ) else (f9_copies μ).bind (fun qm3 => (z_it (f9_eldest_L5 qm3) z_fu ((-2 : Int32), (0 : Int32))).bind (fun e21 => (if e21 < 0 then some (e21, qm3) else (if a1 = 0 then some (e21, qm3) else (f9_ageNow e21 qm3).bind (fun q25 => some (q25, qm3)))))))
theorem s9_eldest_L5 {P : zP} {ro : Option zV} {μo : zMem} (a1 : Int32) (qm3 : zMem) (x6 : Int32) (x7 : Int32) (K : (Int32 × Int32) ⊕ (Int32)) (h : f9_eldest_L5 qm3 (x6, x7) = some K) (hI : ∀ (y0 : Int32) (y1 : Int32), K = .inl (y0, y1) → z_RQ P M_9_eldest (z_rm 2) (z_mq P ro μo) 0 0 20 [some (zA 9 0), some (zI a1), some (zI y0), some (zI y1)] [] qm3) (hE : ∀ (z0 : Int32), K = .inr z0 → z_RQ P M_9_eldest (z_rm 2) (z_mq P ro μo) 0 0 68 [some (zA 9 0), some (zI a1), some (zI z0), none] [] qm3)  : z_RQ P M_9_eldest (z_rm 2) (z_mq P ro μo) 0 0 20 [some (zA 9 0), some (zI a1), some (zI x6), some (zI x7)] [] qm3 := by
  unfold f9_eldest_L5 at h
  replace h := z_h2 h
  refine zr_iload_n (i := 3) d_9_eldest_20 rfl rfl ?_
  refine zr_aload_n (i := 0) d_9_eldest_21 rfl rfl ?_
  refine zr_gets (i' := 0) d_9_eldest_22 fw_9_55 rfl ?_
  refine zr_aload_n (i := 0) d_9_eldest_25 rfl rfl ?_
  refine zr_geti d_9_eldest_26 fw_9_233 (by decide) ?_
  obtain ⟨hb8, h⟩ := z_gd h
  refine zr_iald d_9_eldest_29 sa_126 rfl hb8 ?_
  refine zr_icmp_ge (tgt := 68) d_9_eldest_30 rfl (fun hc9 => ?_) (fun hc9 => ?_)
  · replace h := z_ip h hc9
    refine zr_aload_n (i := 0) d_9_eldest_33 rfl rfl ?_
    refine zr_gets (i' := 0) d_9_eldest_34 fw_9_113 rfl ?_
    refine zr_iload_n (i := 3) d_9_eldest_37 rfl rfl ?_
    obtain ⟨hb10, h⟩ := z_gd h
    refine zr_iald d_9_eldest_38 sa_149 rfl hb10 ?_
    refine zr_iconst (v := (2 : Int32)) d_9_eldest_39 rfl ?_
    obtain ⟨j20, hT11, h⟩ := z_bd h
    have hJ12 : z_RQ P M_9_eldest (z_rm 2) (z_mq P ro μo) 0 0 62 [some (zA 9 0), some (zI a1), some (zI j20), some (zI x7)] [] qm3 := by
      refine zr_iinc (v := (x7 + (1 : Int32))) (l' := [some (zA 9 0), some (zI a1), some (zI j20), some (zI (x7 + (1 : Int32)))]) d_9_eldest_62 (by decide) rfl rfl rfl ?_
      refine zr_goto (tgt := 20) d_9_eldest_65 rfl ?_
      obtain rfl := Option.some.inj h
      exact zr_wk2 (hI j20 (x7 + (1 : Int32)) rfl) ⟨rfl, ⟨rfl, ⟨rfl, ⟨rfl, trivial⟩⟩⟩⟩
    refine zr_icmp_eq (tgt := 62) d_9_eldest_40 rfl (fun hc13 => ?_) (fun hc13 => ?_)
    · replace hT11 := z_ip hT11 hc13
      obtain rfl := Option.some.inj hT11
      exact zr_wk2 hJ12 ⟨rfl, ⟨rfl, ⟨rfl, ⟨rfl, trivial⟩⟩⟩⟩
    · replace hT11 := z_im hT11 hc13
      refine zr_iload_n (i := 2) d_9_eldest_43 rfl rfl ?_
      refine zr_if_lt (tgt := 60) d_9_eldest_44 rfl (fun hc14 => ?_) (fun hc14 => ?_)
      · replace hT11 := z_ip hT11 hc14
        refine zr_iload_n (i := 3) d_9_eldest_60 rfl rfl ?_
        refine zr_istore_n (i := 2) (l' := [some (zA 9 0), some (zI a1), some (zI x7), some (zI x7)]) d_9_eldest_61 rfl (by decide) rfl ?_
        obtain rfl := Option.some.inj hT11
        exact zr_wk2 hJ12 ⟨rfl, ⟨rfl, ⟨rfl, ⟨rfl, trivial⟩⟩⟩⟩
      · replace hT11 := z_im hT11 hc14
        refine zr_aload_n (i := 0) d_9_eldest_47 rfl rfl ?_
        refine zr_iload_n (i := 3) d_9_eldest_48 rfl rfl ?_
        obtain ⟨q15, hq16, hT11⟩ := z_bd hT11
        refine zr_callVi (av := [zI x7]) (st := []) d_9_eldest_49 mw_9_ageNow ml_9_349 im_9_ageNow se_9_ageNow rfl rfl (Nat.le_of_ble_eq_true rfl) fit_1_2_2 rfl rfl rfl (s9_ageNow hq16) ?_
        refine zr_aload_n (i := 0) d_9_eldest_52 rfl rfl ?_
        refine zr_iload_n (i := 2) d_9_eldest_53 rfl rfl ?_
        obtain ⟨q17, hq18, hT11⟩ := z_bd hT11
        refine zr_callVi (av := [zI x6]) (st := [zI q15]) d_9_eldest_54 mw_9_ageNow ml_9_349 im_9_ageNow se_9_ageNow rfl rfl (Nat.le_of_ble_eq_true rfl) fit_1_2_2 rfl rfl rfl (s9_ageNow hq18) ?_
        refine zr_icmp_le (tgt := 62) d_9_eldest_57 rfl (fun hc19 => ?_) (fun hc19 => ?_)
        · replace hT11 := z_ip hT11 hc19
          refine zr_iload_n (i := 3) d_9_eldest_60 rfl rfl ?_
          refine zr_istore_n (i := 2) (l' := [some (zA 9 0), some (zI a1), some (zI x7), some (zI x7)]) d_9_eldest_61 rfl (by decide) rfl ?_
          obtain rfl := Option.some.inj hT11
          exact zr_wk2 hJ12 ⟨rfl, ⟨rfl, ⟨rfl, ⟨rfl, trivial⟩⟩⟩⟩
        · replace hT11 := z_im hT11 hc19
          obtain rfl := Option.some.inj hT11
          exact zr_wk2 hJ12 ⟨rfl, ⟨rfl, ⟨rfl, ⟨rfl, trivial⟩⟩⟩⟩
  · replace h := z_im h hc9
    obtain rfl := Option.some.inj h
    exact zr_wk2 (hE x6 rfl) ⟨rfl, ⟨rfl, ⟨rfl, trivial⟩⟩⟩
theorem s9_eldest {P : zP} {μ : zMem} {a1 : Int32} {r : Int32} {μ' : zMem} (h : f9_eldest a1 μ = some (r, μ')) : z_Sp P y_9_eldest M_9_eldest 2 [zA 9 0, zI a1] μ (some (zI r)) μ' := by
  refine z_Sp.of (plainFor_of_name (by decide)) rfl (l0 := [some (zA 9 0), some (zI a1), none, none]) rfl (Nat.le_of_ble_eq_true rfl) ?_
  unfold f9_eldest at h
  refine zr_iload_n (i := 1) d_9_eldest_0 rfl rfl ?_
  refine zr_iconst (v := (0 : Int32)) d_9_eldest_1 rfl ?_
  refine zr_iconst (v := (1 : Int32)) d_9_eldest_2 rfl ?_
  refine zr_callSi (av := [zI a1, zI (0 : Int32), zI (1 : Int32)]) (st := []) d_9_eldest_3 mw_9_in ml_9_312 is_9_in rfl rfl (Nat.le_of_ble_eq_true rfl) fit_1_3_2 (s9_in rfl) ?_
  refine zr_if_ne (tgt := 11) d_9_eldest_6 rfl (fun hc2 => ?_) (fun hc2 => ?_)
  · replace h := z_ip h hc2
    refine zr_iconst (v := (-1 : Int32)) d_9_eldest_9 rfl ?_
    obtain ⟨rfl, rfl⟩ := Prod.mk.inj (Option.some.inj h)
    exact ze_i d_9_eldest_10 rfl
  · replace h := z_im h hc2
    refine zr_aload_n (i := 0) d_9_eldest_11 rfl rfl ?_
    obtain ⟨qm3, hq4, h⟩ := z_bd h
    refine zr_callVv (av := []) (st := []) d_9_eldest_12 mw_9_copies ml_9_325 im_9_copies se_9_copies rfl rfl (Nat.le_of_ble_eq_true rfl) fit_1_2_2 rfl rfl rfl (s9_copies hq4) ?_
    refine zr_bipush (v := (-2 : Int32)) d_9_eldest_15 (by decide) ?_
    refine zr_istore_n (i := 2) (l' := [some (zA 9 0), some (zI a1), some (zI (-2 : Int32)), none]) d_9_eldest_17 rfl (by decide) rfl ?_
    refine zr_iconst (v := (0 : Int32)) d_9_eldest_18 rfl ?_
    refine zr_istore_n (i := 3) (l' := [some (zA 9 0), some (zI a1), some (zI (-2 : Int32)), some (zI (0 : Int32))]) d_9_eldest_19 rfl (by decide) rfl ?_
    obtain ⟨e21, hl22, h⟩ := z_bd h
    refine zr_wk (l' := [some (zA 9 0), some (zI a1), some (zI (-2 : Int32)), some (zI (0 : Int32))]) ⟨rfl, ⟨rfl, ⟨rfl, ⟨rfl, trivial⟩⟩⟩⟩ ?_
    refine z_loop (Hd := (z_u2 fun y0 y1 => z_RQ P M_9_eldest (z_rm 2) (z_mq P (some (zI r)) μ') 0 0 20 [some (zA 9 0), some (zI a1), some (zI y0), some (zI y1)] [] qm3)) (Ex := (fun z0 => z_RQ P M_9_eldest (z_rm 2) (z_mq P (some (zI r)) μ') 0 0 68 [some (zA 9 0), some (zI a1), some (zI z0), none] [] qm3)) (fun ⟨x6, x7⟩ K h hI hE => s9_eldest_L5 a1 qm3 x6 x7 K h (fun y0 y1 e => hI (y0, y1) e) (fun z0 e => hE z0 e) ) _ _ _ hl22 ?_
    refine zr_iload_n (i := 2) d_9_eldest_68 rfl rfl ?_
    refine zr_if_lt (tgt := 76) d_9_eldest_69 rfl (fun hc23 => ?_) (fun hc23 => ?_)
    · replace h := z_ip h hc23
      refine zr_iload_n (i := 2) d_9_eldest_76 rfl rfl ?_
      refine zr_goto (tgt := 85) d_9_eldest_77 rfl ?_
      obtain ⟨rfl, rfl⟩ := Prod.mk.inj (Option.some.inj h)
      exact ze_i d_9_eldest_85 rfl
    · replace h := z_im h hc23
      refine zr_iload_n (i := 1) d_9_eldest_72 rfl rfl ?_
      refine zr_if_ne (tgt := 80) d_9_eldest_73 rfl (fun hc24 => ?_) (fun hc24 => ?_)
      · replace h := z_ip h hc24
        refine zr_iload_n (i := 2) d_9_eldest_76 rfl rfl ?_
        refine zr_goto (tgt := 85) d_9_eldest_77 rfl ?_
        obtain ⟨rfl, rfl⟩ := Prod.mk.inj (Option.some.inj h)
        exact ze_i d_9_eldest_85 rfl
      · replace h := z_im h hc24
        refine zr_aload_n (i := 0) d_9_eldest_80 rfl rfl ?_
        refine zr_iload_n (i := 2) d_9_eldest_81 rfl rfl ?_
        obtain ⟨q25, hq26, h⟩ := z_bd h
        refine zr_callVi (av := [zI e21]) (st := []) d_9_eldest_82 mw_9_ageNow ml_9_349 im_9_ageNow se_9_ageNow rfl rfl (Nat.le_of_ble_eq_true rfl) fit_1_2_2 rfl rfl rfl (s9_ageNow hq26) ?_
        obtain ⟨rfl, rfl⟩ := Prod.mk.inj (Option.some.inj h)
        exact ze_i d_9_eldest_85 rfl
def f9_mayHave (a1 : Int32) (a2 : Int32) (a3 : Int32) (μ : zMem) : Option (Int32) :=
  if z_in a1 34 = true then (if (μ.1 149 0 a1.toNatClampNeg) = (1 : Int32) then (f9_hasRight a1 a2 μ).bind (fun q3 => (if q3 = 0 then some (0 : Int32) else (if ((a3 >>> (a1 &&& 31)) &&& (1 : Int32)) = 0 then some (1 : Int32) else some (0 : Int32)))) else some (0 : Int32)) else none
theorem s9_mayHave {P : zP} {μ : zMem} {a1 : Int32} {a2 : Int32} {a3 : Int32} {r : Int32} (h : f9_mayHave a1 a2 a3 μ = some r) : z_Sp P y_9_mayHave M_9_mayHave 2 [zA 9 0, zI a1, zI a2, zI a3] μ (some (zI r)) μ := by
  refine z_Sp.of (plainFor_of_name (by decide)) rfl (l0 := [some (zA 9 0), some (zI a1), some (zI a2), some (zI a3)]) rfl (Nat.le_of_ble_eq_true rfl) ?_
  unfold f9_mayHave at h
  refine zr_aload_n (i := 0) d_9_mayHave_0 rfl rfl ?_
  refine zr_gets (i' := 0) d_9_mayHave_1 fw_9_113 rfl ?_
  refine zr_iload_n (i := 1) d_9_mayHave_4 rfl rfl ?_
  obtain ⟨hb1, h⟩ := z_gd h
  refine zr_iald d_9_mayHave_5 sa_149 rfl hb1 ?_
  refine zr_iconst (v := (1 : Int32)) d_9_mayHave_6 rfl ?_
  refine zr_icmp_ne (tgt := 31) d_9_mayHave_7 rfl (fun hc2 => ?_) (fun hc2 => ?_)
  · replace h := z_ip h hc2
    refine zr_aload_n (i := 0) d_9_mayHave_10 rfl rfl ?_
    refine zr_iload_n (i := 1) d_9_mayHave_11 rfl rfl ?_
    refine zr_iload_n (i := 2) d_9_mayHave_12 rfl rfl ?_
    obtain ⟨q3, hq4, h⟩ := z_bd h
    refine zr_callVi (av := [zI a1, zI a2]) (st := []) d_9_mayHave_13 mw_9_hasRight ml_9_333 im_9_hasRight se_9_hasRight rfl rfl (Nat.le_of_ble_eq_true rfl) fit_1_3_2 rfl rfl rfl (s9_hasRight hq4) ?_
    refine zr_if_eq (tgt := 31) d_9_mayHave_16 rfl (fun hc5 => ?_) (fun hc5 => ?_)
    · replace h := z_ip h hc5
      refine zr_iconst (v := (0 : Int32)) d_9_mayHave_31 rfl ?_
      obtain rfl := Option.some.inj h
      exact ze_z d_9_mayHave_32 rfl rfl
    · replace h := z_im h hc5
      refine zr_iload_n (i := 3) d_9_mayHave_19 rfl rfl ?_
      refine zr_iload_n (i := 1) d_9_mayHave_20 rfl rfl ?_
      refine zr_ishr d_9_mayHave_21 ?_
      refine zr_iconst (v := (1 : Int32)) d_9_mayHave_22 rfl ?_
      refine zr_iand d_9_mayHave_23 ?_
      refine zr_if_ne (tgt := 31) d_9_mayHave_24 rfl (fun hc6 => ?_) (fun hc6 => ?_)
      · replace h := z_ip h hc6
        refine zr_iconst (v := (1 : Int32)) d_9_mayHave_27 rfl ?_
        refine zr_goto (tgt := 32) d_9_mayHave_28 rfl ?_
        obtain rfl := Option.some.inj h
        exact ze_z d_9_mayHave_32 rfl rfl
      · replace h := z_im h hc6
        refine zr_iconst (v := (0 : Int32)) d_9_mayHave_31 rfl ?_
        obtain rfl := Option.some.inj h
        exact ze_z d_9_mayHave_32 rfl rfl
  · replace h := z_im h hc2
    refine zr_iconst (v := (0 : Int32)) d_9_mayHave_31 rfl ?_
    obtain rfl := Option.some.inj h
    exact ze_z d_9_mayHave_32 rfl rfl
def f9_lordsWith (a1 : Int32) (a2 : Int32) (a3 : Int32) (μ : zMem) : Option (Int32) :=
  if z_in ((((128 : Int32) * a1) + (128 : Int32)) + (a3 ||| ((1 : Int32) <<< (a2 &&& 31)))) 768 = true then some ((1 : Int32) + (μ.1 157 0 ((((128 : Int32) * a1) + (128 : Int32)) + (a3 ||| ((1 : Int32) <<< (a2 &&& 31)))).toNatClampNeg)) else none
theorem s9_lordsWith {P : zP} {μ : zMem} {a1 : Int32} {a2 : Int32} {a3 : Int32} {r : Int32} (h : f9_lordsWith a1 a2 a3 μ = some r) : z_Sp P y_9_lordsWith M_9_lordsWith 1 [zA 9 0, zI a1, zI a2, zI a3] μ (some (zI r)) μ := by
  refine z_Sp.of (plainFor_of_name (by decide)) rfl (l0 := [some (zA 9 0), some (zI a1), some (zI a2), some (zI a3)]) rfl (Nat.le_of_ble_eq_true rfl) ?_
  unfold f9_lordsWith at h
  refine zr_iconst (v := (1 : Int32)) d_9_lordsWith_0 rfl ?_
  refine zr_aload_n (i := 0) d_9_lordsWith_1 rfl rfl ?_
  refine zr_gets (i' := 0) d_9_lordsWith_2 fw_9_128 rfl ?_
  refine zr_sipush (v := (128 : Int32)) d_9_lordsWith_5 rfl ?_
  refine zr_iload_n (i := 1) d_9_lordsWith_8 rfl rfl ?_
  refine zr_imul d_9_lordsWith_9 ?_
  refine zr_sipush (v := (128 : Int32)) d_9_lordsWith_10 rfl ?_
  refine zr_iadd d_9_lordsWith_13 ?_
  refine zr_iload_n (i := 3) d_9_lordsWith_14 rfl rfl ?_
  refine zr_iconst (v := (1 : Int32)) d_9_lordsWith_15 rfl ?_
  refine zr_iload_n (i := 2) d_9_lordsWith_16 rfl rfl ?_
  refine zr_ishl d_9_lordsWith_17 ?_
  refine zr_ior d_9_lordsWith_18 ?_
  refine zr_iadd d_9_lordsWith_19 ?_
  obtain ⟨hb1, h⟩ := z_gd h
  refine zr_iald d_9_lordsWith_20 sa_157 rfl hb1 ?_
  refine zr_iadd d_9_lordsWith_21 ?_
  obtain rfl := Option.some.inj h
  exact ze_i d_9_lordsWith_22 rfl
def f9_fillsLords_L6 (v4 : Int32) : (Int32 × zMem) → Option ((Int32 × zMem) ⊕ (zMem)) := (z_u2 fun x7 xm8 => 
  (if x7 < (128 : Int32) then if z_in (((128 : Int32) * v4) + x7) 768 = true then z_let (z_sI xm8 157 0 (((128 : Int32) * v4) + x7).toNatClampNeg (0 : Int32)) fun m10 => some (.inl ((x7 + (1 : Int32)), m10)) else none else some (.inr xm8)))
def f9_fillsLords_L26 (x16 : Int32) (x20 : Int32) (xm21 : zMem) : (Int32 × Int32) → Option ((Int32 × Int32) ⊕ (Int32)) := (z_u2 fun x27 x28 => 
  if z_in (xm21.1 9 0 18) 2 = true then (if x28 < (xm21.1 126 0 (xm21.1 9 0 18).toNatClampNeg) then (f9_mayHave x28 x16 x20 xm21).bind (fun q31 => ((if q31 = 0 then some x27 else (f9_lordsWith x16 x28 x20 xm21).bind (fun q36 => (if x27 < q36 then (f9_lordsWith x16 x28 x20 xm21).bind (fun q39 => some q39) else some x27))) : Option (Int32)).bind (fun j41 => some (.inl (j41, (x28 + (1 : Int32)))))) else some (.inr x27)) else none)
def f9_fillsLords_L19 (x16 : Int32) : (Int32 × zMem) → Option ((Int32 × zMem) ⊕ (zMem)) := (z_u2 fun x20 xm21 => 
  (if x20 < (128 : Int32) then if z_in ((((128 : Int32) * x16) + (128 : Int32)) + x20) 768 = true then z_let (xm21.1 157 0 ((((128 : Int32) * x16) + (128 : Int32)) + x20).toNatClampNeg) fun v24 => (z_it (f9_fillsLords_L26 x16 x20 xm21) z_fu (v24, (0 : Int32))).bind (fun e42 => if z_in (((128 : Int32) * x16) + x20) 768 = true then z_let (z_sI xm21 157 0 (((128 : Int32) * x16) + x20).toNatClampNeg e42) fun m44 => some (.inl ((x20 + (1 : Int32)), m44)) else none) else none else some (.inr xm21)))
def f9_fillsLords_L15  : (Int32 × zMem) → Option ((Int32 × zMem) ⊕ (zMem)) := (z_u2 fun x16 xm17 => 
  (if x16 < 0 then some (.inr xm17) else (z_it (f9_fillsLords_L19 x16) z_fu ((0 : Int32), xm17)).bind (fun e47 => some (.inl ((x16 + (-1 : Int32)), e47)))))
def f9_fillsLords  (μ : zMem) : Option (zMem) :=
  (f9_copies μ).bind (fun qm1 => if z_in (qm1.1 9 0 18) 2 = true then z_let (qm1.1 123 0 (qm1.1 9 0 18).toNatClampNeg) fun v4 => (z_it (f9_fillsLords_L6 v4) z_fu ((0 : Int32), qm1)).bind (fun e13 => (z_it (f9_fillsLords_L15) z_fu ((v4 - (1 : Int32)), e13)).bind (fun e49 => some e49)) else none)
theorem s9_fillsLords_L6 {P : zP} {ro : Option zV} {μo : zMem} (v4 : Int32) (x7 : Int32) (xm8 : zMem) (K : (Int32 × zMem) ⊕ (zMem)) (h : f9_fillsLords_L6 v4 (x7, xm8) = some K) (hI : ∀ (y0 : Int32) (y1 : zMem), K = .inl (y0, y1) → z_RQ P M_9_fillsLords (z_rm 3) (z_mq P ro μo) 0 0 16 [some (zA 9 0), some (zI v4), some (zI y0), none, none, none] [] y1) (hE : ∀ (z0 : zMem), K = .inr z0 → z_RQ P M_9_fillsLords (z_rm 3) (z_mq P ro μo) 0 0 42 [some (zA 9 0), some (zI v4), none, none, none, none] [] z0)  : z_RQ P M_9_fillsLords (z_rm 3) (z_mq P ro μo) 0 0 16 [some (zA 9 0), some (zI v4), some (zI x7), none, none, none] [] xm8 := by
  unfold f9_fillsLords_L6 at h
  replace h := z_h2 h
  refine zr_iload_n (i := 2) d_9_fillsLords_16 rfl rfl ?_
  refine zr_sipush (v := (128 : Int32)) d_9_fillsLords_17 rfl ?_
  refine zr_icmp_ge (tgt := 42) d_9_fillsLords_20 rfl (fun hc9 => ?_) (fun hc9 => ?_)
  · replace h := z_ip h hc9
    refine zr_aload_n (i := 0) d_9_fillsLords_23 rfl rfl ?_
    refine zr_gets (i' := 0) d_9_fillsLords_24 fw_9_128 rfl ?_
    refine zr_sipush (v := (128 : Int32)) d_9_fillsLords_27 rfl ?_
    refine zr_iload_n (i := 1) d_9_fillsLords_30 rfl rfl ?_
    refine zr_imul d_9_fillsLords_31 ?_
    refine zr_iload_n (i := 2) d_9_fillsLords_32 rfl rfl ?_
    refine zr_iadd d_9_fillsLords_33 ?_
    refine zr_iconst (v := (0 : Int32)) d_9_fillsLords_34 rfl ?_
    obtain ⟨hb12, h⟩ := z_gd h
    obtain ⟨m10, hm11, h⟩ := z_lt h
    refine zr_iast d_9_fillsLords_35 sa_157 rfl hb12 hm11 ?_
    refine zr_iinc (v := (x7 + (1 : Int32))) (l' := [some (zA 9 0), some (zI v4), some (zI (x7 + (1 : Int32))), none, none, none]) d_9_fillsLords_36 (by decide) rfl rfl rfl ?_
    refine zr_goto (tgt := 16) d_9_fillsLords_39 rfl ?_
    obtain rfl := Option.some.inj h
    exact zr_wk2 (hI (x7 + (1 : Int32)) m10 rfl) ⟨rfl, ⟨rfl, ⟨rfl, trivial⟩⟩⟩
  · replace h := z_im h hc9
    obtain rfl := Option.some.inj h
    exact zr_wk2 (hE xm8 rfl) ⟨rfl, ⟨rfl, trivial⟩⟩
theorem s9_fillsLords_L26 {P : zP} {ro : Option zV} {μo : zMem} (x16 : Int32) (x20 : Int32) (xm21 : zMem) (x27 : Int32) (x28 : Int32) (K : (Int32 × Int32) ⊕ (Int32)) (h : f9_fillsLords_L26 x16 x20 xm21 (x27, x28) = some K) (hI : ∀ (y0 : Int32) (y1 : Int32), K = .inl (y0, y1) → z_RQ P M_9_fillsLords (z_rm 3) (z_mq P ro μo) 0 0 80 [some (zA 9 0), none, some (zI x16), some (zI x20), some (zI y0), some (zI y1)] [] xm21) (hE : ∀ (z0 : Int32), K = .inr z0 → z_RQ P M_9_fillsLords (z_rm 3) (z_mq P ro μo) 0 0 134 [some (zA 9 0), none, some (zI x16), some (zI x20), some (zI z0), none] [] xm21)  : z_RQ P M_9_fillsLords (z_rm 3) (z_mq P ro μo) 0 0 80 [some (zA 9 0), none, some (zI x16), some (zI x20), some (zI x27), some (zI x28)] [] xm21 := by
  unfold f9_fillsLords_L26 at h
  replace h := z_h2 h
  refine zr_iload d_9_fillsLords_80 rfl ?_
  refine zr_aload_n (i := 0) d_9_fillsLords_82 rfl rfl ?_
  refine zr_gets (i' := 0) d_9_fillsLords_83 fw_9_55 rfl ?_
  refine zr_aload_n (i := 0) d_9_fillsLords_86 rfl rfl ?_
  refine zr_geti d_9_fillsLords_87 fw_9_233 (by decide) ?_
  obtain ⟨hb29, h⟩ := z_gd h
  refine zr_iald d_9_fillsLords_90 sa_126 rfl hb29 ?_
  refine zr_icmp_ge (tgt := 134) d_9_fillsLords_91 rfl (fun hc30 => ?_) (fun hc30 => ?_)
  · replace h := z_ip h hc30
    refine zr_aload_n (i := 0) d_9_fillsLords_94 rfl rfl ?_
    refine zr_iload d_9_fillsLords_95 rfl ?_
    refine zr_iload_n (i := 2) d_9_fillsLords_97 rfl rfl ?_
    refine zr_iload_n (i := 3) d_9_fillsLords_98 rfl rfl ?_
    obtain ⟨q31, hq32, h⟩ := z_bd h
    refine zr_callVi (av := [zI x28, zI x16, zI x20]) (st := []) d_9_fillsLords_99 mw_9_mayHave ml_9_441 im_9_mayHave se_9_mayHave rfl rfl (Nat.le_of_ble_eq_true rfl) fit_2_4_3 rfl rfl rfl (s9_mayHave hq32) ?_
    obtain ⟨j41, hT33, h⟩ := z_bd h
    have hJ34 : z_RQ P M_9_fillsLords (z_rm 3) (z_mq P ro μo) 0 0 128 [some (zA 9 0), none, some (zI x16), some (zI x20), some (zI j41), some (zI x28)] [] xm21 := by
      refine zr_iinc (v := (x28 + (1 : Int32))) (l' := [some (zA 9 0), none, some (zI x16), some (zI x20), some (zI j41), some (zI (x28 + (1 : Int32)))]) d_9_fillsLords_128 (by decide) rfl rfl rfl ?_
      refine zr_goto (tgt := 80) d_9_fillsLords_131 rfl ?_
      obtain rfl := Option.some.inj h
      exact zr_wk2 (hI j41 (x28 + (1 : Int32)) rfl) ⟨rfl, ⟨rfl, ⟨rfl, ⟨rfl, ⟨rfl, trivial⟩⟩⟩⟩⟩
    refine zr_if_eq (tgt := 128) d_9_fillsLords_102 rfl (fun hc35 => ?_) (fun hc35 => ?_)
    · replace hT33 := z_ip hT33 hc35
      obtain rfl := Option.some.inj hT33
      exact zr_wk2 hJ34 ⟨rfl, ⟨rfl, ⟨rfl, ⟨rfl, ⟨rfl, trivial⟩⟩⟩⟩⟩
    · replace hT33 := z_im hT33 hc35
      refine zr_aload_n (i := 0) d_9_fillsLords_105 rfl rfl ?_
      refine zr_iload_n (i := 2) d_9_fillsLords_106 rfl rfl ?_
      refine zr_iload d_9_fillsLords_107 rfl ?_
      refine zr_iload_n (i := 3) d_9_fillsLords_109 rfl rfl ?_
      obtain ⟨q36, hq37, hT33⟩ := z_bd hT33
      refine zr_callVi (av := [zI x16, zI x28, zI x20]) (st := []) d_9_fillsLords_110 mw_9_lordsWith ml_9_444 im_9_lordsWith se_9_lordsWith rfl rfl (Nat.le_of_ble_eq_true rfl) fit_1_4_3 rfl rfl rfl (s9_lordsWith hq37) ?_
      refine zr_iload d_9_fillsLords_113 rfl ?_
      refine zr_icmp_le (tgt := 128) d_9_fillsLords_115 rfl (fun hc38 => ?_) (fun hc38 => ?_)
      · replace hT33 := z_ip hT33 hc38
        refine zr_aload_n (i := 0) d_9_fillsLords_118 rfl rfl ?_
        refine zr_iload_n (i := 2) d_9_fillsLords_119 rfl rfl ?_
        refine zr_iload d_9_fillsLords_120 rfl ?_
        refine zr_iload_n (i := 3) d_9_fillsLords_122 rfl rfl ?_
        obtain ⟨q39, hq40, hT33⟩ := z_bd hT33
        refine zr_callVi (av := [zI x16, zI x28, zI x20]) (st := []) d_9_fillsLords_123 mw_9_lordsWith ml_9_444 im_9_lordsWith se_9_lordsWith rfl rfl (Nat.le_of_ble_eq_true rfl) fit_1_4_3 rfl rfl rfl (s9_lordsWith hq40) ?_
        refine zr_istore (i := 4) (l' := [some (zA 9 0), none, some (zI x16), some (zI x20), some (zI q39), some (zI x28)]) d_9_fillsLords_126 (by decide) rfl ?_
        obtain rfl := Option.some.inj hT33
        exact zr_wk2 hJ34 ⟨rfl, ⟨rfl, ⟨rfl, ⟨rfl, ⟨rfl, trivial⟩⟩⟩⟩⟩
      · replace hT33 := z_im hT33 hc38
        obtain rfl := Option.some.inj hT33
        exact zr_wk2 hJ34 ⟨rfl, ⟨rfl, ⟨rfl, ⟨rfl, ⟨rfl, trivial⟩⟩⟩⟩⟩
  · replace h := z_im h hc30
    obtain rfl := Option.some.inj h
    exact zr_wk2 (hE x27 rfl) ⟨rfl, ⟨rfl, ⟨rfl, ⟨rfl, trivial⟩⟩⟩⟩
theorem s9_fillsLords_L19 {P : zP} {ro : Option zV} {μo : zMem} (x16 : Int32) (x20 : Int32) (xm21 : zMem) (K : (Int32 × zMem) ⊕ (zMem)) (h : f9_fillsLords_L19 x16 (x20, xm21) = some K) (hI : ∀ (y0 : Int32) (y1 : zMem), K = .inl (y0, y1) → z_RQ P M_9_fillsLords (z_rm 3) (z_mq P ro μo) 0 0 52 [some (zA 9 0), none, some (zI x16), some (zI y0), none, none] [] y1) (hE : ∀ (z0 : zMem), K = .inr z0 → z_RQ P M_9_fillsLords (z_rm 3) (z_mq P ro μo) 0 0 154 [some (zA 9 0), none, some (zI x16), none, none, none] [] z0)  : z_RQ P M_9_fillsLords (z_rm 3) (z_mq P ro μo) 0 0 52 [some (zA 9 0), none, some (zI x16), some (zI x20), none, none] [] xm21 := by
  unfold f9_fillsLords_L19 at h
  replace h := z_h2 h
  refine zr_iload_n (i := 3) d_9_fillsLords_52 rfl rfl ?_
  refine zr_sipush (v := (128 : Int32)) d_9_fillsLords_53 rfl ?_
  refine zr_icmp_ge (tgt := 154) d_9_fillsLords_56 rfl (fun hc22 => ?_) (fun hc22 => ?_)
  · replace h := z_ip h hc22
    refine zr_aload_n (i := 0) d_9_fillsLords_59 rfl rfl ?_
    refine zr_gets (i' := 0) d_9_fillsLords_60 fw_9_128 rfl ?_
    refine zr_sipush (v := (128 : Int32)) d_9_fillsLords_63 rfl ?_
    refine zr_iload_n (i := 2) d_9_fillsLords_66 rfl rfl ?_
    refine zr_imul d_9_fillsLords_67 ?_
    refine zr_sipush (v := (128 : Int32)) d_9_fillsLords_68 rfl ?_
    refine zr_iadd d_9_fillsLords_71 ?_
    refine zr_iload_n (i := 3) d_9_fillsLords_72 rfl rfl ?_
    refine zr_iadd d_9_fillsLords_73 ?_
    obtain ⟨hb23, h⟩ := z_gd h
    refine zr_iald d_9_fillsLords_74 sa_157 rfl hb23 ?_
    obtain ⟨v24, hv25, h⟩ := z_lt h
    refine zr_nm hv25 ?_
    refine zr_istore (i := 4) (l' := [some (zA 9 0), none, some (zI x16), some (zI x20), some (zI v24), none]) d_9_fillsLords_75 (by decide) rfl ?_
    refine zr_iconst (v := (0 : Int32)) d_9_fillsLords_77 rfl ?_
    refine zr_istore (i := 5) (l' := [some (zA 9 0), none, some (zI x16), some (zI x20), some (zI v24), some (zI (0 : Int32))]) d_9_fillsLords_78 (by decide) rfl ?_
    obtain ⟨e42, hl43, h⟩ := z_bd h
    refine zr_wk (l' := [some (zA 9 0), none, some (zI x16), some (zI x20), some (zI v24), some (zI (0 : Int32))]) ⟨rfl, ⟨rfl, ⟨rfl, ⟨rfl, ⟨rfl, trivial⟩⟩⟩⟩⟩ ?_
    refine z_loop (Hd := (z_u2 fun y0 y1 => z_RQ P M_9_fillsLords (z_rm 3) (z_mq P ro μo) 0 0 80 [some (zA 9 0), none, some (zI x16), some (zI x20), some (zI y0), some (zI y1)] [] xm21)) (Ex := (fun z0 => z_RQ P M_9_fillsLords (z_rm 3) (z_mq P ro μo) 0 0 134 [some (zA 9 0), none, some (zI x16), some (zI x20), some (zI z0), none] [] xm21)) (fun ⟨x27, x28⟩ K h hI hE => s9_fillsLords_L26 x16 x20 xm21 x27 x28 K h (fun y0 y1 e => hI (y0, y1) e) (fun z0 e => hE z0 e) ) _ _ _ hl43 ?_
    refine zr_aload_n (i := 0) d_9_fillsLords_134 rfl rfl ?_
    refine zr_gets (i' := 0) d_9_fillsLords_135 fw_9_128 rfl ?_
    refine zr_sipush (v := (128 : Int32)) d_9_fillsLords_138 rfl ?_
    refine zr_iload_n (i := 2) d_9_fillsLords_141 rfl rfl ?_
    refine zr_imul d_9_fillsLords_142 ?_
    refine zr_iload_n (i := 3) d_9_fillsLords_143 rfl rfl ?_
    refine zr_iadd d_9_fillsLords_144 ?_
    refine zr_iload d_9_fillsLords_145 rfl ?_
    obtain ⟨hb46, h⟩ := z_gd h
    obtain ⟨m44, hm45, h⟩ := z_lt h
    refine zr_iast d_9_fillsLords_147 sa_157 rfl hb46 hm45 ?_
    refine zr_iinc (v := (x20 + (1 : Int32))) (l' := [some (zA 9 0), none, some (zI x16), some (zI (x20 + (1 : Int32))), some (zI e42), none]) d_9_fillsLords_148 (by decide) rfl rfl rfl ?_
    refine zr_goto (tgt := 52) d_9_fillsLords_151 rfl ?_
    obtain rfl := Option.some.inj h
    exact zr_wk2 (hI (x20 + (1 : Int32)) m44 rfl) ⟨rfl, ⟨rfl, ⟨rfl, trivial⟩⟩⟩
  · replace h := z_im h hc22
    obtain rfl := Option.some.inj h
    exact zr_wk2 (hE xm21 rfl) ⟨rfl, ⟨rfl, trivial⟩⟩
theorem s9_fillsLords_L15 {P : zP} {ro : Option zV} {μo : zMem}  (x16 : Int32) (xm17 : zMem) (K : (Int32 × zMem) ⊕ (zMem)) (h : f9_fillsLords_L15  (x16, xm17) = some K) (hI : ∀ (y0 : Int32) (y1 : zMem), K = .inl (y0, y1) → z_RQ P M_9_fillsLords (z_rm 3) (z_mq P ro μo) 0 0 46 [some (zA 9 0), none, some (zI y0), none, none, none] [] y1) (hE : ∀ (z0 : zMem), K = .inr z0 → z_RQ P M_9_fillsLords (z_rm 3) (z_mq P ro μo) 0 0 160 [none, none, none, none, none, none] [] z0)  : z_RQ P M_9_fillsLords (z_rm 3) (z_mq P ro μo) 0 0 46 [some (zA 9 0), none, some (zI x16), none, none, none] [] xm17 := by
  unfold f9_fillsLords_L15 at h
  replace h := z_h2 h
  refine zr_iload_n (i := 2) d_9_fillsLords_46 rfl rfl ?_
  refine zr_if_lt (tgt := 160) d_9_fillsLords_47 rfl (fun hc18 => ?_) (fun hc18 => ?_)
  · replace h := z_ip h hc18
    obtain rfl := Option.some.inj h
    exact zr_wk2 (hE xm17 rfl) trivial
  · replace h := z_im h hc18
    refine zr_iconst (v := (0 : Int32)) d_9_fillsLords_50 rfl ?_
    refine zr_istore_n (i := 3) (l' := [some (zA 9 0), none, some (zI x16), some (zI (0 : Int32)), none, none]) d_9_fillsLords_51 rfl (by decide) rfl ?_
    obtain ⟨e47, hl48, h⟩ := z_bd h
    refine zr_wk (l' := [some (zA 9 0), none, some (zI x16), some (zI (0 : Int32)), none, none]) ⟨rfl, ⟨rfl, ⟨rfl, trivial⟩⟩⟩ ?_
    refine z_loop (Hd := (z_u2 fun y0 y1 => z_RQ P M_9_fillsLords (z_rm 3) (z_mq P ro μo) 0 0 52 [some (zA 9 0), none, some (zI x16), some (zI y0), none, none] [] y1)) (Ex := (fun z0 => z_RQ P M_9_fillsLords (z_rm 3) (z_mq P ro μo) 0 0 154 [some (zA 9 0), none, some (zI x16), none, none, none] [] z0)) (fun ⟨x20, xm21⟩ K h hI hE => s9_fillsLords_L19 x16 x20 xm21 K h (fun y0 y1 e => hI (y0, y1) e) (fun z0 e => hE z0 e) ) _ _ _ hl48 ?_
    refine zr_iinc (v := (x16 + (-1 : Int32))) (l' := [some (zA 9 0), none, some (zI (x16 + (-1 : Int32))), none, none, none]) d_9_fillsLords_154 (by decide) rfl (z_neg_1 _) rfl ?_
    refine zr_goto (tgt := 46) d_9_fillsLords_157 rfl ?_
    obtain rfl := Option.some.inj h
    exact zr_wk2 (hI (x16 + (-1 : Int32)) e47 rfl) ⟨rfl, ⟨rfl, trivial⟩⟩
theorem s9_fillsLords {P : zP} {μ : zMem} {μ' : zMem} (h : f9_fillsLords μ = some μ') : z_Sp P y_9_fillsLords M_9_fillsLords 3 [zA 9 0] μ none μ' := by
  refine z_Sp.of (plainFor_of_name (by decide)) rfl (l0 := [some (zA 9 0), none, none, none, none, none]) rfl (Nat.le_of_ble_eq_true rfl) ?_
  unfold f9_fillsLords at h
  refine zr_aload_n (i := 0) d_9_fillsLords_0 rfl rfl ?_
  obtain ⟨qm1, hq2, h⟩ := z_bd h
  refine zr_callVv (av := []) (st := []) d_9_fillsLords_1 mw_9_copies ml_9_325 im_9_copies se_9_copies rfl rfl (Nat.le_of_ble_eq_true rfl) fit_1_2_3 rfl rfl rfl (s9_copies hq2) ?_
  refine zr_aload_n (i := 0) d_9_fillsLords_4 rfl rfl ?_
  refine zr_gets (i' := 0) d_9_fillsLords_5 fw_9_46 rfl ?_
  refine zr_aload_n (i := 0) d_9_fillsLords_8 rfl rfl ?_
  refine zr_geti d_9_fillsLords_9 fw_9_233 (by decide) ?_
  obtain ⟨hb3, h⟩ := z_gd h
  refine zr_iald d_9_fillsLords_12 sa_123 rfl hb3 ?_
  obtain ⟨v4, hv5, h⟩ := z_lt h
  refine zr_nm hv5 ?_
  refine zr_istore_n (i := 1) (l' := [some (zA 9 0), some (zI v4), none, none, none, none]) d_9_fillsLords_13 rfl (by decide) rfl ?_
  refine zr_iconst (v := (0 : Int32)) d_9_fillsLords_14 rfl ?_
  refine zr_istore_n (i := 2) (l' := [some (zA 9 0), some (zI v4), some (zI (0 : Int32)), none, none, none]) d_9_fillsLords_15 rfl (by decide) rfl ?_
  obtain ⟨e13, hl14, h⟩ := z_bd h
  refine zr_wk (l' := [some (zA 9 0), some (zI v4), some (zI (0 : Int32)), none, none, none]) ⟨rfl, ⟨rfl, ⟨rfl, trivial⟩⟩⟩ ?_
  refine z_loop (Hd := (z_u2 fun y0 y1 => z_RQ P M_9_fillsLords (z_rm 3) (z_mq P none μ') 0 0 16 [some (zA 9 0), some (zI v4), some (zI y0), none, none, none] [] y1)) (Ex := (fun z0 => z_RQ P M_9_fillsLords (z_rm 3) (z_mq P none μ') 0 0 42 [some (zA 9 0), some (zI v4), none, none, none, none] [] z0)) (fun ⟨x7, xm8⟩ K h hI hE => s9_fillsLords_L6 v4 x7 xm8 K h (fun y0 y1 e => hI (y0, y1) e) (fun z0 e => hE z0 e) ) _ _ _ hl14 ?_
  refine zr_iload_n (i := 1) d_9_fillsLords_42 rfl rfl ?_
  refine zr_iconst (v := (1 : Int32)) d_9_fillsLords_43 rfl ?_
  refine zr_isub d_9_fillsLords_44 ?_
  refine zr_istore_n (i := 2) (l' := [some (zA 9 0), some (zI v4), some (zI (v4 - (1 : Int32))), none, none, none]) d_9_fillsLords_45 rfl (by decide) rfl ?_
  obtain ⟨e49, hl50, h⟩ := z_bd h
  refine zr_wk (l' := [some (zA 9 0), none, some (zI (v4 - (1 : Int32))), none, none, none]) ⟨rfl, ⟨rfl, trivial⟩⟩ ?_
  refine z_loop (Hd := (z_u2 fun y0 y1 => z_RQ P M_9_fillsLords (z_rm 3) (z_mq P none μ') 0 0 46 [some (zA 9 0), none, some (zI y0), none, none, none] [] y1)) (Ex := (fun z0 => z_RQ P M_9_fillsLords (z_rm 3) (z_mq P none μ') 0 0 160 [none, none, none, none, none, none] [] z0)) (fun ⟨x16, xm17⟩ K h hI hE => s9_fillsLords_L15  x16 xm17 K h (fun y0 y1 e => hI (y0, y1) e) (fun z0 e => hE z0 e) ) _ _ _ hl50 ?_
  obtain rfl := Option.some.inj h
  exact ze_v d_9_fillsLords_160 rfl
def f9_lordFor_L1 (a1 : Int32) (a2 : Int32) (μ : zMem) : (Int32) → Option ((Int32) ⊕ ((Unit) ⊕ (Int32))) := (fun x2 => 
  if z_in (μ.1 9 0 18) 2 = true then (if x2 < (μ.1 126 0 (μ.1 9 0 18).toNatClampNeg) then (f9_mayHave x2 a1 a2 μ).bind (fun q5 => (if q5 = 0 then some (.inl (x2 + (1 : Int32))) else (f9_lordsWith a1 x2 a2 μ).bind (fun q8 => if z_in (((128 : Int32) * a1) + a2) 768 = true then (if q8 = (μ.1 157 0 (((128 : Int32) * a1) + a2).toNatClampNeg) then some (.inr (.inr x2)) else some (.inl (x2 + (1 : Int32)))) else none))) else some (.inr (.inl ()))) else none)
def f9_lordFor (a1 : Int32) (a2 : Int32) (μ : zMem) : Option (Int32) :=
  (z_it (f9_lordFor_L1 a1 a2 μ) z_fu (0 : Int32)).bind (Sum.elim (fun (_ : Unit) => some (-2 : Int32)) (fun qr13 => some qr13))
theorem s9_lordFor_L1 {P : zP} {ro : Option zV} {μo : zMem} (a1 : Int32) (a2 : Int32) (μ : zMem) (x2 : Int32) (K : (Int32) ⊕ ((Unit) ⊕ (Int32))) (h : f9_lordFor_L1 a1 a2 μ x2 = some K) (hI : ∀ (y0 : Int32), K = .inl y0 → z_RQ P M_9_lordFor (z_rm 3) (z_mq P ro μo) 0 0 2 [some (zA 9 0), some (zI a1), some (zI a2), some (zI y0)] [] μ) (hE : K = .inr (.inl ()) → z_RQ P M_9_lordFor (z_rm 3) (z_mq P ro μo) 0 0 55 [none, none, none, none] [] μ) (hR : ∀ (qr : Int32), K = .inr (.inr qr) → ro = some (zI qr) ∧ μo = μ) : z_RQ P M_9_lordFor (z_rm 3) (z_mq P ro μo) 0 0 2 [some (zA 9 0), some (zI a1), some (zI a2), some (zI x2)] [] μ := by
  unfold f9_lordFor_L1 at h
  refine zr_iload_n (i := 3) d_9_lordFor_2 rfl rfl ?_
  refine zr_aload_n (i := 0) d_9_lordFor_3 rfl rfl ?_
  refine zr_gets (i' := 0) d_9_lordFor_4 fw_9_55 rfl ?_
  refine zr_aload_n (i := 0) d_9_lordFor_7 rfl rfl ?_
  refine zr_geti d_9_lordFor_8 fw_9_233 (by decide) ?_
  obtain ⟨hb3, h⟩ := z_gd h
  refine zr_iald d_9_lordFor_11 sa_126 rfl hb3 ?_
  refine zr_icmp_ge (tgt := 55) d_9_lordFor_12 rfl (fun hc4 => ?_) (fun hc4 => ?_)
  · replace h := z_ip h hc4
    refine zr_aload_n (i := 0) d_9_lordFor_15 rfl rfl ?_
    refine zr_iload_n (i := 3) d_9_lordFor_16 rfl rfl ?_
    refine zr_iload_n (i := 1) d_9_lordFor_17 rfl rfl ?_
    refine zr_iload_n (i := 2) d_9_lordFor_18 rfl rfl ?_
    obtain ⟨q5, hq6, h⟩ := z_bd h
    refine zr_callVi (av := [zI x2, zI a1, zI a2]) (st := []) d_9_lordFor_19 mw_9_mayHave ml_9_441 im_9_mayHave se_9_mayHave rfl rfl (Nat.le_of_ble_eq_true rfl) fit_2_4_3 rfl rfl rfl (s9_mayHave hq6) ?_
    refine zr_if_eq (tgt := 49) d_9_lordFor_22 rfl (fun hc7 => ?_) (fun hc7 => ?_)
    · replace h := z_ip h hc7
      refine zr_iinc (v := (x2 + (1 : Int32))) (l' := [some (zA 9 0), some (zI a1), some (zI a2), some (zI (x2 + (1 : Int32)))]) d_9_lordFor_49 (by decide) rfl rfl rfl ?_
      refine zr_goto (tgt := 2) d_9_lordFor_52 rfl ?_
      obtain rfl := Option.some.inj h
      exact zr_wk2 (hI (x2 + (1 : Int32)) rfl) ⟨rfl, ⟨rfl, ⟨rfl, ⟨rfl, trivial⟩⟩⟩⟩
    · replace h := z_im h hc7
      refine zr_aload_n (i := 0) d_9_lordFor_25 rfl rfl ?_
      refine zr_iload_n (i := 1) d_9_lordFor_26 rfl rfl ?_
      refine zr_iload_n (i := 3) d_9_lordFor_27 rfl rfl ?_
      refine zr_iload_n (i := 2) d_9_lordFor_28 rfl rfl ?_
      obtain ⟨q8, hq9, h⟩ := z_bd h
      refine zr_callVi (av := [zI a1, zI x2, zI a2]) (st := []) d_9_lordFor_29 mw_9_lordsWith ml_9_444 im_9_lordsWith se_9_lordsWith rfl rfl (Nat.le_of_ble_eq_true rfl) fit_1_4_3 rfl rfl rfl (s9_lordsWith hq9) ?_
      refine zr_aload_n (i := 0) d_9_lordFor_32 rfl rfl ?_
      refine zr_gets (i' := 0) d_9_lordFor_33 fw_9_128 rfl ?_
      refine zr_sipush (v := (128 : Int32)) d_9_lordFor_36 rfl ?_
      refine zr_iload_n (i := 1) d_9_lordFor_39 rfl rfl ?_
      refine zr_imul d_9_lordFor_40 ?_
      refine zr_iload_n (i := 2) d_9_lordFor_41 rfl rfl ?_
      refine zr_iadd d_9_lordFor_42 ?_
      obtain ⟨hb10, h⟩ := z_gd h
      refine zr_iald d_9_lordFor_43 sa_157 rfl hb10 ?_
      refine zr_icmp_ne (tgt := 49) d_9_lordFor_44 rfl (fun hc11 => ?_) (fun hc11 => ?_)
      · replace h := z_ip h hc11
        refine zr_iload_n (i := 3) d_9_lordFor_47 rfl rfl ?_
        obtain rfl := Option.some.inj h
        obtain ⟨rfl, rfl⟩ := hR x2 rfl
        exact ze_i d_9_lordFor_48 rfl
      · replace h := z_im h hc11
        refine zr_iinc (v := (x2 + (1 : Int32))) (l' := [some (zA 9 0), some (zI a1), some (zI a2), some (zI (x2 + (1 : Int32)))]) d_9_lordFor_49 (by decide) rfl rfl rfl ?_
        refine zr_goto (tgt := 2) d_9_lordFor_52 rfl ?_
        obtain rfl := Option.some.inj h
        exact zr_wk2 (hI (x2 + (1 : Int32)) rfl) ⟨rfl, ⟨rfl, ⟨rfl, ⟨rfl, trivial⟩⟩⟩⟩
  · replace h := z_im h hc4
    obtain rfl := Option.some.inj h
    exact zr_wk2 (hE  rfl) trivial
theorem s9_lordFor {P : zP} {μ : zMem} {a1 : Int32} {a2 : Int32} {r : Int32} (h : f9_lordFor a1 a2 μ = some r) : z_Sp P y_9_lordFor M_9_lordFor 3 [zA 9 0, zI a1, zI a2] μ (some (zI r)) μ := by
  refine z_Sp.of (plainFor_of_name (by decide)) rfl (l0 := [some (zA 9 0), some (zI a1), some (zI a2), none]) rfl (Nat.le_of_ble_eq_true rfl) ?_
  unfold f9_lordFor at h
  refine zr_iconst (v := (0 : Int32)) d_9_lordFor_0 rfl ?_
  refine zr_istore_n (i := 3) (l' := [some (zA 9 0), some (zI a1), some (zI a2), some (zI (0 : Int32))]) d_9_lordFor_1 rfl (by decide) rfl ?_
  rcases z_bs h with ⟨⟨⟩, hl12, h⟩ | ⟨qr13, hl12, h⟩
  · refine zr_wk (l' := [some (zA 9 0), some (zI a1), some (zI a2), some (zI (0 : Int32))]) ⟨rfl, ⟨rfl, ⟨rfl, ⟨rfl, trivial⟩⟩⟩⟩ ?_
    refine z_loop (Hd := (fun y0 => z_RQ P M_9_lordFor (z_rm 3) (z_mq P (some (zI r)) μ) 0 0 2 [some (zA 9 0), some (zI a1), some (zI a2), some (zI y0)] [] μ)) (Ex := (Sum.elim (fun (_ : Unit) => z_RQ P M_9_lordFor (z_rm 3) (z_mq P (some (zI r)) μ) 0 0 55 [none, none, none, none] [] μ) (fun qr => (some (zI r)) = some (zI qr) ∧ μ = μ))) (fun x2 K h hI hE => s9_lordFor_L1 a1 a2 μ x2 K h (fun y0 e => hI y0 e) (fun  e => hE (.inl ()) e) (fun qr e => hE (.inr qr) e)) _ _ _ hl12 ?_
    refine zr_bipush (v := (-2 : Int32)) d_9_lordFor_55 (by decide) ?_
    obtain rfl := Option.some.inj h
    exact ze_i d_9_lordFor_57 rfl
  · refine zr_wk (l' := [some (zA 9 0), some (zI a1), some (zI a2), some (zI (0 : Int32))]) ⟨rfl, ⟨rfl, ⟨rfl, ⟨rfl, trivial⟩⟩⟩⟩ ?_
    refine z_loop (Hd := (fun y0 => z_RQ P M_9_lordFor (z_rm 3) (z_mq P (some (zI r)) μ) 0 0 2 [some (zA 9 0), some (zI a1), some (zI a2), some (zI y0)] [] μ)) (Ex := (Sum.elim (fun (_ : Unit) => z_RQ P M_9_lordFor (z_rm 3) (z_mq P (some (zI r)) μ) 0 0 55 [none, none, none, none] [] μ) (fun qr => (some (zI r)) = some (zI qr) ∧ μ = μ))) (fun x2 K h hI hE => s9_lordFor_L1 a1 a2 μ x2 K h (fun y0 e => hI y0 e) (fun  e => hE (.inl ()) e) (fun qr e => hE (.inr qr) e)) _ _ _ hl12 ?_
    obtain rfl := Option.some.inj h
    exact ⟨rfl, rfl⟩
def f9_lords_L5 (a1 : Int32) (qm2 : zMem) : (Int32 × Int32) → Option ((Int32 × Int32) ⊕ (Int32)) := (z_u2 fun x6 x7 => 
  (if x7 < a1 then (f9_lordFor x7 x6 qm2).bind (fun q9 => ((if q9 < 0 then some x6 else z_let (x6 ||| ((1 : Int32) <<< (q9 &&& 31))) fun v14 => some v14) : Option (Int32)).bind (fun j16 => some (.inl (j16, (x7 + (1 : Int32)))))) else some (.inr x6)))
def f9_lords_L27 (a1 : Int32) (qm24 : zMem) : (Int32 × Int32) → Option ((Int32 × Int32) ⊕ (Int32)) := (z_u2 fun x28 x29 => 
  (if x29 < a1 then (f9_lordFor x29 x28 qm24).bind (fun q31 => ((if q31 < 0 then some x28 else z_let (x28 ||| ((1 : Int32) <<< (q31 &&& 31))) fun v36 => some v36) : Option (Int32)).bind (fun j38 => some (.inl (j38, (x29 + (1 : Int32)))))) else some (.inr x28)))
def f9_lords (a1 : Int32) (μ : zMem) : Option (Int32 × zMem) :=
  (if a1 = (-1 : Int32) then (f9_fillsLords μ).bind (fun qm2 => (if a1 = (-1 : Int32) then some ((qm2.1 157 0 (0 : Int32).toNatClampNeg), qm2) else (z_it (f9_lords_L5 a1 qm2) z_fu ((0 : Int32), (0 : Int32))).bind (fun e17 => (f9_lordFor a1 e17 qm2).bind (fun q19 => some (q19, qm2))))) else (f9_isHouse a1 μ).bind (fun q21 => (if q21 = 0 then some ((-1 : Int32), μ) else (f9_fillsLords μ).bind (fun qm24 => (if a1 = (-1 : Int32) then some ((qm24.1 157 0 (0 : Int32).toNatClampNeg), qm24) else (z_it (f9_lords_L27 a1 qm24) z_fu ((0 : Int32), (0 : Int32))).bind (fun e39 => (f9_lordFor a1 e39 qm24).bind (fun q41 => some (q41, qm24))))))))
theorem s9_lords_L5 {P : zP} {ro : Option zV} {μo : zMem} (a1 : Int32) (qm2 : zMem) (x6 : Int32) (x7 : Int32) (K : (Int32 × Int32) ⊕ (Int32)) (h : f9_lords_L5 a1 qm2 (x6, x7) = some K) (hI : ∀ (y0 : Int32) (y1 : Int32), K = .inl (y0, y1) → z_RQ P M_9_lords (z_rm 4) (z_mq P ro μo) 0 0 35 [some (zA 9 0), some (zI a1), some (zI y0), some (zI y1), none] [] qm2) (hE : ∀ (z0 : Int32), K = .inr z0 → z_RQ P M_9_lords (z_rm 4) (z_mq P ro μo) 0 0 66 [some (zA 9 0), some (zI a1), some (zI z0), none, none] [] qm2)  : z_RQ P M_9_lords (z_rm 4) (z_mq P ro μo) 0 0 35 [some (zA 9 0), some (zI a1), some (zI x6), some (zI x7), none] [] qm2 := by
  unfold f9_lords_L5 at h
  replace h := z_h2 h
  refine zr_iload_n (i := 3) d_9_lords_35 rfl rfl ?_
  refine zr_iload_n (i := 1) d_9_lords_36 rfl rfl ?_
  refine zr_icmp_ge (tgt := 66) d_9_lords_37 rfl (fun hc8 => ?_) (fun hc8 => ?_)
  · replace h := z_ip h hc8
    refine zr_aload_n (i := 0) d_9_lords_40 rfl rfl ?_
    refine zr_iload_n (i := 3) d_9_lords_41 rfl rfl ?_
    refine zr_iload_n (i := 2) d_9_lords_42 rfl rfl ?_
    obtain ⟨q9, hq10, h⟩ := z_bd h
    refine zr_callVi (av := [zI x7, zI x6]) (st := []) d_9_lords_43 mw_9_lordFor ml_9_450 im_9_lordFor se_9_lordFor rfl rfl (Nat.le_of_ble_eq_true rfl) fit_3_4_4 rfl rfl rfl (s9_lordFor hq10) ?_
    refine zr_istore (i := 4) (l' := [some (zA 9 0), some (zI a1), some (zI x6), some (zI x7), some (zI q9)]) d_9_lords_46 (by decide) rfl ?_
    refine zr_iload d_9_lords_48 rfl ?_
    obtain ⟨j16, hT11, h⟩ := z_bd h
    have hJ12 : z_RQ P M_9_lords (z_rm 4) (z_mq P ro μo) 0 0 60 [some (zA 9 0), some (zI a1), some (zI j16), some (zI x7), none] [] qm2 := by
      refine zr_iinc (v := (x7 + (1 : Int32))) (l' := [some (zA 9 0), some (zI a1), some (zI j16), some (zI (x7 + (1 : Int32))), none]) d_9_lords_60 (by decide) rfl rfl rfl ?_
      refine zr_goto (tgt := 35) d_9_lords_63 rfl ?_
      obtain rfl := Option.some.inj h
      exact zr_wk2 (hI j16 (x7 + (1 : Int32)) rfl) ⟨rfl, ⟨rfl, ⟨rfl, ⟨rfl, trivial⟩⟩⟩⟩
    refine zr_if_lt (tgt := 60) d_9_lords_50 rfl (fun hc13 => ?_) (fun hc13 => ?_)
    · replace hT11 := z_ip hT11 hc13
      obtain rfl := Option.some.inj hT11
      exact zr_wk2 hJ12 ⟨rfl, ⟨rfl, ⟨rfl, ⟨rfl, trivial⟩⟩⟩⟩
    · replace hT11 := z_im hT11 hc13
      refine zr_iload_n (i := 2) d_9_lords_53 rfl rfl ?_
      refine zr_iconst (v := (1 : Int32)) d_9_lords_54 rfl ?_
      refine zr_iload d_9_lords_55 rfl ?_
      refine zr_ishl d_9_lords_57 ?_
      refine zr_ior d_9_lords_58 ?_
      obtain ⟨v14, hv15, hT11⟩ := z_lt hT11
      refine zr_nm hv15 ?_
      refine zr_istore_n (i := 2) (l' := [some (zA 9 0), some (zI a1), some (zI v14), some (zI x7), some (zI q9)]) d_9_lords_59 rfl (by decide) rfl ?_
      obtain rfl := Option.some.inj hT11
      exact zr_wk2 hJ12 ⟨rfl, ⟨rfl, ⟨rfl, ⟨rfl, trivial⟩⟩⟩⟩
  · replace h := z_im h hc8
    obtain rfl := Option.some.inj h
    exact zr_wk2 (hE x6 rfl) ⟨rfl, ⟨rfl, ⟨rfl, trivial⟩⟩⟩
theorem s9_lords_L27 {P : zP} {ro : Option zV} {μo : zMem} (a1 : Int32) (qm24 : zMem) (x28 : Int32) (x29 : Int32) (K : (Int32 × Int32) ⊕ (Int32)) (h : f9_lords_L27 a1 qm24 (x28, x29) = some K) (hI : ∀ (y0 : Int32) (y1 : Int32), K = .inl (y0, y1) → z_RQ P M_9_lords (z_rm 4) (z_mq P ro μo) 0 0 35 [some (zA 9 0), some (zI a1), some (zI y0), some (zI y1), none] [] qm24) (hE : ∀ (z0 : Int32), K = .inr z0 → z_RQ P M_9_lords (z_rm 4) (z_mq P ro μo) 0 0 66 [some (zA 9 0), some (zI a1), some (zI z0), none, none] [] qm24)  : z_RQ P M_9_lords (z_rm 4) (z_mq P ro μo) 0 0 35 [some (zA 9 0), some (zI a1), some (zI x28), some (zI x29), none] [] qm24 := by
  unfold f9_lords_L27 at h
  replace h := z_h2 h
  refine zr_iload_n (i := 3) d_9_lords_35 rfl rfl ?_
  refine zr_iload_n (i := 1) d_9_lords_36 rfl rfl ?_
  refine zr_icmp_ge (tgt := 66) d_9_lords_37 rfl (fun hc30 => ?_) (fun hc30 => ?_)
  · replace h := z_ip h hc30
    refine zr_aload_n (i := 0) d_9_lords_40 rfl rfl ?_
    refine zr_iload_n (i := 3) d_9_lords_41 rfl rfl ?_
    refine zr_iload_n (i := 2) d_9_lords_42 rfl rfl ?_
    obtain ⟨q31, hq32, h⟩ := z_bd h
    refine zr_callVi (av := [zI x29, zI x28]) (st := []) d_9_lords_43 mw_9_lordFor ml_9_450 im_9_lordFor se_9_lordFor rfl rfl (Nat.le_of_ble_eq_true rfl) fit_3_4_4 rfl rfl rfl (s9_lordFor hq32) ?_
    refine zr_istore (i := 4) (l' := [some (zA 9 0), some (zI a1), some (zI x28), some (zI x29), some (zI q31)]) d_9_lords_46 (by decide) rfl ?_
    refine zr_iload d_9_lords_48 rfl ?_
    obtain ⟨j38, hT33, h⟩ := z_bd h
    have hJ34 : z_RQ P M_9_lords (z_rm 4) (z_mq P ro μo) 0 0 60 [some (zA 9 0), some (zI a1), some (zI j38), some (zI x29), none] [] qm24 := by
      refine zr_iinc (v := (x29 + (1 : Int32))) (l' := [some (zA 9 0), some (zI a1), some (zI j38), some (zI (x29 + (1 : Int32))), none]) d_9_lords_60 (by decide) rfl rfl rfl ?_
      refine zr_goto (tgt := 35) d_9_lords_63 rfl ?_
      obtain rfl := Option.some.inj h
      exact zr_wk2 (hI j38 (x29 + (1 : Int32)) rfl) ⟨rfl, ⟨rfl, ⟨rfl, ⟨rfl, trivial⟩⟩⟩⟩
    refine zr_if_lt (tgt := 60) d_9_lords_50 rfl (fun hc35 => ?_) (fun hc35 => ?_)
    · replace hT33 := z_ip hT33 hc35
      obtain rfl := Option.some.inj hT33
      exact zr_wk2 hJ34 ⟨rfl, ⟨rfl, ⟨rfl, ⟨rfl, trivial⟩⟩⟩⟩
    · replace hT33 := z_im hT33 hc35
      refine zr_iload_n (i := 2) d_9_lords_53 rfl rfl ?_
      refine zr_iconst (v := (1 : Int32)) d_9_lords_54 rfl ?_
      refine zr_iload d_9_lords_55 rfl ?_
      refine zr_ishl d_9_lords_57 ?_
      refine zr_ior d_9_lords_58 ?_
      obtain ⟨v36, hv37, hT33⟩ := z_lt hT33
      refine zr_nm hv37 ?_
      refine zr_istore_n (i := 2) (l' := [some (zA 9 0), some (zI a1), some (zI v36), some (zI x29), some (zI q31)]) d_9_lords_59 rfl (by decide) rfl ?_
      obtain rfl := Option.some.inj hT33
      exact zr_wk2 hJ34 ⟨rfl, ⟨rfl, ⟨rfl, ⟨rfl, trivial⟩⟩⟩⟩
  · replace h := z_im h hc30
    obtain rfl := Option.some.inj h
    exact zr_wk2 (hE x28 rfl) ⟨rfl, ⟨rfl, ⟨rfl, trivial⟩⟩⟩
theorem s9_lords {P : zP} {μ : zMem} {a1 : Int32} {r : Int32} {μ' : zMem} (h : f9_lords a1 μ = some (r, μ')) : z_Sp P y_9_lords M_9_lords 4 [zA 9 0, zI a1] μ (some (zI r)) μ' := by
  refine z_Sp.of (plainFor_of_name (by decide)) rfl (l0 := [some (zA 9 0), some (zI a1), none, none, none]) rfl (Nat.le_of_ble_eq_true rfl) ?_
  unfold f9_lords at h
  refine zr_iload_n (i := 1) d_9_lords_0 rfl rfl ?_
  refine zr_iconst (v := (-1 : Int32)) d_9_lords_1 rfl ?_
  refine zr_icmp_eq (tgt := 15) d_9_lords_2 rfl (fun hc1 => ?_) (fun hc1 => ?_)
  · replace h := z_ip h hc1
    refine zr_aload_n (i := 0) d_9_lords_15 rfl rfl ?_
    obtain ⟨qm2, hq3, h⟩ := z_bd h
    refine zr_callVv (av := []) (st := []) d_9_lords_16 mw_9_fillsLords ml_9_447 im_9_fillsLords se_9_fillsLords rfl rfl (Nat.le_of_ble_eq_true rfl) fit_3_6_4 rfl rfl rfl (s9_fillsLords hq3) ?_
    refine zr_iload_n (i := 1) d_9_lords_19 rfl rfl ?_
    refine zr_iconst (v := (-1 : Int32)) d_9_lords_20 rfl ?_
    refine zr_icmp_ne (tgt := 31) d_9_lords_21 rfl (fun hc4 => ?_) (fun hc4 => ?_)
    · replace h := z_ip h hc4
      refine zr_aload_n (i := 0) d_9_lords_24 rfl rfl ?_
      refine zr_gets (i' := 0) d_9_lords_25 fw_9_128 rfl ?_
      refine zr_iconst (v := (0 : Int32)) d_9_lords_28 rfl ?_
      refine zr_iald d_9_lords_29 sa_157 rfl rfl ?_
      obtain ⟨rfl, rfl⟩ := Prod.mk.inj (Option.some.inj h)
      exact ze_i d_9_lords_30 rfl
    · replace h := z_im h hc4
      refine zr_iconst (v := (0 : Int32)) d_9_lords_31 rfl ?_
      refine zr_istore_n (i := 2) (l' := [some (zA 9 0), some (zI a1), some (zI (0 : Int32)), none, none]) d_9_lords_32 rfl (by decide) rfl ?_
      refine zr_iconst (v := (0 : Int32)) d_9_lords_33 rfl ?_
      refine zr_istore_n (i := 3) (l' := [some (zA 9 0), some (zI a1), some (zI (0 : Int32)), some (zI (0 : Int32)), none]) d_9_lords_34 rfl (by decide) rfl ?_
      obtain ⟨e17, hl18, h⟩ := z_bd h
      refine zr_wk (l' := [some (zA 9 0), some (zI a1), some (zI (0 : Int32)), some (zI (0 : Int32)), none]) ⟨rfl, ⟨rfl, ⟨rfl, ⟨rfl, trivial⟩⟩⟩⟩ ?_
      refine z_loop (Hd := (z_u2 fun y0 y1 => z_RQ P M_9_lords (z_rm 4) (z_mq P (some (zI r)) μ') 0 0 35 [some (zA 9 0), some (zI a1), some (zI y0), some (zI y1), none] [] qm2)) (Ex := (fun z0 => z_RQ P M_9_lords (z_rm 4) (z_mq P (some (zI r)) μ') 0 0 66 [some (zA 9 0), some (zI a1), some (zI z0), none, none] [] qm2)) (fun ⟨x6, x7⟩ K h hI hE => s9_lords_L5 a1 qm2 x6 x7 K h (fun y0 y1 e => hI (y0, y1) e) (fun z0 e => hE z0 e) ) _ _ _ hl18 ?_
      refine zr_aload_n (i := 0) d_9_lords_66 rfl rfl ?_
      refine zr_iload_n (i := 1) d_9_lords_67 rfl rfl ?_
      refine zr_iload_n (i := 2) d_9_lords_68 rfl rfl ?_
      obtain ⟨q19, hq20, h⟩ := z_bd h
      refine zr_callVi (av := [zI a1, zI e17]) (st := []) d_9_lords_69 mw_9_lordFor ml_9_450 im_9_lordFor se_9_lordFor rfl rfl (Nat.le_of_ble_eq_true rfl) fit_3_4_4 rfl rfl rfl (s9_lordFor hq20) ?_
      obtain ⟨rfl, rfl⟩ := Prod.mk.inj (Option.some.inj h)
      exact ze_i d_9_lords_72 rfl
  · replace h := z_im h hc1
    refine zr_aload_n (i := 0) d_9_lords_5 rfl rfl ?_
    refine zr_iload_n (i := 1) d_9_lords_6 rfl rfl ?_
    obtain ⟨q21, hq22, h⟩ := z_bd h
    refine zr_callVi (av := [zI a1]) (st := []) d_9_lords_7 mw_9_isHouse ml_9_391 im_9_isHouse se_9_isHouse rfl rfl (Nat.le_of_ble_eq_true rfl) fit_2_2_4 rfl rfl rfl (s9_isHouse hq22) ?_
    refine zr_if_ne (tgt := 15) d_9_lords_10 rfl (fun hc23 => ?_) (fun hc23 => ?_)
    · replace h := z_ip h hc23
      refine zr_iconst (v := (-1 : Int32)) d_9_lords_13 rfl ?_
      obtain ⟨rfl, rfl⟩ := Prod.mk.inj (Option.some.inj h)
      exact ze_i d_9_lords_14 rfl
    · replace h := z_im h hc23
      refine zr_aload_n (i := 0) d_9_lords_15 rfl rfl ?_
      obtain ⟨qm24, hq25, h⟩ := z_bd h
      refine zr_callVv (av := []) (st := []) d_9_lords_16 mw_9_fillsLords ml_9_447 im_9_fillsLords se_9_fillsLords rfl rfl (Nat.le_of_ble_eq_true rfl) fit_3_6_4 rfl rfl rfl (s9_fillsLords hq25) ?_
      refine zr_iload_n (i := 1) d_9_lords_19 rfl rfl ?_
      refine zr_iconst (v := (-1 : Int32)) d_9_lords_20 rfl ?_
      refine zr_icmp_ne (tgt := 31) d_9_lords_21 rfl (fun hc26 => ?_) (fun hc26 => ?_)
      · replace h := z_ip h hc26
        refine zr_aload_n (i := 0) d_9_lords_24 rfl rfl ?_
        refine zr_gets (i' := 0) d_9_lords_25 fw_9_128 rfl ?_
        refine zr_iconst (v := (0 : Int32)) d_9_lords_28 rfl ?_
        refine zr_iald d_9_lords_29 sa_157 rfl rfl ?_
        obtain ⟨rfl, rfl⟩ := Prod.mk.inj (Option.some.inj h)
        exact ze_i d_9_lords_30 rfl
      · replace h := z_im h hc26
        refine zr_iconst (v := (0 : Int32)) d_9_lords_31 rfl ?_
        refine zr_istore_n (i := 2) (l' := [some (zA 9 0), some (zI a1), some (zI (0 : Int32)), none, none]) d_9_lords_32 rfl (by decide) rfl ?_
        refine zr_iconst (v := (0 : Int32)) d_9_lords_33 rfl ?_
        refine zr_istore_n (i := 3) (l' := [some (zA 9 0), some (zI a1), some (zI (0 : Int32)), some (zI (0 : Int32)), none]) d_9_lords_34 rfl (by decide) rfl ?_
        obtain ⟨e39, hl40, h⟩ := z_bd h
        refine zr_wk (l' := [some (zA 9 0), some (zI a1), some (zI (0 : Int32)), some (zI (0 : Int32)), none]) ⟨rfl, ⟨rfl, ⟨rfl, ⟨rfl, trivial⟩⟩⟩⟩ ?_
        refine z_loop (Hd := (z_u2 fun y0 y1 => z_RQ P M_9_lords (z_rm 4) (z_mq P (some (zI r)) μ') 0 0 35 [some (zA 9 0), some (zI a1), some (zI y0), some (zI y1), none] [] qm24)) (Ex := (fun z0 => z_RQ P M_9_lords (z_rm 4) (z_mq P (some (zI r)) μ') 0 0 66 [some (zA 9 0), some (zI a1), some (zI z0), none, none] [] qm24)) (fun ⟨x28, x29⟩ K h hI hE => s9_lords_L27 a1 qm24 x28 x29 K h (fun y0 y1 e => hI (y0, y1) e) (fun z0 e => hE z0 e) ) _ _ _ hl40 ?_
        refine zr_aload_n (i := 0) d_9_lords_66 rfl rfl ?_
        refine zr_iload_n (i := 1) d_9_lords_67 rfl rfl ?_
        refine zr_iload_n (i := 2) d_9_lords_68 rfl rfl ?_
        obtain ⟨q41, hq42, h⟩ := z_bd h
        refine zr_callVi (av := [zI a1, zI e39]) (st := []) d_9_lords_69 mw_9_lordFor ml_9_450 im_9_lordFor se_9_lordFor rfl rfl (Nat.le_of_ble_eq_true rfl) fit_3_4_4 rfl rfl rfl (s9_lordFor hq42) ?_
        obtain ⟨rfl, rfl⟩ := Prod.mk.inj (Option.some.inj h)
        exact ze_i d_9_lords_72 rfl
def f9_bound_L16 (qm6 : zMem) (q8 : Int32) : (Int32 × Int32) → Option ((Int32 × Int32) ⊕ (Int32)) := (z_u2 fun x17 x18 => 
  if z_in (qm6.1 9 0 18) 2 = true then (if x18 < (qm6.1 123 0 (qm6.1 9 0 18).toNatClampNeg) then if z_in ((28 : Int32) + x18) 34 = true then ((if ((qm6.1 149 0 ((28 : Int32) + x18).toNatClampNeg) &&& x17) = 0 then some x17 else z_let (x17 ||| ((qm6.1 149 0 ((28 : Int32) + x18).toNatClampNeg) &&& q8)) fun v25 => some v25) : Option (Int32)).bind (fun j27 => some (.inl (j27, (x18 + (1 : Int32))))) else none else some (.inr x17)) else none)
def f9_bound_L12 (qm6 : zMem) (q8 : Int32) : (Int32 × Int32) → Option ((Int32 × Int32) ⊕ (Int32)) := (z_u2 fun x13 x14 => 
  (if x14 < (5 : Int32) then (z_it (f9_bound_L16 qm6 q8) z_fu (x13, (0 : Int32))).bind (fun e28 => some (.inl (e28, (x14 + (1 : Int32))))) else some (.inr x13)))
def f9_bound (a1 : Int32) (μ : zMem) : Option (Int32 × zMem) :=
  (f9_isPerson a1 μ).bind (fun q1 => (if q1 = 0 then some ((-1 : Int32), μ) else if z_in a1 34 = true then (if (μ.1 148 0 a1.toNatClampNeg) = (2 : Int32) then some ((-1 : Int32), μ) else (f9_copies μ).bind (fun qm6 => (f9_aliveBits qm6).bind (fun q8 => z_let ((1 : Int32) <<< (a1 &&& 31)) fun v10 => (z_it (f9_bound_L12 qm6 q8) z_fu (v10, (0 : Int32))).bind (fun e30 => some (e30, qm6))))) else none))
theorem s9_bound_L16 {P : zP} {ro : Option zV} {μo : zMem} (qm6 : zMem) (q8 : Int32) (x14 : Int32) (x17 : Int32) (x18 : Int32) (K : (Int32 × Int32) ⊕ (Int32)) (h : f9_bound_L16 qm6 q8 (x17, x18) = some K) (hI : ∀ (y0 : Int32) (y1 : Int32), K = .inl (y0, y1) → z_RQ P M_9_bound (z_rm 3) (z_mq P ro μo) 0 0 45 [some (zA 9 0), none, some (zI q8), some (zI y0), some (zI x14), some (zI y1)] [] qm6) (hE : ∀ (z0 : Int32), K = .inr z0 → z_RQ P M_9_bound (z_rm 3) (z_mq P ro μo) 0 0 95 [some (zA 9 0), none, some (zI q8), some (zI z0), some (zI x14), none] [] qm6)  : z_RQ P M_9_bound (z_rm 3) (z_mq P ro μo) 0 0 45 [some (zA 9 0), none, some (zI q8), some (zI x17), some (zI x14), some (zI x18)] [] qm6 := by
  unfold f9_bound_L16 at h
  replace h := z_h2 h
  refine zr_iload d_9_bound_45 rfl ?_
  refine zr_aload_n (i := 0) d_9_bound_47 rfl rfl ?_
  refine zr_gets (i' := 0) d_9_bound_48 fw_9_46 rfl ?_
  refine zr_aload_n (i := 0) d_9_bound_51 rfl rfl ?_
  refine zr_geti d_9_bound_52 fw_9_233 (by decide) ?_
  obtain ⟨hb19, h⟩ := z_gd h
  refine zr_iald d_9_bound_55 sa_123 rfl hb19 ?_
  refine zr_icmp_ge (tgt := 95) d_9_bound_56 rfl (fun hc20 => ?_) (fun hc20 => ?_)
  · replace h := z_ip h hc20
    refine zr_aload_n (i := 0) d_9_bound_59 rfl rfl ?_
    refine zr_gets (i' := 0) d_9_bound_60 fw_9_113 rfl ?_
    refine zr_bipush (v := (28 : Int32)) d_9_bound_63 rfl ?_
    refine zr_iload d_9_bound_65 rfl ?_
    refine zr_iadd d_9_bound_67 ?_
    obtain ⟨hb21, h⟩ := z_gd h
    refine zr_iald d_9_bound_68 sa_149 rfl hb21 ?_
    refine zr_iload_n (i := 3) d_9_bound_69 rfl rfl ?_
    refine zr_iand d_9_bound_70 ?_
    obtain ⟨j27, hT22, h⟩ := z_bd h
    have hJ23 : z_RQ P M_9_bound (z_rm 3) (z_mq P ro μo) 0 0 89 [some (zA 9 0), none, some (zI q8), some (zI j27), some (zI x14), some (zI x18)] [] qm6 := by
      refine zr_iinc (v := (x18 + (1 : Int32))) (l' := [some (zA 9 0), none, some (zI q8), some (zI j27), some (zI x14), some (zI (x18 + (1 : Int32)))]) d_9_bound_89 (by decide) rfl rfl rfl ?_
      refine zr_goto (tgt := 45) d_9_bound_92 rfl ?_
      obtain rfl := Option.some.inj h
      exact zr_wk2 (hI j27 (x18 + (1 : Int32)) rfl) ⟨rfl, ⟨rfl, ⟨rfl, ⟨rfl, ⟨rfl, trivial⟩⟩⟩⟩⟩
    refine zr_if_eq (tgt := 89) d_9_bound_71 rfl (fun hc24 => ?_) (fun hc24 => ?_)
    · replace hT22 := z_ip hT22 hc24
      obtain rfl := Option.some.inj hT22
      exact zr_wk2 hJ23 ⟨rfl, ⟨rfl, ⟨rfl, ⟨rfl, ⟨rfl, trivial⟩⟩⟩⟩⟩
    · replace hT22 := z_im hT22 hc24
      refine zr_iload_n (i := 3) d_9_bound_74 rfl rfl ?_
      refine zr_aload_n (i := 0) d_9_bound_75 rfl rfl ?_
      refine zr_gets (i' := 0) d_9_bound_76 fw_9_113 rfl ?_
      refine zr_bipush (v := (28 : Int32)) d_9_bound_79 rfl ?_
      refine zr_iload d_9_bound_81 rfl ?_
      refine zr_iadd d_9_bound_83 ?_
      refine zr_iald d_9_bound_84 sa_149 rfl hb21 ?_
      refine zr_iload_n (i := 2) d_9_bound_85 rfl rfl ?_
      refine zr_iand d_9_bound_86 ?_
      refine zr_ior d_9_bound_87 ?_
      obtain ⟨v25, hv26, hT22⟩ := z_lt hT22
      refine zr_nm hv26 ?_
      refine zr_istore_n (i := 3) (l' := [some (zA 9 0), none, some (zI q8), some (zI v25), some (zI x14), some (zI x18)]) d_9_bound_88 rfl (by decide) rfl ?_
      obtain rfl := Option.some.inj hT22
      exact zr_wk2 hJ23 ⟨rfl, ⟨rfl, ⟨rfl, ⟨rfl, ⟨rfl, trivial⟩⟩⟩⟩⟩
  · replace h := z_im h hc20
    obtain rfl := Option.some.inj h
    exact zr_wk2 (hE x17 rfl) ⟨rfl, ⟨rfl, ⟨rfl, ⟨rfl, trivial⟩⟩⟩⟩
theorem s9_bound_L12 {P : zP} {ro : Option zV} {μo : zMem} (qm6 : zMem) (q8 : Int32) (x13 : Int32) (x14 : Int32) (K : (Int32 × Int32) ⊕ (Int32)) (h : f9_bound_L12 qm6 q8 (x13, x14) = some K) (hI : ∀ (y0 : Int32) (y1 : Int32), K = .inl (y0, y1) → z_RQ P M_9_bound (z_rm 3) (z_mq P ro μo) 0 0 36 [some (zA 9 0), none, some (zI q8), some (zI y0), some (zI y1), none] [] qm6) (hE : ∀ (z0 : Int32), K = .inr z0 → z_RQ P M_9_bound (z_rm 3) (z_mq P ro μo) 0 0 101 [none, none, none, some (zI z0), none, none] [] qm6)  : z_RQ P M_9_bound (z_rm 3) (z_mq P ro μo) 0 0 36 [some (zA 9 0), none, some (zI q8), some (zI x13), some (zI x14), none] [] qm6 := by
  unfold f9_bound_L12 at h
  replace h := z_h2 h
  refine zr_iload d_9_bound_36 rfl ?_
  refine zr_iconst (v := (5 : Int32)) d_9_bound_38 rfl ?_
  refine zr_icmp_ge (tgt := 101) d_9_bound_39 rfl (fun hc15 => ?_) (fun hc15 => ?_)
  · replace h := z_ip h hc15
    refine zr_iconst (v := (0 : Int32)) d_9_bound_42 rfl ?_
    refine zr_istore (i := 5) (l' := [some (zA 9 0), none, some (zI q8), some (zI x13), some (zI x14), some (zI (0 : Int32))]) d_9_bound_43 (by decide) rfl ?_
    obtain ⟨e28, hl29, h⟩ := z_bd h
    refine zr_wk (l' := [some (zA 9 0), none, some (zI q8), some (zI x13), some (zI x14), some (zI (0 : Int32))]) ⟨rfl, ⟨rfl, ⟨rfl, ⟨rfl, ⟨rfl, trivial⟩⟩⟩⟩⟩ ?_
    refine z_loop (Hd := (z_u2 fun y0 y1 => z_RQ P M_9_bound (z_rm 3) (z_mq P ro μo) 0 0 45 [some (zA 9 0), none, some (zI q8), some (zI y0), some (zI x14), some (zI y1)] [] qm6)) (Ex := (fun z0 => z_RQ P M_9_bound (z_rm 3) (z_mq P ro μo) 0 0 95 [some (zA 9 0), none, some (zI q8), some (zI z0), some (zI x14), none] [] qm6)) (fun ⟨x17, x18⟩ K h hI hE => s9_bound_L16 qm6 q8 x14 x17 x18 K h (fun y0 y1 e => hI (y0, y1) e) (fun z0 e => hE z0 e) ) _ _ _ hl29 ?_
    refine zr_iinc (v := (x14 + (1 : Int32))) (l' := [some (zA 9 0), none, some (zI q8), some (zI e28), some (zI (x14 + (1 : Int32))), none]) d_9_bound_95 (by decide) rfl rfl rfl ?_
    refine zr_goto (tgt := 36) d_9_bound_98 rfl ?_
    obtain rfl := Option.some.inj h
    exact zr_wk2 (hI e28 (x14 + (1 : Int32)) rfl) ⟨rfl, ⟨rfl, ⟨rfl, ⟨rfl, trivial⟩⟩⟩⟩
  · replace h := z_im h hc15
    obtain rfl := Option.some.inj h
    exact zr_wk2 (hE x13 rfl) ⟨rfl, trivial⟩
theorem s9_bound {P : zP} {μ : zMem} {a1 : Int32} {r : Int32} {μ' : zMem} (h : f9_bound a1 μ = some (r, μ')) : z_Sp P y_9_bound M_9_bound 3 [zA 9 0, zI a1] μ (some (zI r)) μ' := by
  refine z_Sp.of (plainFor_of_name (by decide)) rfl (l0 := [some (zA 9 0), some (zI a1), none, none, none, none]) rfl (Nat.le_of_ble_eq_true rfl) ?_
  unfold f9_bound at h
  refine zr_aload_n (i := 0) d_9_bound_0 rfl rfl ?_
  refine zr_iload_n (i := 1) d_9_bound_1 rfl rfl ?_
  obtain ⟨q1, hq2, h⟩ := z_bd h
  refine zr_callVi (av := [zI a1]) (st := []) d_9_bound_2 mw_9_isPerson ml_9_316 im_9_isPerson se_9_isPerson rfl rfl (Nat.le_of_ble_eq_true rfl) fit_2_2_3 rfl rfl rfl (s9_isPerson hq2) ?_
  refine zr_if_eq (tgt := 18) d_9_bound_5 rfl (fun hc3 => ?_) (fun hc3 => ?_)
  · replace h := z_ip h hc3
    refine zr_iconst (v := (-1 : Int32)) d_9_bound_18 rfl ?_
    obtain ⟨rfl, rfl⟩ := Prod.mk.inj (Option.some.inj h)
    exact ze_i d_9_bound_19 rfl
  · replace h := z_im h hc3
    refine zr_aload_n (i := 0) d_9_bound_8 rfl rfl ?_
    refine zr_gets (i' := 0) d_9_bound_9 fw_9_110 rfl ?_
    refine zr_iload_n (i := 1) d_9_bound_12 rfl rfl ?_
    obtain ⟨hb4, h⟩ := z_gd h
    refine zr_iald d_9_bound_13 sa_148 rfl hb4 ?_
    refine zr_iconst (v := (2 : Int32)) d_9_bound_14 rfl ?_
    refine zr_icmp_ne (tgt := 20) d_9_bound_15 rfl (fun hc5 => ?_) (fun hc5 => ?_)
    · replace h := z_ip h hc5
      refine zr_iconst (v := (-1 : Int32)) d_9_bound_18 rfl ?_
      obtain ⟨rfl, rfl⟩ := Prod.mk.inj (Option.some.inj h)
      exact ze_i d_9_bound_19 rfl
    · replace h := z_im h hc5
      refine zr_aload_n (i := 0) d_9_bound_20 rfl rfl ?_
      obtain ⟨qm6, hq7, h⟩ := z_bd h
      refine zr_callVv (av := []) (st := []) d_9_bound_21 mw_9_copies ml_9_325 im_9_copies se_9_copies rfl rfl (Nat.le_of_ble_eq_true rfl) fit_1_2_3 rfl rfl rfl (s9_copies hq7) ?_
      refine zr_aload_n (i := 0) d_9_bound_24 rfl rfl ?_
      obtain ⟨q8, hq9, h⟩ := z_bd h
      refine zr_callVi (av := []) (st := []) d_9_bound_25 mw_9_aliveBits ml_9_432 im_9_aliveBits se_9_aliveBits rfl rfl (Nat.le_of_ble_eq_true rfl) fit_2_1_3 rfl rfl rfl (s9_aliveBits hq9) ?_
      refine zr_istore_n (i := 2) (l' := [some (zA 9 0), some (zI a1), some (zI q8), none, none, none]) d_9_bound_28 rfl (by decide) rfl ?_
      refine zr_iconst (v := (1 : Int32)) d_9_bound_29 rfl ?_
      refine zr_iload_n (i := 1) d_9_bound_30 rfl rfl ?_
      refine zr_ishl d_9_bound_31 ?_
      obtain ⟨v10, hv11, h⟩ := z_lt h
      refine zr_nm hv11 ?_
      refine zr_istore_n (i := 3) (l' := [some (zA 9 0), some (zI a1), some (zI q8), some (zI v10), none, none]) d_9_bound_32 rfl (by decide) rfl ?_
      refine zr_iconst (v := (0 : Int32)) d_9_bound_33 rfl ?_
      refine zr_istore (i := 4) (l' := [some (zA 9 0), some (zI a1), some (zI q8), some (zI v10), some (zI (0 : Int32)), none]) d_9_bound_34 (by decide) rfl ?_
      obtain ⟨e30, hl31, h⟩ := z_bd h
      refine zr_wk (l' := [some (zA 9 0), none, some (zI q8), some (zI v10), some (zI (0 : Int32)), none]) ⟨rfl, ⟨rfl, ⟨rfl, ⟨rfl, trivial⟩⟩⟩⟩ ?_
      refine z_loop (Hd := (z_u2 fun y0 y1 => z_RQ P M_9_bound (z_rm 3) (z_mq P (some (zI r)) μ') 0 0 36 [some (zA 9 0), none, some (zI q8), some (zI y0), some (zI y1), none] [] qm6)) (Ex := (fun z0 => z_RQ P M_9_bound (z_rm 3) (z_mq P (some (zI r)) μ') 0 0 101 [none, none, none, some (zI z0), none, none] [] qm6)) (fun ⟨x13, x14⟩ K h hI hE => s9_bound_L12 qm6 q8 x13 x14 K h (fun y0 y1 e => hI (y0, y1) e) (fun z0 e => hE z0 e) ) _ _ _ hl31 ?_
      refine zr_iload_n (i := 3) d_9_bound_101 rfl rfl ?_
      obtain ⟨rfl, rfl⟩ := Prod.mk.inj (Option.some.inj h)
      exact ze_i d_9_bound_102 rfl
def f9_idle  (μ : zMem) : Option (Int32 × zMem) :=
  (f9_copies μ).bind (fun qm1 => (f9_lordBits (-2 : Int32) qm1).bind (fun q3 => some (q3, qm1)))
theorem s9_idle {P : zP} {μ : zMem} {r : Int32} {μ' : zMem} (h : f9_idle μ = some (r, μ')) : z_Sp P y_9_idle M_9_idle 5 [zA 9 0] μ (some (zI r)) μ' := by
  refine z_Sp.of (plainFor_of_name (by decide)) rfl (l0 := [some (zA 9 0)]) rfl (Nat.le_of_ble_eq_true rfl) ?_
  unfold f9_idle at h
  refine zr_aload_n (i := 0) d_9_idle_0 rfl rfl ?_
  obtain ⟨qm1, hq2, h⟩ := z_bd h
  refine zr_callVv (av := []) (st := []) d_9_idle_1 mw_9_copies ml_9_325 im_9_copies se_9_copies rfl rfl (Nat.le_of_ble_eq_true rfl) fit_1_2_5 rfl rfl rfl (s9_copies hq2) ?_
  refine zr_aload_n (i := 0) d_9_idle_4 rfl rfl ?_
  refine zr_bipush (v := (-2 : Int32)) d_9_idle_5 (by decide) ?_
  obtain ⟨q3, hq4, h⟩ := z_bd h
  refine zr_callVi (av := [zI (-2 : Int32)]) (st := []) d_9_idle_7 mw_9_lordBits ml_9_346 im_9_lordBits se_9_lordBits rfl rfl (Nat.le_of_ble_eq_true rfl) fit_4_4_5 rfl rfl rfl (s9_lordBits hq4) ?_
  obtain ⟨rfl, rfl⟩ := Prod.mk.inj (Option.some.inj h)
  exact ze_i d_9_idle_10 rfl
def f9_rightsAll_L1 (μ : zMem) : (Int32 × Int32) → Option ((Int32 × Int32) ⊕ (Int32)) := (z_u2 fun x2 x3 => 
  if z_in (μ.1 9 0 18) 2 = true then (if x3 < (μ.1 123 0 (μ.1 9 0 18).toNatClampNeg) then if z_in ((28 : Int32) + x3) 34 = true then (f9_bits (μ.1 148 0 ((28 : Int32) + x3).toNatClampNeg)).bind (fun q7 => some (.inl ((x2 + q7), (x3 + (1 : Int32))))) else none else some (.inr x2)) else none)
def f9_rightsAll  (μ : zMem) : Option (Int32) :=
  (z_it (f9_rightsAll_L1 μ) z_fu ((0 : Int32), (0 : Int32))).bind (fun e9 => some e9)
theorem s9_rightsAll_L1 {P : zP} {ro : Option zV} {μo : zMem} (μ : zMem) (x2 : Int32) (x3 : Int32) (K : (Int32 × Int32) ⊕ (Int32)) (h : f9_rightsAll_L1 μ (x2, x3) = some K) (hI : ∀ (y0 : Int32) (y1 : Int32), K = .inl (y0, y1) → z_RQ P M_9_rightsAll (z_rm 2) (z_mq P ro μo) 0 0 4 [some (zA 9 0), some (zI y0), some (zI y1)] [] μ) (hE : ∀ (z0 : Int32), K = .inr z0 → z_RQ P M_9_rightsAll (z_rm 2) (z_mq P ro μo) 0 0 38 [none, some (zI z0), none] [] μ)  : z_RQ P M_9_rightsAll (z_rm 2) (z_mq P ro μo) 0 0 4 [some (zA 9 0), some (zI x2), some (zI x3)] [] μ := by
  unfold f9_rightsAll_L1 at h
  replace h := z_h2 h
  refine zr_iload_n (i := 2) d_9_rightsAll_4 rfl rfl ?_
  refine zr_aload_n (i := 0) d_9_rightsAll_5 rfl rfl ?_
  refine zr_gets (i' := 0) d_9_rightsAll_6 fw_9_46 rfl ?_
  refine zr_aload_n (i := 0) d_9_rightsAll_9 rfl rfl ?_
  refine zr_geti d_9_rightsAll_10 fw_9_233 (by decide) ?_
  obtain ⟨hb4, h⟩ := z_gd h
  refine zr_iald d_9_rightsAll_13 sa_123 rfl hb4 ?_
  refine zr_icmp_ge (tgt := 38) d_9_rightsAll_14 rfl (fun hc5 => ?_) (fun hc5 => ?_)
  · replace h := z_ip h hc5
    refine zr_iload_n (i := 1) d_9_rightsAll_17 rfl rfl ?_
    refine zr_aload_n (i := 0) d_9_rightsAll_18 rfl rfl ?_
    refine zr_gets (i' := 0) d_9_rightsAll_19 fw_9_110 rfl ?_
    refine zr_bipush (v := (28 : Int32)) d_9_rightsAll_22 rfl ?_
    refine zr_iload_n (i := 2) d_9_rightsAll_24 rfl rfl ?_
    refine zr_iadd d_9_rightsAll_25 ?_
    obtain ⟨hb6, h⟩ := z_gd h
    refine zr_iald d_9_rightsAll_26 sa_148 rfl hb6 ?_
    obtain ⟨q7, hq8, h⟩ := z_bd h
    refine zr_callSi (av := [zI (μ.1 148 0 ((28 : Int32) + x3).toNatClampNeg)]) (st := [zI x2]) d_9_rightsAll_27 mw_9_bits ml_9_355 is_9_bits rfl rfl (Nat.le_of_ble_eq_true rfl) fit_1_3_2 (s9_bits hq8) ?_
    refine zr_iadd d_9_rightsAll_30 ?_
    refine zr_istore_n (i := 1) (l' := [some (zA 9 0), some (zI (x2 + q7)), some (zI x3)]) d_9_rightsAll_31 rfl (by decide) rfl ?_
    refine zr_iinc (v := (x3 + (1 : Int32))) (l' := [some (zA 9 0), some (zI (x2 + q7)), some (zI (x3 + (1 : Int32)))]) d_9_rightsAll_32 (by decide) rfl rfl rfl ?_
    refine zr_goto (tgt := 4) d_9_rightsAll_35 rfl ?_
    obtain rfl := Option.some.inj h
    exact zr_wk2 (hI (x2 + q7) (x3 + (1 : Int32)) rfl) ⟨rfl, ⟨rfl, ⟨rfl, trivial⟩⟩⟩
  · replace h := z_im h hc5
    obtain rfl := Option.some.inj h
    exact zr_wk2 (hE x2 rfl) ⟨rfl, trivial⟩
theorem s9_rightsAll {P : zP} {μ : zMem} {r : Int32} (h : f9_rightsAll μ = some r) : z_Sp P y_9_rightsAll M_9_rightsAll 2 [zA 9 0] μ (some (zI r)) μ := by
  refine z_Sp.of (plainFor_of_name (by decide)) rfl (l0 := [some (zA 9 0), none, none]) rfl (Nat.le_of_ble_eq_true rfl) ?_
  unfold f9_rightsAll at h
  refine zr_iconst (v := (0 : Int32)) d_9_rightsAll_0 rfl ?_
  refine zr_istore_n (i := 1) (l' := [some (zA 9 0), some (zI (0 : Int32)), none]) d_9_rightsAll_1 rfl (by decide) rfl ?_
  refine zr_iconst (v := (0 : Int32)) d_9_rightsAll_2 rfl ?_
  refine zr_istore_n (i := 2) (l' := [some (zA 9 0), some (zI (0 : Int32)), some (zI (0 : Int32))]) d_9_rightsAll_3 rfl (by decide) rfl ?_
  obtain ⟨e9, hl10, h⟩ := z_bd h
  refine zr_wk (l' := [some (zA 9 0), some (zI (0 : Int32)), some (zI (0 : Int32))]) ⟨rfl, ⟨rfl, ⟨rfl, trivial⟩⟩⟩ ?_
  refine z_loop (Hd := (z_u2 fun y0 y1 => z_RQ P M_9_rightsAll (z_rm 2) (z_mq P (some (zI r)) μ) 0 0 4 [some (zA 9 0), some (zI y0), some (zI y1)] [] μ)) (Ex := (fun z0 => z_RQ P M_9_rightsAll (z_rm 2) (z_mq P (some (zI r)) μ) 0 0 38 [none, some (zI z0), none] [] μ)) (fun ⟨x2, x3⟩ K h hI hE => s9_rightsAll_L1 μ x2 x3 K h (fun y0 y1 e => hI (y0, y1) e) (fun z0 e => hE z0 e) ) _ _ _ hl10 ?_
  refine zr_iload_n (i := 1) d_9_rightsAll_38 rfl rfl ?_
  obtain rfl := Option.some.inj h
  exact ze_i d_9_rightsAll_39 rfl
def f9_share (a1 : Int32) (μ : zMem) : Option (Int32 × zMem) :=
  (f9_isPerson a1 μ).bind (fun q1 => (if q1 = 0 then some ((-1 : Int32), μ) else (f9_copies μ).bind (fun qm4 => (f9_rightsAll qm4).bind (fun q6 => (if q6 = 0 then some ((0 : Int32), qm4) else (f9_rightBits a1 qm4).bind (fun q9 => (f9_bits q9).bind (fun q11 => (f9_rightsAll qm4).bind (fun q13 => if q13 = 0 then none else some ((((1000 : Int32) * q11) / q13), qm4)))))))))
theorem s9_share {P : zP} {μ : zMem} {a1 : Int32} {r : Int32} {μ' : zMem} (h : f9_share a1 μ = some (r, μ')) : z_Sp P y_9_share M_9_share 3 [zA 9 0, zI a1] μ (some (zI r)) μ' := by
  refine z_Sp.of (plainFor_of_name (by decide)) rfl (l0 := [some (zA 9 0), some (zI a1)]) rfl (Nat.le_of_ble_eq_true rfl) ?_
  unfold f9_share at h
  refine zr_aload_n (i := 0) d_9_share_0 rfl rfl ?_
  refine zr_iload_n (i := 1) d_9_share_1 rfl rfl ?_
  obtain ⟨q1, hq2, h⟩ := z_bd h
  refine zr_callVi (av := [zI a1]) (st := []) d_9_share_2 mw_9_isPerson ml_9_316 im_9_isPerson se_9_isPerson rfl rfl (Nat.le_of_ble_eq_true rfl) fit_2_2_3 rfl rfl rfl (s9_isPerson hq2) ?_
  refine zr_if_ne (tgt := 10) d_9_share_5 rfl (fun hc3 => ?_) (fun hc3 => ?_)
  · replace h := z_ip h hc3
    refine zr_iconst (v := (-1 : Int32)) d_9_share_8 rfl ?_
    obtain ⟨rfl, rfl⟩ := Prod.mk.inj (Option.some.inj h)
    exact ze_i d_9_share_9 rfl
  · replace h := z_im h hc3
    refine zr_aload_n (i := 0) d_9_share_10 rfl rfl ?_
    obtain ⟨qm4, hq5, h⟩ := z_bd h
    refine zr_callVv (av := []) (st := []) d_9_share_11 mw_9_copies ml_9_325 im_9_copies se_9_copies rfl rfl (Nat.le_of_ble_eq_true rfl) fit_1_2_3 rfl rfl rfl (s9_copies hq5) ?_
    refine zr_aload_n (i := 0) d_9_share_14 rfl rfl ?_
    obtain ⟨q6, hq7, h⟩ := z_bd h
    refine zr_callVi (av := []) (st := []) d_9_share_15 mw_9_rightsAll ml_9_453 im_9_rightsAll se_9_rightsAll rfl rfl (Nat.le_of_ble_eq_true rfl) fit_2_3_3 rfl rfl rfl (s9_rightsAll hq7) ?_
    refine zr_if_ne (tgt := 25) d_9_share_18 rfl (fun hc8 => ?_) (fun hc8 => ?_)
    · replace h := z_ip h hc8
      refine zr_iconst (v := (0 : Int32)) d_9_share_21 rfl ?_
      refine zr_goto (tgt := 42) d_9_share_22 rfl ?_
      obtain ⟨rfl, rfl⟩ := Prod.mk.inj (Option.some.inj h)
      exact ze_i d_9_share_42 rfl
    · replace h := z_im h hc8
      refine zr_sipush (v := (1000 : Int32)) d_9_share_25 rfl ?_
      refine zr_aload_n (i := 0) d_9_share_28 rfl rfl ?_
      refine zr_iload_n (i := 1) d_9_share_29 rfl rfl ?_
      obtain ⟨q9, hq10, h⟩ := z_bd h
      refine zr_callVi (av := [zI a1]) (st := [zI (1000 : Int32)]) d_9_share_30 mw_9_rightBits ml_9_352 im_9_rightBits se_9_rightBits rfl rfl (Nat.le_of_ble_eq_true rfl) fit_2_4_3 rfl rfl rfl (s9_rightBits hq10) ?_
      obtain ⟨q11, hq12, h⟩ := z_bd h
      refine zr_callSi (av := [zI q9]) (st := [zI (1000 : Int32)]) d_9_share_33 mw_9_bits ml_9_355 is_9_bits rfl rfl (Nat.le_of_ble_eq_true rfl) fit_1_3_3 (s9_bits hq12) ?_
      refine zr_imul d_9_share_36 ?_
      refine zr_aload_n (i := 0) d_9_share_37 rfl rfl ?_
      obtain ⟨q13, hq14, h⟩ := z_bd h
      refine zr_callVi (av := []) (st := [zI ((1000 : Int32) * q11)]) d_9_share_38 mw_9_rightsAll ml_9_453 im_9_rightsAll se_9_rightsAll rfl rfl (Nat.le_of_ble_eq_true rfl) fit_2_3_3 rfl rfl rfl (s9_rightsAll hq14) ?_
      obtain ⟨hz15, h⟩ := z_nz h
      refine zr_idiv d_9_share_41 hz15 ?_
      obtain ⟨rfl, rfl⟩ := Prod.mk.inj (Option.some.inj h)
      exact ze_i d_9_share_42 rfl
def f9_lordIn (a1 : Int32) (a2 : Int32) (μ : zMem) : Option (Int32 × zMem) :=
  (f9_isHouse a1 μ).bind (fun q1 => (if q1 = 0 then some ((-1 : Int32), μ) else (f9_isLong a2).bind (fun q4 => (if q4 = 0 then some ((-1 : Int32), μ) else (f9_copies μ).bind (fun qm7 => (f9_goes a2 qm7).bind (fun qm9 => (f9_lordOf a1 qm9).bind (fun q11 => some (q11, qm9))))))))
theorem s9_lordIn {P : zP} {μ : zMem} {a1 : Int32} {a2 : Int32} {r : Int32} {μ' : zMem} (h : f9_lordIn a1 a2 μ = some (r, μ')) : z_Sp P y_9_lordIn M_9_lordIn 10 [zA 9 0, zI a1, zI a2] μ (some (zI r)) μ' := by
  refine z_Sp.of (plainFor_of_name (by decide)) rfl (l0 := [some (zA 9 0), some (zI a1), some (zI a2)]) rfl (Nat.le_of_ble_eq_true rfl) ?_
  unfold f9_lordIn at h
  refine zr_aload_n (i := 0) d_9_lordIn_0 rfl rfl ?_
  refine zr_iload_n (i := 1) d_9_lordIn_1 rfl rfl ?_
  obtain ⟨q1, hq2, h⟩ := z_bd h
  refine zr_callVi (av := [zI a1]) (st := []) d_9_lordIn_2 mw_9_isHouse ml_9_391 im_9_isHouse se_9_isHouse rfl rfl (Nat.le_of_ble_eq_true rfl) fit_2_2_10 rfl rfl rfl (s9_isHouse hq2) ?_
  refine zr_if_eq (tgt := 15) d_9_lordIn_5 rfl (fun hc3 => ?_) (fun hc3 => ?_)
  · replace h := z_ip h hc3
    refine zr_iconst (v := (-1 : Int32)) d_9_lordIn_15 rfl ?_
    obtain ⟨rfl, rfl⟩ := Prod.mk.inj (Option.some.inj h)
    exact ze_i d_9_lordIn_16 rfl
  · replace h := z_im h hc3
    refine zr_iload_n (i := 2) d_9_lordIn_8 rfl rfl ?_
    obtain ⟨q4, hq5, h⟩ := z_bd h
    refine zr_callSi (av := [zI a2]) (st := []) d_9_lordIn_9 mw_9_isLong ml_9_403 is_9_isLong rfl rfl (Nat.le_of_ble_eq_true rfl) fit_2_1_10 (s9_isLong hq5) ?_
    refine zr_if_ne (tgt := 17) d_9_lordIn_12 rfl (fun hc6 => ?_) (fun hc6 => ?_)
    · replace h := z_ip h hc6
      refine zr_iconst (v := (-1 : Int32)) d_9_lordIn_15 rfl ?_
      obtain ⟨rfl, rfl⟩ := Prod.mk.inj (Option.some.inj h)
      exact ze_i d_9_lordIn_16 rfl
    · replace h := z_im h hc6
      refine zr_aload_n (i := 0) d_9_lordIn_17 rfl rfl ?_
      obtain ⟨qm7, hq8, h⟩ := z_bd h
      refine zr_callVv (av := []) (st := []) d_9_lordIn_18 mw_9_copies ml_9_325 im_9_copies se_9_copies rfl rfl (Nat.le_of_ble_eq_true rfl) fit_1_2_10 rfl rfl rfl (s9_copies hq8) ?_
      refine zr_aload_n (i := 0) d_9_lordIn_21 rfl rfl ?_
      refine zr_iload_n (i := 2) d_9_lordIn_22 rfl rfl ?_
      obtain ⟨qm9, hq10, h⟩ := z_bd h
      refine zr_callVv (av := [zI a2]) (st := []) d_9_lordIn_23 mw_9_goes ml_9_406 im_9_goes se_9_goes rfl rfl (Nat.le_of_ble_eq_true rfl) fit_9_3_10 rfl rfl rfl (s9_goes hq10) ?_
      refine zr_aload_n (i := 0) d_9_lordIn_26 rfl rfl ?_
      refine zr_iload_n (i := 1) d_9_lordIn_27 rfl rfl ?_
      obtain ⟨q11, hq12, h⟩ := z_bd h
      refine zr_callVi (av := [zI a1]) (st := []) d_9_lordIn_28 mw_9_lordOf ml_9_340 im_9_lordOf se_9_lordOf rfl rfl (Nat.le_of_ble_eq_true rfl) fit_3_2_10 rfl rfl rfl (s9_lordOf hq12) ?_
      obtain ⟨rfl, rfl⟩ := Prod.mk.inj (Option.some.inj h)
      exact ze_i d_9_lordIn_31 rfl
def f9_then (a1 : Int32) (a2 : Int32) (μ : zMem) : Option (Int32 × zMem) :=
  (f9_isLong a1).bind (fun q1 => (if q1 = 0 then some ((-1 : Int32), μ) else (if (f9_in a2 (0 : Int32) (2 : Int32)) = 0 then some ((-1 : Int32), μ) else (f9_copies μ).bind (fun qm6 => (f9_goes a1 qm6).bind (fun qm8 => (f9_inState a2 qm8).bind (fun q10 => some (q10, qm8)))))))
theorem s9_then {P : zP} {μ : zMem} {a1 : Int32} {a2 : Int32} {r : Int32} {μ' : zMem} (h : f9_then a1 a2 μ = some (r, μ')) : z_Sp P y_9_then M_9_then 10 [zA 9 0, zI a1, zI a2] μ (some (zI r)) μ' := by
  refine z_Sp.of (plainFor_of_name (by decide)) rfl (l0 := [some (zA 9 0), some (zI a1), some (zI a2)]) rfl (Nat.le_of_ble_eq_true rfl) ?_
  unfold f9_then at h
  refine zr_iload_n (i := 1) d_9_then_0 rfl rfl ?_
  obtain ⟨q1, hq2, h⟩ := z_bd h
  refine zr_callSi (av := [zI a1]) (st := []) d_9_then_1 mw_9_isLong ml_9_403 is_9_isLong rfl rfl (Nat.le_of_ble_eq_true rfl) fit_2_1_10 (s9_isLong hq2) ?_
  refine zr_if_eq (tgt := 16) d_9_then_4 rfl (fun hc3 => ?_) (fun hc3 => ?_)
  · replace h := z_ip h hc3
    refine zr_iconst (v := (-1 : Int32)) d_9_then_16 rfl ?_
    obtain ⟨rfl, rfl⟩ := Prod.mk.inj (Option.some.inj h)
    exact ze_i d_9_then_17 rfl
  · replace h := z_im h hc3
    refine zr_iload_n (i := 2) d_9_then_7 rfl rfl ?_
    refine zr_iconst (v := (0 : Int32)) d_9_then_8 rfl ?_
    refine zr_iconst (v := (2 : Int32)) d_9_then_9 rfl ?_
    refine zr_callSi (av := [zI a2, zI (0 : Int32), zI (2 : Int32)]) (st := []) d_9_then_10 mw_9_in ml_9_312 is_9_in rfl rfl (Nat.le_of_ble_eq_true rfl) fit_1_3_10 (s9_in rfl) ?_
    refine zr_if_ne (tgt := 18) d_9_then_13 rfl (fun hc5 => ?_) (fun hc5 => ?_)
    · replace h := z_ip h hc5
      refine zr_iconst (v := (-1 : Int32)) d_9_then_16 rfl ?_
      obtain ⟨rfl, rfl⟩ := Prod.mk.inj (Option.some.inj h)
      exact ze_i d_9_then_17 rfl
    · replace h := z_im h hc5
      refine zr_aload_n (i := 0) d_9_then_18 rfl rfl ?_
      obtain ⟨qm6, hq7, h⟩ := z_bd h
      refine zr_callVv (av := []) (st := []) d_9_then_19 mw_9_copies ml_9_325 im_9_copies se_9_copies rfl rfl (Nat.le_of_ble_eq_true rfl) fit_1_2_10 rfl rfl rfl (s9_copies hq7) ?_
      refine zr_aload_n (i := 0) d_9_then_22 rfl rfl ?_
      refine zr_iload_n (i := 1) d_9_then_23 rfl rfl ?_
      obtain ⟨qm8, hq9, h⟩ := z_bd h
      refine zr_callVv (av := [zI a1]) (st := []) d_9_then_24 mw_9_goes ml_9_406 im_9_goes se_9_goes rfl rfl (Nat.le_of_ble_eq_true rfl) fit_9_3_10 rfl rfl rfl (s9_goes hq9) ?_
      refine zr_aload_n (i := 0) d_9_then_27 rfl rfl ?_
      refine zr_iload_n (i := 2) d_9_then_28 rfl rfl ?_
      obtain ⟨q10, hq11, h⟩ := z_bd h
      refine zr_callVi (av := [zI a2]) (st := []) d_9_then_29 mw_9_inState ml_9_358 im_9_inState se_9_inState rfl rfl (Nat.le_of_ble_eq_true rfl) fit_1_4_10 rfl rfl rfl (s9_inState hq11) ?_
      obtain ⟨rfl, rfl⟩ := Prod.mk.inj (Option.some.inj h)
      exact ze_i d_9_then_32 rfl
def f9_gotIn (a1 : Int32) (a2 : Int32) (μ : zMem) : Option (Int32 × zMem) :=
  (f9_isPerson a1 μ).bind (fun q1 => (if q1 = 0 then some ((-1 : Int32), μ) else (f9_isLong a2).bind (fun q4 => (if q4 = 0 then some ((-1 : Int32), μ) else (f9_copies μ).bind (fun qm7 => (f9_goes a2 qm7).bind (fun qm9 => if z_in ((14 : Int32) + a1) 34 = true then some ((qm9.1 149 0 ((14 : Int32) + a1).toNatClampNeg), qm9) else none))))))
theorem s9_gotIn {P : zP} {μ : zMem} {a1 : Int32} {a2 : Int32} {r : Int32} {μ' : zMem} (h : f9_gotIn a1 a2 μ = some (r, μ')) : z_Sp P y_9_gotIn M_9_gotIn 10 [zA 9 0, zI a1, zI a2] μ (some (zI r)) μ' := by
  refine z_Sp.of (plainFor_of_name (by decide)) rfl (l0 := [some (zA 9 0), some (zI a1), some (zI a2)]) rfl (Nat.le_of_ble_eq_true rfl) ?_
  unfold f9_gotIn at h
  refine zr_aload_n (i := 0) d_9_gotIn_0 rfl rfl ?_
  refine zr_iload_n (i := 1) d_9_gotIn_1 rfl rfl ?_
  obtain ⟨q1, hq2, h⟩ := z_bd h
  refine zr_callVi (av := [zI a1]) (st := []) d_9_gotIn_2 mw_9_isPerson ml_9_316 im_9_isPerson se_9_isPerson rfl rfl (Nat.le_of_ble_eq_true rfl) fit_2_2_10 rfl rfl rfl (s9_isPerson hq2) ?_
  refine zr_if_eq (tgt := 15) d_9_gotIn_5 rfl (fun hc3 => ?_) (fun hc3 => ?_)
  · replace h := z_ip h hc3
    refine zr_iconst (v := (-1 : Int32)) d_9_gotIn_15 rfl ?_
    obtain ⟨rfl, rfl⟩ := Prod.mk.inj (Option.some.inj h)
    exact ze_i d_9_gotIn_16 rfl
  · replace h := z_im h hc3
    refine zr_iload_n (i := 2) d_9_gotIn_8 rfl rfl ?_
    obtain ⟨q4, hq5, h⟩ := z_bd h
    refine zr_callSi (av := [zI a2]) (st := []) d_9_gotIn_9 mw_9_isLong ml_9_403 is_9_isLong rfl rfl (Nat.le_of_ble_eq_true rfl) fit_2_1_10 (s9_isLong hq5) ?_
    refine zr_if_ne (tgt := 17) d_9_gotIn_12 rfl (fun hc6 => ?_) (fun hc6 => ?_)
    · replace h := z_ip h hc6
      refine zr_iconst (v := (-1 : Int32)) d_9_gotIn_15 rfl ?_
      obtain ⟨rfl, rfl⟩ := Prod.mk.inj (Option.some.inj h)
      exact ze_i d_9_gotIn_16 rfl
    · replace h := z_im h hc6
      refine zr_aload_n (i := 0) d_9_gotIn_17 rfl rfl ?_
      obtain ⟨qm7, hq8, h⟩ := z_bd h
      refine zr_callVv (av := []) (st := []) d_9_gotIn_18 mw_9_copies ml_9_325 im_9_copies se_9_copies rfl rfl (Nat.le_of_ble_eq_true rfl) fit_1_2_10 rfl rfl rfl (s9_copies hq8) ?_
      refine zr_aload_n (i := 0) d_9_gotIn_21 rfl rfl ?_
      refine zr_iload_n (i := 2) d_9_gotIn_22 rfl rfl ?_
      obtain ⟨qm9, hq10, h⟩ := z_bd h
      refine zr_callVv (av := [zI a2]) (st := []) d_9_gotIn_23 mw_9_goes ml_9_406 im_9_goes se_9_goes rfl rfl (Nat.le_of_ble_eq_true rfl) fit_9_3_10 rfl rfl rfl (s9_goes hq10) ?_
      refine zr_aload_n (i := 0) d_9_gotIn_26 rfl rfl ?_
      refine zr_gets (i' := 0) d_9_gotIn_27 fw_9_113 rfl ?_
      refine zr_bipush (v := (14 : Int32)) d_9_gotIn_30 rfl ?_
      refine zr_iload_n (i := 1) d_9_gotIn_32 rfl rfl ?_
      refine zr_iadd d_9_gotIn_33 ?_
      obtain ⟨hb11, h⟩ := z_gd h
      refine zr_iald d_9_gotIn_34 sa_149 rfl hb11 ?_
      obtain ⟨rfl, rfl⟩ := Prod.mk.inj (Option.some.inj h)
      exact ze_i d_9_gotIn_35 rfl
def f9_year_L9 (a1 : Int32) (a2 : Int32) (a3 : Int32) : (Int32 × Int32 × zMem) → Option ((Int32 × Int32 × zMem) ⊕ (Int32 × zMem)) := (z_u3 fun x10 x11 xm12 => 
  (if x11 < a3 then (f9_copies xm12).bind (fun qm14 => z_let (z_sI qm14 9 0 50 ((qm14.1 9 0 50) + x11)) fun m16 => (f9_goes a2 m16).bind (fun qm18 => (f9_lordBits a1 qm18).bind (fun q20 => ((if q20 = 0 then some x10 else some (x10 + (1 : Int32))) : Option (Int32)).bind (fun j25 => some (.inl (j25, (x11 + (1 : Int32)), qm18)))))) else some (.inr (x10, xm12))))
def f9_year (a1 : Int32) (a2 : Int32) (a3 : Int32) (μ : zMem) : Option (Int32 × zMem) :=
  (f9_isPerson a1 μ).bind (fun q1 => (if q1 = 0 then some ((-1 : Int32), μ) else (f9_isLong a2).bind (fun q4 => (if q4 = 0 then some ((-1 : Int32), μ) else (if (f9_in a3 (1 : Int32) (20 : Int32)) = 0 then some ((-1 : Int32), μ) else (z_it (f9_year_L9 a1 a2 a3) z_fu ((0 : Int32), (0 : Int32), μ)).bind (z_u2 fun e26 e27 => some (e26, e27)))))))
theorem s9_year_L9 {P : zP} {ro : Option zV} {μo : zMem} (a1 : Int32) (a2 : Int32) (a3 : Int32) (x10 : Int32) (x11 : Int32) (xm12 : zMem) (K : (Int32 × Int32 × zMem) ⊕ (Int32 × zMem)) (h : f9_year_L9 a1 a2 a3 (x10, x11, xm12) = some K) (hI : ∀ (y0 : Int32) (y1 : Int32) (y2 : zMem), K = .inl (y0, y1, y2) → z_RQ P M_9_year (z_rm 10) (z_mq P ro μo) 0 0 33 [some (zA 9 0), some (zI a1), some (zI a2), some (zI a3), some (zI y0), some (zI y1)] [] y2) (hE : ∀ (z0 : Int32) (z1 : zMem), K = .inr (z0, z1) → z_RQ P M_9_year (z_rm 10) (z_mq P ro μo) 0 0 76 [none, none, none, none, some (zI z0), none] [] z1)  : z_RQ P M_9_year (z_rm 10) (z_mq P ro μo) 0 0 33 [some (zA 9 0), some (zI a1), some (zI a2), some (zI a3), some (zI x10), some (zI x11)] [] xm12 := by
  unfold f9_year_L9 at h
  replace h := z_h3 h
  refine zr_iload d_9_year_33 rfl ?_
  refine zr_iload_n (i := 3) d_9_year_35 rfl rfl ?_
  refine zr_icmp_ge (tgt := 76) d_9_year_36 rfl (fun hc13 => ?_) (fun hc13 => ?_)
  · replace h := z_ip h hc13
    refine zr_aload_n (i := 0) d_9_year_39 rfl rfl ?_
    obtain ⟨qm14, hq15, h⟩ := z_bd h
    refine zr_callVv (av := []) (st := []) d_9_year_40 mw_9_copies ml_9_325 im_9_copies se_9_copies rfl rfl (Nat.le_of_ble_eq_true rfl) fit_1_2_10 rfl rfl rfl (s9_copies hq15) ?_
    refine zr_aload_n (i := 0) d_9_year_43 rfl rfl ?_
    refine zr_dupa d_9_year_44 ?_
    refine zr_geti d_9_year_45 fw_9_319 (by decide) ?_
    refine zr_iload d_9_year_48 rfl ?_
    refine zr_iadd d_9_year_50 ?_
    obtain ⟨m16, hm17, h⟩ := z_lt h
    refine zr_puti d_9_year_51 fw_9_319 pw_9_50 hm17 ?_
    refine zr_aload_n (i := 0) d_9_year_54 rfl rfl ?_
    refine zr_iload_n (i := 2) d_9_year_55 rfl rfl ?_
    obtain ⟨qm18, hq19, h⟩ := z_bd h
    refine zr_callVv (av := [zI a2]) (st := []) d_9_year_56 mw_9_goes ml_9_406 im_9_goes se_9_goes rfl rfl (Nat.le_of_ble_eq_true rfl) fit_9_3_10 rfl rfl rfl (s9_goes hq19) ?_
    refine zr_aload_n (i := 0) d_9_year_59 rfl rfl ?_
    refine zr_iload_n (i := 1) d_9_year_60 rfl rfl ?_
    obtain ⟨q20, hq21, h⟩ := z_bd h
    refine zr_callVi (av := [zI a1]) (st := []) d_9_year_61 mw_9_lordBits ml_9_346 im_9_lordBits se_9_lordBits rfl rfl (Nat.le_of_ble_eq_true rfl) fit_4_4_10 rfl rfl rfl (s9_lordBits hq21) ?_
    obtain ⟨j25, hT22, h⟩ := z_bd h
    have hJ23 : z_RQ P M_9_year (z_rm 10) (z_mq P ro μo) 0 0 70 [some (zA 9 0), some (zI a1), some (zI a2), some (zI a3), some (zI j25), some (zI x11)] [] qm18 := by
      refine zr_iinc (v := (x11 + (1 : Int32))) (l' := [some (zA 9 0), some (zI a1), some (zI a2), some (zI a3), some (zI j25), some (zI (x11 + (1 : Int32)))]) d_9_year_70 (by decide) rfl rfl rfl ?_
      refine zr_goto (tgt := 33) d_9_year_73 rfl ?_
      obtain rfl := Option.some.inj h
      exact zr_wk2 (hI j25 (x11 + (1 : Int32)) qm18 rfl) ⟨rfl, ⟨rfl, ⟨rfl, ⟨rfl, ⟨rfl, ⟨rfl, trivial⟩⟩⟩⟩⟩⟩
    refine zr_if_eq (tgt := 70) d_9_year_64 rfl (fun hc24 => ?_) (fun hc24 => ?_)
    · replace hT22 := z_ip hT22 hc24
      obtain rfl := Option.some.inj hT22
      exact zr_wk2 hJ23 ⟨rfl, ⟨rfl, ⟨rfl, ⟨rfl, ⟨rfl, ⟨rfl, trivial⟩⟩⟩⟩⟩⟩
    · replace hT22 := z_im hT22 hc24
      refine zr_iinc (v := (x10 + (1 : Int32))) (l' := [some (zA 9 0), some (zI a1), some (zI a2), some (zI a3), some (zI (x10 + (1 : Int32))), some (zI x11)]) d_9_year_67 (by decide) rfl rfl rfl ?_
      obtain rfl := Option.some.inj hT22
      exact zr_wk2 hJ23 ⟨rfl, ⟨rfl, ⟨rfl, ⟨rfl, ⟨rfl, ⟨rfl, trivial⟩⟩⟩⟩⟩⟩
  · replace h := z_im h hc13
    obtain rfl := Option.some.inj h
    exact zr_wk2 (hE x10 xm12 rfl) ⟨rfl, trivial⟩
theorem s9_year {P : zP} {μ : zMem} {a1 : Int32} {a2 : Int32} {a3 : Int32} {r : Int32} {μ' : zMem} (h : f9_year a1 a2 a3 μ = some (r, μ')) : z_Sp P y_9_year M_9_year 10 [zA 9 0, zI a1, zI a2, zI a3] μ (some (zI r)) μ' := by
  refine z_Sp.of (plainFor_of_name (by decide)) rfl (l0 := [some (zA 9 0), some (zI a1), some (zI a2), some (zI a3), none, none]) rfl (Nat.le_of_ble_eq_true rfl) ?_
  unfold f9_year at h
  refine zr_aload_n (i := 0) d_9_year_0 rfl rfl ?_
  refine zr_iload_n (i := 1) d_9_year_1 rfl rfl ?_
  obtain ⟨q1, hq2, h⟩ := z_bd h
  refine zr_callVi (av := [zI a1]) (st := []) d_9_year_2 mw_9_isPerson ml_9_316 im_9_isPerson se_9_isPerson rfl rfl (Nat.le_of_ble_eq_true rfl) fit_2_2_10 rfl rfl rfl (s9_isPerson hq2) ?_
  refine zr_if_eq (tgt := 25) d_9_year_5 rfl (fun hc3 => ?_) (fun hc3 => ?_)
  · replace h := z_ip h hc3
    refine zr_iconst (v := (-1 : Int32)) d_9_year_25 rfl ?_
    obtain ⟨rfl, rfl⟩ := Prod.mk.inj (Option.some.inj h)
    exact ze_i d_9_year_26 rfl
  · replace h := z_im h hc3
    refine zr_iload_n (i := 2) d_9_year_8 rfl rfl ?_
    obtain ⟨q4, hq5, h⟩ := z_bd h
    refine zr_callSi (av := [zI a2]) (st := []) d_9_year_9 mw_9_isLong ml_9_403 is_9_isLong rfl rfl (Nat.le_of_ble_eq_true rfl) fit_2_1_10 (s9_isLong hq5) ?_
    refine zr_if_eq (tgt := 25) d_9_year_12 rfl (fun hc6 => ?_) (fun hc6 => ?_)
    · replace h := z_ip h hc6
      refine zr_iconst (v := (-1 : Int32)) d_9_year_25 rfl ?_
      obtain ⟨rfl, rfl⟩ := Prod.mk.inj (Option.some.inj h)
      exact ze_i d_9_year_26 rfl
    · replace h := z_im h hc6
      refine zr_iload_n (i := 3) d_9_year_15 rfl rfl ?_
      refine zr_iconst (v := (1 : Int32)) d_9_year_16 rfl ?_
      refine zr_bipush (v := (20 : Int32)) d_9_year_17 rfl ?_
      refine zr_callSi (av := [zI a3, zI (1 : Int32), zI (20 : Int32)]) (st := []) d_9_year_19 mw_9_in ml_9_312 is_9_in rfl rfl (Nat.le_of_ble_eq_true rfl) fit_1_3_10 (s9_in rfl) ?_
      refine zr_if_ne (tgt := 27) d_9_year_22 rfl (fun hc8 => ?_) (fun hc8 => ?_)
      · replace h := z_ip h hc8
        refine zr_iconst (v := (-1 : Int32)) d_9_year_25 rfl ?_
        obtain ⟨rfl, rfl⟩ := Prod.mk.inj (Option.some.inj h)
        exact ze_i d_9_year_26 rfl
      · replace h := z_im h hc8
        refine zr_iconst (v := (0 : Int32)) d_9_year_27 rfl ?_
        refine zr_istore (i := 4) (l' := [some (zA 9 0), some (zI a1), some (zI a2), some (zI a3), some (zI (0 : Int32)), none]) d_9_year_28 (by decide) rfl ?_
        refine zr_iconst (v := (0 : Int32)) d_9_year_30 rfl ?_
        refine zr_istore (i := 5) (l' := [some (zA 9 0), some (zI a1), some (zI a2), some (zI a3), some (zI (0 : Int32)), some (zI (0 : Int32))]) d_9_year_31 (by decide) rfl ?_
        obtain ⟨⟨e26, e27⟩, hl28, h⟩ := z_bd h
        replace h := z_h2 h
        refine zr_wk (l' := [some (zA 9 0), some (zI a1), some (zI a2), some (zI a3), some (zI (0 : Int32)), some (zI (0 : Int32))]) ⟨rfl, ⟨rfl, ⟨rfl, ⟨rfl, ⟨rfl, ⟨rfl, trivial⟩⟩⟩⟩⟩⟩ ?_
        refine z_loop (Hd := (z_u3 fun y0 y1 y2 => z_RQ P M_9_year (z_rm 10) (z_mq P (some (zI r)) μ') 0 0 33 [some (zA 9 0), some (zI a1), some (zI a2), some (zI a3), some (zI y0), some (zI y1)] [] y2)) (Ex := (z_u2 fun z0 z1 => z_RQ P M_9_year (z_rm 10) (z_mq P (some (zI r)) μ') 0 0 76 [none, none, none, none, some (zI z0), none] [] z1)) (fun ⟨x10, x11, xm12⟩ K h hI hE => s9_year_L9 a1 a2 a3 x10 x11 xm12 K h (fun y0 y1 y2 e => hI (y0, y1, y2) e) (fun z0 z1 e => hE (z0, z1) e) ) _ _ _ hl28 ?_
        refine zr_iload d_9_year_76 rfl ?_
        obtain ⟨rfl, rfl⟩ := Prod.mk.inj (Option.some.inj h)
        exact ze_i d_9_year_78 rfl
def f9_tell (a1 : Int32) (a2 : Int32) (μ : zMem) : Option (Int32 × zMem) :=
  (if (μ.1 9 0 58) = (20 : Int32) then some ((-1 : Int32), μ) else (f9_isPerson a1 μ).bind (fun q2 => (if q2 = 0 then some ((-1 : Int32), μ) else (f9_isPerson a2 μ).bind (fun q5 => (if q5 = 0 then some ((-1 : Int32), μ) else (if a1 = a2 then some ((-1 : Int32), μ) else if z_in (μ.1 9 0 58) 20 = true then z_let (z_sI μ 159 0 (μ.1 9 0 58).toNatClampNeg a1) fun m9 => if z_in (m9.1 9 0 58) 20 = true then z_let (z_sI m9 160 0 (m9.1 9 0 58).toNatClampNeg a2) fun m12 => z_let (z_sI m12 9 0 58 ((m12.1 9 0 58) + (1 : Int32))) fun m15 => some (((m15.1 9 0 58) - (1 : Int32)), m15) else none else none))))))
theorem s9_tell {P : zP} {μ : zMem} {a1 : Int32} {a2 : Int32} {r : Int32} {μ' : zMem} (h : f9_tell a1 a2 μ = some (r, μ')) : z_Sp P y_9_tell M_9_tell 3 [zA 9 0, zI a1, zI a2] μ (some (zI r)) μ' := by
  refine z_Sp.of (plainFor_of_name (by decide)) rfl (l0 := [some (zA 9 0), some (zI a1), some (zI a2)]) rfl (Nat.le_of_ble_eq_true rfl) ?_
  unfold f9_tell at h
  refine zr_aload_n (i := 0) d_9_tell_0 rfl rfl ?_
  refine zr_geti d_9_tell_1 fw_9_254 (by decide) ?_
  refine zr_bipush (v := (20 : Int32)) d_9_tell_4 rfl ?_
  refine zr_icmp_eq (tgt := 30) d_9_tell_6 rfl (fun hc1 => ?_) (fun hc1 => ?_)
  · replace h := z_ip h hc1
    refine zr_iconst (v := (-1 : Int32)) d_9_tell_30 rfl ?_
    obtain ⟨rfl, rfl⟩ := Prod.mk.inj (Option.some.inj h)
    exact ze_i d_9_tell_31 rfl
  · replace h := z_im h hc1
    refine zr_aload_n (i := 0) d_9_tell_9 rfl rfl ?_
    refine zr_iload_n (i := 1) d_9_tell_10 rfl rfl ?_
    obtain ⟨q2, hq3, h⟩ := z_bd h
    refine zr_callVi (av := [zI a1]) (st := []) d_9_tell_11 mw_9_isPerson ml_9_316 im_9_isPerson se_9_isPerson rfl rfl (Nat.le_of_ble_eq_true rfl) fit_2_2_3 rfl rfl rfl (s9_isPerson hq3) ?_
    refine zr_if_eq (tgt := 30) d_9_tell_14 rfl (fun hc4 => ?_) (fun hc4 => ?_)
    · replace h := z_ip h hc4
      refine zr_iconst (v := (-1 : Int32)) d_9_tell_30 rfl ?_
      obtain ⟨rfl, rfl⟩ := Prod.mk.inj (Option.some.inj h)
      exact ze_i d_9_tell_31 rfl
    · replace h := z_im h hc4
      refine zr_aload_n (i := 0) d_9_tell_17 rfl rfl ?_
      refine zr_iload_n (i := 2) d_9_tell_18 rfl rfl ?_
      obtain ⟨q5, hq6, h⟩ := z_bd h
      refine zr_callVi (av := [zI a2]) (st := []) d_9_tell_19 mw_9_isPerson ml_9_316 im_9_isPerson se_9_isPerson rfl rfl (Nat.le_of_ble_eq_true rfl) fit_2_2_3 rfl rfl rfl (s9_isPerson hq6) ?_
      refine zr_if_eq (tgt := 30) d_9_tell_22 rfl (fun hc7 => ?_) (fun hc7 => ?_)
      · replace h := z_ip h hc7
        refine zr_iconst (v := (-1 : Int32)) d_9_tell_30 rfl ?_
        obtain ⟨rfl, rfl⟩ := Prod.mk.inj (Option.some.inj h)
        exact ze_i d_9_tell_31 rfl
      · replace h := z_im h hc7
        refine zr_iload_n (i := 1) d_9_tell_25 rfl rfl ?_
        refine zr_iload_n (i := 2) d_9_tell_26 rfl rfl ?_
        refine zr_icmp_ne (tgt := 32) d_9_tell_27 rfl (fun hc8 => ?_) (fun hc8 => ?_)
        · replace h := z_ip h hc8
          refine zr_iconst (v := (-1 : Int32)) d_9_tell_30 rfl ?_
          obtain ⟨rfl, rfl⟩ := Prod.mk.inj (Option.some.inj h)
          exact ze_i d_9_tell_31 rfl
        · replace h := z_im h hc8
          refine zr_aload_n (i := 0) d_9_tell_32 rfl rfl ?_
          refine zr_gets (i' := 0) d_9_tell_33 fw_9_131 rfl ?_
          refine zr_aload_n (i := 0) d_9_tell_36 rfl rfl ?_
          refine zr_geti d_9_tell_37 fw_9_254 (by decide) ?_
          refine zr_iload_n (i := 1) d_9_tell_40 rfl rfl ?_
          obtain ⟨hb11, h⟩ := z_gd h
          obtain ⟨m9, hm10, h⟩ := z_lt h
          refine zr_iast d_9_tell_41 sa_159 rfl hb11 hm10 ?_
          refine zr_aload_n (i := 0) d_9_tell_42 rfl rfl ?_
          refine zr_gets (i' := 0) d_9_tell_43 fw_9_134 rfl ?_
          refine zr_aload_n (i := 0) d_9_tell_46 rfl rfl ?_
          refine zr_geti d_9_tell_47 fw_9_254 (by decide) ?_
          refine zr_iload_n (i := 2) d_9_tell_50 rfl rfl ?_
          obtain ⟨hb14, h⟩ := z_gd h
          obtain ⟨m12, hm13, h⟩ := z_lt h
          refine zr_iast d_9_tell_51 sa_160 rfl hb14 hm13 ?_
          refine zr_aload_n (i := 0) d_9_tell_52 rfl rfl ?_
          refine zr_dupa d_9_tell_53 ?_
          refine zr_geti d_9_tell_54 fw_9_254 (by decide) ?_
          refine zr_iconst (v := (1 : Int32)) d_9_tell_57 rfl ?_
          refine zr_iadd d_9_tell_58 ?_
          obtain ⟨m15, hm16, h⟩ := z_lt h
          refine zr_puti d_9_tell_59 fw_9_254 pw_9_58 hm16 ?_
          refine zr_aload_n (i := 0) d_9_tell_62 rfl rfl ?_
          refine zr_geti d_9_tell_63 fw_9_254 (by decide) ?_
          refine zr_iconst (v := (1 : Int32)) d_9_tell_66 rfl ?_
          refine zr_isub d_9_tell_67 ?_
          obtain ⟨rfl, rfl⟩ := Prod.mk.inj (Option.some.inj h)
          exact ze_i d_9_tell_68 rfl
def f9_forget  (μ : zMem) : Int32 × zMem :=
  z_let (z_sI μ 9 0 58 (0 : Int32)) fun m1 => ((μ.1 9 0 58), m1)
theorem s9_forget {P : zP} {μ : zMem} {r : Int32} {μ' : zMem} (h : f9_forget μ = (r, μ')) : z_Sp P y_9_forget M_9_forget 1 [zA 9 0] μ (some (zI r)) μ' := by
  refine z_Sp.of (plainFor_of_name (by decide)) rfl (l0 := [some (zA 9 0), none]) rfl (Nat.le_of_ble_eq_true rfl) ?_
  unfold f9_forget at h
  refine zr_aload_n (i := 0) d_9_forget_0 rfl rfl ?_
  refine zr_geti d_9_forget_1 fw_9_254 (by decide) ?_
  refine zr_istore_n (i := 1) (l' := [some (zA 9 0), some (zI (μ.1 9 0 58))]) d_9_forget_4 rfl (by decide) rfl ?_
  refine zr_aload_n (i := 0) d_9_forget_5 rfl rfl ?_
  refine zr_iconst (v := (0 : Int32)) d_9_forget_6 rfl ?_
  obtain ⟨m1, hm2, h⟩ := z_lt h
  refine zr_puti d_9_forget_7 fw_9_254 pw_9_58 hm2 ?_
  refine zr_iload_n (i := 1) d_9_forget_10 rfl rfl ?_
  obtain ⟨rfl, rfl⟩ := Prod.mk.inj h
  exact ze_i d_9_forget_11 rfl
def f9_isKnown (a1 : Int32) (μ : zMem) : Option (Int32) :=
  if z_b (f9_in a1 (0 : Int32) (μ.1 9 0 58)) = true then some (f9_in a1 (0 : Int32) (μ.1 9 0 58)) else none
theorem s9_isKnown {P : zP} {μ : zMem} {a1 : Int32} {r : Int32} (h : f9_isKnown a1 μ = some r) : z_Sp P y_9_isKnown M_9_isKnown 2 [zA 9 0, zI a1] μ (some (zI r)) μ := by
  refine z_Sp.of (plainFor_of_name (by decide)) rfl (l0 := [some (zA 9 0), some (zI a1)]) rfl (Nat.le_of_ble_eq_true rfl) ?_
  unfold f9_isKnown at h
  refine zr_iload_n (i := 1) d_9_isKnown_0 rfl rfl ?_
  refine zr_iconst (v := (0 : Int32)) d_9_isKnown_1 rfl ?_
  refine zr_aload_n (i := 0) d_9_isKnown_2 rfl rfl ?_
  refine zr_geti d_9_isKnown_3 fw_9_254 (by decide) ?_
  refine zr_callSi (av := [zI a1, zI (0 : Int32), zI (μ.1 9 0 58)]) (st := []) d_9_isKnown_6 mw_9_in ml_9_312 is_9_in rfl rfl (Nat.le_of_ble_eq_true rfl) fit_1_3_2 (s9_in rfl) ?_
  obtain ⟨hzb, h⟩ := z_gd h
  obtain rfl := Option.some.inj h
  exact ze_z d_9_isKnown_9 rfl (z_b_ok hzb)
def f9_allBits  (μ : zMem) : Option (Int32) :=
  if z_in (μ.1 9 0 18) 2 = true then some (((1 : Int32) <<< ((μ.1 126 0 (μ.1 9 0 18).toNatClampNeg) &&& 31)) - (1 : Int32)) else none
theorem s9_allBits {P : zP} {μ : zMem} {r : Int32} (h : f9_allBits μ = some r) : z_Sp P y_9_allBits M_9_allBits 1 [zA 9 0] μ (some (zI r)) μ := by
  refine z_Sp.of (plainFor_of_name (by decide)) rfl (l0 := [some (zA 9 0)]) rfl (Nat.le_of_ble_eq_true rfl) ?_
  unfold f9_allBits at h
  refine zr_iconst (v := (1 : Int32)) d_9_allBits_0 rfl ?_
  refine zr_aload_n (i := 0) d_9_allBits_1 rfl rfl ?_
  refine zr_gets (i' := 0) d_9_allBits_2 fw_9_55 rfl ?_
  refine zr_aload_n (i := 0) d_9_allBits_5 rfl rfl ?_
  refine zr_geti d_9_allBits_6 fw_9_233 (by decide) ?_
  obtain ⟨hb1, h⟩ := z_gd h
  refine zr_iald d_9_allBits_9 sa_126 rfl hb1 ?_
  refine zr_ishl d_9_allBits_10 ?_
  refine zr_iconst (v := (1 : Int32)) d_9_allBits_11 rfl ?_
  refine zr_isub d_9_allBits_12 ?_
  obtain rfl := Option.some.inj h
  exact ze_i d_9_allBits_13 rfl
def f9_mayGo (a1 : Int32) (a2 : Int32) (μ : zMem) : Option (Int32) :=
  (if ((a2 >>> (a1 &&& 31)) &&& (1 : Int32)) = 0 then if z_in a1 7 = true then (if ((μ.1 161 0 a1.toNatClampNeg) &&& (a2 ^^^ (-1 : Int32))) = 0 then some (1 : Int32) else some (0 : Int32)) else none else some (0 : Int32))
theorem s9_mayGo {P : zP} {μ : zMem} {a1 : Int32} {a2 : Int32} {r : Int32} (h : f9_mayGo a1 a2 μ = some r) : z_Sp P y_9_mayGo M_9_mayGo 1 [zA 9 0, zI a1, zI a2] μ (some (zI r)) μ := by
  refine z_Sp.of (plainFor_of_name (by decide)) rfl (l0 := [some (zA 9 0), some (zI a1), some (zI a2)]) rfl (Nat.le_of_ble_eq_true rfl) ?_
  unfold f9_mayGo at h
  refine zr_iload_n (i := 2) d_9_mayGo_0 rfl rfl ?_
  refine zr_iload_n (i := 1) d_9_mayGo_1 rfl rfl ?_
  refine zr_ishr d_9_mayGo_2 ?_
  refine zr_iconst (v := (1 : Int32)) d_9_mayGo_3 rfl ?_
  refine zr_iand d_9_mayGo_4 ?_
  refine zr_if_ne (tgt := 25) d_9_mayGo_5 rfl (fun hc1 => ?_) (fun hc1 => ?_)
  · replace h := z_ip h hc1
    refine zr_aload_n (i := 0) d_9_mayGo_8 rfl rfl ?_
    refine zr_gets (i' := 0) d_9_mayGo_9 fw_9_137 rfl ?_
    refine zr_iload_n (i := 1) d_9_mayGo_12 rfl rfl ?_
    obtain ⟨hb2, h⟩ := z_gd h
    refine zr_iald d_9_mayGo_13 sa_161 rfl hb2 ?_
    refine zr_iload_n (i := 2) d_9_mayGo_14 rfl rfl ?_
    refine zr_iconst (v := (-1 : Int32)) d_9_mayGo_15 rfl ?_
    refine zr_ixor d_9_mayGo_16 ?_
    refine zr_iand d_9_mayGo_17 ?_
    refine zr_if_ne (tgt := 25) d_9_mayGo_18 rfl (fun hc3 => ?_) (fun hc3 => ?_)
    · replace h := z_ip h hc3
      refine zr_iconst (v := (1 : Int32)) d_9_mayGo_21 rfl ?_
      refine zr_goto (tgt := 26) d_9_mayGo_22 rfl ?_
      obtain rfl := Option.some.inj h
      exact ze_z d_9_mayGo_26 rfl rfl
    · replace h := z_im h hc3
      refine zr_iconst (v := (0 : Int32)) d_9_mayGo_25 rfl ?_
      obtain rfl := Option.some.inj h
      exact ze_z d_9_mayGo_26 rfl rfl
  · replace h := z_im h hc1
    refine zr_iconst (v := (0 : Int32)) d_9_mayGo_25 rfl ?_
    obtain rfl := Option.some.inj h
    exact ze_z d_9_mayGo_26 rfl rfl
def f9_fillsNeeds_L1  : (Int32 × zMem) → Option ((Int32 × zMem) ⊕ (zMem)) := (z_u2 fun x2 xm3 => 
  (if x2 < (7 : Int32) then if z_in x2 7 = true then z_let (z_sI xm3 161 0 x2.toNatClampNeg (0 : Int32)) fun m5 => some (.inl ((x2 + (1 : Int32)), m5)) else none else some (.inr xm3)))
def f9_fillsNeeds_L10 (a1 : Int32) : (Int32 × zMem) → Option ((Int32 × zMem) ⊕ (zMem)) := (z_u2 fun x11 xm12 => 
  (if x11 < a1 then if z_in x11 20 = true then if z_in (xm12.1 160 0 x11.toNatClampNeg) 7 = true then z_let (z_sI xm12 161 0 (xm12.1 160 0 x11.toNatClampNeg).toNatClampNeg ((xm12.1 161 0 (xm12.1 160 0 x11.toNatClampNeg).toNatClampNeg) ||| ((1 : Int32) <<< ((xm12.1 159 0 x11.toNatClampNeg) &&& 31)))) fun m16 => some (.inl ((x11 + (1 : Int32)), m16)) else none else none else some (.inr xm12)))
def f9_fillsNeeds (a1 : Int32) (μ : zMem) : Option (zMem) :=
  (z_it (f9_fillsNeeds_L1) z_fu ((0 : Int32), μ)).bind (fun e8 => (z_it (f9_fillsNeeds_L10 a1) z_fu ((0 : Int32), e8)).bind (fun e18 => some e18))
theorem s9_fillsNeeds_L1 {P : zP} {ro : Option zV} {μo : zMem} (a1 : Int32) (x2 : Int32) (xm3 : zMem) (K : (Int32 × zMem) ⊕ (zMem)) (h : f9_fillsNeeds_L1  (x2, xm3) = some K) (hI : ∀ (y0 : Int32) (y1 : zMem), K = .inl (y0, y1) → z_RQ P M_9_fillsNeeds (z_rm 1) (z_mq P ro μo) 0 0 2 [some (zA 9 0), some (zI a1), some (zI y0)] [] y1) (hE : ∀ (z0 : zMem), K = .inr z0 → z_RQ P M_9_fillsNeeds (z_rm 1) (z_mq P ro μo) 0 0 21 [some (zA 9 0), some (zI a1), none] [] z0)  : z_RQ P M_9_fillsNeeds (z_rm 1) (z_mq P ro μo) 0 0 2 [some (zA 9 0), some (zI a1), some (zI x2)] [] xm3 := by
  unfold f9_fillsNeeds_L1 at h
  replace h := z_h2 h
  refine zr_iload_n (i := 2) d_9_fillsNeeds_2 rfl rfl ?_
  refine zr_bipush (v := (7 : Int32)) d_9_fillsNeeds_3 rfl ?_
  refine zr_icmp_ge (tgt := 21) d_9_fillsNeeds_5 rfl (fun hc4 => ?_) (fun hc4 => ?_)
  · replace h := z_ip h hc4
    refine zr_aload_n (i := 0) d_9_fillsNeeds_8 rfl rfl ?_
    refine zr_gets (i' := 0) d_9_fillsNeeds_9 fw_9_137 rfl ?_
    refine zr_iload_n (i := 2) d_9_fillsNeeds_12 rfl rfl ?_
    refine zr_iconst (v := (0 : Int32)) d_9_fillsNeeds_13 rfl ?_
    obtain ⟨hb7, h⟩ := z_gd h
    obtain ⟨m5, hm6, h⟩ := z_lt h
    refine zr_iast d_9_fillsNeeds_14 sa_161 rfl hb7 hm6 ?_
    refine zr_iinc (v := (x2 + (1 : Int32))) (l' := [some (zA 9 0), some (zI a1), some (zI (x2 + (1 : Int32)))]) d_9_fillsNeeds_15 (by decide) rfl rfl rfl ?_
    refine zr_goto (tgt := 2) d_9_fillsNeeds_18 rfl ?_
    obtain rfl := Option.some.inj h
    exact zr_wk2 (hI (x2 + (1 : Int32)) m5 rfl) ⟨rfl, ⟨rfl, ⟨rfl, trivial⟩⟩⟩
  · replace h := z_im h hc4
    obtain rfl := Option.some.inj h
    exact zr_wk2 (hE xm3 rfl) ⟨rfl, ⟨rfl, trivial⟩⟩
theorem s9_fillsNeeds_L10 {P : zP} {ro : Option zV} {μo : zMem} (a1 : Int32) (x11 : Int32) (xm12 : zMem) (K : (Int32 × zMem) ⊕ (zMem)) (h : f9_fillsNeeds_L10 a1 (x11, xm12) = some K) (hI : ∀ (y0 : Int32) (y1 : zMem), K = .inl (y0, y1) → z_RQ P M_9_fillsNeeds (z_rm 1) (z_mq P ro μo) 0 0 23 [some (zA 9 0), some (zI a1), some (zI y0)] [] y1) (hE : ∀ (z0 : zMem), K = .inr z0 → z_RQ P M_9_fillsNeeds (z_rm 1) (z_mq P ro μo) 0 0 56 [none, none, none] [] z0)  : z_RQ P M_9_fillsNeeds (z_rm 1) (z_mq P ro μo) 0 0 23 [some (zA 9 0), some (zI a1), some (zI x11)] [] xm12 := by
  unfold f9_fillsNeeds_L10 at h
  replace h := z_h2 h
  refine zr_iload_n (i := 2) d_9_fillsNeeds_23 rfl rfl ?_
  refine zr_iload_n (i := 1) d_9_fillsNeeds_24 rfl rfl ?_
  refine zr_icmp_ge (tgt := 56) d_9_fillsNeeds_25 rfl (fun hc13 => ?_) (fun hc13 => ?_)
  · replace h := z_ip h hc13
    refine zr_aload_n (i := 0) d_9_fillsNeeds_28 rfl rfl ?_
    refine zr_gets (i' := 0) d_9_fillsNeeds_29 fw_9_137 rfl ?_
    refine zr_aload_n (i := 0) d_9_fillsNeeds_32 rfl rfl ?_
    refine zr_gets (i' := 0) d_9_fillsNeeds_33 fw_9_134 rfl ?_
    refine zr_iload_n (i := 2) d_9_fillsNeeds_36 rfl rfl ?_
    obtain ⟨hb14, h⟩ := z_gd h
    refine zr_iald d_9_fillsNeeds_37 sa_160 rfl hb14 ?_
    refine zr_dup2 d_9_fillsNeeds_38 ?_
    obtain ⟨hb15, h⟩ := z_gd h
    refine zr_iald d_9_fillsNeeds_39 sa_161 rfl hb15 ?_
    refine zr_iconst (v := (1 : Int32)) d_9_fillsNeeds_40 rfl ?_
    refine zr_aload_n (i := 0) d_9_fillsNeeds_41 rfl rfl ?_
    refine zr_gets (i' := 0) d_9_fillsNeeds_42 fw_9_131 rfl ?_
    refine zr_iload_n (i := 2) d_9_fillsNeeds_45 rfl rfl ?_
    refine zr_iald d_9_fillsNeeds_46 sa_159 rfl hb14 ?_
    refine zr_ishl d_9_fillsNeeds_47 ?_
    refine zr_ior d_9_fillsNeeds_48 ?_
    obtain ⟨m16, hm17, h⟩ := z_lt h
    refine zr_iast d_9_fillsNeeds_49 sa_161 rfl hb15 hm17 ?_
    refine zr_iinc (v := (x11 + (1 : Int32))) (l' := [some (zA 9 0), some (zI a1), some (zI (x11 + (1 : Int32)))]) d_9_fillsNeeds_50 (by decide) rfl rfl rfl ?_
    refine zr_goto (tgt := 23) d_9_fillsNeeds_53 rfl ?_
    obtain rfl := Option.some.inj h
    exact zr_wk2 (hI (x11 + (1 : Int32)) m16 rfl) ⟨rfl, ⟨rfl, ⟨rfl, trivial⟩⟩⟩
  · replace h := z_im h hc13
    obtain rfl := Option.some.inj h
    exact zr_wk2 (hE xm12 rfl) trivial
theorem s9_fillsNeeds {P : zP} {μ : zMem} {a1 : Int32} {μ' : zMem} (h : f9_fillsNeeds a1 μ = some μ') : z_Sp P y_9_fillsNeeds M_9_fillsNeeds 1 [zA 9 0, zI a1] μ none μ' := by
  refine z_Sp.of (plainFor_of_name (by decide)) rfl (l0 := [some (zA 9 0), some (zI a1), none]) rfl (Nat.le_of_ble_eq_true rfl) ?_
  unfold f9_fillsNeeds at h
  refine zr_iconst (v := (0 : Int32)) d_9_fillsNeeds_0 rfl ?_
  refine zr_istore_n (i := 2) (l' := [some (zA 9 0), some (zI a1), some (zI (0 : Int32))]) d_9_fillsNeeds_1 rfl (by decide) rfl ?_
  obtain ⟨e8, hl9, h⟩ := z_bd h
  refine zr_wk (l' := [some (zA 9 0), some (zI a1), some (zI (0 : Int32))]) ⟨rfl, ⟨rfl, ⟨rfl, trivial⟩⟩⟩ ?_
  refine z_loop (Hd := (z_u2 fun y0 y1 => z_RQ P M_9_fillsNeeds (z_rm 1) (z_mq P none μ') 0 0 2 [some (zA 9 0), some (zI a1), some (zI y0)] [] y1)) (Ex := (fun z0 => z_RQ P M_9_fillsNeeds (z_rm 1) (z_mq P none μ') 0 0 21 [some (zA 9 0), some (zI a1), none] [] z0)) (fun ⟨x2, xm3⟩ K h hI hE => s9_fillsNeeds_L1 a1 x2 xm3 K h (fun y0 y1 e => hI (y0, y1) e) (fun z0 e => hE z0 e) ) _ _ _ hl9 ?_
  refine zr_iconst (v := (0 : Int32)) d_9_fillsNeeds_21 rfl ?_
  refine zr_istore_n (i := 2) (l' := [some (zA 9 0), some (zI a1), some (zI (0 : Int32))]) d_9_fillsNeeds_22 rfl (by decide) rfl ?_
  obtain ⟨e18, hl19, h⟩ := z_bd h
  refine zr_wk (l' := [some (zA 9 0), some (zI a1), some (zI (0 : Int32))]) ⟨rfl, ⟨rfl, ⟨rfl, trivial⟩⟩⟩ ?_
  refine z_loop (Hd := (z_u2 fun y0 y1 => z_RQ P M_9_fillsNeeds (z_rm 1) (z_mq P none μ') 0 0 23 [some (zA 9 0), some (zI a1), some (zI y0)] [] y1)) (Ex := (fun z0 => z_RQ P M_9_fillsNeeds (z_rm 1) (z_mq P none μ') 0 0 56 [none, none, none] [] z0)) (fun ⟨x11, xm12⟩ K h hI hE => s9_fillsNeeds_L10 a1 x11 xm12 K h (fun y0 y1 e => hI (y0, y1) e) (fun z0 e => hE z0 e) ) _ _ _ hl19 ?_
  obtain rfl := Option.some.inj h
  exact ze_v d_9_fillsNeeds_56 rfl
def f9_counts_L14 (x4 : Int32) : (Int32 × zMem) → Option ((Int32 × zMem) ⊕ (zMem)) := (z_u2 fun x15 xm16 => 
  if z_in (xm16.1 9 0 18) 2 = true then (if x15 < (xm16.1 126 0 (xm16.1 9 0 18).toNatClampNeg) then z_let (x4 &&& (((1 : Int32) <<< (x15 &&& 31)) ^^^ (-1 : Int32))) fun v19 => ((if v19 = x4 then some xm16 else (f9_mayGo x15 v19 xm16).bind (fun q24 => (if q24 = 0 then some xm16 else if z_in x4 128 = true then if z_in v19 128 = true then z_let (z_sI xm16 162 0 x4.toNatClampNeg ((xm16.1 162 0 x4.toNatClampNeg) + (xm16.1 162 0 v19.toNatClampNeg))) fun m29 => some m29 else none else none))) : Option (zMem)).bind (fun jm31 => some (.inl ((x15 + (1 : Int32)), jm31))) else some (.inr xm16)) else none)
def f9_counts_L3 (q1 : Int32) : (Int32 × zMem) → Option ((Int32 × zMem) ⊕ (zMem)) := (z_u2 fun x4 xm5 => 
  (if q1 < x4 then some (.inr xm5) else ((if x4 = 0 then some (1 : Int32) else some (0 : Int32)) : Option (Int32)).bind (fun j10 => if z_in x4 128 = true then z_let (z_sI xm5 162 0 x4.toNatClampNeg j10) fun m11 => (z_it (f9_counts_L14 x4) z_fu ((0 : Int32), m11)).bind (fun e32 => some (.inl ((x4 + (1 : Int32)), e32))) else none)))
def f9_counts_L47 (x37 : Int32) : (Int32 × zMem) → Option ((Int32 × zMem) ⊕ (zMem)) := (z_u2 fun x48 xm49 => 
  if z_in (xm49.1 9 0 18) 2 = true then (if x48 < (xm49.1 126 0 (xm49.1 9 0 18).toNatClampNeg) then (f9_mayGo x48 x37 xm49).bind (fun q52 => ((if q52 = 0 then some xm49 else if z_in x37 128 = true then if z_in (x37 ||| ((1 : Int32) <<< (x48 &&& 31))) 128 = true then z_let (z_sI xm49 163 0 x37.toNatClampNeg ((xm49.1 163 0 x37.toNatClampNeg) + (xm49.1 163 0 (x37 ||| ((1 : Int32) <<< (x48 &&& 31))).toNatClampNeg))) fun m59 => some m59 else none else none) : Option (zMem)).bind (fun jm61 => some (.inl ((x48 + (1 : Int32)), jm61)))) else some (.inr xm49)) else none)
def f9_counts_L36 (q1 : Int32) : (Int32 × zMem) → Option ((Int32 × zMem) ⊕ (zMem)) := (z_u2 fun x37 xm38 => 
  (if x37 < 0 then some (.inr xm38) else ((if x37 = q1 then some (1 : Int32) else some (0 : Int32)) : Option (Int32)).bind (fun j43 => if z_in x37 128 = true then z_let (z_sI xm38 163 0 x37.toNatClampNeg j43) fun m44 => (z_it (f9_counts_L47 x37) z_fu ((0 : Int32), m44)).bind (fun e62 => some (.inl ((x37 + (-1 : Int32)), e62))) else none)))
def f9_counts  (μ : zMem) : Option (Int32 × zMem) :=
  (f9_allBits μ).bind (fun q1 => (z_it (f9_counts_L3 q1) z_fu ((0 : Int32), μ)).bind (fun e34 => (z_it (f9_counts_L36 q1) z_fu (q1, e34)).bind (fun e64 => some ((e64.1 163 0 (0 : Int32).toNatClampNeg), e64))))
theorem s9_counts_L14 {P : zP} {ro : Option zV} {μo : zMem} (q1 : Int32) (x4 : Int32) (x15 : Int32) (xm16 : zMem) (K : (Int32 × zMem) ⊕ (zMem)) (h : f9_counts_L14 x4 (x15, xm16) = some K) (hI : ∀ (y0 : Int32) (y1 : zMem), K = .inl (y0, y1) → z_RQ P M_9_counts (z_rm 2) (z_mq P ro μo) 0 0 29 [some (zA 9 0), some (zI q1), some (zI x4), some (zI y0), none] [] y1) (hE : ∀ (z0 : zMem), K = .inr z0 → z_RQ P M_9_counts (z_rm 2) (z_mq P ro μo) 0 0 89 [some (zA 9 0), some (zI q1), some (zI x4), none, none] [] z0)  : z_RQ P M_9_counts (z_rm 2) (z_mq P ro μo) 0 0 29 [some (zA 9 0), some (zI q1), some (zI x4), some (zI x15), none] [] xm16 := by
  unfold f9_counts_L14 at h
  replace h := z_h2 h
  refine zr_iload_n (i := 3) d_9_counts_29 rfl rfl ?_
  refine zr_aload_n (i := 0) d_9_counts_30 rfl rfl ?_
  refine zr_gets (i' := 0) d_9_counts_31 fw_9_55 rfl ?_
  refine zr_aload_n (i := 0) d_9_counts_34 rfl rfl ?_
  refine zr_geti d_9_counts_35 fw_9_233 (by decide) ?_
  obtain ⟨hb17, h⟩ := z_gd h
  refine zr_iald d_9_counts_38 sa_126 rfl hb17 ?_
  refine zr_icmp_ge (tgt := 89) d_9_counts_39 rfl (fun hc18 => ?_) (fun hc18 => ?_)
  · replace h := z_ip h hc18
    refine zr_iload_n (i := 2) d_9_counts_42 rfl rfl ?_
    refine zr_iconst (v := (1 : Int32)) d_9_counts_43 rfl ?_
    refine zr_iload_n (i := 3) d_9_counts_44 rfl rfl ?_
    refine zr_ishl d_9_counts_45 ?_
    refine zr_iconst (v := (-1 : Int32)) d_9_counts_46 rfl ?_
    refine zr_ixor d_9_counts_47 ?_
    refine zr_iand d_9_counts_48 ?_
    obtain ⟨v19, hv20, h⟩ := z_lt h
    refine zr_nm hv20 ?_
    refine zr_istore (i := 4) (l' := [some (zA 9 0), some (zI q1), some (zI x4), some (zI x15), some (zI v19)]) d_9_counts_49 (by decide) rfl ?_
    refine zr_iload d_9_counts_51 rfl ?_
    refine zr_iload_n (i := 2) d_9_counts_53 rfl rfl ?_
    obtain ⟨jm31, hT21, h⟩ := z_bd h
    have hJ22 : z_RQ P M_9_counts (z_rm 2) (z_mq P ro μo) 0 0 83 [some (zA 9 0), some (zI q1), some (zI x4), some (zI x15), none] [] jm31 := by
      refine zr_iinc (v := (x15 + (1 : Int32))) (l' := [some (zA 9 0), some (zI q1), some (zI x4), some (zI (x15 + (1 : Int32))), none]) d_9_counts_83 (by decide) rfl rfl rfl ?_
      refine zr_goto (tgt := 29) d_9_counts_86 rfl ?_
      obtain rfl := Option.some.inj h
      exact zr_wk2 (hI (x15 + (1 : Int32)) jm31 rfl) ⟨rfl, ⟨rfl, ⟨rfl, ⟨rfl, trivial⟩⟩⟩⟩
    refine zr_icmp_eq (tgt := 83) d_9_counts_54 rfl (fun hc23 => ?_) (fun hc23 => ?_)
    · replace hT21 := z_ip hT21 hc23
      obtain rfl := Option.some.inj hT21
      exact zr_wk2 hJ22 ⟨rfl, ⟨rfl, ⟨rfl, ⟨rfl, trivial⟩⟩⟩⟩
    · replace hT21 := z_im hT21 hc23
      refine zr_aload_n (i := 0) d_9_counts_57 rfl rfl ?_
      refine zr_iload_n (i := 3) d_9_counts_58 rfl rfl ?_
      refine zr_iload d_9_counts_59 rfl ?_
      obtain ⟨q24, hq25, hT21⟩ := z_bd hT21
      refine zr_callVi (av := [zI x15, zI v19]) (st := []) d_9_counts_61 mw_9_mayGo ml_9_459 im_9_mayGo se_9_mayGo rfl rfl (Nat.le_of_ble_eq_true rfl) fit_1_3_2 rfl rfl rfl (s9_mayGo hq25) ?_
      refine zr_if_eq (tgt := 83) d_9_counts_64 rfl (fun hc26 => ?_) (fun hc26 => ?_)
      · replace hT21 := z_ip hT21 hc26
        obtain rfl := Option.some.inj hT21
        exact zr_wk2 hJ22 ⟨rfl, ⟨rfl, ⟨rfl, ⟨rfl, trivial⟩⟩⟩⟩
      · replace hT21 := z_im hT21 hc26
        refine zr_aload_n (i := 0) d_9_counts_67 rfl rfl ?_
        refine zr_gets (i' := 0) d_9_counts_68 fw_9_140 rfl ?_
        refine zr_iload_n (i := 2) d_9_counts_71 rfl rfl ?_
        refine zr_dup2 d_9_counts_72 ?_
        obtain ⟨hb27, hT21⟩ := z_gd hT21
        refine zr_iald d_9_counts_73 sa_162 rfl hb27 ?_
        refine zr_aload_n (i := 0) d_9_counts_74 rfl rfl ?_
        refine zr_gets (i' := 0) d_9_counts_75 fw_9_140 rfl ?_
        refine zr_iload d_9_counts_78 rfl ?_
        obtain ⟨hb28, hT21⟩ := z_gd hT21
        refine zr_iald d_9_counts_80 sa_162 rfl hb28 ?_
        refine zr_iadd d_9_counts_81 ?_
        obtain ⟨m29, hm30, hT21⟩ := z_lt hT21
        refine zr_iast d_9_counts_82 sa_162 rfl hb27 hm30 ?_
        obtain rfl := Option.some.inj hT21
        exact zr_wk2 hJ22 ⟨rfl, ⟨rfl, ⟨rfl, ⟨rfl, trivial⟩⟩⟩⟩
  · replace h := z_im h hc18
    obtain rfl := Option.some.inj h
    exact zr_wk2 (hE xm16 rfl) ⟨rfl, ⟨rfl, ⟨rfl, trivial⟩⟩⟩
theorem s9_counts_L3 {P : zP} {ro : Option zV} {μo : zMem} (q1 : Int32) (x4 : Int32) (xm5 : zMem) (K : (Int32 × zMem) ⊕ (zMem)) (h : f9_counts_L3 q1 (x4, xm5) = some K) (hI : ∀ (y0 : Int32) (y1 : zMem), K = .inl (y0, y1) → z_RQ P M_9_counts (z_rm 2) (z_mq P ro μo) 0 0 7 [some (zA 9 0), some (zI q1), some (zI y0), none, none] [] y1) (hE : ∀ (z0 : zMem), K = .inr z0 → z_RQ P M_9_counts (z_rm 2) (z_mq P ro μo) 0 0 95 [some (zA 9 0), some (zI q1), none, none, none] [] z0)  : z_RQ P M_9_counts (z_rm 2) (z_mq P ro μo) 0 0 7 [some (zA 9 0), some (zI q1), some (zI x4), none, none] [] xm5 := by
  unfold f9_counts_L3 at h
  replace h := z_h2 h
  refine zr_iload_n (i := 2) d_9_counts_7 rfl rfl ?_
  refine zr_iload_n (i := 1) d_9_counts_8 rfl rfl ?_
  refine zr_icmp_gt (tgt := 95) d_9_counts_9 rfl (fun hc6 => ?_) (fun hc6 => ?_)
  · replace h := z_ip h hc6
    obtain rfl := Option.some.inj h
    exact zr_wk2 (hE xm5 rfl) ⟨rfl, ⟨rfl, trivial⟩⟩
  · replace h := z_im h hc6
    refine zr_aload_n (i := 0) d_9_counts_12 rfl rfl ?_
    refine zr_gets (i' := 0) d_9_counts_13 fw_9_140 rfl ?_
    refine zr_iload_n (i := 2) d_9_counts_16 rfl rfl ?_
    refine zr_iload_n (i := 2) d_9_counts_17 rfl rfl ?_
    obtain ⟨j10, hT7, h⟩ := z_bd h
    have hJ8 : z_RQ P M_9_counts (z_rm 2) (z_mq P ro μo) 0 0 26 [some (zA 9 0), some (zI q1), some (zI x4), none, none] [zI j10, zI x4, zA 162 0] xm5 := by
      obtain ⟨hb13, h⟩ := z_gd h
      obtain ⟨m11, hm12, h⟩ := z_lt h
      refine zr_iast d_9_counts_26 sa_162 rfl hb13 hm12 ?_
      refine zr_iconst (v := (0 : Int32)) d_9_counts_27 rfl ?_
      refine zr_istore_n (i := 3) (l' := [some (zA 9 0), some (zI q1), some (zI x4), some (zI (0 : Int32)), none]) d_9_counts_28 rfl (by decide) rfl ?_
      obtain ⟨e32, hl33, h⟩ := z_bd h
      refine zr_wk (l' := [some (zA 9 0), some (zI q1), some (zI x4), some (zI (0 : Int32)), none]) ⟨rfl, ⟨rfl, ⟨rfl, ⟨rfl, trivial⟩⟩⟩⟩ ?_
      refine z_loop (Hd := (z_u2 fun y0 y1 => z_RQ P M_9_counts (z_rm 2) (z_mq P ro μo) 0 0 29 [some (zA 9 0), some (zI q1), some (zI x4), some (zI y0), none] [] y1)) (Ex := (fun z0 => z_RQ P M_9_counts (z_rm 2) (z_mq P ro μo) 0 0 89 [some (zA 9 0), some (zI q1), some (zI x4), none, none] [] z0)) (fun ⟨x15, xm16⟩ K h hI hE => s9_counts_L14 q1 x4 x15 xm16 K h (fun y0 y1 e => hI (y0, y1) e) (fun z0 e => hE z0 e) ) _ _ _ hl33 ?_
      refine zr_iinc (v := (x4 + (1 : Int32))) (l' := [some (zA 9 0), some (zI q1), some (zI (x4 + (1 : Int32))), none, none]) d_9_counts_89 (by decide) rfl rfl rfl ?_
      refine zr_goto (tgt := 7) d_9_counts_92 rfl ?_
      obtain rfl := Option.some.inj h
      exact zr_wk2 (hI (x4 + (1 : Int32)) e32 rfl) ⟨rfl, ⟨rfl, ⟨rfl, trivial⟩⟩⟩
    refine zr_if_ne (tgt := 25) d_9_counts_18 rfl (fun hc9 => ?_) (fun hc9 => ?_)
    · replace hT7 := z_ip hT7 hc9
      refine zr_iconst (v := (1 : Int32)) d_9_counts_21 rfl ?_
      refine zr_goto (tgt := 26) d_9_counts_22 rfl ?_
      obtain rfl := Option.some.inj hT7
      exact zr_wk2 hJ8 ⟨rfl, ⟨rfl, ⟨rfl, trivial⟩⟩⟩
    · replace hT7 := z_im hT7 hc9
      refine zr_iconst (v := (0 : Int32)) d_9_counts_25 rfl ?_
      obtain rfl := Option.some.inj hT7
      exact zr_wk2 hJ8 ⟨rfl, ⟨rfl, ⟨rfl, trivial⟩⟩⟩
theorem s9_counts_L47 {P : zP} {ro : Option zV} {μo : zMem} (q1 : Int32) (x37 : Int32) (x48 : Int32) (xm49 : zMem) (K : (Int32 × zMem) ⊕ (zMem)) (h : f9_counts_L47 x37 (x48, xm49) = some K) (hI : ∀ (y0 : Int32) (y1 : zMem), K = .inl (y0, y1) → z_RQ P M_9_counts (z_rm 2) (z_mq P ro μo) 0 0 119 [some (zA 9 0), some (zI q1), some (zI x37), some (zI y0), none] [] y1) (hE : ∀ (z0 : zMem), K = .inr z0 → z_RQ P M_9_counts (z_rm 2) (z_mq P ro μo) 0 0 166 [some (zA 9 0), some (zI q1), some (zI x37), none, none] [] z0)  : z_RQ P M_9_counts (z_rm 2) (z_mq P ro μo) 0 0 119 [some (zA 9 0), some (zI q1), some (zI x37), some (zI x48), none] [] xm49 := by
  unfold f9_counts_L47 at h
  replace h := z_h2 h
  refine zr_iload_n (i := 3) d_9_counts_119 rfl rfl ?_
  refine zr_aload_n (i := 0) d_9_counts_120 rfl rfl ?_
  refine zr_gets (i' := 0) d_9_counts_121 fw_9_55 rfl ?_
  refine zr_aload_n (i := 0) d_9_counts_124 rfl rfl ?_
  refine zr_geti d_9_counts_125 fw_9_233 (by decide) ?_
  obtain ⟨hb50, h⟩ := z_gd h
  refine zr_iald d_9_counts_128 sa_126 rfl hb50 ?_
  refine zr_icmp_ge (tgt := 166) d_9_counts_129 rfl (fun hc51 => ?_) (fun hc51 => ?_)
  · replace h := z_ip h hc51
    refine zr_aload_n (i := 0) d_9_counts_132 rfl rfl ?_
    refine zr_iload_n (i := 3) d_9_counts_133 rfl rfl ?_
    refine zr_iload_n (i := 2) d_9_counts_134 rfl rfl ?_
    obtain ⟨q52, hq53, h⟩ := z_bd h
    refine zr_callVi (av := [zI x48, zI x37]) (st := []) d_9_counts_135 mw_9_mayGo ml_9_459 im_9_mayGo se_9_mayGo rfl rfl (Nat.le_of_ble_eq_true rfl) fit_1_3_2 rfl rfl rfl (s9_mayGo hq53) ?_
    obtain ⟨jm61, hT54, h⟩ := z_bd h
    have hJ55 : z_RQ P M_9_counts (z_rm 2) (z_mq P ro μo) 0 0 160 [some (zA 9 0), some (zI q1), some (zI x37), some (zI x48), none] [] jm61 := by
      refine zr_iinc (v := (x48 + (1 : Int32))) (l' := [some (zA 9 0), some (zI q1), some (zI x37), some (zI (x48 + (1 : Int32))), none]) d_9_counts_160 (by decide) rfl rfl rfl ?_
      refine zr_goto (tgt := 119) d_9_counts_163 rfl ?_
      obtain rfl := Option.some.inj h
      exact zr_wk2 (hI (x48 + (1 : Int32)) jm61 rfl) ⟨rfl, ⟨rfl, ⟨rfl, ⟨rfl, trivial⟩⟩⟩⟩
    refine zr_if_eq (tgt := 160) d_9_counts_138 rfl (fun hc56 => ?_) (fun hc56 => ?_)
    · replace hT54 := z_ip hT54 hc56
      obtain rfl := Option.some.inj hT54
      exact zr_wk2 hJ55 ⟨rfl, ⟨rfl, ⟨rfl, ⟨rfl, trivial⟩⟩⟩⟩
    · replace hT54 := z_im hT54 hc56
      refine zr_aload_n (i := 0) d_9_counts_141 rfl rfl ?_
      refine zr_gets (i' := 0) d_9_counts_142 fw_9_143 rfl ?_
      refine zr_iload_n (i := 2) d_9_counts_145 rfl rfl ?_
      refine zr_dup2 d_9_counts_146 ?_
      obtain ⟨hb57, hT54⟩ := z_gd hT54
      refine zr_iald d_9_counts_147 sa_163 rfl hb57 ?_
      refine zr_aload_n (i := 0) d_9_counts_148 rfl rfl ?_
      refine zr_gets (i' := 0) d_9_counts_149 fw_9_143 rfl ?_
      refine zr_iload_n (i := 2) d_9_counts_152 rfl rfl ?_
      refine zr_iconst (v := (1 : Int32)) d_9_counts_153 rfl ?_
      refine zr_iload_n (i := 3) d_9_counts_154 rfl rfl ?_
      refine zr_ishl d_9_counts_155 ?_
      refine zr_ior d_9_counts_156 ?_
      obtain ⟨hb58, hT54⟩ := z_gd hT54
      refine zr_iald d_9_counts_157 sa_163 rfl hb58 ?_
      refine zr_iadd d_9_counts_158 ?_
      obtain ⟨m59, hm60, hT54⟩ := z_lt hT54
      refine zr_iast d_9_counts_159 sa_163 rfl hb57 hm60 ?_
      obtain rfl := Option.some.inj hT54
      exact zr_wk2 hJ55 ⟨rfl, ⟨rfl, ⟨rfl, ⟨rfl, trivial⟩⟩⟩⟩
  · replace h := z_im h hc51
    obtain rfl := Option.some.inj h
    exact zr_wk2 (hE xm49 rfl) ⟨rfl, ⟨rfl, ⟨rfl, trivial⟩⟩⟩
theorem s9_counts_L36 {P : zP} {ro : Option zV} {μo : zMem} (q1 : Int32) (x37 : Int32) (xm38 : zMem) (K : (Int32 × zMem) ⊕ (zMem)) (h : f9_counts_L36 q1 (x37, xm38) = some K) (hI : ∀ (y0 : Int32) (y1 : zMem), K = .inl (y0, y1) → z_RQ P M_9_counts (z_rm 2) (z_mq P ro μo) 0 0 97 [some (zA 9 0), some (zI q1), some (zI y0), none, none] [] y1) (hE : ∀ (z0 : zMem), K = .inr z0 → z_RQ P M_9_counts (z_rm 2) (z_mq P ro μo) 0 0 172 [some (zA 9 0), none, none, none, none] [] z0)  : z_RQ P M_9_counts (z_rm 2) (z_mq P ro μo) 0 0 97 [some (zA 9 0), some (zI q1), some (zI x37), none, none] [] xm38 := by
  unfold f9_counts_L36 at h
  replace h := z_h2 h
  refine zr_iload_n (i := 2) d_9_counts_97 rfl rfl ?_
  refine zr_if_lt (tgt := 172) d_9_counts_98 rfl (fun hc39 => ?_) (fun hc39 => ?_)
  · replace h := z_ip h hc39
    obtain rfl := Option.some.inj h
    exact zr_wk2 (hE xm38 rfl) ⟨rfl, trivial⟩
  · replace h := z_im h hc39
    refine zr_aload_n (i := 0) d_9_counts_101 rfl rfl ?_
    refine zr_gets (i' := 0) d_9_counts_102 fw_9_143 rfl ?_
    refine zr_iload_n (i := 2) d_9_counts_105 rfl rfl ?_
    refine zr_iload_n (i := 2) d_9_counts_106 rfl rfl ?_
    refine zr_iload_n (i := 1) d_9_counts_107 rfl rfl ?_
    obtain ⟨j43, hT40, h⟩ := z_bd h
    have hJ41 : z_RQ P M_9_counts (z_rm 2) (z_mq P ro μo) 0 0 116 [some (zA 9 0), some (zI q1), some (zI x37), none, none] [zI j43, zI x37, zA 163 0] xm38 := by
      obtain ⟨hb46, h⟩ := z_gd h
      obtain ⟨m44, hm45, h⟩ := z_lt h
      refine zr_iast d_9_counts_116 sa_163 rfl hb46 hm45 ?_
      refine zr_iconst (v := (0 : Int32)) d_9_counts_117 rfl ?_
      refine zr_istore_n (i := 3) (l' := [some (zA 9 0), some (zI q1), some (zI x37), some (zI (0 : Int32)), none]) d_9_counts_118 rfl (by decide) rfl ?_
      obtain ⟨e62, hl63, h⟩ := z_bd h
      refine zr_wk (l' := [some (zA 9 0), some (zI q1), some (zI x37), some (zI (0 : Int32)), none]) ⟨rfl, ⟨rfl, ⟨rfl, ⟨rfl, trivial⟩⟩⟩⟩ ?_
      refine z_loop (Hd := (z_u2 fun y0 y1 => z_RQ P M_9_counts (z_rm 2) (z_mq P ro μo) 0 0 119 [some (zA 9 0), some (zI q1), some (zI x37), some (zI y0), none] [] y1)) (Ex := (fun z0 => z_RQ P M_9_counts (z_rm 2) (z_mq P ro μo) 0 0 166 [some (zA 9 0), some (zI q1), some (zI x37), none, none] [] z0)) (fun ⟨x48, xm49⟩ K h hI hE => s9_counts_L47 q1 x37 x48 xm49 K h (fun y0 y1 e => hI (y0, y1) e) (fun z0 e => hE z0 e) ) _ _ _ hl63 ?_
      refine zr_iinc (v := (x37 + (-1 : Int32))) (l' := [some (zA 9 0), some (zI q1), some (zI (x37 + (-1 : Int32))), none, none]) d_9_counts_166 (by decide) rfl (z_neg_1 _) rfl ?_
      refine zr_goto (tgt := 97) d_9_counts_169 rfl ?_
      obtain rfl := Option.some.inj h
      exact zr_wk2 (hI (x37 + (-1 : Int32)) e62 rfl) ⟨rfl, ⟨rfl, ⟨rfl, trivial⟩⟩⟩
    refine zr_icmp_ne (tgt := 115) d_9_counts_108 rfl (fun hc42 => ?_) (fun hc42 => ?_)
    · replace hT40 := z_ip hT40 hc42
      refine zr_iconst (v := (1 : Int32)) d_9_counts_111 rfl ?_
      refine zr_goto (tgt := 116) d_9_counts_112 rfl ?_
      obtain rfl := Option.some.inj hT40
      exact zr_wk2 hJ41 ⟨rfl, ⟨rfl, ⟨rfl, trivial⟩⟩⟩
    · replace hT40 := z_im hT40 hc42
      refine zr_iconst (v := (0 : Int32)) d_9_counts_115 rfl ?_
      obtain rfl := Option.some.inj hT40
      exact zr_wk2 hJ41 ⟨rfl, ⟨rfl, ⟨rfl, trivial⟩⟩⟩
theorem s9_counts {P : zP} {μ : zMem} {r : Int32} {μ' : zMem} (h : f9_counts μ = some (r, μ')) : z_Sp P y_9_counts M_9_counts 2 [zA 9 0] μ (some (zI r)) μ' := by
  refine z_Sp.of (plainFor_of_name (by decide)) rfl (l0 := [some (zA 9 0), none, none, none, none]) rfl (Nat.le_of_ble_eq_true rfl) ?_
  unfold f9_counts at h
  refine zr_aload_n (i := 0) d_9_counts_0 rfl rfl ?_
  obtain ⟨q1, hq2, h⟩ := z_bd h
  refine zr_callVi (av := []) (st := []) d_9_counts_1 mw_9_allBits ml_9_456 im_9_allBits se_9_allBits rfl rfl (Nat.le_of_ble_eq_true rfl) fit_1_1_2 rfl rfl rfl (s9_allBits hq2) ?_
  refine zr_istore_n (i := 1) (l' := [some (zA 9 0), some (zI q1), none, none, none]) d_9_counts_4 rfl (by decide) rfl ?_
  refine zr_iconst (v := (0 : Int32)) d_9_counts_5 rfl ?_
  refine zr_istore_n (i := 2) (l' := [some (zA 9 0), some (zI q1), some (zI (0 : Int32)), none, none]) d_9_counts_6 rfl (by decide) rfl ?_
  obtain ⟨e34, hl35, h⟩ := z_bd h
  refine zr_wk (l' := [some (zA 9 0), some (zI q1), some (zI (0 : Int32)), none, none]) ⟨rfl, ⟨rfl, ⟨rfl, trivial⟩⟩⟩ ?_
  refine z_loop (Hd := (z_u2 fun y0 y1 => z_RQ P M_9_counts (z_rm 2) (z_mq P (some (zI r)) μ') 0 0 7 [some (zA 9 0), some (zI q1), some (zI y0), none, none] [] y1)) (Ex := (fun z0 => z_RQ P M_9_counts (z_rm 2) (z_mq P (some (zI r)) μ') 0 0 95 [some (zA 9 0), some (zI q1), none, none, none] [] z0)) (fun ⟨x4, xm5⟩ K h hI hE => s9_counts_L3 q1 x4 xm5 K h (fun y0 y1 e => hI (y0, y1) e) (fun z0 e => hE z0 e) ) _ _ _ hl35 ?_
  refine zr_iload_n (i := 1) d_9_counts_95 rfl rfl ?_
  refine zr_istore_n (i := 2) (l' := [some (zA 9 0), some (zI q1), some (zI q1), none, none]) d_9_counts_96 rfl (by decide) rfl ?_
  obtain ⟨e64, hl65, h⟩ := z_bd h
  refine zr_wk (l' := [some (zA 9 0), some (zI q1), some (zI q1), none, none]) ⟨rfl, ⟨rfl, ⟨rfl, trivial⟩⟩⟩ ?_
  refine z_loop (Hd := (z_u2 fun y0 y1 => z_RQ P M_9_counts (z_rm 2) (z_mq P (some (zI r)) μ') 0 0 97 [some (zA 9 0), some (zI q1), some (zI y0), none, none] [] y1)) (Ex := (fun z0 => z_RQ P M_9_counts (z_rm 2) (z_mq P (some (zI r)) μ') 0 0 172 [some (zA 9 0), none, none, none, none] [] z0)) (fun ⟨x37, xm38⟩ K h hI hE => s9_counts_L36 q1 x37 xm38 K h (fun y0 y1 e => hI (y0, y1) e) (fun z0 e => hE z0 e) ) _ _ _ hl65 ?_
  refine zr_aload_n (i := 0) d_9_counts_172 rfl rfl ?_
  refine zr_gets (i' := 0) d_9_counts_173 fw_9_143 rfl ?_
  refine zr_iconst (v := (0 : Int32)) d_9_counts_176 rfl ?_
  refine zr_iald d_9_counts_177 sa_163 rfl rfl ?_
  obtain ⟨rfl, rfl⟩ := Prod.mk.inj (Option.some.inj h)
  exact ze_i d_9_counts_178 rfl
def f9_countsBy (a1 : Int32) (μ : zMem) : Option (Int32 × zMem) :=
  (f9_fillsNeeds a1 μ).bind (fun qm1 => (f9_counts qm1).bind (z_u2 fun q3 qm4 => some (q3, qm4)))
theorem s9_countsBy {P : zP} {μ : zMem} {a1 : Int32} {r : Int32} {μ' : zMem} (h : f9_countsBy a1 μ = some (r, μ')) : z_Sp P y_9_countsBy M_9_countsBy 3 [zA 9 0, zI a1] μ (some (zI r)) μ' := by
  refine z_Sp.of (plainFor_of_name (by decide)) rfl (l0 := [some (zA 9 0), some (zI a1)]) rfl (Nat.le_of_ble_eq_true rfl) ?_
  unfold f9_countsBy at h
  refine zr_aload_n (i := 0) d_9_countsBy_0 rfl rfl ?_
  refine zr_iload_n (i := 1) d_9_countsBy_1 rfl rfl ?_
  obtain ⟨qm1, hq2, h⟩ := z_bd h
  refine zr_callVv (av := [zI a1]) (st := []) d_9_countsBy_2 mw_9_fillsNeeds ml_9_462 im_9_fillsNeeds se_9_fillsNeeds rfl rfl (Nat.le_of_ble_eq_true rfl) fit_1_3_3 rfl rfl rfl (s9_fillsNeeds hq2) ?_
  refine zr_aload_n (i := 0) d_9_countsBy_5 rfl rfl ?_
  obtain ⟨⟨q3, qm4⟩, hq5, h⟩ := z_bd h
  replace h := z_h2 h
  refine zr_callVi (av := []) (st := []) d_9_countsBy_6 mw_9_counts ml_9_465 im_9_counts se_9_counts rfl rfl (Nat.le_of_ble_eq_true rfl) fit_2_5_3 rfl rfl rfl (s9_counts hq5) ?_
  obtain ⟨rfl, rfl⟩ := Prod.mk.inj (Option.some.inj h)
  exact ze_i d_9_countsBy_9 rfl
def f9_orders (a1 : Int32) (μ : zMem) : Option (Int32 × zMem) :=
  (f9_isKnown a1 μ).bind (fun q1 => (if q1 = 0 then some ((-1 : Int32), μ) else (f9_countsBy a1 μ).bind (z_u2 fun q4 qm5 => some (q4, qm5))))
theorem s9_orders {P : zP} {μ : zMem} {a1 : Int32} {r : Int32} {μ' : zMem} (h : f9_orders a1 μ = some (r, μ')) : z_Sp P y_9_orders M_9_orders 4 [zA 9 0, zI a1] μ (some (zI r)) μ' := by
  refine z_Sp.of (plainFor_of_name (by decide)) rfl (l0 := [some (zA 9 0), some (zI a1)]) rfl (Nat.le_of_ble_eq_true rfl) ?_
  unfold f9_orders at h
  refine zr_aload_n (i := 0) d_9_orders_0 rfl rfl ?_
  refine zr_iload_n (i := 1) d_9_orders_1 rfl rfl ?_
  obtain ⟨q1, hq2, h⟩ := z_bd h
  refine zr_callVi (av := [zI a1]) (st := []) d_9_orders_2 mw_9_isKnown ml_9_468 im_9_isKnown se_9_isKnown rfl rfl (Nat.le_of_ble_eq_true rfl) fit_2_2_4 rfl rfl rfl (s9_isKnown hq2) ?_
  refine zr_if_eq (tgt := 16) d_9_orders_5 rfl (fun hc3 => ?_) (fun hc3 => ?_)
  · replace h := z_ip h hc3
    refine zr_iconst (v := (-1 : Int32)) d_9_orders_16 rfl ?_
    obtain ⟨rfl, rfl⟩ := Prod.mk.inj (Option.some.inj h)
    exact ze_i d_9_orders_17 rfl
  · replace h := z_im h hc3
    refine zr_aload_n (i := 0) d_9_orders_8 rfl rfl ?_
    refine zr_iload_n (i := 1) d_9_orders_9 rfl rfl ?_
    obtain ⟨⟨q4, qm5⟩, hq6, h⟩ := z_bd h
    replace h := z_h2 h
    refine zr_callVi (av := [zI a1]) (st := []) d_9_orders_10 mw_9_countsBy ml_9_471 im_9_countsBy se_9_countsBy rfl rfl (Nat.le_of_ble_eq_true rfl) fit_3_2_4 rfl rfl rfl (s9_countsBy hq6) ?_
    refine zr_goto (tgt := 17) d_9_orders_13 rfl ?_
    obtain ⟨rfl, rfl⟩ := Prod.mk.inj (Option.some.inj h)
    exact ze_i d_9_orders_17 rfl
def f9_placedAt_L1 (a1 : Int32) (a2 : Int32) (μ : zMem) : (Int32 × Int32) → Option ((Int32 × Int32) ⊕ (Int32)) := (z_u2 fun x2 x3 => 
  (f9_allBits μ).bind (fun q4 => (if q4 < x3 then some (.inr x2) else (f9_bits x3).bind (fun q7 => ((if q7 = a2 then (f9_mayGo a1 x3 μ).bind (fun q12 => (if q12 = 0 then some x2 else if z_in x3 128 = true then if z_in (x3 ||| ((1 : Int32) <<< (a1 &&& 31))) 128 = true then z_let (x2 + ((μ.1 162 0 x3.toNatClampNeg) * (μ.1 163 0 (x3 ||| ((1 : Int32) <<< (a1 &&& 31))).toNatClampNeg))) fun v17 => some v17 else none else none)) else some x2) : Option (Int32)).bind (fun j19 => some (.inl (j19, (x3 + (1 : Int32)))))))))
def f9_placedAt (a1 : Int32) (a2 : Int32) (μ : zMem) : Option (Int32) :=
  (z_it (f9_placedAt_L1 a1 a2 μ) z_fu ((0 : Int32), (0 : Int32))).bind (fun e20 => some e20)
theorem s9_placedAt_L1 {P : zP} {ro : Option zV} {μo : zMem} (a1 : Int32) (a2 : Int32) (μ : zMem) (x2 : Int32) (x3 : Int32) (K : (Int32 × Int32) ⊕ (Int32)) (h : f9_placedAt_L1 a1 a2 μ (x2, x3) = some K) (hI : ∀ (y0 : Int32) (y1 : Int32), K = .inl (y0, y1) → z_RQ P M_9_placedAt (z_rm 2) (z_mq P ro μo) 0 0 5 [some (zA 9 0), some (zI a1), some (zI a2), some (zI y0), some (zI y1)] [] μ) (hE : ∀ (z0 : Int32), K = .inr z0 → z_RQ P M_9_placedAt (z_rm 2) (z_mq P ro μo) 0 0 61 [none, none, none, some (zI z0), none] [] μ)  : z_RQ P M_9_placedAt (z_rm 2) (z_mq P ro μo) 0 0 5 [some (zA 9 0), some (zI a1), some (zI a2), some (zI x2), some (zI x3)] [] μ := by
  unfold f9_placedAt_L1 at h
  replace h := z_h2 h
  refine zr_iload d_9_placedAt_5 rfl ?_
  refine zr_aload_n (i := 0) d_9_placedAt_7 rfl rfl ?_
  obtain ⟨q4, hq5, h⟩ := z_bd h
  refine zr_callVi (av := []) (st := [zI x3]) d_9_placedAt_8 mw_9_allBits ml_9_456 im_9_allBits se_9_allBits rfl rfl (Nat.le_of_ble_eq_true rfl) fit_1_1_2 rfl rfl rfl (s9_allBits hq5) ?_
  refine zr_icmp_gt (tgt := 61) d_9_placedAt_11 rfl (fun hc6 => ?_) (fun hc6 => ?_)
  · replace h := z_ip h hc6
    obtain rfl := Option.some.inj h
    exact zr_wk2 (hE x2 rfl) ⟨rfl, trivial⟩
  · replace h := z_im h hc6
    refine zr_iload d_9_placedAt_14 rfl ?_
    obtain ⟨q7, hq8, h⟩ := z_bd h
    refine zr_callSi (av := [zI x3]) (st := []) d_9_placedAt_16 mw_9_bits ml_9_355 is_9_bits rfl rfl (Nat.le_of_ble_eq_true rfl) fit_1_3_2 (s9_bits hq8) ?_
    refine zr_iload_n (i := 2) d_9_placedAt_19 rfl rfl ?_
    obtain ⟨j19, hT9, h⟩ := z_bd h
    have hJ10 : z_RQ P M_9_placedAt (z_rm 2) (z_mq P ro μo) 0 0 55 [some (zA 9 0), some (zI a1), some (zI a2), some (zI j19), some (zI x3)] [] μ := by
      refine zr_iinc (v := (x3 + (1 : Int32))) (l' := [some (zA 9 0), some (zI a1), some (zI a2), some (zI j19), some (zI (x3 + (1 : Int32)))]) d_9_placedAt_55 (by decide) rfl rfl rfl ?_
      refine zr_goto (tgt := 5) d_9_placedAt_58 rfl ?_
      obtain rfl := Option.some.inj h
      exact zr_wk2 (hI j19 (x3 + (1 : Int32)) rfl) ⟨rfl, ⟨rfl, ⟨rfl, ⟨rfl, ⟨rfl, trivial⟩⟩⟩⟩⟩
    refine zr_icmp_ne (tgt := 55) d_9_placedAt_20 rfl (fun hc11 => ?_) (fun hc11 => ?_)
    · replace hT9 := z_ip hT9 hc11
      refine zr_aload_n (i := 0) d_9_placedAt_23 rfl rfl ?_
      refine zr_iload_n (i := 1) d_9_placedAt_24 rfl rfl ?_
      refine zr_iload d_9_placedAt_25 rfl ?_
      obtain ⟨q12, hq13, hT9⟩ := z_bd hT9
      refine zr_callVi (av := [zI a1, zI x3]) (st := []) d_9_placedAt_27 mw_9_mayGo ml_9_459 im_9_mayGo se_9_mayGo rfl rfl (Nat.le_of_ble_eq_true rfl) fit_1_3_2 rfl rfl rfl (s9_mayGo hq13) ?_
      refine zr_if_eq (tgt := 55) d_9_placedAt_30 rfl (fun hc14 => ?_) (fun hc14 => ?_)
      · replace hT9 := z_ip hT9 hc14
        obtain rfl := Option.some.inj hT9
        exact zr_wk2 hJ10 ⟨rfl, ⟨rfl, ⟨rfl, ⟨rfl, ⟨rfl, trivial⟩⟩⟩⟩⟩
      · replace hT9 := z_im hT9 hc14
        refine zr_iload_n (i := 3) d_9_placedAt_33 rfl rfl ?_
        refine zr_aload_n (i := 0) d_9_placedAt_34 rfl rfl ?_
        refine zr_gets (i' := 0) d_9_placedAt_35 fw_9_140 rfl ?_
        refine zr_iload d_9_placedAt_38 rfl ?_
        obtain ⟨hb15, hT9⟩ := z_gd hT9
        refine zr_iald d_9_placedAt_40 sa_162 rfl hb15 ?_
        refine zr_aload_n (i := 0) d_9_placedAt_41 rfl rfl ?_
        refine zr_gets (i' := 0) d_9_placedAt_42 fw_9_143 rfl ?_
        refine zr_iload d_9_placedAt_45 rfl ?_
        refine zr_iconst (v := (1 : Int32)) d_9_placedAt_47 rfl ?_
        refine zr_iload_n (i := 1) d_9_placedAt_48 rfl rfl ?_
        refine zr_ishl d_9_placedAt_49 ?_
        refine zr_ior d_9_placedAt_50 ?_
        obtain ⟨hb16, hT9⟩ := z_gd hT9
        refine zr_iald d_9_placedAt_51 sa_163 rfl hb16 ?_
        refine zr_imul d_9_placedAt_52 ?_
        refine zr_iadd d_9_placedAt_53 ?_
        obtain ⟨v17, hv18, hT9⟩ := z_lt hT9
        refine zr_nm hv18 ?_
        refine zr_istore_n (i := 3) (l' := [some (zA 9 0), some (zI a1), some (zI a2), some (zI v17), some (zI x3)]) d_9_placedAt_54 rfl (by decide) rfl ?_
        obtain rfl := Option.some.inj hT9
        exact zr_wk2 hJ10 ⟨rfl, ⟨rfl, ⟨rfl, ⟨rfl, ⟨rfl, trivial⟩⟩⟩⟩⟩
    · replace hT9 := z_im hT9 hc11
      obtain rfl := Option.some.inj hT9
      exact zr_wk2 hJ10 ⟨rfl, ⟨rfl, ⟨rfl, ⟨rfl, ⟨rfl, trivial⟩⟩⟩⟩⟩
theorem s9_placedAt {P : zP} {μ : zMem} {a1 : Int32} {a2 : Int32} {r : Int32} (h : f9_placedAt a1 a2 μ = some r) : z_Sp P y_9_placedAt M_9_placedAt 2 [zA 9 0, zI a1, zI a2] μ (some (zI r)) μ := by
  refine z_Sp.of (plainFor_of_name (by decide)) rfl (l0 := [some (zA 9 0), some (zI a1), some (zI a2), none, none]) rfl (Nat.le_of_ble_eq_true rfl) ?_
  unfold f9_placedAt at h
  refine zr_iconst (v := (0 : Int32)) d_9_placedAt_0 rfl ?_
  refine zr_istore_n (i := 3) (l' := [some (zA 9 0), some (zI a1), some (zI a2), some (zI (0 : Int32)), none]) d_9_placedAt_1 rfl (by decide) rfl ?_
  refine zr_iconst (v := (0 : Int32)) d_9_placedAt_2 rfl ?_
  refine zr_istore (i := 4) (l' := [some (zA 9 0), some (zI a1), some (zI a2), some (zI (0 : Int32)), some (zI (0 : Int32))]) d_9_placedAt_3 (by decide) rfl ?_
  obtain ⟨e20, hl21, h⟩ := z_bd h
  refine zr_wk (l' := [some (zA 9 0), some (zI a1), some (zI a2), some (zI (0 : Int32)), some (zI (0 : Int32))]) ⟨rfl, ⟨rfl, ⟨rfl, ⟨rfl, ⟨rfl, trivial⟩⟩⟩⟩⟩ ?_
  refine z_loop (Hd := (z_u2 fun y0 y1 => z_RQ P M_9_placedAt (z_rm 2) (z_mq P (some (zI r)) μ) 0 0 5 [some (zA 9 0), some (zI a1), some (zI a2), some (zI y0), some (zI y1)] [] μ)) (Ex := (fun z0 => z_RQ P M_9_placedAt (z_rm 2) (z_mq P (some (zI r)) μ) 0 0 61 [none, none, none, some (zI z0), none] [] μ)) (fun ⟨x2, x3⟩ K h hI hE => s9_placedAt_L1 a1 a2 μ x2 x3 K h (fun y0 y1 e => hI (y0, y1) e) (fun z0 e => hE z0 e) ) _ _ _ hl21 ?_
  refine zr_iload_n (i := 3) d_9_placedAt_61 rfl rfl ?_
  obtain rfl := Option.some.inj h
  exact ze_i d_9_placedAt_62 rfl
def f9_first_L10 (a2 : Int32) (qm8 : zMem) : (Int32) → Option ((Int32) ⊕ ((Unit) ⊕ (Int32 × zMem))) := (fun x11 => 
  if z_in (qm8.1 9 0 18) 2 = true then (if x11 < (qm8.1 126 0 (qm8.1 9 0 18).toNatClampNeg) then (f9_placedAt a2 x11 qm8).bind (fun q14 => (if 0 < q14 then some (.inr (.inr (x11, qm8))) else some (.inl (x11 + (1 : Int32))))) else some (.inr (.inl ()))) else none)
def f9_first (a1 : Int32) (a2 : Int32) (μ : zMem) : Option (Int32 × zMem) :=
  (f9_isKnown a1 μ).bind (fun q1 => (if q1 = 0 then some ((-1 : Int32), μ) else (f9_isPerson a2 μ).bind (fun q4 => (if q4 = 0 then some ((-1 : Int32), μ) else (f9_countsBy a1 μ).bind (z_u2 fun q7 qm8 => (z_it (f9_first_L10 a2 qm8) z_fu (0 : Int32)).bind (Sum.elim (fun (_ : Unit) => some ((-2 : Int32), qm8)) (z_u2 fun qr18 qr19 => some (qr18, qr19))))))))
theorem s9_first_L10 {P : zP} {ro : Option zV} {μo : zMem} (a2 : Int32) (qm8 : zMem) (x11 : Int32) (K : (Int32) ⊕ ((Unit) ⊕ (Int32 × zMem))) (h : f9_first_L10 a2 qm8 x11 = some K) (hI : ∀ (y0 : Int32), K = .inl y0 → z_RQ P M_9_first (z_rm 4) (z_mq P ro μo) 0 0 26 [some (zA 9 0), none, some (zI a2), some (zI y0)] [] qm8) (hE : K = .inr (.inl ()) → z_RQ P M_9_first (z_rm 4) (z_mq P ro μo) 0 0 56 [none, none, none, none] [] qm8) (hR : ∀ (qr : Int32) (qm : zMem), K = .inr (.inr (qr, qm)) → ro = some (zI qr) ∧ μo = qm) : z_RQ P M_9_first (z_rm 4) (z_mq P ro μo) 0 0 26 [some (zA 9 0), none, some (zI a2), some (zI x11)] [] qm8 := by
  unfold f9_first_L10 at h
  refine zr_iload_n (i := 3) d_9_first_26 rfl rfl ?_
  refine zr_aload_n (i := 0) d_9_first_27 rfl rfl ?_
  refine zr_gets (i' := 0) d_9_first_28 fw_9_55 rfl ?_
  refine zr_aload_n (i := 0) d_9_first_31 rfl rfl ?_
  refine zr_geti d_9_first_32 fw_9_233 (by decide) ?_
  obtain ⟨hb12, h⟩ := z_gd h
  refine zr_iald d_9_first_35 sa_126 rfl hb12 ?_
  refine zr_icmp_ge (tgt := 56) d_9_first_36 rfl (fun hc13 => ?_) (fun hc13 => ?_)
  · replace h := z_ip h hc13
    refine zr_aload_n (i := 0) d_9_first_39 rfl rfl ?_
    refine zr_iload_n (i := 2) d_9_first_40 rfl rfl ?_
    refine zr_iload_n (i := 3) d_9_first_41 rfl rfl ?_
    obtain ⟨q14, hq15, h⟩ := z_bd h
    refine zr_callVi (av := [zI a2, zI x11]) (st := []) d_9_first_42 mw_9_placedAt ml_9_474 im_9_placedAt se_9_placedAt rfl rfl (Nat.le_of_ble_eq_true rfl) fit_2_5_4 rfl rfl rfl (s9_placedAt hq15) ?_
    refine zr_if_le (tgt := 50) d_9_first_45 rfl (fun hc16 => ?_) (fun hc16 => ?_)
    · replace h := z_ip h hc16
      refine zr_iload_n (i := 3) d_9_first_48 rfl rfl ?_
      obtain rfl := Option.some.inj h
      obtain ⟨rfl, rfl⟩ := hR x11 qm8 rfl
      exact ze_i d_9_first_49 rfl
    · replace h := z_im h hc16
      refine zr_iinc (v := (x11 + (1 : Int32))) (l' := [some (zA 9 0), none, some (zI a2), some (zI (x11 + (1 : Int32)))]) d_9_first_50 (by decide) rfl rfl rfl ?_
      refine zr_goto (tgt := 26) d_9_first_53 rfl ?_
      obtain rfl := Option.some.inj h
      exact zr_wk2 (hI (x11 + (1 : Int32)) rfl) ⟨rfl, ⟨rfl, ⟨rfl, trivial⟩⟩⟩
  · replace h := z_im h hc13
    obtain rfl := Option.some.inj h
    exact zr_wk2 (hE  rfl) trivial
theorem s9_first {P : zP} {μ : zMem} {a1 : Int32} {a2 : Int32} {r : Int32} {μ' : zMem} (h : f9_first a1 a2 μ = some (r, μ')) : z_Sp P y_9_first M_9_first 4 [zA 9 0, zI a1, zI a2] μ (some (zI r)) μ' := by
  refine z_Sp.of (plainFor_of_name (by decide)) rfl (l0 := [some (zA 9 0), some (zI a1), some (zI a2), none]) rfl (Nat.le_of_ble_eq_true rfl) ?_
  unfold f9_first at h
  refine zr_aload_n (i := 0) d_9_first_0 rfl rfl ?_
  refine zr_iload_n (i := 1) d_9_first_1 rfl rfl ?_
  obtain ⟨q1, hq2, h⟩ := z_bd h
  refine zr_callVi (av := [zI a1]) (st := []) d_9_first_2 mw_9_isKnown ml_9_468 im_9_isKnown se_9_isKnown rfl rfl (Nat.le_of_ble_eq_true rfl) fit_2_2_4 rfl rfl rfl (s9_isKnown hq2) ?_
  refine zr_if_eq (tgt := 16) d_9_first_5 rfl (fun hc3 => ?_) (fun hc3 => ?_)
  · replace h := z_ip h hc3
    refine zr_iconst (v := (-1 : Int32)) d_9_first_16 rfl ?_
    obtain ⟨rfl, rfl⟩ := Prod.mk.inj (Option.some.inj h)
    exact ze_i d_9_first_17 rfl
  · replace h := z_im h hc3
    refine zr_aload_n (i := 0) d_9_first_8 rfl rfl ?_
    refine zr_iload_n (i := 2) d_9_first_9 rfl rfl ?_
    obtain ⟨q4, hq5, h⟩ := z_bd h
    refine zr_callVi (av := [zI a2]) (st := []) d_9_first_10 mw_9_isPerson ml_9_316 im_9_isPerson se_9_isPerson rfl rfl (Nat.le_of_ble_eq_true rfl) fit_2_2_4 rfl rfl rfl (s9_isPerson hq5) ?_
    refine zr_if_ne (tgt := 18) d_9_first_13 rfl (fun hc6 => ?_) (fun hc6 => ?_)
    · replace h := z_ip h hc6
      refine zr_iconst (v := (-1 : Int32)) d_9_first_16 rfl ?_
      obtain ⟨rfl, rfl⟩ := Prod.mk.inj (Option.some.inj h)
      exact ze_i d_9_first_17 rfl
    · replace h := z_im h hc6
      refine zr_aload_n (i := 0) d_9_first_18 rfl rfl ?_
      refine zr_iload_n (i := 1) d_9_first_19 rfl rfl ?_
      obtain ⟨⟨q7, qm8⟩, hq9, h⟩ := z_bd h
      replace h := z_h2 h
      refine zr_callVi (av := [zI a1]) (st := []) d_9_first_20 mw_9_countsBy ml_9_471 im_9_countsBy se_9_countsBy rfl rfl (Nat.le_of_ble_eq_true rfl) fit_3_2_4 rfl rfl rfl (s9_countsBy hq9) ?_
      refine zr_popi d_9_first_23 ?_
      refine zr_iconst (v := (0 : Int32)) d_9_first_24 rfl ?_
      refine zr_istore_n (i := 3) (l' := [some (zA 9 0), some (zI a1), some (zI a2), some (zI (0 : Int32))]) d_9_first_25 rfl (by decide) rfl ?_
      rcases z_bs h with ⟨⟨⟩, hl17, h⟩ | ⟨⟨qr18, qr19⟩, hl17, h⟩
      · refine zr_wk (l' := [some (zA 9 0), none, some (zI a2), some (zI (0 : Int32))]) ⟨rfl, ⟨rfl, ⟨rfl, trivial⟩⟩⟩ ?_
        refine z_loop (Hd := (fun y0 => z_RQ P M_9_first (z_rm 4) (z_mq P (some (zI r)) μ') 0 0 26 [some (zA 9 0), none, some (zI a2), some (zI y0)] [] qm8)) (Ex := (Sum.elim (fun (_ : Unit) => z_RQ P M_9_first (z_rm 4) (z_mq P (some (zI r)) μ') 0 0 56 [none, none, none, none] [] qm8) (z_u2 fun qr qm => (some (zI r)) = some (zI qr) ∧ μ' = qm))) (fun x11 K h hI hE => s9_first_L10 a2 qm8 x11 K h (fun y0 e => hI y0 e) (fun  e => hE (.inl ()) e) (fun qr qm e => hE (.inr (qr, qm)) e)) _ _ _ hl17 ?_
        refine zr_bipush (v := (-2 : Int32)) d_9_first_56 (by decide) ?_
        obtain ⟨rfl, rfl⟩ := Prod.mk.inj (Option.some.inj h)
        exact ze_i d_9_first_58 rfl
      · replace h := z_h2 h
        refine zr_wk (l' := [some (zA 9 0), none, some (zI a2), some (zI (0 : Int32))]) ⟨rfl, ⟨rfl, ⟨rfl, trivial⟩⟩⟩ ?_
        refine z_loop (Hd := (fun y0 => z_RQ P M_9_first (z_rm 4) (z_mq P (some (zI r)) μ') 0 0 26 [some (zA 9 0), none, some (zI a2), some (zI y0)] [] qm8)) (Ex := (Sum.elim (fun (_ : Unit) => z_RQ P M_9_first (z_rm 4) (z_mq P (some (zI r)) μ') 0 0 56 [none, none, none, none] [] qm8) (z_u2 fun qr qm => (some (zI r)) = some (zI qr) ∧ μ' = qm))) (fun x11 K h hI hE => s9_first_L10 a2 qm8 x11 K h (fun y0 e => hI y0 e) (fun  e => hE (.inl ()) e) (fun qr qm e => hE (.inr (qr, qm)) e)) _ _ _ hl17 ?_
        obtain ⟨rfl, rfl⟩ := Prod.mk.inj (Option.some.inj h)
        exact ⟨rfl, rfl⟩
def f9_last_L13 (a2 : Int32) (qm8 : zMem) : (Int32) → Option ((Int32) ⊕ ((Unit) ⊕ (Int32 × zMem))) := (fun x14 => 
  (if x14 < 0 then some (.inr (.inl ())) else (f9_placedAt a2 x14 qm8).bind (fun q16 => (if 0 < q16 then some (.inr (.inr (x14, qm8))) else some (.inl (x14 + (-1 : Int32)))))))
def f9_last (a1 : Int32) (a2 : Int32) (μ : zMem) : Option (Int32 × zMem) :=
  (f9_isKnown a1 μ).bind (fun q1 => (if q1 = 0 then some ((-1 : Int32), μ) else (f9_isPerson a2 μ).bind (fun q4 => (if q4 = 0 then some ((-1 : Int32), μ) else (f9_countsBy a1 μ).bind (z_u2 fun q7 qm8 => if z_in (qm8.1 9 0 18) 2 = true then z_let ((qm8.1 126 0 (qm8.1 9 0 18).toNatClampNeg) - (1 : Int32)) fun v11 => (z_it (f9_last_L13 a2 qm8) z_fu v11).bind (Sum.elim (fun (_ : Unit) => some ((-2 : Int32), qm8)) (z_u2 fun qr20 qr21 => some (qr20, qr21))) else none)))))
theorem s9_last_L13 {P : zP} {ro : Option zV} {μo : zMem} (a2 : Int32) (qm8 : zMem) (x14 : Int32) (K : (Int32) ⊕ ((Unit) ⊕ (Int32 × zMem))) (h : f9_last_L13 a2 qm8 x14 = some K) (hI : ∀ (y0 : Int32), K = .inl y0 → z_RQ P M_9_last (z_rm 4) (z_mq P ro μo) 0 0 36 [some (zA 9 0), none, some (zI a2), some (zI y0)] [] qm8) (hE : K = .inr (.inl ()) → z_RQ P M_9_last (z_rm 4) (z_mq P ro μo) 0 0 57 [none, none, none, none] [] qm8) (hR : ∀ (qr : Int32) (qm : zMem), K = .inr (.inr (qr, qm)) → ro = some (zI qr) ∧ μo = qm) : z_RQ P M_9_last (z_rm 4) (z_mq P ro μo) 0 0 36 [some (zA 9 0), none, some (zI a2), some (zI x14)] [] qm8 := by
  unfold f9_last_L13 at h
  refine zr_iload_n (i := 3) d_9_last_36 rfl rfl ?_
  refine zr_if_lt (tgt := 57) d_9_last_37 rfl (fun hc15 => ?_) (fun hc15 => ?_)
  · replace h := z_ip h hc15
    obtain rfl := Option.some.inj h
    exact zr_wk2 (hE  rfl) trivial
  · replace h := z_im h hc15
    refine zr_aload_n (i := 0) d_9_last_40 rfl rfl ?_
    refine zr_iload_n (i := 2) d_9_last_41 rfl rfl ?_
    refine zr_iload_n (i := 3) d_9_last_42 rfl rfl ?_
    obtain ⟨q16, hq17, h⟩ := z_bd h
    refine zr_callVi (av := [zI a2, zI x14]) (st := []) d_9_last_43 mw_9_placedAt ml_9_474 im_9_placedAt se_9_placedAt rfl rfl (Nat.le_of_ble_eq_true rfl) fit_2_5_4 rfl rfl rfl (s9_placedAt hq17) ?_
    refine zr_if_le (tgt := 51) d_9_last_46 rfl (fun hc18 => ?_) (fun hc18 => ?_)
    · replace h := z_ip h hc18
      refine zr_iload_n (i := 3) d_9_last_49 rfl rfl ?_
      obtain rfl := Option.some.inj h
      obtain ⟨rfl, rfl⟩ := hR x14 qm8 rfl
      exact ze_i d_9_last_50 rfl
    · replace h := z_im h hc18
      refine zr_iinc (v := (x14 + (-1 : Int32))) (l' := [some (zA 9 0), none, some (zI a2), some (zI (x14 + (-1 : Int32)))]) d_9_last_51 (by decide) rfl (z_neg_1 _) rfl ?_
      refine zr_goto (tgt := 36) d_9_last_54 rfl ?_
      obtain rfl := Option.some.inj h
      exact zr_wk2 (hI (x14 + (-1 : Int32)) rfl) ⟨rfl, ⟨rfl, ⟨rfl, trivial⟩⟩⟩
theorem s9_last {P : zP} {μ : zMem} {a1 : Int32} {a2 : Int32} {r : Int32} {μ' : zMem} (h : f9_last a1 a2 μ = some (r, μ')) : z_Sp P y_9_last M_9_last 4 [zA 9 0, zI a1, zI a2] μ (some (zI r)) μ' := by
  refine z_Sp.of (plainFor_of_name (by decide)) rfl (l0 := [some (zA 9 0), some (zI a1), some (zI a2), none]) rfl (Nat.le_of_ble_eq_true rfl) ?_
  unfold f9_last at h
  refine zr_aload_n (i := 0) d_9_last_0 rfl rfl ?_
  refine zr_iload_n (i := 1) d_9_last_1 rfl rfl ?_
  obtain ⟨q1, hq2, h⟩ := z_bd h
  refine zr_callVi (av := [zI a1]) (st := []) d_9_last_2 mw_9_isKnown ml_9_468 im_9_isKnown se_9_isKnown rfl rfl (Nat.le_of_ble_eq_true rfl) fit_2_2_4 rfl rfl rfl (s9_isKnown hq2) ?_
  refine zr_if_eq (tgt := 16) d_9_last_5 rfl (fun hc3 => ?_) (fun hc3 => ?_)
  · replace h := z_ip h hc3
    refine zr_iconst (v := (-1 : Int32)) d_9_last_16 rfl ?_
    obtain ⟨rfl, rfl⟩ := Prod.mk.inj (Option.some.inj h)
    exact ze_i d_9_last_17 rfl
  · replace h := z_im h hc3
    refine zr_aload_n (i := 0) d_9_last_8 rfl rfl ?_
    refine zr_iload_n (i := 2) d_9_last_9 rfl rfl ?_
    obtain ⟨q4, hq5, h⟩ := z_bd h
    refine zr_callVi (av := [zI a2]) (st := []) d_9_last_10 mw_9_isPerson ml_9_316 im_9_isPerson se_9_isPerson rfl rfl (Nat.le_of_ble_eq_true rfl) fit_2_2_4 rfl rfl rfl (s9_isPerson hq5) ?_
    refine zr_if_ne (tgt := 18) d_9_last_13 rfl (fun hc6 => ?_) (fun hc6 => ?_)
    · replace h := z_ip h hc6
      refine zr_iconst (v := (-1 : Int32)) d_9_last_16 rfl ?_
      obtain ⟨rfl, rfl⟩ := Prod.mk.inj (Option.some.inj h)
      exact ze_i d_9_last_17 rfl
    · replace h := z_im h hc6
      refine zr_aload_n (i := 0) d_9_last_18 rfl rfl ?_
      refine zr_iload_n (i := 1) d_9_last_19 rfl rfl ?_
      obtain ⟨⟨q7, qm8⟩, hq9, h⟩ := z_bd h
      replace h := z_h2 h
      refine zr_callVi (av := [zI a1]) (st := []) d_9_last_20 mw_9_countsBy ml_9_471 im_9_countsBy se_9_countsBy rfl rfl (Nat.le_of_ble_eq_true rfl) fit_3_2_4 rfl rfl rfl (s9_countsBy hq9) ?_
      refine zr_popi d_9_last_23 ?_
      refine zr_aload_n (i := 0) d_9_last_24 rfl rfl ?_
      refine zr_gets (i' := 0) d_9_last_25 fw_9_55 rfl ?_
      refine zr_aload_n (i := 0) d_9_last_28 rfl rfl ?_
      refine zr_geti d_9_last_29 fw_9_233 (by decide) ?_
      obtain ⟨hb10, h⟩ := z_gd h
      refine zr_iald d_9_last_32 sa_126 rfl hb10 ?_
      refine zr_iconst (v := (1 : Int32)) d_9_last_33 rfl ?_
      refine zr_isub d_9_last_34 ?_
      obtain ⟨v11, hv12, h⟩ := z_lt h
      refine zr_nm hv12 ?_
      refine zr_istore_n (i := 3) (l' := [some (zA 9 0), some (zI a1), some (zI a2), some (zI v11)]) d_9_last_35 rfl (by decide) rfl ?_
      rcases z_bs h with ⟨⟨⟩, hl19, h⟩ | ⟨⟨qr20, qr21⟩, hl19, h⟩
      · refine zr_wk (l' := [some (zA 9 0), none, some (zI a2), some (zI v11)]) ⟨rfl, ⟨rfl, ⟨rfl, trivial⟩⟩⟩ ?_
        refine z_loop (Hd := (fun y0 => z_RQ P M_9_last (z_rm 4) (z_mq P (some (zI r)) μ') 0 0 36 [some (zA 9 0), none, some (zI a2), some (zI y0)] [] qm8)) (Ex := (Sum.elim (fun (_ : Unit) => z_RQ P M_9_last (z_rm 4) (z_mq P (some (zI r)) μ') 0 0 57 [none, none, none, none] [] qm8) (z_u2 fun qr qm => (some (zI r)) = some (zI qr) ∧ μ' = qm))) (fun x14 K h hI hE => s9_last_L13 a2 qm8 x14 K h (fun y0 e => hI y0 e) (fun  e => hE (.inl ()) e) (fun qr qm e => hE (.inr (qr, qm)) e)) _ _ _ hl19 ?_
        refine zr_bipush (v := (-2 : Int32)) d_9_last_57 (by decide) ?_
        obtain ⟨rfl, rfl⟩ := Prod.mk.inj (Option.some.inj h)
        exact ze_i d_9_last_59 rfl
      · replace h := z_h2 h
        refine zr_wk (l' := [some (zA 9 0), none, some (zI a2), some (zI v11)]) ⟨rfl, ⟨rfl, ⟨rfl, trivial⟩⟩⟩ ?_
        refine z_loop (Hd := (fun y0 => z_RQ P M_9_last (z_rm 4) (z_mq P (some (zI r)) μ') 0 0 36 [some (zA 9 0), none, some (zI a2), some (zI y0)] [] qm8)) (Ex := (Sum.elim (fun (_ : Unit) => z_RQ P M_9_last (z_rm 4) (z_mq P (some (zI r)) μ') 0 0 57 [none, none, none, none] [] qm8) (z_u2 fun qr qm => (some (zI r)) = some (zI qr) ∧ μ' = qm))) (fun x14 K h hI hE => s9_last_L13 a2 qm8 x14 K h (fun y0 e => hI y0 e) (fun  e => hE (.inl ()) e) (fun qr qm e => hE (.inr (qr, qm)) e)) _ _ _ hl19 ?_
        obtain ⟨rfl, rfl⟩ := Prod.mk.inj (Option.some.inj h)
        exact ⟨rfl, rfl⟩
def f9_placed (a1 : Int32) (a2 : Int32) (a3 : Int32) (μ : zMem) : Option (Int32 × zMem) :=
  (f9_isKnown a1 μ).bind (fun q1 => (if q1 = 0 then some ((-1 : Int32), μ) else (f9_isPerson a2 μ).bind (fun q4 => (if q4 = 0 then some ((-1 : Int32), μ) else if z_in (μ.1 9 0 18) 2 = true then (if (f9_in a3 (0 : Int32) ((μ.1 126 0 (μ.1 9 0 18).toNatClampNeg) - (1 : Int32))) = 0 then some ((-1 : Int32), μ) else (f9_countsBy a1 μ).bind (z_u2 fun q10 qm11 => (f9_placedAt a2 a3 qm11).bind (fun q13 => some (q13, qm11)))) else none))))
theorem s9_placed {P : zP} {μ : zMem} {a1 : Int32} {a2 : Int32} {a3 : Int32} {r : Int32} {μ' : zMem} (h : f9_placed a1 a2 a3 μ = some (r, μ')) : z_Sp P y_9_placed M_9_placed 4 [zA 9 0, zI a1, zI a2, zI a3] μ (some (zI r)) μ' := by
  refine z_Sp.of (plainFor_of_name (by decide)) rfl (l0 := [some (zA 9 0), some (zI a1), some (zI a2), some (zI a3)]) rfl (Nat.le_of_ble_eq_true rfl) ?_
  unfold f9_placed at h
  refine zr_aload_n (i := 0) d_9_placed_0 rfl rfl ?_
  refine zr_iload_n (i := 1) d_9_placed_1 rfl rfl ?_
  obtain ⟨q1, hq2, h⟩ := z_bd h
  refine zr_callVi (av := [zI a1]) (st := []) d_9_placed_2 mw_9_isKnown ml_9_468 im_9_isKnown se_9_isKnown rfl rfl (Nat.le_of_ble_eq_true rfl) fit_2_2_4 rfl rfl rfl (s9_isKnown hq2) ?_
  refine zr_if_eq (tgt := 35) d_9_placed_5 rfl (fun hc3 => ?_) (fun hc3 => ?_)
  · replace h := z_ip h hc3
    refine zr_iconst (v := (-1 : Int32)) d_9_placed_35 rfl ?_
    obtain ⟨rfl, rfl⟩ := Prod.mk.inj (Option.some.inj h)
    exact ze_i d_9_placed_36 rfl
  · replace h := z_im h hc3
    refine zr_aload_n (i := 0) d_9_placed_8 rfl rfl ?_
    refine zr_iload_n (i := 2) d_9_placed_9 rfl rfl ?_
    obtain ⟨q4, hq5, h⟩ := z_bd h
    refine zr_callVi (av := [zI a2]) (st := []) d_9_placed_10 mw_9_isPerson ml_9_316 im_9_isPerson se_9_isPerson rfl rfl (Nat.le_of_ble_eq_true rfl) fit_2_2_4 rfl rfl rfl (s9_isPerson hq5) ?_
    refine zr_if_eq (tgt := 35) d_9_placed_13 rfl (fun hc6 => ?_) (fun hc6 => ?_)
    · replace h := z_ip h hc6
      refine zr_iconst (v := (-1 : Int32)) d_9_placed_35 rfl ?_
      obtain ⟨rfl, rfl⟩ := Prod.mk.inj (Option.some.inj h)
      exact ze_i d_9_placed_36 rfl
    · replace h := z_im h hc6
      refine zr_iload_n (i := 3) d_9_placed_16 rfl rfl ?_
      refine zr_iconst (v := (0 : Int32)) d_9_placed_17 rfl ?_
      refine zr_aload_n (i := 0) d_9_placed_18 rfl rfl ?_
      refine zr_gets (i' := 0) d_9_placed_19 fw_9_55 rfl ?_
      refine zr_aload_n (i := 0) d_9_placed_22 rfl rfl ?_
      refine zr_geti d_9_placed_23 fw_9_233 (by decide) ?_
      obtain ⟨hb7, h⟩ := z_gd h
      refine zr_iald d_9_placed_26 sa_126 rfl hb7 ?_
      refine zr_iconst (v := (1 : Int32)) d_9_placed_27 rfl ?_
      refine zr_isub d_9_placed_28 ?_
      refine zr_callSi (av := [zI a3, zI (0 : Int32), zI ((μ.1 126 0 (μ.1 9 0 18).toNatClampNeg) - (1 : Int32))]) (st := []) d_9_placed_29 mw_9_in ml_9_312 is_9_in rfl rfl (Nat.le_of_ble_eq_true rfl) fit_1_3_4 (s9_in rfl) ?_
      refine zr_if_ne (tgt := 37) d_9_placed_32 rfl (fun hc9 => ?_) (fun hc9 => ?_)
      · replace h := z_ip h hc9
        refine zr_iconst (v := (-1 : Int32)) d_9_placed_35 rfl ?_
        obtain ⟨rfl, rfl⟩ := Prod.mk.inj (Option.some.inj h)
        exact ze_i d_9_placed_36 rfl
      · replace h := z_im h hc9
        refine zr_aload_n (i := 0) d_9_placed_37 rfl rfl ?_
        refine zr_iload_n (i := 1) d_9_placed_38 rfl rfl ?_
        obtain ⟨⟨q10, qm11⟩, hq12, h⟩ := z_bd h
        replace h := z_h2 h
        refine zr_callVi (av := [zI a1]) (st := []) d_9_placed_39 mw_9_countsBy ml_9_471 im_9_countsBy se_9_countsBy rfl rfl (Nat.le_of_ble_eq_true rfl) fit_3_2_4 rfl rfl rfl (s9_countsBy hq12) ?_
        refine zr_popi d_9_placed_42 ?_
        refine zr_aload_n (i := 0) d_9_placed_43 rfl rfl ?_
        refine zr_iload_n (i := 2) d_9_placed_44 rfl rfl ?_
        refine zr_iload_n (i := 3) d_9_placed_45 rfl rfl ?_
        obtain ⟨q13, hq14, h⟩ := z_bd h
        refine zr_callVi (av := [zI a2, zI a3]) (st := []) d_9_placed_46 mw_9_placedAt ml_9_474 im_9_placedAt se_9_placedAt rfl rfl (Nat.le_of_ble_eq_true rfl) fit_2_5_4 rfl rfl rfl (s9_placedAt hq14) ?_
        obtain ⟨rfl, rfl⟩ := Prod.mk.inj (Option.some.inj h)
        exact ze_i d_9_placed_49 rfl
def f9_beforeBy (a1 : Int32) (a2 : Int32) (a3 : Int32) (μ : zMem) : Option (Int32 × zMem) :=
  (f9_fillsNeeds a1 μ).bind (fun qm1 => if z_in a3 7 = true then z_let (z_sI qm1 161 0 a3.toNatClampNeg ((qm1.1 161 0 a3.toNatClampNeg) ||| ((1 : Int32) <<< (a2 &&& 31)))) fun m4 => (f9_counts m4).bind (z_u2 fun q6 qm7 => some (q6, qm7)) else none)
theorem s9_beforeBy {P : zP} {μ : zMem} {a1 : Int32} {a2 : Int32} {a3 : Int32} {r : Int32} {μ' : zMem} (h : f9_beforeBy a1 a2 a3 μ = some (r, μ')) : z_Sp P y_9_beforeBy M_9_beforeBy 3 [zA 9 0, zI a1, zI a2, zI a3] μ (some (zI r)) μ' := by
  refine z_Sp.of (plainFor_of_name (by decide)) rfl (l0 := [some (zA 9 0), some (zI a1), some (zI a2), some (zI a3)]) rfl (Nat.le_of_ble_eq_true rfl) ?_
  unfold f9_beforeBy at h
  refine zr_aload_n (i := 0) d_9_beforeBy_0 rfl rfl ?_
  refine zr_iload_n (i := 1) d_9_beforeBy_1 rfl rfl ?_
  obtain ⟨qm1, hq2, h⟩ := z_bd h
  refine zr_callVv (av := [zI a1]) (st := []) d_9_beforeBy_2 mw_9_fillsNeeds ml_9_462 im_9_fillsNeeds se_9_fillsNeeds rfl rfl (Nat.le_of_ble_eq_true rfl) fit_1_3_3 rfl rfl rfl (s9_fillsNeeds hq2) ?_
  refine zr_aload_n (i := 0) d_9_beforeBy_5 rfl rfl ?_
  refine zr_gets (i' := 0) d_9_beforeBy_6 fw_9_137 rfl ?_
  refine zr_iload_n (i := 3) d_9_beforeBy_9 rfl rfl ?_
  refine zr_dup2 d_9_beforeBy_10 ?_
  obtain ⟨hb3, h⟩ := z_gd h
  refine zr_iald d_9_beforeBy_11 sa_161 rfl hb3 ?_
  refine zr_iconst (v := (1 : Int32)) d_9_beforeBy_12 rfl ?_
  refine zr_iload_n (i := 2) d_9_beforeBy_13 rfl rfl ?_
  refine zr_ishl d_9_beforeBy_14 ?_
  refine zr_ior d_9_beforeBy_15 ?_
  obtain ⟨m4, hm5, h⟩ := z_lt h
  refine zr_iast d_9_beforeBy_16 sa_161 rfl hb3 hm5 ?_
  refine zr_aload_n (i := 0) d_9_beforeBy_17 rfl rfl ?_
  obtain ⟨⟨q6, qm7⟩, hq8, h⟩ := z_bd h
  replace h := z_h2 h
  refine zr_callVi (av := []) (st := []) d_9_beforeBy_18 mw_9_counts ml_9_465 im_9_counts se_9_counts rfl rfl (Nat.le_of_ble_eq_true rfl) fit_2_5_3 rfl rfl rfl (s9_counts hq8) ?_
  obtain ⟨rfl, rfl⟩ := Prod.mk.inj (Option.some.inj h)
  exact ze_i d_9_beforeBy_21 rfl
def f9_before (a1 : Int32) (a2 : Int32) (a3 : Int32) (μ : zMem) : Option (Int32 × zMem) :=
  (f9_isKnown a1 μ).bind (fun q1 => (if q1 = 0 then some ((-1 : Int32), μ) else (f9_isPerson a2 μ).bind (fun q4 => (if q4 = 0 then some ((-1 : Int32), μ) else (f9_isPerson a3 μ).bind (fun q7 => (if q7 = 0 then some ((-1 : Int32), μ) else (if a2 = a3 then some ((-1 : Int32), μ) else (f9_beforeBy a1 a2 a3 μ).bind (z_u2 fun q11 qm12 => some (q11, qm12)))))))))
theorem s9_before {P : zP} {μ : zMem} {a1 : Int32} {a2 : Int32} {a3 : Int32} {r : Int32} {μ' : zMem} (h : f9_before a1 a2 a3 μ = some (r, μ')) : z_Sp P y_9_before M_9_before 4 [zA 9 0, zI a1, zI a2, zI a3] μ (some (zI r)) μ' := by
  refine z_Sp.of (plainFor_of_name (by decide)) rfl (l0 := [some (zA 9 0), some (zI a1), some (zI a2), some (zI a3)]) rfl (Nat.le_of_ble_eq_true rfl) ?_
  unfold f9_before at h
  refine zr_aload_n (i := 0) d_9_before_0 rfl rfl ?_
  refine zr_iload_n (i := 1) d_9_before_1 rfl rfl ?_
  obtain ⟨q1, hq2, h⟩ := z_bd h
  refine zr_callVi (av := [zI a1]) (st := []) d_9_before_2 mw_9_isKnown ml_9_468 im_9_isKnown se_9_isKnown rfl rfl (Nat.le_of_ble_eq_true rfl) fit_2_2_4 rfl rfl rfl (s9_isKnown hq2) ?_
  refine zr_if_eq (tgt := 29) d_9_before_5 rfl (fun hc3 => ?_) (fun hc3 => ?_)
  · replace h := z_ip h hc3
    refine zr_iconst (v := (-1 : Int32)) d_9_before_29 rfl ?_
    obtain ⟨rfl, rfl⟩ := Prod.mk.inj (Option.some.inj h)
    exact ze_i d_9_before_30 rfl
  · replace h := z_im h hc3
    refine zr_aload_n (i := 0) d_9_before_8 rfl rfl ?_
    refine zr_iload_n (i := 2) d_9_before_9 rfl rfl ?_
    obtain ⟨q4, hq5, h⟩ := z_bd h
    refine zr_callVi (av := [zI a2]) (st := []) d_9_before_10 mw_9_isPerson ml_9_316 im_9_isPerson se_9_isPerson rfl rfl (Nat.le_of_ble_eq_true rfl) fit_2_2_4 rfl rfl rfl (s9_isPerson hq5) ?_
    refine zr_if_eq (tgt := 29) d_9_before_13 rfl (fun hc6 => ?_) (fun hc6 => ?_)
    · replace h := z_ip h hc6
      refine zr_iconst (v := (-1 : Int32)) d_9_before_29 rfl ?_
      obtain ⟨rfl, rfl⟩ := Prod.mk.inj (Option.some.inj h)
      exact ze_i d_9_before_30 rfl
    · replace h := z_im h hc6
      refine zr_aload_n (i := 0) d_9_before_16 rfl rfl ?_
      refine zr_iload_n (i := 3) d_9_before_17 rfl rfl ?_
      obtain ⟨q7, hq8, h⟩ := z_bd h
      refine zr_callVi (av := [zI a3]) (st := []) d_9_before_18 mw_9_isPerson ml_9_316 im_9_isPerson se_9_isPerson rfl rfl (Nat.le_of_ble_eq_true rfl) fit_2_2_4 rfl rfl rfl (s9_isPerson hq8) ?_
      refine zr_if_eq (tgt := 29) d_9_before_21 rfl (fun hc9 => ?_) (fun hc9 => ?_)
      · replace h := z_ip h hc9
        refine zr_iconst (v := (-1 : Int32)) d_9_before_29 rfl ?_
        obtain ⟨rfl, rfl⟩ := Prod.mk.inj (Option.some.inj h)
        exact ze_i d_9_before_30 rfl
      · replace h := z_im h hc9
        refine zr_iload_n (i := 2) d_9_before_24 rfl rfl ?_
        refine zr_iload_n (i := 3) d_9_before_25 rfl rfl ?_
        refine zr_icmp_ne (tgt := 31) d_9_before_26 rfl (fun hc10 => ?_) (fun hc10 => ?_)
        · replace h := z_ip h hc10
          refine zr_iconst (v := (-1 : Int32)) d_9_before_29 rfl ?_
          obtain ⟨rfl, rfl⟩ := Prod.mk.inj (Option.some.inj h)
          exact ze_i d_9_before_30 rfl
        · replace h := z_im h hc10
          refine zr_aload_n (i := 0) d_9_before_31 rfl rfl ?_
          refine zr_iload_n (i := 1) d_9_before_32 rfl rfl ?_
          refine zr_iload_n (i := 2) d_9_before_33 rfl rfl ?_
          refine zr_iload_n (i := 3) d_9_before_34 rfl rfl ?_
          obtain ⟨⟨q11, qm12⟩, hq13, h⟩ := z_bd h
          replace h := z_h2 h
          refine zr_callVi (av := [zI a1, zI a2, zI a3]) (st := []) d_9_before_35 mw_9_beforeBy ml_9_477 im_9_beforeBy se_9_beforeBy rfl rfl (Nat.le_of_ble_eq_true rfl) fit_3_4_4 rfl rfl rfl (s9_beforeBy hq13) ?_
          obtain ⟨rfl, rfl⟩ := Prod.mk.inj (Option.some.inj h)
          exact ze_i d_9_before_38 rfl
def f9_sum_L10 (a2 : Int32) (qm8 : zMem) : (Int32 × Int32) → Option ((Int32 × Int32) ⊕ (Int32)) := (z_u2 fun x11 x12 => 
  if z_in (qm8.1 9 0 18) 2 = true then (if x12 < (qm8.1 126 0 (qm8.1 9 0 18).toNatClampNeg) then (f9_placedAt a2 x12 qm8).bind (fun q15 => some (.inl ((x11 + (x12 * q15)), (x12 + (1 : Int32))))) else some (.inr x11)) else none)
def f9_sum (a1 : Int32) (a2 : Int32) (μ : zMem) : Option (Int32 × zMem) :=
  (f9_isKnown a1 μ).bind (fun q1 => (if q1 = 0 then some ((-1 : Int32), μ) else (f9_isPerson a2 μ).bind (fun q4 => (if q4 = 0 then some ((-1 : Int32), μ) else (f9_countsBy a1 μ).bind (z_u2 fun q7 qm8 => (z_it (f9_sum_L10 a2 qm8) z_fu ((0 : Int32), (1 : Int32))).bind (fun e17 => some (e17, qm8)))))))
theorem s9_sum_L10 {P : zP} {ro : Option zV} {μo : zMem} (a2 : Int32) (qm8 : zMem) (x11 : Int32) (x12 : Int32) (K : (Int32 × Int32) ⊕ (Int32)) (h : f9_sum_L10 a2 qm8 (x11, x12) = some K) (hI : ∀ (y0 : Int32) (y1 : Int32), K = .inl (y0, y1) → z_RQ P M_9_sum (z_rm 4) (z_mq P ro μo) 0 0 29 [some (zA 9 0), none, some (zI a2), some (zI y0), some (zI y1)] [] qm8) (hE : ∀ (z0 : Int32), K = .inr z0 → z_RQ P M_9_sum (z_rm 4) (z_mq P ro μo) 0 0 62 [none, none, none, some (zI z0), none] [] qm8)  : z_RQ P M_9_sum (z_rm 4) (z_mq P ro μo) 0 0 29 [some (zA 9 0), none, some (zI a2), some (zI x11), some (zI x12)] [] qm8 := by
  unfold f9_sum_L10 at h
  replace h := z_h2 h
  refine zr_iload d_9_sum_29 rfl ?_
  refine zr_aload_n (i := 0) d_9_sum_31 rfl rfl ?_
  refine zr_gets (i' := 0) d_9_sum_32 fw_9_55 rfl ?_
  refine zr_aload_n (i := 0) d_9_sum_35 rfl rfl ?_
  refine zr_geti d_9_sum_36 fw_9_233 (by decide) ?_
  obtain ⟨hb13, h⟩ := z_gd h
  refine zr_iald d_9_sum_39 sa_126 rfl hb13 ?_
  refine zr_icmp_ge (tgt := 62) d_9_sum_40 rfl (fun hc14 => ?_) (fun hc14 => ?_)
  · replace h := z_ip h hc14
    refine zr_iload_n (i := 3) d_9_sum_43 rfl rfl ?_
    refine zr_iload d_9_sum_44 rfl ?_
    refine zr_aload_n (i := 0) d_9_sum_46 rfl rfl ?_
    refine zr_iload_n (i := 2) d_9_sum_47 rfl rfl ?_
    refine zr_iload d_9_sum_48 rfl ?_
    obtain ⟨q15, hq16, h⟩ := z_bd h
    refine zr_callVi (av := [zI a2, zI x12]) (st := [zI x12, zI x11]) d_9_sum_50 mw_9_placedAt ml_9_474 im_9_placedAt se_9_placedAt rfl rfl (Nat.le_of_ble_eq_true rfl) fit_2_5_4 rfl rfl rfl (s9_placedAt hq16) ?_
    refine zr_imul d_9_sum_53 ?_
    refine zr_iadd d_9_sum_54 ?_
    refine zr_istore_n (i := 3) (l' := [some (zA 9 0), none, some (zI a2), some (zI (x11 + (x12 * q15))), some (zI x12)]) d_9_sum_55 rfl (by decide) rfl ?_
    refine zr_iinc (v := (x12 + (1 : Int32))) (l' := [some (zA 9 0), none, some (zI a2), some (zI (x11 + (x12 * q15))), some (zI (x12 + (1 : Int32)))]) d_9_sum_56 (by decide) rfl rfl rfl ?_
    refine zr_goto (tgt := 29) d_9_sum_59 rfl ?_
    obtain rfl := Option.some.inj h
    exact zr_wk2 (hI (x11 + (x12 * q15)) (x12 + (1 : Int32)) rfl) ⟨rfl, ⟨rfl, ⟨rfl, ⟨rfl, trivial⟩⟩⟩⟩
  · replace h := z_im h hc14
    obtain rfl := Option.some.inj h
    exact zr_wk2 (hE x11 rfl) ⟨rfl, trivial⟩
theorem s9_sum {P : zP} {μ : zMem} {a1 : Int32} {a2 : Int32} {r : Int32} {μ' : zMem} (h : f9_sum a1 a2 μ = some (r, μ')) : z_Sp P y_9_sum M_9_sum 4 [zA 9 0, zI a1, zI a2] μ (some (zI r)) μ' := by
  refine z_Sp.of (plainFor_of_name (by decide)) rfl (l0 := [some (zA 9 0), some (zI a1), some (zI a2), none, none]) rfl (Nat.le_of_ble_eq_true rfl) ?_
  unfold f9_sum at h
  refine zr_aload_n (i := 0) d_9_sum_0 rfl rfl ?_
  refine zr_iload_n (i := 1) d_9_sum_1 rfl rfl ?_
  obtain ⟨q1, hq2, h⟩ := z_bd h
  refine zr_callVi (av := [zI a1]) (st := []) d_9_sum_2 mw_9_isKnown ml_9_468 im_9_isKnown se_9_isKnown rfl rfl (Nat.le_of_ble_eq_true rfl) fit_2_2_4 rfl rfl rfl (s9_isKnown hq2) ?_
  refine zr_if_eq (tgt := 16) d_9_sum_5 rfl (fun hc3 => ?_) (fun hc3 => ?_)
  · replace h := z_ip h hc3
    refine zr_iconst (v := (-1 : Int32)) d_9_sum_16 rfl ?_
    obtain ⟨rfl, rfl⟩ := Prod.mk.inj (Option.some.inj h)
    exact ze_i d_9_sum_17 rfl
  · replace h := z_im h hc3
    refine zr_aload_n (i := 0) d_9_sum_8 rfl rfl ?_
    refine zr_iload_n (i := 2) d_9_sum_9 rfl rfl ?_
    obtain ⟨q4, hq5, h⟩ := z_bd h
    refine zr_callVi (av := [zI a2]) (st := []) d_9_sum_10 mw_9_isPerson ml_9_316 im_9_isPerson se_9_isPerson rfl rfl (Nat.le_of_ble_eq_true rfl) fit_2_2_4 rfl rfl rfl (s9_isPerson hq5) ?_
    refine zr_if_ne (tgt := 18) d_9_sum_13 rfl (fun hc6 => ?_) (fun hc6 => ?_)
    · replace h := z_ip h hc6
      refine zr_iconst (v := (-1 : Int32)) d_9_sum_16 rfl ?_
      obtain ⟨rfl, rfl⟩ := Prod.mk.inj (Option.some.inj h)
      exact ze_i d_9_sum_17 rfl
    · replace h := z_im h hc6
      refine zr_aload_n (i := 0) d_9_sum_18 rfl rfl ?_
      refine zr_iload_n (i := 1) d_9_sum_19 rfl rfl ?_
      obtain ⟨⟨q7, qm8⟩, hq9, h⟩ := z_bd h
      replace h := z_h2 h
      refine zr_callVi (av := [zI a1]) (st := []) d_9_sum_20 mw_9_countsBy ml_9_471 im_9_countsBy se_9_countsBy rfl rfl (Nat.le_of_ble_eq_true rfl) fit_3_2_4 rfl rfl rfl (s9_countsBy hq9) ?_
      refine zr_popi d_9_sum_23 ?_
      refine zr_iconst (v := (0 : Int32)) d_9_sum_24 rfl ?_
      refine zr_istore_n (i := 3) (l' := [some (zA 9 0), some (zI a1), some (zI a2), some (zI (0 : Int32)), none]) d_9_sum_25 rfl (by decide) rfl ?_
      refine zr_iconst (v := (1 : Int32)) d_9_sum_26 rfl ?_
      refine zr_istore (i := 4) (l' := [some (zA 9 0), some (zI a1), some (zI a2), some (zI (0 : Int32)), some (zI (1 : Int32))]) d_9_sum_27 (by decide) rfl ?_
      obtain ⟨e17, hl18, h⟩ := z_bd h
      refine zr_wk (l' := [some (zA 9 0), none, some (zI a2), some (zI (0 : Int32)), some (zI (1 : Int32))]) ⟨rfl, ⟨rfl, ⟨rfl, ⟨rfl, trivial⟩⟩⟩⟩ ?_
      refine z_loop (Hd := (z_u2 fun y0 y1 => z_RQ P M_9_sum (z_rm 4) (z_mq P (some (zI r)) μ') 0 0 29 [some (zA 9 0), none, some (zI a2), some (zI y0), some (zI y1)] [] qm8)) (Ex := (fun z0 => z_RQ P M_9_sum (z_rm 4) (z_mq P (some (zI r)) μ') 0 0 62 [none, none, none, some (zI z0), none] [] qm8)) (fun ⟨x11, x12⟩ K h hI hE => s9_sum_L10 a2 qm8 x11 x12 K h (fun y0 y1 e => hI (y0, y1) e) (fun z0 e => hE z0 e) ) _ _ _ hl18 ?_
      refine zr_iload_n (i := 3) d_9_sum_62 rfl rfl ?_
      obtain ⟨rfl, rfl⟩ := Prod.mk.inj (Option.some.inj h)
      exact ze_i d_9_sum_63 rfl
def f9_ahead_L11 (a1 : Int32) (a2 : Int32) (q7 : Int32) : (Int32 × Int32 × zMem) → Option ((Int32 × Int32 × zMem) ⊕ (Int32 × zMem)) := (z_u3 fun x12 x13 xm14 => 
  if z_in (xm14.1 9 0 18) 2 = true then (if x13 < (xm14.1 126 0 (xm14.1 9 0 18).toNatClampNeg) then ((if x13 = a2 then some (x12, xm14) else (f9_beforeBy a1 x13 a2 xm14).bind (z_u2 fun q20 qm21 => (if q20 = q7 then z_let (x12 ||| ((1 : Int32) <<< (x13 &&& 31))) fun v24 => some (v24, qm21) else some (x12, qm21)))) : Option (Int32 × zMem)).bind (z_u2 fun j26 jm27 => some (.inl (j26, (x13 + (1 : Int32)), jm27))) else some (.inr (x12, xm14))) else none)
def f9_ahead (a1 : Int32) (a2 : Int32) (μ : zMem) : Option (Int32 × zMem) :=
  (f9_isKnown a1 μ).bind (fun q1 => (if q1 = 0 then some ((-1 : Int32), μ) else (f9_isPerson a2 μ).bind (fun q4 => (if q4 = 0 then some ((-1 : Int32), μ) else (f9_countsBy a1 μ).bind (z_u2 fun q7 qm8 => (if q7 = 0 then some ((-2 : Int32), qm8) else (z_it (f9_ahead_L11 a1 a2 q7) z_fu ((0 : Int32), (0 : Int32), qm8)).bind (z_u2 fun e28 e29 => some (e28, e29))))))))
theorem s9_ahead_L11 {P : zP} {ro : Option zV} {μo : zMem} (a1 : Int32) (a2 : Int32) (q7 : Int32) (x12 : Int32) (x13 : Int32) (xm14 : zMem) (K : (Int32 × Int32 × zMem) ⊕ (Int32 × zMem)) (h : f9_ahead_L11 a1 a2 q7 (x12, x13, xm14) = some K) (hI : ∀ (y0 : Int32) (y1 : Int32) (y2 : zMem), K = .inl (y0, y1, y2) → z_RQ P M_9_ahead (z_rm 4) (z_mq P ro μo) 0 0 37 [some (zA 9 0), some (zI a1), some (zI a2), some (zI q7), some (zI y0), some (zI y1)] [] y2) (hE : ∀ (z0 : Int32) (z1 : zMem), K = .inr (z0, z1) → z_RQ P M_9_ahead (z_rm 4) (z_mq P ro μo) 0 0 84 [none, none, none, none, some (zI z0), none] [] z1)  : z_RQ P M_9_ahead (z_rm 4) (z_mq P ro μo) 0 0 37 [some (zA 9 0), some (zI a1), some (zI a2), some (zI q7), some (zI x12), some (zI x13)] [] xm14 := by
  unfold f9_ahead_L11 at h
  replace h := z_h3 h
  refine zr_iload d_9_ahead_37 rfl ?_
  refine zr_aload_n (i := 0) d_9_ahead_39 rfl rfl ?_
  refine zr_gets (i' := 0) d_9_ahead_40 fw_9_55 rfl ?_
  refine zr_aload_n (i := 0) d_9_ahead_43 rfl rfl ?_
  refine zr_geti d_9_ahead_44 fw_9_233 (by decide) ?_
  obtain ⟨hb15, h⟩ := z_gd h
  refine zr_iald d_9_ahead_47 sa_126 rfl hb15 ?_
  refine zr_icmp_ge (tgt := 84) d_9_ahead_48 rfl (fun hc16 => ?_) (fun hc16 => ?_)
  · replace h := z_ip h hc16
    refine zr_iload d_9_ahead_51 rfl ?_
    refine zr_iload_n (i := 2) d_9_ahead_53 rfl rfl ?_
    obtain ⟨⟨j26, jm27⟩, hT17, h⟩ := z_bd h
    replace h := z_h2 h
    have hJ18 : z_RQ P M_9_ahead (z_rm 4) (z_mq P ro μo) 0 0 78 [some (zA 9 0), some (zI a1), some (zI a2), some (zI q7), some (zI j26), some (zI x13)] [] jm27 := by
      refine zr_iinc (v := (x13 + (1 : Int32))) (l' := [some (zA 9 0), some (zI a1), some (zI a2), some (zI q7), some (zI j26), some (zI (x13 + (1 : Int32)))]) d_9_ahead_78 (by decide) rfl rfl rfl ?_
      refine zr_goto (tgt := 37) d_9_ahead_81 rfl ?_
      obtain rfl := Option.some.inj h
      exact zr_wk2 (hI j26 (x13 + (1 : Int32)) jm27 rfl) ⟨rfl, ⟨rfl, ⟨rfl, ⟨rfl, ⟨rfl, ⟨rfl, trivial⟩⟩⟩⟩⟩⟩
    refine zr_icmp_eq (tgt := 78) d_9_ahead_54 rfl (fun hc19 => ?_) (fun hc19 => ?_)
    · replace hT17 := z_ip hT17 hc19
      obtain ⟨rfl, rfl⟩ := z_i2 (Option.some.inj hT17)
      exact zr_wk2 hJ18 ⟨rfl, ⟨rfl, ⟨rfl, ⟨rfl, ⟨rfl, ⟨rfl, trivial⟩⟩⟩⟩⟩⟩
    · replace hT17 := z_im hT17 hc19
      refine zr_aload_n (i := 0) d_9_ahead_57 rfl rfl ?_
      refine zr_iload_n (i := 1) d_9_ahead_58 rfl rfl ?_
      refine zr_iload d_9_ahead_59 rfl ?_
      refine zr_iload_n (i := 2) d_9_ahead_61 rfl rfl ?_
      obtain ⟨⟨q20, qm21⟩, hq22, hT17⟩ := z_bd hT17
      replace hT17 := z_h2 hT17
      refine zr_callVi (av := [zI a1, zI x13, zI a2]) (st := []) d_9_ahead_62 mw_9_beforeBy ml_9_477 im_9_beforeBy se_9_beforeBy rfl rfl (Nat.le_of_ble_eq_true rfl) fit_3_4_4 rfl rfl rfl (s9_beforeBy hq22) ?_
      refine zr_iload_n (i := 3) d_9_ahead_65 rfl rfl ?_
      refine zr_icmp_ne (tgt := 78) d_9_ahead_66 rfl (fun hc23 => ?_) (fun hc23 => ?_)
      · replace hT17 := z_ip hT17 hc23
        refine zr_iload d_9_ahead_69 rfl ?_
        refine zr_iconst (v := (1 : Int32)) d_9_ahead_71 rfl ?_
        refine zr_iload d_9_ahead_72 rfl ?_
        refine zr_ishl d_9_ahead_74 ?_
        refine zr_ior d_9_ahead_75 ?_
        obtain ⟨v24, hv25, hT17⟩ := z_lt hT17
        refine zr_nm hv25 ?_
        refine zr_istore (i := 4) (l' := [some (zA 9 0), some (zI a1), some (zI a2), some (zI q7), some (zI v24), some (zI x13)]) d_9_ahead_76 (by decide) rfl ?_
        obtain ⟨rfl, rfl⟩ := z_i2 (Option.some.inj hT17)
        exact zr_wk2 hJ18 ⟨rfl, ⟨rfl, ⟨rfl, ⟨rfl, ⟨rfl, ⟨rfl, trivial⟩⟩⟩⟩⟩⟩
      · replace hT17 := z_im hT17 hc23
        obtain ⟨rfl, rfl⟩ := z_i2 (Option.some.inj hT17)
        exact zr_wk2 hJ18 ⟨rfl, ⟨rfl, ⟨rfl, ⟨rfl, ⟨rfl, ⟨rfl, trivial⟩⟩⟩⟩⟩⟩
  · replace h := z_im h hc16
    obtain rfl := Option.some.inj h
    exact zr_wk2 (hE x12 xm14 rfl) ⟨rfl, trivial⟩
theorem s9_ahead {P : zP} {μ : zMem} {a1 : Int32} {a2 : Int32} {r : Int32} {μ' : zMem} (h : f9_ahead a1 a2 μ = some (r, μ')) : z_Sp P y_9_ahead M_9_ahead 4 [zA 9 0, zI a1, zI a2] μ (some (zI r)) μ' := by
  refine z_Sp.of (plainFor_of_name (by decide)) rfl (l0 := [some (zA 9 0), some (zI a1), some (zI a2), none, none, none]) rfl (Nat.le_of_ble_eq_true rfl) ?_
  unfold f9_ahead at h
  refine zr_aload_n (i := 0) d_9_ahead_0 rfl rfl ?_
  refine zr_iload_n (i := 1) d_9_ahead_1 rfl rfl ?_
  obtain ⟨q1, hq2, h⟩ := z_bd h
  refine zr_callVi (av := [zI a1]) (st := []) d_9_ahead_2 mw_9_isKnown ml_9_468 im_9_isKnown se_9_isKnown rfl rfl (Nat.le_of_ble_eq_true rfl) fit_2_2_4 rfl rfl rfl (s9_isKnown hq2) ?_
  refine zr_if_eq (tgt := 16) d_9_ahead_5 rfl (fun hc3 => ?_) (fun hc3 => ?_)
  · replace h := z_ip h hc3
    refine zr_iconst (v := (-1 : Int32)) d_9_ahead_16 rfl ?_
    obtain ⟨rfl, rfl⟩ := Prod.mk.inj (Option.some.inj h)
    exact ze_i d_9_ahead_17 rfl
  · replace h := z_im h hc3
    refine zr_aload_n (i := 0) d_9_ahead_8 rfl rfl ?_
    refine zr_iload_n (i := 2) d_9_ahead_9 rfl rfl ?_
    obtain ⟨q4, hq5, h⟩ := z_bd h
    refine zr_callVi (av := [zI a2]) (st := []) d_9_ahead_10 mw_9_isPerson ml_9_316 im_9_isPerson se_9_isPerson rfl rfl (Nat.le_of_ble_eq_true rfl) fit_2_2_4 rfl rfl rfl (s9_isPerson hq5) ?_
    refine zr_if_ne (tgt := 18) d_9_ahead_13 rfl (fun hc6 => ?_) (fun hc6 => ?_)
    · replace h := z_ip h hc6
      refine zr_iconst (v := (-1 : Int32)) d_9_ahead_16 rfl ?_
      obtain ⟨rfl, rfl⟩ := Prod.mk.inj (Option.some.inj h)
      exact ze_i d_9_ahead_17 rfl
    · replace h := z_im h hc6
      refine zr_aload_n (i := 0) d_9_ahead_18 rfl rfl ?_
      refine zr_iload_n (i := 1) d_9_ahead_19 rfl rfl ?_
      obtain ⟨⟨q7, qm8⟩, hq9, h⟩ := z_bd h
      replace h := z_h2 h
      refine zr_callVi (av := [zI a1]) (st := []) d_9_ahead_20 mw_9_countsBy ml_9_471 im_9_countsBy se_9_countsBy rfl rfl (Nat.le_of_ble_eq_true rfl) fit_3_2_4 rfl rfl rfl (s9_countsBy hq9) ?_
      refine zr_istore_n (i := 3) (l' := [some (zA 9 0), some (zI a1), some (zI a2), some (zI q7), none, none]) d_9_ahead_23 rfl (by decide) rfl ?_
      refine zr_iload_n (i := 3) d_9_ahead_24 rfl rfl ?_
      refine zr_if_ne (tgt := 31) d_9_ahead_25 rfl (fun hc10 => ?_) (fun hc10 => ?_)
      · replace h := z_ip h hc10
        refine zr_bipush (v := (-2 : Int32)) d_9_ahead_28 (by decide) ?_
        obtain ⟨rfl, rfl⟩ := Prod.mk.inj (Option.some.inj h)
        exact ze_i d_9_ahead_30 rfl
      · replace h := z_im h hc10
        refine zr_iconst (v := (0 : Int32)) d_9_ahead_31 rfl ?_
        refine zr_istore (i := 4) (l' := [some (zA 9 0), some (zI a1), some (zI a2), some (zI q7), some (zI (0 : Int32)), none]) d_9_ahead_32 (by decide) rfl ?_
        refine zr_iconst (v := (0 : Int32)) d_9_ahead_34 rfl ?_
        refine zr_istore (i := 5) (l' := [some (zA 9 0), some (zI a1), some (zI a2), some (zI q7), some (zI (0 : Int32)), some (zI (0 : Int32))]) d_9_ahead_35 (by decide) rfl ?_
        obtain ⟨⟨e28, e29⟩, hl30, h⟩ := z_bd h
        replace h := z_h2 h
        refine zr_wk (l' := [some (zA 9 0), some (zI a1), some (zI a2), some (zI q7), some (zI (0 : Int32)), some (zI (0 : Int32))]) ⟨rfl, ⟨rfl, ⟨rfl, ⟨rfl, ⟨rfl, ⟨rfl, trivial⟩⟩⟩⟩⟩⟩ ?_
        refine z_loop (Hd := (z_u3 fun y0 y1 y2 => z_RQ P M_9_ahead (z_rm 4) (z_mq P (some (zI r)) μ') 0 0 37 [some (zA 9 0), some (zI a1), some (zI a2), some (zI q7), some (zI y0), some (zI y1)] [] y2)) (Ex := (z_u2 fun z0 z1 => z_RQ P M_9_ahead (z_rm 4) (z_mq P (some (zI r)) μ') 0 0 84 [none, none, none, none, some (zI z0), none] [] z1)) (fun ⟨x12, x13, xm14⟩ K h hI hE => s9_ahead_L11 a1 a2 q7 x12 x13 xm14 K h (fun y0 y1 y2 e => hI (y0, y1, y2) e) (fun z0 z1 e => hE (z0, z1) e) ) _ _ _ hl30 ?_
        refine zr_iload d_9_ahead_84 rfl ?_
        obtain ⟨rfl, rfl⟩ := Prod.mk.inj (Option.some.inj h)
        exact ze_i d_9_ahead_86 rfl
