/-! 17.meth.lean.txt -/
def y_9_foremost : MethodName := ⟨zR9, "foremost", "(I)I"⟩
abbrev M_9_foremost : zM := (zR9, prog_11_method_126_code, 5, (Option.some Jvm.ClassFile.FieldType.int))
def y_9_ask : MethodName := ⟨zR9, "ask", "(I)I"⟩
abbrev M_9_ask : zM := (zR9, prog_11_method_127_code, 9, (Option.some Jvm.ClassFile.FieldType.int))
def y_9_order : MethodName := ⟨zR9, "order", "(III)I"⟩
abbrev M_9_order : zM := (zR9, prog_11_method_128_code, 8, (Option.some Jvm.ClassFile.FieldType.int))
def y_9_hold : MethodName := ⟨zR9, "hold", "(I)Z"⟩
abbrev M_9_hold : zM := (zR9, prog_11_method_129_code, 3, (Option.some Jvm.ClassFile.FieldType.boolean))
def y_9_restore : MethodName := ⟨zR9, "restore", "(I)Z"⟩
abbrev M_9_restore : zM := (zR9, prog_11_method_130_code, 3, (Option.some Jvm.ClassFile.FieldType.boolean))
def y_9_sumNow : MethodName := ⟨zR9, "sumNow", "(I)I"⟩
abbrev M_9_sumNow : zM := (zR9, prog_11_method_131_code, 4, (Option.some Jvm.ClassFile.FieldType.int))
def y_9_count : MethodName := ⟨zR9, "count", "(I)I"⟩
abbrev M_9_count : zM := (zR9, prog_11_method_132_code, 4, (Option.some Jvm.ClassFile.FieldType.int))
theorem fw_9_149 : z_FW zR9 149 9 65 (2, 165, fun i => i) := ⟨_, _, rfl, rfl, rfl, by decide, z_m5 (List.mem_of_getElem? (i := 213) rfl) rfl⟩
theorem sa_165 : z_SA 165 0 := ⟨rfl, rfl, by decide⟩
theorem fit_1_4_7 : z_fit (z_rm 7) 0 0 1 4 := ⟨by decide, by decide, by decide, by decide⟩
theorem mw_9_sumNow : z_MW y_9_sumNow M_9_sumNow 1 := ⟨z_m1 (List.mem_of_getElem? (i := 10) rfl) rfl, z_m8 (List.mem_of_getElem? (i := 121) rfl) rfl, by decide, by decide, by decide +kernel⟩
theorem ml_9_480 : Cond.methodLink zR9 480 y_9_sumNow ∈ lw_gd := z_m8 (List.mem_of_getElem? (i := 118) rfl) rfl
theorem im_9_sumNow : Cond.instanceMethod y_9_sumNow ∈ lw_gd := z_m8 (List.mem_of_getElem? (i := 120) rfl) rfl
theorem se_9_sumNow : Cond.selects y_9_sumNow.cls y_9_sumNow y_9_sumNow ∈ lw_gd := z_s (q := (y_9_sumNow, _)) (List.mem_of_getElem? (i := 134) rfl)
theorem d_9_foremost_0 : zD prog_11_method_126_code 0 (.aload_n 0) 1 1 := ⟨by decide +kernel, rfl⟩
theorem d_9_foremost_1 : zD prog_11_method_126_code 1 (.iload_n 1) 1 2 := ⟨by decide +kernel, rfl⟩
theorem d_9_foremost_2 : zD prog_11_method_126_code 2 (.invokevirtual 468) 3 5 := ⟨by decide +kernel, rfl⟩
theorem d_9_foremost_5 : zD prog_11_method_126_code 5 (.ifCond .ne 5) 3 8 := ⟨by decide +kernel, rfl⟩
theorem d_9_foremost_8 : zD prog_11_method_126_code 8 (.iconst (-1)) 1 9 := ⟨by decide +kernel, rfl⟩
theorem d_9_foremost_9 : zD prog_11_method_126_code 9 (.ireturn) 1 10 := ⟨by decide +kernel, rfl⟩
theorem d_9_foremost_10 : zD prog_11_method_126_code 10 (.aload_n 0) 1 11 := ⟨by decide +kernel, rfl⟩
theorem d_9_foremost_11 : zD prog_11_method_126_code 11 (.iload_n 1) 1 12 := ⟨by decide +kernel, rfl⟩
theorem d_9_foremost_12 : zD prog_11_method_126_code 12 (.invokevirtual 471) 3 15 := ⟨by decide +kernel, rfl⟩
theorem d_9_foremost_15 : zD prog_11_method_126_code 15 (.istore_n 2) 1 16 := ⟨by decide +kernel, rfl⟩
theorem d_9_foremost_16 : zD prog_11_method_126_code 16 (.bipush (-2)) 2 18 := ⟨by decide +kernel, rfl⟩
theorem d_9_foremost_18 : zD prog_11_method_126_code 18 (.istore_n 3) 1 19 := ⟨by decide +kernel, rfl⟩
theorem d_9_foremost_19 : zD prog_11_method_126_code 19 (.iconst 0) 1 20 := ⟨by decide +kernel, rfl⟩
theorem d_9_foremost_20 : zD prog_11_method_126_code 20 (.istore 4) 2 22 := ⟨by decide +kernel, rfl⟩
theorem d_9_foremost_22 : zD prog_11_method_126_code 22 (.iload 4) 2 24 := ⟨by decide +kernel, rfl⟩
theorem d_9_foremost_24 : zD prog_11_method_126_code 24 (.aload_n 0) 1 25 := ⟨by decide +kernel, rfl⟩
theorem d_9_foremost_25 : zD prog_11_method_126_code 25 (.getfield 55) 3 28 := ⟨by decide +kernel, rfl⟩
theorem d_9_foremost_28 : zD prog_11_method_126_code 28 (.aload_n 0) 1 29 := ⟨by decide +kernel, rfl⟩
theorem d_9_foremost_29 : zD prog_11_method_126_code 29 (.getfield 233) 3 32 := ⟨by decide +kernel, rfl⟩
theorem d_9_foremost_32 : zD prog_11_method_126_code 32 (.iaload) 1 33 := ⟨by decide +kernel, rfl⟩
theorem d_9_foremost_33 : zD prog_11_method_126_code 33 (.if_icmp .ge 36) 3 36 := ⟨by decide +kernel, rfl⟩
theorem d_9_foremost_36 : zD prog_11_method_126_code 36 (.iload_n 2) 1 37 := ⟨by decide +kernel, rfl⟩
theorem d_9_foremost_37 : zD prog_11_method_126_code 37 (.ifCond .le 32) 3 40 := ⟨by decide +kernel, rfl⟩
theorem d_9_foremost_40 : zD prog_11_method_126_code 40 (.iload_n 3) 1 41 := ⟨by decide +kernel, rfl⟩
theorem d_9_foremost_41 : zD prog_11_method_126_code 41 (.ifCond .lt 19) 3 44 := ⟨by decide +kernel, rfl⟩
theorem d_9_foremost_44 : zD prog_11_method_126_code 44 (.aload_n 0) 1 45 := ⟨by decide +kernel, rfl⟩
theorem d_9_foremost_45 : zD prog_11_method_126_code 45 (.iload 4) 2 47 := ⟨by decide +kernel, rfl⟩
theorem d_9_foremost_47 : zD prog_11_method_126_code 47 (.iconst 0) 1 48 := ⟨by decide +kernel, rfl⟩
theorem d_9_foremost_48 : zD prog_11_method_126_code 48 (.invokevirtual 474) 3 51 := ⟨by decide +kernel, rfl⟩
theorem d_9_foremost_51 : zD prog_11_method_126_code 51 (.aload_n 0) 1 52 := ⟨by decide +kernel, rfl⟩
theorem d_9_foremost_52 : zD prog_11_method_126_code 52 (.iload_n 3) 1 53 := ⟨by decide +kernel, rfl⟩
theorem d_9_foremost_53 : zD prog_11_method_126_code 53 (.iconst 0) 1 54 := ⟨by decide +kernel, rfl⟩
theorem d_9_foremost_54 : zD prog_11_method_126_code 54 (.invokevirtual 474) 3 57 := ⟨by decide +kernel, rfl⟩
theorem d_9_foremost_57 : zD prog_11_method_126_code 57 (.if_icmp .le 6) 3 60 := ⟨by decide +kernel, rfl⟩
theorem d_9_foremost_60 : zD prog_11_method_126_code 60 (.iload 4) 2 62 := ⟨by decide +kernel, rfl⟩
theorem d_9_foremost_62 : zD prog_11_method_126_code 62 (.istore_n 3) 1 63 := ⟨by decide +kernel, rfl⟩
theorem d_9_foremost_63 : zD prog_11_method_126_code 63 (.iinc 4 1) 3 66 := ⟨by decide +kernel, rfl⟩
theorem d_9_foremost_66 : zD prog_11_method_126_code 66 (.goto (-44)) 3 69 := ⟨by decide +kernel, rfl⟩
theorem d_9_foremost_69 : zD prog_11_method_126_code 69 (.iload_n 3) 1 70 := ⟨by decide +kernel, rfl⟩
theorem d_9_foremost_70 : zD prog_11_method_126_code 70 (.ireturn) 1 71 := ⟨by decide +kernel, rfl⟩
theorem d_9_ask_0 : zD prog_11_method_127_code 0 (.aload_n 0) 1 1 := ⟨by decide +kernel, rfl⟩
theorem d_9_ask_1 : zD prog_11_method_127_code 1 (.iload_n 1) 1 2 := ⟨by decide +kernel, rfl⟩
theorem d_9_ask_2 : zD prog_11_method_127_code 2 (.invokevirtual 468) 3 5 := ⟨by decide +kernel, rfl⟩
theorem d_9_ask_5 : zD prog_11_method_127_code 5 (.ifCond .ne 5) 3 8 := ⟨by decide +kernel, rfl⟩
theorem d_9_ask_8 : zD prog_11_method_127_code 8 (.iconst (-1)) 1 9 := ⟨by decide +kernel, rfl⟩
theorem d_9_ask_9 : zD prog_11_method_127_code 9 (.ireturn) 1 10 := ⟨by decide +kernel, rfl⟩
theorem d_9_ask_10 : zD prog_11_method_127_code 10 (.aload_n 0) 1 11 := ⟨by decide +kernel, rfl⟩
theorem d_9_ask_11 : zD prog_11_method_127_code 11 (.iload_n 1) 1 12 := ⟨by decide +kernel, rfl⟩
theorem d_9_ask_12 : zD prog_11_method_127_code 12 (.invokevirtual 471) 3 15 := ⟨by decide +kernel, rfl⟩
theorem d_9_ask_15 : zD prog_11_method_127_code 15 (.istore_n 2) 1 16 := ⟨by decide +kernel, rfl⟩
theorem d_9_ask_16 : zD prog_11_method_127_code 16 (.bipush (-2)) 2 18 := ⟨by decide +kernel, rfl⟩
theorem d_9_ask_18 : zD prog_11_method_127_code 18 (.istore_n 3) 1 19 := ⟨by decide +kernel, rfl⟩
theorem d_9_ask_19 : zD prog_11_method_127_code 19 (.iconst 0) 1 20 := ⟨by decide +kernel, rfl⟩
theorem d_9_ask_20 : zD prog_11_method_127_code 20 (.istore 4) 2 22 := ⟨by decide +kernel, rfl⟩
theorem d_9_ask_22 : zD prog_11_method_127_code 22 (.iconst 0) 1 23 := ⟨by decide +kernel, rfl⟩
theorem d_9_ask_23 : zD prog_11_method_127_code 23 (.istore 5) 2 25 := ⟨by decide +kernel, rfl⟩
theorem d_9_ask_25 : zD prog_11_method_127_code 25 (.iload 5) 2 27 := ⟨by decide +kernel, rfl⟩
theorem d_9_ask_27 : zD prog_11_method_127_code 27 (.aload_n 0) 1 28 := ⟨by decide +kernel, rfl⟩
theorem d_9_ask_28 : zD prog_11_method_127_code 28 (.getfield 55) 3 31 := ⟨by decide +kernel, rfl⟩
theorem d_9_ask_31 : zD prog_11_method_127_code 31 (.aload_n 0) 1 32 := ⟨by decide +kernel, rfl⟩
theorem d_9_ask_32 : zD prog_11_method_127_code 32 (.getfield 233) 3 35 := ⟨by decide +kernel, rfl⟩
theorem d_9_ask_35 : zD prog_11_method_127_code 35 (.iaload) 1 36 := ⟨by decide +kernel, rfl⟩
theorem d_9_ask_36 : zD prog_11_method_127_code 36 (.if_icmp .ge 97) 3 39 := ⟨by decide +kernel, rfl⟩
theorem d_9_ask_39 : zD prog_11_method_127_code 39 (.iload_n 2) 1 40 := ⟨by decide +kernel, rfl⟩
theorem d_9_ask_40 : zD prog_11_method_127_code 40 (.ifCond .le 93) 3 43 := ⟨by decide +kernel, rfl⟩
theorem d_9_ask_43 : zD prog_11_method_127_code 43 (.iload 5) 2 45 := ⟨by decide +kernel, rfl⟩
theorem d_9_ask_45 : zD prog_11_method_127_code 45 (.iconst 1) 1 46 := ⟨by decide +kernel, rfl⟩
theorem d_9_ask_46 : zD prog_11_method_127_code 46 (.iadd) 1 47 := ⟨by decide +kernel, rfl⟩
theorem d_9_ask_47 : zD prog_11_method_127_code 47 (.istore 6) 2 49 := ⟨by decide +kernel, rfl⟩
theorem d_9_ask_49 : zD prog_11_method_127_code 49 (.iload 6) 2 51 := ⟨by decide +kernel, rfl⟩
theorem d_9_ask_51 : zD prog_11_method_127_code 51 (.aload_n 0) 1 52 := ⟨by decide +kernel, rfl⟩
theorem d_9_ask_52 : zD prog_11_method_127_code 52 (.getfield 55) 3 55 := ⟨by decide +kernel, rfl⟩
theorem d_9_ask_55 : zD prog_11_method_127_code 55 (.aload_n 0) 1 56 := ⟨by decide +kernel, rfl⟩
theorem d_9_ask_56 : zD prog_11_method_127_code 56 (.getfield 233) 3 59 := ⟨by decide +kernel, rfl⟩
theorem d_9_ask_59 : zD prog_11_method_127_code 59 (.iaload) 1 60 := ⟨by decide +kernel, rfl⟩
theorem d_9_ask_60 : zD prog_11_method_127_code 60 (.if_icmp .ge 67) 3 63 := ⟨by decide +kernel, rfl⟩
theorem d_9_ask_63 : zD prog_11_method_127_code 63 (.aload_n 0) 1 64 := ⟨by decide +kernel, rfl⟩
theorem d_9_ask_64 : zD prog_11_method_127_code 64 (.iload_n 1) 1 65 := ⟨by decide +kernel, rfl⟩
theorem d_9_ask_65 : zD prog_11_method_127_code 65 (.iload 5) 2 67 := ⟨by decide +kernel, rfl⟩
theorem d_9_ask_67 : zD prog_11_method_127_code 67 (.iload 6) 2 69 := ⟨by decide +kernel, rfl⟩
theorem d_9_ask_69 : zD prog_11_method_127_code 69 (.invokevirtual 477) 3 72 := ⟨by decide +kernel, rfl⟩
theorem d_9_ask_72 : zD prog_11_method_127_code 72 (.istore 7) 2 74 := ⟨by decide +kernel, rfl⟩
theorem d_9_ask_74 : zD prog_11_method_127_code 74 (.iload 7) 2 76 := ⟨by decide +kernel, rfl⟩
theorem d_9_ask_76 : zD prog_11_method_127_code 76 (.iload_n 2) 1 77 := ⟨by decide +kernel, rfl⟩
theorem d_9_ask_77 : zD prog_11_method_127_code 77 (.iload 7) 2 79 := ⟨by decide +kernel, rfl⟩
theorem d_9_ask_79 : zD prog_11_method_127_code 79 (.isub) 1 80 := ⟨by decide +kernel, rfl⟩
theorem d_9_ask_80 : zD prog_11_method_127_code 80 (.if_icmp .le 8) 3 83 := ⟨by decide +kernel, rfl⟩
theorem d_9_ask_83 : zD prog_11_method_127_code 83 (.iload 7) 2 85 := ⟨by decide +kernel, rfl⟩
theorem d_9_ask_85 : zD prog_11_method_127_code 85 (.goto 7) 3 88 := ⟨by decide +kernel, rfl⟩
theorem d_9_ask_88 : zD prog_11_method_127_code 88 (.iload_n 2) 1 89 := ⟨by decide +kernel, rfl⟩
theorem d_9_ask_89 : zD prog_11_method_127_code 89 (.iload 7) 2 91 := ⟨by decide +kernel, rfl⟩
theorem d_9_ask_91 : zD prog_11_method_127_code 91 (.isub) 1 92 := ⟨by decide +kernel, rfl⟩
theorem d_9_ask_92 : zD prog_11_method_127_code 92 (.istore 8) 2 94 := ⟨by decide +kernel, rfl⟩
theorem d_9_ask_94 : zD prog_11_method_127_code 94 (.iload_n 3) 1 95 := ⟨by decide +kernel, rfl⟩
theorem d_9_ask_95 : zD prog_11_method_127_code 95 (.ifCond .lt 13) 3 98 := ⟨by decide +kernel, rfl⟩
theorem d_9_ask_98 : zD prog_11_method_127_code 98 (.iload 8) 2 100 := ⟨by decide +kernel, rfl⟩
theorem d_9_ask_100 : zD prog_11_method_127_code 100 (.iload 4) 2 102 := ⟨by decide +kernel, rfl⟩
theorem d_9_ask_102 : zD prog_11_method_127_code 102 (.if_icmp .lt 6) 3 105 := ⟨by decide +kernel, rfl⟩
theorem d_9_ask_105 : zD prog_11_method_127_code 105 (.goto 16) 3 108 := ⟨by decide +kernel, rfl⟩
theorem d_9_ask_108 : zD prog_11_method_127_code 108 (.bipush 10) 2 110 := ⟨by decide +kernel, rfl⟩
theorem d_9_ask_110 : zD prog_11_method_127_code 110 (.iload 5) 2 112 := ⟨by decide +kernel, rfl⟩
theorem d_9_ask_112 : zD prog_11_method_127_code 112 (.imul) 1 113 := ⟨by decide +kernel, rfl⟩
theorem d_9_ask_113 : zD prog_11_method_127_code 113 (.iload 6) 2 115 := ⟨by decide +kernel, rfl⟩
theorem d_9_ask_115 : zD prog_11_method_127_code 115 (.iadd) 1 116 := ⟨by decide +kernel, rfl⟩
theorem d_9_ask_116 : zD prog_11_method_127_code 116 (.istore_n 3) 1 117 := ⟨by decide +kernel, rfl⟩
theorem d_9_ask_117 : zD prog_11_method_127_code 117 (.iload 8) 2 119 := ⟨by decide +kernel, rfl⟩
theorem d_9_ask_119 : zD prog_11_method_127_code 119 (.istore 4) 2 121 := ⟨by decide +kernel, rfl⟩
theorem d_9_ask_121 : zD prog_11_method_127_code 121 (.iinc 6 1) 3 124 := ⟨by decide +kernel, rfl⟩
theorem d_9_ask_124 : zD prog_11_method_127_code 124 (.goto (-75)) 3 127 := ⟨by decide +kernel, rfl⟩
theorem d_9_ask_127 : zD prog_11_method_127_code 127 (.iinc 5 1) 3 130 := ⟨by decide +kernel, rfl⟩
theorem d_9_ask_130 : zD prog_11_method_127_code 130 (.goto (-105)) 3 133 := ⟨by decide +kernel, rfl⟩
theorem d_9_ask_133 : zD prog_11_method_127_code 133 (.iload_n 3) 1 134 := ⟨by decide +kernel, rfl⟩
theorem d_9_ask_134 : zD prog_11_method_127_code 134 (.ireturn) 1 135 := ⟨by decide +kernel, rfl⟩
theorem d_9_order_0 : zD prog_11_method_128_code 0 (.aload_n 0) 1 1 := ⟨by decide +kernel, rfl⟩
theorem d_9_order_1 : zD prog_11_method_128_code 1 (.iload_n 1) 1 2 := ⟨by decide +kernel, rfl⟩
theorem d_9_order_2 : zD prog_11_method_128_code 2 (.invokevirtual 468) 3 5 := ⟨by decide +kernel, rfl⟩
theorem d_9_order_5 : zD prog_11_method_128_code 5 (.ifCond .eq 37) 3 8 := ⟨by decide +kernel, rfl⟩
theorem d_9_order_8 : zD prog_11_method_128_code 8 (.iload_n 3) 1 9 := ⟨by decide +kernel, rfl⟩
theorem d_9_order_9 : zD prog_11_method_128_code 9 (.iconst 0) 1 10 := ⟨by decide +kernel, rfl⟩
theorem d_9_order_10 : zD prog_11_method_128_code 10 (.aload_n 0) 1 11 := ⟨by decide +kernel, rfl⟩
theorem d_9_order_11 : zD prog_11_method_128_code 11 (.getfield 55) 3 14 := ⟨by decide +kernel, rfl⟩
theorem d_9_order_14 : zD prog_11_method_128_code 14 (.aload_n 0) 1 15 := ⟨by decide +kernel, rfl⟩
theorem d_9_order_15 : zD prog_11_method_128_code 15 (.getfield 233) 3 18 := ⟨by decide +kernel, rfl⟩
theorem d_9_order_18 : zD prog_11_method_128_code 18 (.iaload) 1 19 := ⟨by decide +kernel, rfl⟩
theorem d_9_order_19 : zD prog_11_method_128_code 19 (.iconst 1) 1 20 := ⟨by decide +kernel, rfl⟩
theorem d_9_order_20 : zD prog_11_method_128_code 20 (.isub) 1 21 := ⟨by decide +kernel, rfl⟩
theorem d_9_order_21 : zD prog_11_method_128_code 21 (.invokestatic 312) 3 24 := ⟨by decide +kernel, rfl⟩
theorem d_9_order_24 : zD prog_11_method_128_code 24 (.ifCond .eq 18) 3 27 := ⟨by decide +kernel, rfl⟩
theorem d_9_order_27 : zD prog_11_method_128_code 27 (.iload_n 2) 1 28 := ⟨by decide +kernel, rfl⟩
theorem d_9_order_28 : zD prog_11_method_128_code 28 (.iconst 0) 1 29 := ⟨by decide +kernel, rfl⟩
theorem d_9_order_29 : zD prog_11_method_128_code 29 (.aload_n 0) 1 30 := ⟨by decide +kernel, rfl⟩
theorem d_9_order_30 : zD prog_11_method_128_code 30 (.iload_n 1) 1 31 := ⟨by decide +kernel, rfl⟩
theorem d_9_order_31 : zD prog_11_method_128_code 31 (.invokevirtual 471) 3 34 := ⟨by decide +kernel, rfl⟩
theorem d_9_order_34 : zD prog_11_method_128_code 34 (.iconst 1) 1 35 := ⟨by decide +kernel, rfl⟩
theorem d_9_order_35 : zD prog_11_method_128_code 35 (.isub) 1 36 := ⟨by decide +kernel, rfl⟩
theorem d_9_order_36 : zD prog_11_method_128_code 36 (.invokestatic 312) 3 39 := ⟨by decide +kernel, rfl⟩
theorem d_9_order_39 : zD prog_11_method_128_code 39 (.ifCond .ne 5) 3 42 := ⟨by decide +kernel, rfl⟩
theorem d_9_order_42 : zD prog_11_method_128_code 42 (.iconst (-1)) 1 43 := ⟨by decide +kernel, rfl⟩
theorem d_9_order_43 : zD prog_11_method_128_code 43 (.ireturn) 1 44 := ⟨by decide +kernel, rfl⟩
theorem d_9_order_44 : zD prog_11_method_128_code 44 (.iload_n 2) 1 45 := ⟨by decide +kernel, rfl⟩
theorem d_9_order_45 : zD prog_11_method_128_code 45 (.istore 4) 2 47 := ⟨by decide +kernel, rfl⟩
theorem d_9_order_47 : zD prog_11_method_128_code 47 (.iconst 0) 1 48 := ⟨by decide +kernel, rfl⟩
theorem d_9_order_48 : zD prog_11_method_128_code 48 (.istore 5) 2 50 := ⟨by decide +kernel, rfl⟩
theorem d_9_order_50 : zD prog_11_method_128_code 50 (.iconst 0) 1 51 := ⟨by decide +kernel, rfl⟩
theorem d_9_order_51 : zD prog_11_method_128_code 51 (.istore 6) 2 53 := ⟨by decide +kernel, rfl⟩
theorem d_9_order_53 : zD prog_11_method_128_code 53 (.iconst 0) 1 54 := ⟨by decide +kernel, rfl⟩
theorem d_9_order_54 : zD prog_11_method_128_code 54 (.istore 7) 2 56 := ⟨by decide +kernel, rfl⟩
theorem d_9_order_56 : zD prog_11_method_128_code 56 (.iload 7) 2 58 := ⟨by decide +kernel, rfl⟩
theorem d_9_order_58 : zD prog_11_method_128_code 58 (.iload_n 3) 1 59 := ⟨by decide +kernel, rfl⟩
theorem d_9_order_59 : zD prog_11_method_128_code 59 (.if_icmp .gt 83) 3 62 := ⟨by decide +kernel, rfl⟩
theorem d_9_order_62 : zD prog_11_method_128_code 62 (.iconst 0) 1 63 := ⟨by decide +kernel, rfl⟩
theorem d_9_order_63 : zD prog_11_method_128_code 63 (.istore 6) 2 65 := ⟨by decide +kernel, rfl⟩
theorem d_9_order_65 : zD prog_11_method_128_code 65 (.aload_n 0) 1 66 := ⟨by decide +kernel, rfl⟩
theorem d_9_order_66 : zD prog_11_method_128_code 66 (.iload 6) 2 68 := ⟨by decide +kernel, rfl⟩
theorem d_9_order_68 : zD prog_11_method_128_code 68 (.iload 5) 2 70 := ⟨by decide +kernel, rfl⟩
theorem d_9_order_70 : zD prog_11_method_128_code 70 (.invokevirtual 459) 3 73 := ⟨by decide +kernel, rfl⟩
theorem d_9_order_73 : zD prog_11_method_128_code 73 (.ifCond .eq 20) 3 76 := ⟨by decide +kernel, rfl⟩
theorem d_9_order_76 : zD prog_11_method_128_code 76 (.iload 4) 2 78 := ⟨by decide +kernel, rfl⟩
theorem d_9_order_78 : zD prog_11_method_128_code 78 (.aload_n 0) 1 79 := ⟨by decide +kernel, rfl⟩
theorem d_9_order_79 : zD prog_11_method_128_code 79 (.getfield 143) 3 82 := ⟨by decide +kernel, rfl⟩
theorem d_9_order_82 : zD prog_11_method_128_code 82 (.iload 5) 2 84 := ⟨by decide +kernel, rfl⟩
theorem d_9_order_84 : zD prog_11_method_128_code 84 (.iconst 1) 1 85 := ⟨by decide +kernel, rfl⟩
theorem d_9_order_85 : zD prog_11_method_128_code 85 (.iload 6) 2 87 := ⟨by decide +kernel, rfl⟩
theorem d_9_order_87 : zD prog_11_method_128_code 87 (.ishl) 1 88 := ⟨by decide +kernel, rfl⟩
theorem d_9_order_88 : zD prog_11_method_128_code 88 (.ior) 1 89 := ⟨by decide +kernel, rfl⟩
theorem d_9_order_89 : zD prog_11_method_128_code 89 (.iaload) 1 90 := ⟨by decide +kernel, rfl⟩
theorem d_9_order_90 : zD prog_11_method_128_code 90 (.if_icmp .lt 37) 3 93 := ⟨by decide +kernel, rfl⟩
theorem d_9_order_93 : zD prog_11_method_128_code 93 (.aload_n 0) 1 94 := ⟨by decide +kernel, rfl⟩
theorem d_9_order_94 : zD prog_11_method_128_code 94 (.iload 6) 2 96 := ⟨by decide +kernel, rfl⟩
theorem d_9_order_96 : zD prog_11_method_128_code 96 (.iload 5) 2 98 := ⟨by decide +kernel, rfl⟩
theorem d_9_order_98 : zD prog_11_method_128_code 98 (.invokevirtual 459) 3 101 := ⟨by decide +kernel, rfl⟩
theorem d_9_order_101 : zD prog_11_method_128_code 101 (.ifCond .eq 20) 3 104 := ⟨by decide +kernel, rfl⟩
theorem d_9_order_104 : zD prog_11_method_128_code 104 (.iload 4) 2 106 := ⟨by decide +kernel, rfl⟩
theorem d_9_order_106 : zD prog_11_method_128_code 106 (.aload_n 0) 1 107 := ⟨by decide +kernel, rfl⟩
theorem d_9_order_107 : zD prog_11_method_128_code 107 (.getfield 143) 3 110 := ⟨by decide +kernel, rfl⟩
theorem d_9_order_110 : zD prog_11_method_128_code 110 (.iload 5) 2 112 := ⟨by decide +kernel, rfl⟩
theorem d_9_order_112 : zD prog_11_method_128_code 112 (.iconst 1) 1 113 := ⟨by decide +kernel, rfl⟩
theorem d_9_order_113 : zD prog_11_method_128_code 113 (.iload 6) 2 115 := ⟨by decide +kernel, rfl⟩
theorem d_9_order_115 : zD prog_11_method_128_code 115 (.ishl) 1 116 := ⟨by decide +kernel, rfl⟩
theorem d_9_order_116 : zD prog_11_method_128_code 116 (.ior) 1 117 := ⟨by decide +kernel, rfl⟩
theorem d_9_order_117 : zD prog_11_method_128_code 117 (.iaload) 1 118 := ⟨by decide +kernel, rfl⟩
theorem d_9_order_118 : zD prog_11_method_128_code 118 (.isub) 1 119 := ⟨by decide +kernel, rfl⟩
theorem d_9_order_119 : zD prog_11_method_128_code 119 (.istore 4) 2 121 := ⟨by decide +kernel, rfl⟩
theorem d_9_order_121 : zD prog_11_method_128_code 121 (.iinc 6 1) 3 124 := ⟨by decide +kernel, rfl⟩
theorem d_9_order_124 : zD prog_11_method_128_code 124 (.goto (-59)) 3 127 := ⟨by decide +kernel, rfl⟩
theorem d_9_order_127 : zD prog_11_method_128_code 127 (.iload 5) 2 129 := ⟨by decide +kernel, rfl⟩
theorem d_9_order_129 : zD prog_11_method_128_code 129 (.iconst 1) 1 130 := ⟨by decide +kernel, rfl⟩
theorem d_9_order_130 : zD prog_11_method_128_code 130 (.iload 6) 2 132 := ⟨by decide +kernel, rfl⟩
theorem d_9_order_132 : zD prog_11_method_128_code 132 (.ishl) 1 133 := ⟨by decide +kernel, rfl⟩
theorem d_9_order_133 : zD prog_11_method_128_code 133 (.ior) 1 134 := ⟨by decide +kernel, rfl⟩
theorem d_9_order_134 : zD prog_11_method_128_code 134 (.istore 5) 2 136 := ⟨by decide +kernel, rfl⟩
theorem d_9_order_136 : zD prog_11_method_128_code 136 (.iinc 7 1) 3 139 := ⟨by decide +kernel, rfl⟩
theorem d_9_order_139 : zD prog_11_method_128_code 139 (.goto (-83)) 3 142 := ⟨by decide +kernel, rfl⟩
theorem d_9_order_142 : zD prog_11_method_128_code 142 (.iload 6) 2 144 := ⟨by decide +kernel, rfl⟩
theorem d_9_order_144 : zD prog_11_method_128_code 144 (.ireturn) 1 145 := ⟨by decide +kernel, rfl⟩
theorem d_9_hold_0 : zD prog_11_method_129_code 0 (.iload_n 1) 1 1 := ⟨by decide +kernel, rfl⟩
theorem d_9_hold_1 : zD prog_11_method_129_code 1 (.iconst 0) 1 2 := ⟨by decide +kernel, rfl⟩
theorem d_9_hold_2 : zD prog_11_method_129_code 2 (.iconst 2) 1 3 := ⟨by decide +kernel, rfl⟩
theorem d_9_hold_3 : zD prog_11_method_129_code 3 (.invokestatic 312) 3 6 := ⟨by decide +kernel, rfl⟩
theorem d_9_hold_6 : zD prog_11_method_129_code 6 (.ifCond .ne 5) 3 9 := ⟨by decide +kernel, rfl⟩
theorem d_9_hold_9 : zD prog_11_method_129_code 9 (.iconst 0) 1 10 := ⟨by decide +kernel, rfl⟩
theorem d_9_hold_10 : zD prog_11_method_129_code 10 (.ireturn) 1 11 := ⟨by decide +kernel, rfl⟩
theorem d_9_hold_11 : zD prog_11_method_129_code 11 (.aload_n 0) 1 12 := ⟨by decide +kernel, rfl⟩
theorem d_9_hold_12 : zD prog_11_method_129_code 12 (.getfield 146) 3 15 := ⟨by decide +kernel, rfl⟩
theorem d_9_hold_15 : zD prog_11_method_129_code 15 (.iload_n 1) 1 16 := ⟨by decide +kernel, rfl⟩
theorem d_9_hold_16 : zD prog_11_method_129_code 16 (.iconst 1) 1 17 := ⟨by decide +kernel, rfl⟩
theorem d_9_hold_17 : zD prog_11_method_129_code 17 (.bastore) 1 18 := ⟨by decide +kernel, rfl⟩
theorem d_9_hold_18 : zD prog_11_method_129_code 18 (.iconst 0) 1 19 := ⟨by decide +kernel, rfl⟩
theorem d_9_hold_19 : zD prog_11_method_129_code 19 (.istore_n 2) 1 20 := ⟨by decide +kernel, rfl⟩
theorem d_9_hold_20 : zD prog_11_method_129_code 20 (.iload_n 2) 1 21 := ⟨by decide +kernel, rfl⟩
theorem d_9_hold_21 : zD prog_11_method_129_code 21 (.bipush 34) 2 23 := ⟨by decide +kernel, rfl⟩
theorem d_9_hold_23 : zD prog_11_method_129_code 23 (.if_icmp .ge 26) 3 26 := ⟨by decide +kernel, rfl⟩
theorem d_9_hold_26 : zD prog_11_method_129_code 26 (.aload_n 0) 1 27 := ⟨by decide +kernel, rfl⟩
theorem d_9_hold_27 : zD prog_11_method_129_code 27 (.getfield 149) 3 30 := ⟨by decide +kernel, rfl⟩
theorem d_9_hold_30 : zD prog_11_method_129_code 30 (.bipush 34) 2 32 := ⟨by decide +kernel, rfl⟩
theorem d_9_hold_32 : zD prog_11_method_129_code 32 (.iload_n 1) 1 33 := ⟨by decide +kernel, rfl⟩
theorem d_9_hold_33 : zD prog_11_method_129_code 33 (.imul) 1 34 := ⟨by decide +kernel, rfl⟩
theorem d_9_hold_34 : zD prog_11_method_129_code 34 (.iload_n 2) 1 35 := ⟨by decide +kernel, rfl⟩
theorem d_9_hold_35 : zD prog_11_method_129_code 35 (.iadd) 1 36 := ⟨by decide +kernel, rfl⟩
theorem d_9_hold_36 : zD prog_11_method_129_code 36 (.aload_n 0) 1 37 := ⟨by decide +kernel, rfl⟩
theorem d_9_hold_37 : zD prog_11_method_129_code 37 (.getfield 110) 3 40 := ⟨by decide +kernel, rfl⟩
theorem d_9_hold_40 : zD prog_11_method_129_code 40 (.iload_n 2) 1 41 := ⟨by decide +kernel, rfl⟩
theorem d_9_hold_41 : zD prog_11_method_129_code 41 (.iaload) 1 42 := ⟨by decide +kernel, rfl⟩
theorem d_9_hold_42 : zD prog_11_method_129_code 42 (.iastore) 1 43 := ⟨by decide +kernel, rfl⟩
theorem d_9_hold_43 : zD prog_11_method_129_code 43 (.iinc 2 1) 3 46 := ⟨by decide +kernel, rfl⟩
theorem d_9_hold_46 : zD prog_11_method_129_code 46 (.goto (-26)) 3 49 := ⟨by decide +kernel, rfl⟩
theorem d_9_hold_49 : zD prog_11_method_129_code 49 (.iconst 1) 1 50 := ⟨by decide +kernel, rfl⟩
theorem d_9_hold_50 : zD prog_11_method_129_code 50 (.ireturn) 1 51 := ⟨by decide +kernel, rfl⟩
theorem d_9_restore_0 : zD prog_11_method_130_code 0 (.iload_n 1) 1 1 := ⟨by decide +kernel, rfl⟩
theorem d_9_restore_1 : zD prog_11_method_130_code 1 (.iconst 0) 1 2 := ⟨by decide +kernel, rfl⟩
theorem d_9_restore_2 : zD prog_11_method_130_code 2 (.iconst 2) 1 3 := ⟨by decide +kernel, rfl⟩
theorem d_9_restore_3 : zD prog_11_method_130_code 3 (.invokestatic 312) 3 6 := ⟨by decide +kernel, rfl⟩
theorem d_9_restore_6 : zD prog_11_method_130_code 6 (.ifCond .eq 12) 3 9 := ⟨by decide +kernel, rfl⟩
theorem d_9_restore_9 : zD prog_11_method_130_code 9 (.aload_n 0) 1 10 := ⟨by decide +kernel, rfl⟩
theorem d_9_restore_10 : zD prog_11_method_130_code 10 (.getfield 146) 3 13 := ⟨by decide +kernel, rfl⟩
theorem d_9_restore_13 : zD prog_11_method_130_code 13 (.iload_n 1) 1 14 := ⟨by decide +kernel, rfl⟩
theorem d_9_restore_14 : zD prog_11_method_130_code 14 (.baload) 1 15 := ⟨by decide +kernel, rfl⟩
theorem d_9_restore_15 : zD prog_11_method_130_code 15 (.ifCond .ne 5) 3 18 := ⟨by decide +kernel, rfl⟩
theorem d_9_restore_18 : zD prog_11_method_130_code 18 (.iconst 0) 1 19 := ⟨by decide +kernel, rfl⟩
theorem d_9_restore_19 : zD prog_11_method_130_code 19 (.ireturn) 1 20 := ⟨by decide +kernel, rfl⟩
theorem d_9_restore_20 : zD prog_11_method_130_code 20 (.iconst 0) 1 21 := ⟨by decide +kernel, rfl⟩
theorem d_9_restore_21 : zD prog_11_method_130_code 21 (.istore_n 2) 1 22 := ⟨by decide +kernel, rfl⟩
theorem d_9_restore_22 : zD prog_11_method_130_code 22 (.iload_n 2) 1 23 := ⟨by decide +kernel, rfl⟩
theorem d_9_restore_23 : zD prog_11_method_130_code 23 (.bipush 34) 2 25 := ⟨by decide +kernel, rfl⟩
theorem d_9_restore_25 : zD prog_11_method_130_code 25 (.if_icmp .ge 26) 3 28 := ⟨by decide +kernel, rfl⟩
theorem d_9_restore_28 : zD prog_11_method_130_code 28 (.aload_n 0) 1 29 := ⟨by decide +kernel, rfl⟩
theorem d_9_restore_29 : zD prog_11_method_130_code 29 (.getfield 110) 3 32 := ⟨by decide +kernel, rfl⟩
theorem d_9_restore_32 : zD prog_11_method_130_code 32 (.iload_n 2) 1 33 := ⟨by decide +kernel, rfl⟩
theorem d_9_restore_33 : zD prog_11_method_130_code 33 (.aload_n 0) 1 34 := ⟨by decide +kernel, rfl⟩
theorem d_9_restore_34 : zD prog_11_method_130_code 34 (.getfield 149) 3 37 := ⟨by decide +kernel, rfl⟩
theorem d_9_restore_37 : zD prog_11_method_130_code 37 (.bipush 34) 2 39 := ⟨by decide +kernel, rfl⟩
theorem d_9_restore_39 : zD prog_11_method_130_code 39 (.iload_n 1) 1 40 := ⟨by decide +kernel, rfl⟩
theorem d_9_restore_40 : zD prog_11_method_130_code 40 (.imul) 1 41 := ⟨by decide +kernel, rfl⟩
theorem d_9_restore_41 : zD prog_11_method_130_code 41 (.iload_n 2) 1 42 := ⟨by decide +kernel, rfl⟩
theorem d_9_restore_42 : zD prog_11_method_130_code 42 (.iadd) 1 43 := ⟨by decide +kernel, rfl⟩
theorem d_9_restore_43 : zD prog_11_method_130_code 43 (.iaload) 1 44 := ⟨by decide +kernel, rfl⟩
theorem d_9_restore_44 : zD prog_11_method_130_code 44 (.iastore) 1 45 := ⟨by decide +kernel, rfl⟩
theorem d_9_restore_45 : zD prog_11_method_130_code 45 (.iinc 2 1) 3 48 := ⟨by decide +kernel, rfl⟩
theorem d_9_restore_48 : zD prog_11_method_130_code 48 (.goto (-26)) 3 51 := ⟨by decide +kernel, rfl⟩
theorem d_9_restore_51 : zD prog_11_method_130_code 51 (.aload_n 0) 1 52 := ⟨by decide +kernel, rfl⟩
theorem d_9_restore_52 : zD prog_11_method_130_code 52 (.iconst 0) 1 53 := ⟨by decide +kernel, rfl⟩
theorem d_9_restore_53 : zD prog_11_method_130_code 53 (.putfield 251) 3 56 := ⟨by decide +kernel, rfl⟩
theorem d_9_restore_56 : zD prog_11_method_130_code 56 (.iconst 1) 1 57 := ⟨by decide +kernel, rfl⟩
theorem d_9_restore_57 : zD prog_11_method_130_code 57 (.ireturn) 1 58 := ⟨by decide +kernel, rfl⟩
theorem d_9_sumNow_0 : zD prog_11_method_131_code 0 (.iconst 0) 1 1 := ⟨by decide +kernel, rfl⟩
theorem d_9_sumNow_1 : zD prog_11_method_131_code 1 (.istore_n 2) 1 2 := ⟨by decide +kernel, rfl⟩
theorem d_9_sumNow_2 : zD prog_11_method_131_code 2 (.iload_n 1) 1 3 := ⟨by decide +kernel, rfl⟩
theorem d_9_sumNow_3 : zD prog_11_method_131_code 3 (.istore_n 3) 1 4 := ⟨by decide +kernel, rfl⟩
theorem d_9_sumNow_4 : zD prog_11_method_131_code 4 (.iload_n 3) 1 5 := ⟨by decide +kernel, rfl⟩
theorem d_9_sumNow_5 : zD prog_11_method_131_code 5 (.iload_n 1) 1 6 := ⟨by decide +kernel, rfl⟩
theorem d_9_sumNow_6 : zD prog_11_method_131_code 6 (.bipush 7) 2 8 := ⟨by decide +kernel, rfl⟩
theorem d_9_sumNow_8 : zD prog_11_method_131_code 8 (.iadd) 1 9 := ⟨by decide +kernel, rfl⟩
theorem d_9_sumNow_9 : zD prog_11_method_131_code 9 (.if_icmp .ge 18) 3 12 := ⟨by decide +kernel, rfl⟩
theorem d_9_sumNow_12 : zD prog_11_method_131_code 12 (.iload_n 2) 1 13 := ⟨by decide +kernel, rfl⟩
theorem d_9_sumNow_13 : zD prog_11_method_131_code 13 (.aload_n 0) 1 14 := ⟨by decide +kernel, rfl⟩
theorem d_9_sumNow_14 : zD prog_11_method_131_code 14 (.getfield 110) 3 17 := ⟨by decide +kernel, rfl⟩
theorem d_9_sumNow_17 : zD prog_11_method_131_code 17 (.iload_n 3) 1 18 := ⟨by decide +kernel, rfl⟩
theorem d_9_sumNow_18 : zD prog_11_method_131_code 18 (.iaload) 1 19 := ⟨by decide +kernel, rfl⟩
theorem d_9_sumNow_19 : zD prog_11_method_131_code 19 (.iadd) 1 20 := ⟨by decide +kernel, rfl⟩
theorem d_9_sumNow_20 : zD prog_11_method_131_code 20 (.istore_n 2) 1 21 := ⟨by decide +kernel, rfl⟩
theorem d_9_sumNow_21 : zD prog_11_method_131_code 21 (.iinc 3 1) 3 24 := ⟨by decide +kernel, rfl⟩
theorem d_9_sumNow_24 : zD prog_11_method_131_code 24 (.goto (-20)) 3 27 := ⟨by decide +kernel, rfl⟩
theorem d_9_sumNow_27 : zD prog_11_method_131_code 27 (.iload_n 2) 1 28 := ⟨by decide +kernel, rfl⟩
theorem d_9_sumNow_28 : zD prog_11_method_131_code 28 (.ireturn) 1 29 := ⟨by decide +kernel, rfl⟩
theorem d_9_count_0 : zD prog_11_method_132_code 0 (.aload_n 0) 1 1 := ⟨by decide +kernel, rfl⟩
theorem d_9_count_1 : zD prog_11_method_132_code 1 (.invokevirtual 325) 3 4 := ⟨by decide +kernel, rfl⟩
theorem d_9_count_4 : zD prog_11_method_132_code 4 (.iconst 0) 1 5 := ⟨by decide +kernel, rfl⟩
theorem d_9_count_5 : zD prog_11_method_132_code 5 (.istore_n 2) 1 6 := ⟨by decide +kernel, rfl⟩
theorem d_9_count_6 : zD prog_11_method_132_code 6 (.iload_n 1) 1 7 := ⟨by decide +kernel, rfl⟩
theorem d_9_count_7 : zD prog_11_method_132_code 7 (.tableswitch 350 0 16 #[81, 91, 101, 109, 115, 121, 127, 164, 171, 176, 181, 186, 231, 236, 275, 282, 313]) 81 88 := ⟨by decide +kernel, rfl⟩
theorem d_9_count_88 : zD prog_11_method_132_code 88 (.aload_n 0) 1 89 := ⟨by decide +kernel, rfl⟩
theorem d_9_count_89 : zD prog_11_method_132_code 89 (.getfield 46) 3 92 := ⟨by decide +kernel, rfl⟩
theorem d_9_count_92 : zD prog_11_method_132_code 92 (.aload_n 0) 1 93 := ⟨by decide +kernel, rfl⟩
theorem d_9_count_93 : zD prog_11_method_132_code 93 (.getfield 233) 3 96 := ⟨by decide +kernel, rfl⟩
theorem d_9_count_96 : zD prog_11_method_132_code 96 (.iaload) 1 97 := ⟨by decide +kernel, rfl⟩
theorem d_9_count_97 : zD prog_11_method_132_code 97 (.ireturn) 1 98 := ⟨by decide +kernel, rfl⟩
theorem d_9_count_98 : zD prog_11_method_132_code 98 (.aload_n 0) 1 99 := ⟨by decide +kernel, rfl⟩
theorem d_9_count_99 : zD prog_11_method_132_code 99 (.getfield 55) 3 102 := ⟨by decide +kernel, rfl⟩
theorem d_9_count_102 : zD prog_11_method_132_code 102 (.aload_n 0) 1 103 := ⟨by decide +kernel, rfl⟩
theorem d_9_count_103 : zD prog_11_method_132_code 103 (.getfield 233) 3 106 := ⟨by decide +kernel, rfl⟩
theorem d_9_count_106 : zD prog_11_method_132_code 106 (.iaload) 1 107 := ⟨by decide +kernel, rfl⟩
theorem d_9_count_107 : zD prog_11_method_132_code 107 (.ireturn) 1 108 := ⟨by decide +kernel, rfl⟩
theorem d_9_count_108 : zD prog_11_method_132_code 108 (.aload_n 0) 1 109 := ⟨by decide +kernel, rfl⟩
theorem d_9_count_109 : zD prog_11_method_132_code 109 (.getfield 113) 3 112 := ⟨by decide +kernel, rfl⟩
theorem d_9_count_112 : zD prog_11_method_132_code 112 (.bipush 33) 2 114 := ⟨by decide +kernel, rfl⟩
theorem d_9_count_114 : zD prog_11_method_132_code 114 (.iaload) 1 115 := ⟨by decide +kernel, rfl⟩
theorem d_9_count_115 : zD prog_11_method_132_code 115 (.ireturn) 1 116 := ⟨by decide +kernel, rfl⟩
theorem d_9_count_116 : zD prog_11_method_132_code 116 (.aload_n 0) 1 117 := ⟨by decide +kernel, rfl⟩
theorem d_9_count_117 : zD prog_11_method_132_code 117 (.iconst 0) 1 118 := ⟨by decide +kernel, rfl⟩
theorem d_9_count_118 : zD prog_11_method_132_code 118 (.invokevirtual 358) 3 121 := ⟨by decide +kernel, rfl⟩
theorem d_9_count_121 : zD prog_11_method_132_code 121 (.ireturn) 1 122 := ⟨by decide +kernel, rfl⟩
theorem d_9_count_122 : zD prog_11_method_132_code 122 (.aload_n 0) 1 123 := ⟨by decide +kernel, rfl⟩
theorem d_9_count_123 : zD prog_11_method_132_code 123 (.iconst 1) 1 124 := ⟨by decide +kernel, rfl⟩
theorem d_9_count_124 : zD prog_11_method_132_code 124 (.invokevirtual 358) 3 127 := ⟨by decide +kernel, rfl⟩
theorem d_9_count_127 : zD prog_11_method_132_code 127 (.ireturn) 1 128 := ⟨by decide +kernel, rfl⟩
theorem d_9_count_128 : zD prog_11_method_132_code 128 (.aload_n 0) 1 129 := ⟨by decide +kernel, rfl⟩
theorem d_9_count_129 : zD prog_11_method_132_code 129 (.iconst 2) 1 130 := ⟨by decide +kernel, rfl⟩
theorem d_9_count_130 : zD prog_11_method_132_code 130 (.invokevirtual 358) 3 133 := ⟨by decide +kernel, rfl⟩
theorem d_9_count_133 : zD prog_11_method_132_code 133 (.ireturn) 1 134 := ⟨by decide +kernel, rfl⟩
theorem d_9_count_134 : zD prog_11_method_132_code 134 (.iconst 0) 1 135 := ⟨by decide +kernel, rfl⟩
theorem d_9_count_135 : zD prog_11_method_132_code 135 (.istore_n 3) 1 136 := ⟨by decide +kernel, rfl⟩
theorem d_9_count_136 : zD prog_11_method_132_code 136 (.iload_n 3) 1 137 := ⟨by decide +kernel, rfl⟩
theorem d_9_count_137 : zD prog_11_method_132_code 137 (.aload_n 0) 1 138 := ⟨by decide +kernel, rfl⟩
theorem d_9_count_138 : zD prog_11_method_132_code 138 (.getfield 55) 3 141 := ⟨by decide +kernel, rfl⟩
theorem d_9_count_141 : zD prog_11_method_132_code 141 (.aload_n 0) 1 142 := ⟨by decide +kernel, rfl⟩
theorem d_9_count_142 : zD prog_11_method_132_code 142 (.getfield 233) 3 145 := ⟨by decide +kernel, rfl⟩
theorem d_9_count_145 : zD prog_11_method_132_code 145 (.iaload) 1 146 := ⟨by decide +kernel, rfl⟩
theorem d_9_count_146 : zD prog_11_method_132_code 146 (.if_icmp .ge 23) 3 149 := ⟨by decide +kernel, rfl⟩
theorem d_9_count_149 : zD prog_11_method_132_code 149 (.aload_n 0) 1 150 := ⟨by decide +kernel, rfl⟩
theorem d_9_count_150 : zD prog_11_method_132_code 150 (.iload_n 3) 1 151 := ⟨by decide +kernel, rfl⟩
theorem d_9_count_151 : zD prog_11_method_132_code 151 (.invokevirtual 346) 3 154 := ⟨by decide +kernel, rfl⟩
theorem d_9_count_154 : zD prog_11_method_132_code 154 (.ifCond .eq 9) 3 157 := ⟨by decide +kernel, rfl⟩
theorem d_9_count_157 : zD prog_11_method_132_code 157 (.iload_n 2) 1 158 := ⟨by decide +kernel, rfl⟩
theorem d_9_count_158 : zD prog_11_method_132_code 158 (.iconst 1) 1 159 := ⟨by decide +kernel, rfl⟩
theorem d_9_count_159 : zD prog_11_method_132_code 159 (.iload_n 3) 1 160 := ⟨by decide +kernel, rfl⟩
theorem d_9_count_160 : zD prog_11_method_132_code 160 (.ishl) 1 161 := ⟨by decide +kernel, rfl⟩
theorem d_9_count_161 : zD prog_11_method_132_code 161 (.ior) 1 162 := ⟨by decide +kernel, rfl⟩
theorem d_9_count_162 : zD prog_11_method_132_code 162 (.istore_n 2) 1 163 := ⟨by decide +kernel, rfl⟩
theorem d_9_count_163 : zD prog_11_method_132_code 163 (.iinc 3 1) 3 166 := ⟨by decide +kernel, rfl⟩
theorem d_9_count_166 : zD prog_11_method_132_code 166 (.goto (-30)) 3 169 := ⟨by decide +kernel, rfl⟩
theorem d_9_count_169 : zD prog_11_method_132_code 169 (.iload_n 2) 1 170 := ⟨by decide +kernel, rfl⟩
theorem d_9_count_170 : zD prog_11_method_132_code 170 (.ireturn) 1 171 := ⟨by decide +kernel, rfl⟩
theorem d_9_count_171 : zD prog_11_method_132_code 171 (.aload_n 0) 1 172 := ⟨by decide +kernel, rfl⟩
theorem d_9_count_172 : zD prog_11_method_132_code 172 (.bipush 14) 2 174 := ⟨by decide +kernel, rfl⟩
theorem d_9_count_174 : zD prog_11_method_132_code 174 (.invokevirtual 480) 3 177 := ⟨by decide +kernel, rfl⟩
theorem d_9_count_177 : zD prog_11_method_132_code 177 (.ireturn) 1 178 := ⟨by decide +kernel, rfl⟩
theorem d_9_count_178 : zD prog_11_method_132_code 178 (.aload_n 0) 1 179 := ⟨by decide +kernel, rfl⟩
theorem d_9_count_179 : zD prog_11_method_132_code 179 (.getfield 166) 3 182 := ⟨by decide +kernel, rfl⟩
theorem d_9_count_182 : zD prog_11_method_132_code 182 (.ireturn) 1 183 := ⟨by decide +kernel, rfl⟩
theorem d_9_count_183 : zD prog_11_method_132_code 183 (.aload_n 0) 1 184 := ⟨by decide +kernel, rfl⟩
theorem d_9_count_184 : zD prog_11_method_132_code 184 (.getfield 251) 3 187 := ⟨by decide +kernel, rfl⟩
theorem d_9_count_187 : zD prog_11_method_132_code 187 (.ireturn) 1 188 := ⟨by decide +kernel, rfl⟩
theorem d_9_count_188 : zD prog_11_method_132_code 188 (.aload_n 0) 1 189 := ⟨by decide +kernel, rfl⟩
theorem d_9_count_189 : zD prog_11_method_132_code 189 (.getfield 254) 3 192 := ⟨by decide +kernel, rfl⟩
theorem d_9_count_192 : zD prog_11_method_132_code 192 (.ireturn) 1 193 := ⟨by decide +kernel, rfl⟩
theorem d_9_count_193 : zD prog_11_method_132_code 193 (.aload_n 0) 1 194 := ⟨by decide +kernel, rfl⟩
theorem d_9_count_194 : zD prog_11_method_132_code 194 (.getfield 146) 3 197 := ⟨by decide +kernel, rfl⟩
theorem d_9_count_197 : zD prog_11_method_132_code 197 (.iconst 0) 1 198 := ⟨by decide +kernel, rfl⟩
theorem d_9_count_198 : zD prog_11_method_132_code 198 (.baload) 1 199 := ⟨by decide +kernel, rfl⟩
theorem d_9_count_199 : zD prog_11_method_132_code 199 (.ifCond .eq 7) 3 202 := ⟨by decide +kernel, rfl⟩
theorem d_9_count_202 : zD prog_11_method_132_code 202 (.iconst 1) 1 203 := ⟨by decide +kernel, rfl⟩
theorem d_9_count_203 : zD prog_11_method_132_code 203 (.goto 4) 3 206 := ⟨by decide +kernel, rfl⟩
theorem d_9_count_206 : zD prog_11_method_132_code 206 (.iconst 0) 1 207 := ⟨by decide +kernel, rfl⟩
theorem d_9_count_207 : zD prog_11_method_132_code 207 (.aload_n 0) 1 208 := ⟨by decide +kernel, rfl⟩
theorem d_9_count_208 : zD prog_11_method_132_code 208 (.getfield 146) 3 211 := ⟨by decide +kernel, rfl⟩
theorem d_9_count_211 : zD prog_11_method_132_code 211 (.iconst 1) 1 212 := ⟨by decide +kernel, rfl⟩
theorem d_9_count_212 : zD prog_11_method_132_code 212 (.baload) 1 213 := ⟨by decide +kernel, rfl⟩
theorem d_9_count_213 : zD prog_11_method_132_code 213 (.ifCond .eq 7) 3 216 := ⟨by decide +kernel, rfl⟩
theorem d_9_count_216 : zD prog_11_method_132_code 216 (.iconst 1) 1 217 := ⟨by decide +kernel, rfl⟩
theorem d_9_count_217 : zD prog_11_method_132_code 217 (.goto 4) 3 220 := ⟨by decide +kernel, rfl⟩
theorem d_9_count_220 : zD prog_11_method_132_code 220 (.iconst 0) 1 221 := ⟨by decide +kernel, rfl⟩
theorem d_9_count_221 : zD prog_11_method_132_code 221 (.iadd) 1 222 := ⟨by decide +kernel, rfl⟩
theorem d_9_count_222 : zD prog_11_method_132_code 222 (.aload_n 0) 1 223 := ⟨by decide +kernel, rfl⟩
theorem d_9_count_223 : zD prog_11_method_132_code 223 (.getfield 146) 3 226 := ⟨by decide +kernel, rfl⟩
theorem d_9_count_226 : zD prog_11_method_132_code 226 (.iconst 2) 1 227 := ⟨by decide +kernel, rfl⟩
theorem d_9_count_227 : zD prog_11_method_132_code 227 (.baload) 1 228 := ⟨by decide +kernel, rfl⟩
theorem d_9_count_228 : zD prog_11_method_132_code 228 (.ifCond .eq 7) 3 231 := ⟨by decide +kernel, rfl⟩
theorem d_9_count_231 : zD prog_11_method_132_code 231 (.iconst 1) 1 232 := ⟨by decide +kernel, rfl⟩
theorem d_9_count_232 : zD prog_11_method_132_code 232 (.goto 4) 3 235 := ⟨by decide +kernel, rfl⟩
theorem d_9_count_235 : zD prog_11_method_132_code 235 (.iconst 0) 1 236 := ⟨by decide +kernel, rfl⟩
theorem d_9_count_236 : zD prog_11_method_132_code 236 (.iadd) 1 237 := ⟨by decide +kernel, rfl⟩
theorem d_9_count_237 : zD prog_11_method_132_code 237 (.ireturn) 1 238 := ⟨by decide +kernel, rfl⟩
theorem d_9_count_238 : zD prog_11_method_132_code 238 (.aload_n 0) 1 239 := ⟨by decide +kernel, rfl⟩
theorem d_9_count_239 : zD prog_11_method_132_code 239 (.invokevirtual 453) 3 242 := ⟨by decide +kernel, rfl⟩
theorem d_9_count_242 : zD prog_11_method_132_code 242 (.ireturn) 1 243 := ⟨by decide +kernel, rfl⟩
theorem d_9_count_243 : zD prog_11_method_132_code 243 (.iconst 0) 1 244 := ⟨by decide +kernel, rfl⟩
theorem d_9_count_244 : zD prog_11_method_132_code 244 (.istore_n 3) 1 245 := ⟨by decide +kernel, rfl⟩
theorem d_9_count_245 : zD prog_11_method_132_code 245 (.iload_n 3) 1 246 := ⟨by decide +kernel, rfl⟩
theorem d_9_count_246 : zD prog_11_method_132_code 246 (.aload_n 0) 1 247 := ⟨by decide +kernel, rfl⟩
theorem d_9_count_247 : zD prog_11_method_132_code 247 (.getfield 46) 3 250 := ⟨by decide +kernel, rfl⟩
theorem d_9_count_250 : zD prog_11_method_132_code 250 (.aload_n 0) 1 251 := ⟨by decide +kernel, rfl⟩
theorem d_9_count_251 : zD prog_11_method_132_code 251 (.getfield 233) 3 254 := ⟨by decide +kernel, rfl⟩
theorem d_9_count_254 : zD prog_11_method_132_code 254 (.iaload) 1 255 := ⟨by decide +kernel, rfl⟩
theorem d_9_count_255 : zD prog_11_method_132_code 255 (.if_icmp .ge 25) 3 258 := ⟨by decide +kernel, rfl⟩
theorem d_9_count_258 : zD prog_11_method_132_code 258 (.iload_n 2) 1 259 := ⟨by decide +kernel, rfl⟩
theorem d_9_count_259 : zD prog_11_method_132_code 259 (.aload_n 0) 1 260 := ⟨by decide +kernel, rfl⟩
theorem d_9_count_260 : zD prog_11_method_132_code 260 (.getfield 49) 3 263 := ⟨by decide +kernel, rfl⟩
theorem d_9_count_263 : zD prog_11_method_132_code 263 (.iconst 5) 1 264 := ⟨by decide +kernel, rfl⟩
theorem d_9_count_264 : zD prog_11_method_132_code 264 (.aload_n 0) 1 265 := ⟨by decide +kernel, rfl⟩
theorem d_9_count_265 : zD prog_11_method_132_code 265 (.getfield 233) 3 268 := ⟨by decide +kernel, rfl⟩
theorem d_9_count_268 : zD prog_11_method_132_code 268 (.imul) 1 269 := ⟨by decide +kernel, rfl⟩
theorem d_9_count_269 : zD prog_11_method_132_code 269 (.iload_n 3) 1 270 := ⟨by decide +kernel, rfl⟩
theorem d_9_count_270 : zD prog_11_method_132_code 270 (.iadd) 1 271 := ⟨by decide +kernel, rfl⟩
theorem d_9_count_271 : zD prog_11_method_132_code 271 (.iaload) 1 272 := ⟨by decide +kernel, rfl⟩
theorem d_9_count_272 : zD prog_11_method_132_code 272 (.iadd) 1 273 := ⟨by decide +kernel, rfl⟩
theorem d_9_count_273 : zD prog_11_method_132_code 273 (.istore_n 2) 1 274 := ⟨by decide +kernel, rfl⟩
theorem d_9_count_274 : zD prog_11_method_132_code 274 (.iinc 3 1) 3 277 := ⟨by decide +kernel, rfl⟩
theorem d_9_count_277 : zD prog_11_method_132_code 277 (.goto (-32)) 3 280 := ⟨by decide +kernel, rfl⟩
theorem d_9_count_280 : zD prog_11_method_132_code 280 (.iload_n 2) 1 281 := ⟨by decide +kernel, rfl⟩
theorem d_9_count_281 : zD prog_11_method_132_code 281 (.ireturn) 1 282 := ⟨by decide +kernel, rfl⟩
theorem d_9_count_282 : zD prog_11_method_132_code 282 (.aload_n 0) 1 283 := ⟨by decide +kernel, rfl⟩
theorem d_9_count_283 : zD prog_11_method_132_code 283 (.bipush 7) 2 285 := ⟨by decide +kernel, rfl⟩
theorem d_9_count_285 : zD prog_11_method_132_code 285 (.invokevirtual 480) 3 288 := ⟨by decide +kernel, rfl⟩
theorem d_9_count_288 : zD prog_11_method_132_code 288 (.ireturn) 1 289 := ⟨by decide +kernel, rfl⟩
theorem d_9_count_289 : zD prog_11_method_132_code 289 (.iconst 0) 1 290 := ⟨by decide +kernel, rfl⟩
theorem d_9_count_290 : zD prog_11_method_132_code 290 (.istore_n 3) 1 291 := ⟨by decide +kernel, rfl⟩
theorem d_9_count_291 : zD prog_11_method_132_code 291 (.iload_n 3) 1 292 := ⟨by decide +kernel, rfl⟩
theorem d_9_count_292 : zD prog_11_method_132_code 292 (.aload_n 0) 1 293 := ⟨by decide +kernel, rfl⟩
theorem d_9_count_293 : zD prog_11_method_132_code 293 (.getfield 46) 3 296 := ⟨by decide +kernel, rfl⟩
theorem d_9_count_296 : zD prog_11_method_132_code 296 (.aload_n 0) 1 297 := ⟨by decide +kernel, rfl⟩
theorem d_9_count_297 : zD prog_11_method_132_code 297 (.getfield 233) 3 300 := ⟨by decide +kernel, rfl⟩
theorem d_9_count_300 : zD prog_11_method_132_code 300 (.iaload) 1 301 := ⟨by decide +kernel, rfl⟩
theorem d_9_count_301 : zD prog_11_method_132_code 301 (.if_icmp .ge 17) 3 304 := ⟨by decide +kernel, rfl⟩
theorem d_9_count_304 : zD prog_11_method_132_code 304 (.iload_n 2) 1 305 := ⟨by decide +kernel, rfl⟩
theorem d_9_count_305 : zD prog_11_method_132_code 305 (.aload_n 0) 1 306 := ⟨by decide +kernel, rfl⟩
theorem d_9_count_306 : zD prog_11_method_132_code 306 (.iload_n 3) 1 307 := ⟨by decide +kernel, rfl⟩
theorem d_9_count_307 : zD prog_11_method_132_code 307 (.invokevirtual 379) 3 310 := ⟨by decide +kernel, rfl⟩
theorem d_9_count_310 : zD prog_11_method_132_code 310 (.iadd) 1 311 := ⟨by decide +kernel, rfl⟩
theorem d_9_count_311 : zD prog_11_method_132_code 311 (.istore_n 2) 1 312 := ⟨by decide +kernel, rfl⟩
theorem d_9_count_312 : zD prog_11_method_132_code 312 (.iinc 3 1) 3 315 := ⟨by decide +kernel, rfl⟩
theorem d_9_count_315 : zD prog_11_method_132_code 315 (.goto (-24)) 3 318 := ⟨by decide +kernel, rfl⟩
theorem d_9_count_318 : zD prog_11_method_132_code 318 (.iload_n 2) 1 319 := ⟨by decide +kernel, rfl⟩
theorem d_9_count_319 : zD prog_11_method_132_code 319 (.ireturn) 1 320 := ⟨by decide +kernel, rfl⟩
theorem d_9_count_320 : zD prog_11_method_132_code 320 (.iconst 0) 1 321 := ⟨by decide +kernel, rfl⟩
theorem d_9_count_321 : zD prog_11_method_132_code 321 (.istore_n 3) 1 322 := ⟨by decide +kernel, rfl⟩
theorem d_9_count_322 : zD prog_11_method_132_code 322 (.iload_n 3) 1 323 := ⟨by decide +kernel, rfl⟩
theorem d_9_count_323 : zD prog_11_method_132_code 323 (.aload_n 0) 1 324 := ⟨by decide +kernel, rfl⟩
theorem d_9_count_324 : zD prog_11_method_132_code 324 (.getfield 55) 3 327 := ⟨by decide +kernel, rfl⟩
theorem d_9_count_327 : zD prog_11_method_132_code 327 (.aload_n 0) 1 328 := ⟨by decide +kernel, rfl⟩
theorem d_9_count_328 : zD prog_11_method_132_code 328 (.getfield 233) 3 331 := ⟨by decide +kernel, rfl⟩
theorem d_9_count_331 : zD prog_11_method_132_code 331 (.iaload) 1 332 := ⟨by decide +kernel, rfl⟩
theorem d_9_count_332 : zD prog_11_method_132_code 332 (.if_icmp .ge 23) 3 335 := ⟨by decide +kernel, rfl⟩
theorem d_9_count_335 : zD prog_11_method_132_code 335 (.aload_n 0) 1 336 := ⟨by decide +kernel, rfl⟩
theorem d_9_count_336 : zD prog_11_method_132_code 336 (.iload_n 3) 1 337 := ⟨by decide +kernel, rfl⟩
theorem d_9_count_337 : zD prog_11_method_132_code 337 (.invokevirtual 352) 3 340 := ⟨by decide +kernel, rfl⟩
theorem d_9_count_340 : zD prog_11_method_132_code 340 (.ifCond .ne 9) 3 343 := ⟨by decide +kernel, rfl⟩
theorem d_9_count_343 : zD prog_11_method_132_code 343 (.iload_n 2) 1 344 := ⟨by decide +kernel, rfl⟩
theorem d_9_count_344 : zD prog_11_method_132_code 344 (.iconst 1) 1 345 := ⟨by decide +kernel, rfl⟩
theorem d_9_count_345 : zD prog_11_method_132_code 345 (.iload_n 3) 1 346 := ⟨by decide +kernel, rfl⟩
theorem d_9_count_346 : zD prog_11_method_132_code 346 (.ishl) 1 347 := ⟨by decide +kernel, rfl⟩
theorem d_9_count_347 : zD prog_11_method_132_code 347 (.ior) 1 348 := ⟨by decide +kernel, rfl⟩
theorem d_9_count_348 : zD prog_11_method_132_code 348 (.istore_n 2) 1 349 := ⟨by decide +kernel, rfl⟩
theorem d_9_count_349 : zD prog_11_method_132_code 349 (.iinc 3 1) 3 352 := ⟨by decide +kernel, rfl⟩
theorem d_9_count_352 : zD prog_11_method_132_code 352 (.goto (-30)) 3 355 := ⟨by decide +kernel, rfl⟩
theorem d_9_count_355 : zD prog_11_method_132_code 355 (.iload_n 2) 1 356 := ⟨by decide +kernel, rfl⟩
theorem d_9_count_356 : zD prog_11_method_132_code 356 (.ireturn) 1 357 := ⟨by decide +kernel, rfl⟩
theorem d_9_count_357 : zD prog_11_method_132_code 357 (.iconst (-1)) 1 358 := ⟨by decide +kernel, rfl⟩
theorem d_9_count_358 : zD prog_11_method_132_code 358 (.ireturn) 1 359 := ⟨by decide +kernel, rfl⟩
def f9_foremost_L7 (q4 : Int32) (qm5 : zMem) : (Int32 × Int32) → Option ((Int32 × Int32) ⊕ (Int32)) := (z_u2 fun x8 x9 => 
  if z_in (qm5.1 9 0 18) 2 = true then (if x9 < (qm5.1 126 0 (qm5.1 9 0 18).toNatClampNeg) then (if 0 < q4 then ((if x8 < 0 then some x9 else (f9_placedAt x9 (0 : Int32) qm5).bind (fun q16 => (f9_placedAt x8 (0 : Int32) qm5).bind (fun q18 => (if q18 < q16 then some x9 else some x8)))) : Option (Int32)).bind (fun j21 => some (.inl (j21, (x9 + (1 : Int32))))) else some (.inr x8)) else some (.inr x8)) else none)
def f9_foremost (a1 : Int32) (μ : zMem) : Option (Int32 × zMem) :=
  (f9_isKnown a1 μ).bind (fun q1 => (if q1 = 0 then some ((-1 : Int32), μ) else (f9_countsBy a1 μ).bind (z_u2 fun q4 qm5 => (z_it (f9_foremost_L7 q4 qm5) z_fu ((-2 : Int32), (0 : Int32))).bind (fun e22 => some (e22, qm5)))))
theorem s9_foremost_L7 {P : zP} {ro : Option zV} {μo : zMem} (q4 : Int32) (qm5 : zMem) (x8 : Int32) (x9 : Int32) (K : (Int32 × Int32) ⊕ (Int32)) (h : f9_foremost_L7 q4 qm5 (x8, x9) = some K) (hI : ∀ (y0 : Int32) (y1 : Int32), K = .inl (y0, y1) → z_RQ P M_9_foremost (z_rm 4) (z_mq P ro μo) 0 0 22 [some (zA 9 0), none, some (zI q4), some (zI y0), some (zI y1)] [] qm5) (hE : ∀ (z0 : Int32), K = .inr z0 → z_RQ P M_9_foremost (z_rm 4) (z_mq P ro μo) 0 0 69 [none, none, none, some (zI z0), none] [] qm5)  : z_RQ P M_9_foremost (z_rm 4) (z_mq P ro μo) 0 0 22 [some (zA 9 0), none, some (zI q4), some (zI x8), some (zI x9)] [] qm5 := by
  unfold f9_foremost_L7 at h
  replace h := z_h2 h
  refine zr_iload d_9_foremost_22 rfl ?_
  refine zr_aload_n (i := 0) d_9_foremost_24 rfl rfl ?_
  refine zr_gets (i' := 0) d_9_foremost_25 fw_9_55 rfl ?_
  refine zr_aload_n (i := 0) d_9_foremost_28 rfl rfl ?_
  refine zr_geti d_9_foremost_29 fw_9_233 (by decide) ?_
  obtain ⟨hb10, h⟩ := z_gd h
  refine zr_iald d_9_foremost_32 sa_126 rfl hb10 ?_
  refine zr_icmp_ge (tgt := 69) d_9_foremost_33 rfl (fun hc11 => ?_) (fun hc11 => ?_)
  · replace h := z_ip h hc11
    refine zr_iload_n (i := 2) d_9_foremost_36 rfl rfl ?_
    refine zr_if_le (tgt := 69) d_9_foremost_37 rfl (fun hc12 => ?_) (fun hc12 => ?_)
    · replace h := z_ip h hc12
      refine zr_iload_n (i := 3) d_9_foremost_40 rfl rfl ?_
      obtain ⟨j21, hT13, h⟩ := z_bd h
      have hJ14 : z_RQ P M_9_foremost (z_rm 4) (z_mq P ro μo) 0 0 63 [some (zA 9 0), none, some (zI q4), some (zI j21), some (zI x9)] [] qm5 := by
        refine zr_iinc (v := (x9 + (1 : Int32))) (l' := [some (zA 9 0), none, some (zI q4), some (zI j21), some (zI (x9 + (1 : Int32)))]) d_9_foremost_63 (by decide) rfl rfl rfl ?_
        refine zr_goto (tgt := 22) d_9_foremost_66 rfl ?_
        obtain rfl := Option.some.inj h
        exact zr_wk2 (hI j21 (x9 + (1 : Int32)) rfl) ⟨rfl, ⟨rfl, ⟨rfl, ⟨rfl, trivial⟩⟩⟩⟩
      refine zr_if_lt (tgt := 60) d_9_foremost_41 rfl (fun hc15 => ?_) (fun hc15 => ?_)
      · replace hT13 := z_ip hT13 hc15
        refine zr_iload d_9_foremost_60 rfl ?_
        refine zr_istore_n (i := 3) (l' := [some (zA 9 0), none, some (zI q4), some (zI x9), some (zI x9)]) d_9_foremost_62 rfl (by decide) rfl ?_
        obtain rfl := Option.some.inj hT13
        exact zr_wk2 hJ14 ⟨rfl, ⟨rfl, ⟨rfl, ⟨rfl, trivial⟩⟩⟩⟩
      · replace hT13 := z_im hT13 hc15
        refine zr_aload_n (i := 0) d_9_foremost_44 rfl rfl ?_
        refine zr_iload d_9_foremost_45 rfl ?_
        refine zr_iconst (v := (0 : Int32)) d_9_foremost_47 rfl ?_
        obtain ⟨q16, hq17, hT13⟩ := z_bd hT13
        refine zr_callVi (av := [zI x9, zI (0 : Int32)]) (st := []) d_9_foremost_48 mw_9_placedAt ml_9_474 im_9_placedAt se_9_placedAt rfl rfl (Nat.le_of_ble_eq_true rfl) fit_2_5_4 rfl rfl rfl (s9_placedAt hq17) ?_
        refine zr_aload_n (i := 0) d_9_foremost_51 rfl rfl ?_
        refine zr_iload_n (i := 3) d_9_foremost_52 rfl rfl ?_
        refine zr_iconst (v := (0 : Int32)) d_9_foremost_53 rfl ?_
        obtain ⟨q18, hq19, hT13⟩ := z_bd hT13
        refine zr_callVi (av := [zI x8, zI (0 : Int32)]) (st := [zI q16]) d_9_foremost_54 mw_9_placedAt ml_9_474 im_9_placedAt se_9_placedAt rfl rfl (Nat.le_of_ble_eq_true rfl) fit_2_5_4 rfl rfl rfl (s9_placedAt hq19) ?_
        refine zr_icmp_le (tgt := 63) d_9_foremost_57 rfl (fun hc20 => ?_) (fun hc20 => ?_)
        · replace hT13 := z_ip hT13 hc20
          refine zr_iload d_9_foremost_60 rfl ?_
          refine zr_istore_n (i := 3) (l' := [some (zA 9 0), none, some (zI q4), some (zI x9), some (zI x9)]) d_9_foremost_62 rfl (by decide) rfl ?_
          obtain rfl := Option.some.inj hT13
          exact zr_wk2 hJ14 ⟨rfl, ⟨rfl, ⟨rfl, ⟨rfl, trivial⟩⟩⟩⟩
        · replace hT13 := z_im hT13 hc20
          obtain rfl := Option.some.inj hT13
          exact zr_wk2 hJ14 ⟨rfl, ⟨rfl, ⟨rfl, ⟨rfl, trivial⟩⟩⟩⟩
    · replace h := z_im h hc12
      obtain rfl := Option.some.inj h
      exact zr_wk2 (hE x8 rfl) ⟨rfl, trivial⟩
  · replace h := z_im h hc11
    obtain rfl := Option.some.inj h
    exact zr_wk2 (hE x8 rfl) ⟨rfl, trivial⟩
theorem s9_foremost {P : zP} {μ : zMem} {a1 : Int32} {r : Int32} {μ' : zMem} (h : f9_foremost a1 μ = some (r, μ')) : z_Sp P y_9_foremost M_9_foremost 4 [zA 9 0, zI a1] μ (some (zI r)) μ' := by
  refine z_Sp.of (plainFor_of_name (by decide)) rfl (l0 := [some (zA 9 0), some (zI a1), none, none, none]) rfl (Nat.le_of_ble_eq_true rfl) ?_
  unfold f9_foremost at h
  refine zr_aload_n (i := 0) d_9_foremost_0 rfl rfl ?_
  refine zr_iload_n (i := 1) d_9_foremost_1 rfl rfl ?_
  obtain ⟨q1, hq2, h⟩ := z_bd h
  refine zr_callVi (av := [zI a1]) (st := []) d_9_foremost_2 mw_9_isKnown ml_9_468 im_9_isKnown se_9_isKnown rfl rfl (Nat.le_of_ble_eq_true rfl) fit_2_2_4 rfl rfl rfl (s9_isKnown hq2) ?_
  refine zr_if_ne (tgt := 10) d_9_foremost_5 rfl (fun hc3 => ?_) (fun hc3 => ?_)
  · replace h := z_ip h hc3
    refine zr_iconst (v := (-1 : Int32)) d_9_foremost_8 rfl ?_
    obtain ⟨rfl, rfl⟩ := Prod.mk.inj (Option.some.inj h)
    exact ze_i d_9_foremost_9 rfl
  · replace h := z_im h hc3
    refine zr_aload_n (i := 0) d_9_foremost_10 rfl rfl ?_
    refine zr_iload_n (i := 1) d_9_foremost_11 rfl rfl ?_
    obtain ⟨⟨q4, qm5⟩, hq6, h⟩ := z_bd h
    replace h := z_h2 h
    refine zr_callVi (av := [zI a1]) (st := []) d_9_foremost_12 mw_9_countsBy ml_9_471 im_9_countsBy se_9_countsBy rfl rfl (Nat.le_of_ble_eq_true rfl) fit_3_2_4 rfl rfl rfl (s9_countsBy hq6) ?_
    refine zr_istore_n (i := 2) (l' := [some (zA 9 0), some (zI a1), some (zI q4), none, none]) d_9_foremost_15 rfl (by decide) rfl ?_
    refine zr_bipush (v := (-2 : Int32)) d_9_foremost_16 (by decide) ?_
    refine zr_istore_n (i := 3) (l' := [some (zA 9 0), some (zI a1), some (zI q4), some (zI (-2 : Int32)), none]) d_9_foremost_18 rfl (by decide) rfl ?_
    refine zr_iconst (v := (0 : Int32)) d_9_foremost_19 rfl ?_
    refine zr_istore (i := 4) (l' := [some (zA 9 0), some (zI a1), some (zI q4), some (zI (-2 : Int32)), some (zI (0 : Int32))]) d_9_foremost_20 (by decide) rfl ?_
    obtain ⟨e22, hl23, h⟩ := z_bd h
    refine zr_wk (l' := [some (zA 9 0), none, some (zI q4), some (zI (-2 : Int32)), some (zI (0 : Int32))]) ⟨rfl, ⟨rfl, ⟨rfl, ⟨rfl, trivial⟩⟩⟩⟩ ?_
    refine z_loop (Hd := (z_u2 fun y0 y1 => z_RQ P M_9_foremost (z_rm 4) (z_mq P (some (zI r)) μ') 0 0 22 [some (zA 9 0), none, some (zI q4), some (zI y0), some (zI y1)] [] qm5)) (Ex := (fun z0 => z_RQ P M_9_foremost (z_rm 4) (z_mq P (some (zI r)) μ') 0 0 69 [none, none, none, some (zI z0), none] [] qm5)) (fun ⟨x8, x9⟩ K h hI hE => s9_foremost_L7 q4 qm5 x8 x9 K h (fun y0 y1 e => hI (y0, y1) e) (fun z0 e => hE z0 e) ) _ _ _ hl23 ?_
    refine zr_iload_n (i := 3) d_9_foremost_69 rfl rfl ?_
    obtain ⟨rfl, rfl⟩ := Prod.mk.inj (Option.some.inj h)
    exact ze_i d_9_foremost_70 rfl
def f9_ask_L15 (a1 : Int32) (q4 : Int32) (x10 : Int32) : (Int32 × Int32 × Int32 × zMem) → Option ((Int32 × Int32 × Int32 × zMem) ⊕ (Int32 × Int32 × zMem)) := (z_u4 fun x16 x17 x18 xm19 => 
  if z_in (xm19.1 9 0 18) 2 = true then (if x18 < (xm19.1 126 0 (xm19.1 9 0 18).toNatClampNeg) then (f9_beforeBy a1 x10 x18 xm19).bind (z_u2 fun q22 qm23 => ((if (q4 - q22) < q22 then some q22 else some (q4 - q22)) : Option (Int32)).bind (fun j28 => ((if x16 < 0 then z_let (((10 : Int32) * x10) + x18) fun v32 => some (v32, j28) else (if j28 < x17 then z_let (((10 : Int32) * x10) + x18) fun v35 => some (v35, j28) else some (x16, x17))) : Option (Int32 × Int32)).bind (z_u2 fun j37 j38 => some (.inl (j37, j38, (x18 + (1 : Int32)), qm23))))) else some (.inr (x16, x17, xm19))) else none)
def f9_ask_L7 (a1 : Int32) (q4 : Int32) : (Int32 × Int32 × Int32 × zMem) → Option ((Int32 × Int32 × Int32 × zMem) ⊕ (Int32 × zMem)) := (z_u4 fun x8 x9 x10 xm11 => 
  if z_in (xm11.1 9 0 18) 2 = true then (if x10 < (xm11.1 126 0 (xm11.1 9 0 18).toNatClampNeg) then (if 0 < q4 then (z_it (f9_ask_L15 a1 q4 x10) z_fu (x8, x9, (x10 + (1 : Int32)), xm11)).bind (z_u3 fun e39 e40 e41 => some (.inl (e39, e40, (x10 + (1 : Int32)), e41))) else some (.inr (x8, xm11))) else some (.inr (x8, xm11))) else none)
def f9_ask (a1 : Int32) (μ : zMem) : Option (Int32 × zMem) :=
  (f9_isKnown a1 μ).bind (fun q1 => (if q1 = 0 then some ((-1 : Int32), μ) else (f9_countsBy a1 μ).bind (z_u2 fun q4 qm5 => (z_it (f9_ask_L7 a1 q4) z_fu ((-2 : Int32), (0 : Int32), (0 : Int32), qm5)).bind (z_u2 fun e43 e44 => some (e43, e44)))))
theorem s9_ask_L15 {P : zP} {ro : Option zV} {μo : zMem} (a1 : Int32) (q4 : Int32) (x10 : Int32) (x16 : Int32) (x17 : Int32) (x18 : Int32) (xm19 : zMem) (K : (Int32 × Int32 × Int32 × zMem) ⊕ (Int32 × Int32 × zMem)) (h : f9_ask_L15 a1 q4 x10 (x16, x17, x18, xm19) = some K) (hI : ∀ (y0 : Int32) (y1 : Int32) (y2 : Int32) (y3 : zMem), K = .inl (y0, y1, y2, y3) → z_RQ P M_9_ask (z_rm 4) (z_mq P ro μo) 0 0 49 [some (zA 9 0), some (zI a1), some (zI q4), some (zI y0), some (zI y1), some (zI x10), some (zI y2), none, none] [] y3) (hE : ∀ (z0 : Int32) (z1 : Int32) (z2 : zMem), K = .inr (z0, z1, z2) → z_RQ P M_9_ask (z_rm 4) (z_mq P ro μo) 0 0 127 [some (zA 9 0), some (zI a1), some (zI q4), some (zI z0), some (zI z1), some (zI x10), none, none, none] [] z2)  : z_RQ P M_9_ask (z_rm 4) (z_mq P ro μo) 0 0 49 [some (zA 9 0), some (zI a1), some (zI q4), some (zI x16), some (zI x17), some (zI x10), some (zI x18), none, none] [] xm19 := by
  unfold f9_ask_L15 at h
  replace h := z_h4 h
  refine zr_iload d_9_ask_49 rfl ?_
  refine zr_aload_n (i := 0) d_9_ask_51 rfl rfl ?_
  refine zr_gets (i' := 0) d_9_ask_52 fw_9_55 rfl ?_
  refine zr_aload_n (i := 0) d_9_ask_55 rfl rfl ?_
  refine zr_geti d_9_ask_56 fw_9_233 (by decide) ?_
  obtain ⟨hb20, h⟩ := z_gd h
  refine zr_iald d_9_ask_59 sa_126 rfl hb20 ?_
  refine zr_icmp_ge (tgt := 127) d_9_ask_60 rfl (fun hc21 => ?_) (fun hc21 => ?_)
  · replace h := z_ip h hc21
    refine zr_aload_n (i := 0) d_9_ask_63 rfl rfl ?_
    refine zr_iload_n (i := 1) d_9_ask_64 rfl rfl ?_
    refine zr_iload d_9_ask_65 rfl ?_
    refine zr_iload d_9_ask_67 rfl ?_
    obtain ⟨⟨q22, qm23⟩, hq24, h⟩ := z_bd h
    replace h := z_h2 h
    refine zr_callVi (av := [zI a1, zI x10, zI x18]) (st := []) d_9_ask_69 mw_9_beforeBy ml_9_477 im_9_beforeBy se_9_beforeBy rfl rfl (Nat.le_of_ble_eq_true rfl) fit_3_4_4 rfl rfl rfl (s9_beforeBy hq24) ?_
    refine zr_istore (i := 7) (l' := [some (zA 9 0), some (zI a1), some (zI q4), some (zI x16), some (zI x17), some (zI x10), some (zI x18), some (zI q22), none]) d_9_ask_72 (by decide) rfl ?_
    refine zr_iload d_9_ask_74 rfl ?_
    refine zr_iload_n (i := 2) d_9_ask_76 rfl rfl ?_
    refine zr_iload d_9_ask_77 rfl ?_
    refine zr_isub d_9_ask_79 ?_
    obtain ⟨j28, hT25, h⟩ := z_bd h
    have hJ26 : z_RQ P M_9_ask (z_rm 4) (z_mq P ro μo) 0 0 92 [some (zA 9 0), some (zI a1), some (zI q4), some (zI x16), some (zI x17), some (zI x10), some (zI x18), none, none] [zI j28] qm23 := by
      refine zr_istore (i := 8) (l' := [some (zA 9 0), some (zI a1), some (zI q4), some (zI x16), some (zI x17), some (zI x10), some (zI x18), none, some (zI j28)]) d_9_ask_92 (by decide) rfl ?_
      refine zr_iload_n (i := 3) d_9_ask_94 rfl rfl ?_
      obtain ⟨⟨j37, j38⟩, hT29, h⟩ := z_bd h
      replace h := z_h2 h
      have hJ30 : z_RQ P M_9_ask (z_rm 4) (z_mq P ro μo) 0 0 121 [some (zA 9 0), some (zI a1), some (zI q4), some (zI j37), some (zI j38), some (zI x10), some (zI x18), none, none] [] qm23 := by
        refine zr_iinc (v := (x18 + (1 : Int32))) (l' := [some (zA 9 0), some (zI a1), some (zI q4), some (zI j37), some (zI j38), some (zI x10), some (zI (x18 + (1 : Int32))), none, none]) d_9_ask_121 (by decide) rfl rfl rfl ?_
        refine zr_goto (tgt := 49) d_9_ask_124 rfl ?_
        obtain rfl := Option.some.inj h
        exact zr_wk2 (hI j37 j38 (x18 + (1 : Int32)) qm23 rfl) ⟨rfl, ⟨rfl, ⟨rfl, ⟨rfl, ⟨rfl, ⟨rfl, ⟨rfl, trivial⟩⟩⟩⟩⟩⟩⟩
      refine zr_if_lt (tgt := 108) d_9_ask_95 rfl (fun hc31 => ?_) (fun hc31 => ?_)
      · replace hT29 := z_ip hT29 hc31
        refine zr_bipush (v := (10 : Int32)) d_9_ask_108 rfl ?_
        refine zr_iload d_9_ask_110 rfl ?_
        refine zr_imul d_9_ask_112 ?_
        refine zr_iload d_9_ask_113 rfl ?_
        refine zr_iadd d_9_ask_115 ?_
        obtain ⟨v32, hv33, hT29⟩ := z_lt hT29
        refine zr_nm hv33 ?_
        refine zr_istore_n (i := 3) (l' := [some (zA 9 0), some (zI a1), some (zI q4), some (zI v32), some (zI x17), some (zI x10), some (zI x18), none, some (zI j28)]) d_9_ask_116 rfl (by decide) rfl ?_
        refine zr_iload d_9_ask_117 rfl ?_
        refine zr_istore (i := 4) (l' := [some (zA 9 0), some (zI a1), some (zI q4), some (zI v32), some (zI j28), some (zI x10), some (zI x18), none, some (zI j28)]) d_9_ask_119 (by decide) rfl ?_
        obtain ⟨rfl, rfl⟩ := z_i2 (Option.some.inj hT29)
        exact zr_wk2 hJ30 ⟨rfl, ⟨rfl, ⟨rfl, ⟨rfl, ⟨rfl, ⟨rfl, ⟨rfl, trivial⟩⟩⟩⟩⟩⟩⟩
      · replace hT29 := z_im hT29 hc31
        refine zr_iload d_9_ask_98 rfl ?_
        refine zr_iload d_9_ask_100 rfl ?_
        refine zr_icmp_lt (tgt := 108) d_9_ask_102 rfl (fun hc34 => ?_) (fun hc34 => ?_)
        · replace hT29 := z_ip hT29 hc34
          refine zr_bipush (v := (10 : Int32)) d_9_ask_108 rfl ?_
          refine zr_iload d_9_ask_110 rfl ?_
          refine zr_imul d_9_ask_112 ?_
          refine zr_iload d_9_ask_113 rfl ?_
          refine zr_iadd d_9_ask_115 ?_
          obtain ⟨v35, hv36, hT29⟩ := z_lt hT29
          refine zr_nm hv36 ?_
          refine zr_istore_n (i := 3) (l' := [some (zA 9 0), some (zI a1), some (zI q4), some (zI v35), some (zI x17), some (zI x10), some (zI x18), none, some (zI j28)]) d_9_ask_116 rfl (by decide) rfl ?_
          refine zr_iload d_9_ask_117 rfl ?_
          refine zr_istore (i := 4) (l' := [some (zA 9 0), some (zI a1), some (zI q4), some (zI v35), some (zI j28), some (zI x10), some (zI x18), none, some (zI j28)]) d_9_ask_119 (by decide) rfl ?_
          obtain ⟨rfl, rfl⟩ := z_i2 (Option.some.inj hT29)
          exact zr_wk2 hJ30 ⟨rfl, ⟨rfl, ⟨rfl, ⟨rfl, ⟨rfl, ⟨rfl, ⟨rfl, trivial⟩⟩⟩⟩⟩⟩⟩
        · replace hT29 := z_im hT29 hc34
          refine zr_goto (tgt := 121) d_9_ask_105 rfl ?_
          obtain ⟨rfl, rfl⟩ := z_i2 (Option.some.inj hT29)
          exact zr_wk2 hJ30 ⟨rfl, ⟨rfl, ⟨rfl, ⟨rfl, ⟨rfl, ⟨rfl, ⟨rfl, trivial⟩⟩⟩⟩⟩⟩⟩
    refine zr_icmp_le (tgt := 88) d_9_ask_80 rfl (fun hc27 => ?_) (fun hc27 => ?_)
    · replace hT25 := z_ip hT25 hc27
      refine zr_iload d_9_ask_83 rfl ?_
      refine zr_goto (tgt := 92) d_9_ask_85 rfl ?_
      obtain rfl := Option.some.inj hT25
      exact zr_wk2 hJ26 ⟨rfl, ⟨rfl, ⟨rfl, ⟨rfl, ⟨rfl, ⟨rfl, ⟨rfl, trivial⟩⟩⟩⟩⟩⟩⟩
    · replace hT25 := z_im hT25 hc27
      refine zr_iload_n (i := 2) d_9_ask_88 rfl rfl ?_
      refine zr_iload d_9_ask_89 rfl ?_
      refine zr_isub d_9_ask_91 ?_
      obtain rfl := Option.some.inj hT25
      exact zr_wk2 hJ26 ⟨rfl, ⟨rfl, ⟨rfl, ⟨rfl, ⟨rfl, ⟨rfl, ⟨rfl, trivial⟩⟩⟩⟩⟩⟩⟩
  · replace h := z_im h hc21
    obtain rfl := Option.some.inj h
    exact zr_wk2 (hE x16 x17 xm19 rfl) ⟨rfl, ⟨rfl, ⟨rfl, ⟨rfl, ⟨rfl, ⟨rfl, trivial⟩⟩⟩⟩⟩⟩
theorem s9_ask_L7 {P : zP} {ro : Option zV} {μo : zMem} (a1 : Int32) (q4 : Int32) (x8 : Int32) (x9 : Int32) (x10 : Int32) (xm11 : zMem) (K : (Int32 × Int32 × Int32 × zMem) ⊕ (Int32 × zMem)) (h : f9_ask_L7 a1 q4 (x8, x9, x10, xm11) = some K) (hI : ∀ (y0 : Int32) (y1 : Int32) (y2 : Int32) (y3 : zMem), K = .inl (y0, y1, y2, y3) → z_RQ P M_9_ask (z_rm 4) (z_mq P ro μo) 0 0 25 [some (zA 9 0), some (zI a1), some (zI q4), some (zI y0), some (zI y1), some (zI y2), none, none, none] [] y3) (hE : ∀ (z0 : Int32) (z1 : zMem), K = .inr (z0, z1) → z_RQ P M_9_ask (z_rm 4) (z_mq P ro μo) 0 0 133 [none, none, none, some (zI z0), none, none, none, none, none] [] z1)  : z_RQ P M_9_ask (z_rm 4) (z_mq P ro μo) 0 0 25 [some (zA 9 0), some (zI a1), some (zI q4), some (zI x8), some (zI x9), some (zI x10), none, none, none] [] xm11 := by
  unfold f9_ask_L7 at h
  replace h := z_h4 h
  refine zr_iload d_9_ask_25 rfl ?_
  refine zr_aload_n (i := 0) d_9_ask_27 rfl rfl ?_
  refine zr_gets (i' := 0) d_9_ask_28 fw_9_55 rfl ?_
  refine zr_aload_n (i := 0) d_9_ask_31 rfl rfl ?_
  refine zr_geti d_9_ask_32 fw_9_233 (by decide) ?_
  obtain ⟨hb12, h⟩ := z_gd h
  refine zr_iald d_9_ask_35 sa_126 rfl hb12 ?_
  refine zr_icmp_ge (tgt := 133) d_9_ask_36 rfl (fun hc13 => ?_) (fun hc13 => ?_)
  · replace h := z_ip h hc13
    refine zr_iload_n (i := 2) d_9_ask_39 rfl rfl ?_
    refine zr_if_le (tgt := 133) d_9_ask_40 rfl (fun hc14 => ?_) (fun hc14 => ?_)
    · replace h := z_ip h hc14
      refine zr_iload d_9_ask_43 rfl ?_
      refine zr_iconst (v := (1 : Int32)) d_9_ask_45 rfl ?_
      refine zr_iadd d_9_ask_46 ?_
      refine zr_istore (i := 6) (l' := [some (zA 9 0), some (zI a1), some (zI q4), some (zI x8), some (zI x9), some (zI x10), some (zI (x10 + (1 : Int32))), none, none]) d_9_ask_47 (by decide) rfl ?_
      obtain ⟨⟨e39, e40, e41⟩, hl42, h⟩ := z_bd h
      replace h := z_h3 h
      refine zr_wk (l' := [some (zA 9 0), some (zI a1), some (zI q4), some (zI x8), some (zI x9), some (zI x10), some (zI (x10 + (1 : Int32))), none, none]) ⟨rfl, ⟨rfl, ⟨rfl, ⟨rfl, ⟨rfl, ⟨rfl, ⟨rfl, trivial⟩⟩⟩⟩⟩⟩⟩ ?_
      refine z_loop (Hd := (z_u4 fun y0 y1 y2 y3 => z_RQ P M_9_ask (z_rm 4) (z_mq P ro μo) 0 0 49 [some (zA 9 0), some (zI a1), some (zI q4), some (zI y0), some (zI y1), some (zI x10), some (zI y2), none, none] [] y3)) (Ex := (z_u3 fun z0 z1 z2 => z_RQ P M_9_ask (z_rm 4) (z_mq P ro μo) 0 0 127 [some (zA 9 0), some (zI a1), some (zI q4), some (zI z0), some (zI z1), some (zI x10), none, none, none] [] z2)) (fun ⟨x16, x17, x18, xm19⟩ K h hI hE => s9_ask_L15 a1 q4 x10 x16 x17 x18 xm19 K h (fun y0 y1 y2 y3 e => hI (y0, y1, y2, y3) e) (fun z0 z1 z2 e => hE (z0, z1, z2) e) ) _ _ _ hl42 ?_
      refine zr_iinc (v := (x10 + (1 : Int32))) (l' := [some (zA 9 0), some (zI a1), some (zI q4), some (zI e39), some (zI e40), some (zI (x10 + (1 : Int32))), none, none, none]) d_9_ask_127 (by decide) rfl rfl rfl ?_
      refine zr_goto (tgt := 25) d_9_ask_130 rfl ?_
      obtain rfl := Option.some.inj h
      exact zr_wk2 (hI e39 e40 (x10 + (1 : Int32)) e41 rfl) ⟨rfl, ⟨rfl, ⟨rfl, ⟨rfl, ⟨rfl, ⟨rfl, trivial⟩⟩⟩⟩⟩⟩
    · replace h := z_im h hc14
      obtain rfl := Option.some.inj h
      exact zr_wk2 (hE x8 xm11 rfl) ⟨rfl, trivial⟩
  · replace h := z_im h hc13
    obtain rfl := Option.some.inj h
    exact zr_wk2 (hE x8 xm11 rfl) ⟨rfl, trivial⟩
theorem s9_ask {P : zP} {μ : zMem} {a1 : Int32} {r : Int32} {μ' : zMem} (h : f9_ask a1 μ = some (r, μ')) : z_Sp P y_9_ask M_9_ask 4 [zA 9 0, zI a1] μ (some (zI r)) μ' := by
  refine z_Sp.of (plainFor_of_name (by decide)) rfl (l0 := [some (zA 9 0), some (zI a1), none, none, none, none, none, none, none]) rfl (Nat.le_of_ble_eq_true rfl) ?_
  unfold f9_ask at h
  refine zr_aload_n (i := 0) d_9_ask_0 rfl rfl ?_
  refine zr_iload_n (i := 1) d_9_ask_1 rfl rfl ?_
  obtain ⟨q1, hq2, h⟩ := z_bd h
  refine zr_callVi (av := [zI a1]) (st := []) d_9_ask_2 mw_9_isKnown ml_9_468 im_9_isKnown se_9_isKnown rfl rfl (Nat.le_of_ble_eq_true rfl) fit_2_2_4 rfl rfl rfl (s9_isKnown hq2) ?_
  refine zr_if_ne (tgt := 10) d_9_ask_5 rfl (fun hc3 => ?_) (fun hc3 => ?_)
  · replace h := z_ip h hc3
    refine zr_iconst (v := (-1 : Int32)) d_9_ask_8 rfl ?_
    obtain ⟨rfl, rfl⟩ := Prod.mk.inj (Option.some.inj h)
    exact ze_i d_9_ask_9 rfl
  · replace h := z_im h hc3
    refine zr_aload_n (i := 0) d_9_ask_10 rfl rfl ?_
    refine zr_iload_n (i := 1) d_9_ask_11 rfl rfl ?_
    obtain ⟨⟨q4, qm5⟩, hq6, h⟩ := z_bd h
    replace h := z_h2 h
    refine zr_callVi (av := [zI a1]) (st := []) d_9_ask_12 mw_9_countsBy ml_9_471 im_9_countsBy se_9_countsBy rfl rfl (Nat.le_of_ble_eq_true rfl) fit_3_2_4 rfl rfl rfl (s9_countsBy hq6) ?_
    refine zr_istore_n (i := 2) (l' := [some (zA 9 0), some (zI a1), some (zI q4), none, none, none, none, none, none]) d_9_ask_15 rfl (by decide) rfl ?_
    refine zr_bipush (v := (-2 : Int32)) d_9_ask_16 (by decide) ?_
    refine zr_istore_n (i := 3) (l' := [some (zA 9 0), some (zI a1), some (zI q4), some (zI (-2 : Int32)), none, none, none, none, none]) d_9_ask_18 rfl (by decide) rfl ?_
    refine zr_iconst (v := (0 : Int32)) d_9_ask_19 rfl ?_
    refine zr_istore (i := 4) (l' := [some (zA 9 0), some (zI a1), some (zI q4), some (zI (-2 : Int32)), some (zI (0 : Int32)), none, none, none, none]) d_9_ask_20 (by decide) rfl ?_
    refine zr_iconst (v := (0 : Int32)) d_9_ask_22 rfl ?_
    refine zr_istore (i := 5) (l' := [some (zA 9 0), some (zI a1), some (zI q4), some (zI (-2 : Int32)), some (zI (0 : Int32)), some (zI (0 : Int32)), none, none, none]) d_9_ask_23 (by decide) rfl ?_
    obtain ⟨⟨e43, e44⟩, hl45, h⟩ := z_bd h
    replace h := z_h2 h
    refine zr_wk (l' := [some (zA 9 0), some (zI a1), some (zI q4), some (zI (-2 : Int32)), some (zI (0 : Int32)), some (zI (0 : Int32)), none, none, none]) ⟨rfl, ⟨rfl, ⟨rfl, ⟨rfl, ⟨rfl, ⟨rfl, trivial⟩⟩⟩⟩⟩⟩ ?_
    refine z_loop (Hd := (z_u4 fun y0 y1 y2 y3 => z_RQ P M_9_ask (z_rm 4) (z_mq P (some (zI r)) μ') 0 0 25 [some (zA 9 0), some (zI a1), some (zI q4), some (zI y0), some (zI y1), some (zI y2), none, none, none] [] y3)) (Ex := (z_u2 fun z0 z1 => z_RQ P M_9_ask (z_rm 4) (z_mq P (some (zI r)) μ') 0 0 133 [none, none, none, some (zI z0), none, none, none, none, none] [] z1)) (fun ⟨x8, x9, x10, xm11⟩ K h hI hE => s9_ask_L7 a1 q4 x8 x9 x10 xm11 K h (fun y0 y1 y2 y3 e => hI (y0, y1, y2, y3) e) (fun z0 z1 e => hE (z0, z1) e) ) _ _ _ hl45 ?_
    refine zr_iload_n (i := 3) d_9_ask_133 rfl rfl ?_
    obtain ⟨rfl, rfl⟩ := Prod.mk.inj (Option.some.inj h)
    exact ze_i d_9_ask_134 rfl
def f9_order_L18 (qm8 : zMem) (x14 : Int32) : (Int32 × Int32) → Option ((Int32 × Int32) ⊕ (Int32 × Int32)) := (z_u2 fun x19 x20 => 
  (f9_mayGo x20 x14 qm8).bind (fun q21 => (if q21 = 0 then (f9_mayGo x20 x14 qm8).bind (fun q24 => ((if q24 = 0 then some x19 else if z_in (x14 ||| ((1 : Int32) <<< (x20 &&& 31))) 128 = true then z_let (x19 - (qm8.1 163 0 (x14 ||| ((1 : Int32) <<< (x20 &&& 31))).toNatClampNeg)) fun v30 => some v30 else none) : Option (Int32)).bind (fun j32 => some (.inl (j32, (x20 + (1 : Int32)))))) else if z_in (x14 ||| ((1 : Int32) <<< (x20 &&& 31))) 128 = true then (if x19 < (qm8.1 163 0 (x14 ||| ((1 : Int32) <<< (x20 &&& 31))).toNatClampNeg) then some (.inr (x19, x20)) else (f9_mayGo x20 x14 qm8).bind (fun q35 => ((if q35 = 0 then some x19 else z_let (x19 - (qm8.1 163 0 (x14 ||| ((1 : Int32) <<< (x20 &&& 31))).toNatClampNeg)) fun v40 => some v40) : Option (Int32)).bind (fun j42 => some (.inl (j42, (x20 + (1 : Int32))))))) else none)))
def f9_order_L12 (a3 : Int32) (qm8 : zMem) : (Int32 × Int32 × Int32 × Int32) → Option ((Int32 × Int32 × Int32 × Int32) ⊕ (Int32)) := (z_u4 fun x13 x14 x15 x16 => 
  (if a3 < x16 then some (.inr x15) else (z_it (f9_order_L18 qm8 x14) z_fu (x13, (0 : Int32))).bind (z_u2 fun e43 e44 => z_let (x14 ||| ((1 : Int32) <<< (e44 &&& 31))) fun v46 => some (.inl (e43, v46, e44, (x16 + (1 : Int32)))))))
def f9_order (a1 : Int32) (a2 : Int32) (a3 : Int32) (μ : zMem) : Option (Int32 × zMem) :=
  (f9_isKnown a1 μ).bind (fun q1 => (if q1 = 0 then some ((-1 : Int32), μ) else if z_in (μ.1 9 0 18) 2 = true then (if (f9_in a3 (0 : Int32) ((μ.1 126 0 (μ.1 9 0 18).toNatClampNeg) - (1 : Int32))) = 0 then some ((-1 : Int32), μ) else (f9_countsBy a1 μ).bind (z_u2 fun q7 qm8 => (if (f9_in a2 (0 : Int32) (q7 - (1 : Int32))) = 0 then some ((-1 : Int32), qm8) else (z_it (f9_order_L12 a3 qm8) z_fu (a2, (0 : Int32), (0 : Int32), (0 : Int32))).bind (fun e48 => some (e48, qm8))))) else none))
theorem s9_order_L18 {P : zP} {ro : Option zV} {μo : zMem} (a3 : Int32) (qm8 : zMem) (x14 : Int32) (x16 : Int32) (x19 : Int32) (x20 : Int32) (K : (Int32 × Int32) ⊕ (Int32 × Int32)) (h : f9_order_L18 qm8 x14 (x19, x20) = some K) (hI : ∀ (y0 : Int32) (y1 : Int32), K = .inl (y0, y1) → z_RQ P M_9_order (z_rm 4) (z_mq P ro μo) 0 0 65 [some (zA 9 0), none, none, some (zI a3), some (zI y0), some (zI x14), some (zI y1), some (zI x16)] [] qm8) (hE : ∀ (z0 : Int32) (z1 : Int32), K = .inr (z0, z1) → z_RQ P M_9_order (z_rm 4) (z_mq P ro μo) 0 0 127 [some (zA 9 0), none, none, some (zI a3), some (zI z0), some (zI x14), some (zI z1), some (zI x16)] [] qm8)  : z_RQ P M_9_order (z_rm 4) (z_mq P ro μo) 0 0 65 [some (zA 9 0), none, none, some (zI a3), some (zI x19), some (zI x14), some (zI x20), some (zI x16)] [] qm8 := by
  unfold f9_order_L18 at h
  replace h := z_h2 h
  refine zr_aload_n (i := 0) d_9_order_65 rfl rfl ?_
  refine zr_iload d_9_order_66 rfl ?_
  refine zr_iload d_9_order_68 rfl ?_
  obtain ⟨q21, hq22, h⟩ := z_bd h
  refine zr_callVi (av := [zI x20, zI x14]) (st := []) d_9_order_70 mw_9_mayGo ml_9_459 im_9_mayGo se_9_mayGo rfl rfl (Nat.le_of_ble_eq_true rfl) fit_1_3_4 rfl rfl rfl (s9_mayGo hq22) ?_
  refine zr_if_eq (tgt := 93) d_9_order_73 rfl (fun hc23 => ?_) (fun hc23 => ?_)
  · replace h := z_ip h hc23
    refine zr_aload_n (i := 0) d_9_order_93 rfl rfl ?_
    refine zr_iload d_9_order_94 rfl ?_
    refine zr_iload d_9_order_96 rfl ?_
    obtain ⟨q24, hq25, h⟩ := z_bd h
    refine zr_callVi (av := [zI x20, zI x14]) (st := []) d_9_order_98 mw_9_mayGo ml_9_459 im_9_mayGo se_9_mayGo rfl rfl (Nat.le_of_ble_eq_true rfl) fit_1_3_4 rfl rfl rfl (s9_mayGo hq25) ?_
    obtain ⟨j32, hT26, h⟩ := z_bd h
    have hJ27 : z_RQ P M_9_order (z_rm 4) (z_mq P ro μo) 0 0 121 [some (zA 9 0), none, none, some (zI a3), some (zI j32), some (zI x14), some (zI x20), some (zI x16)] [] qm8 := by
      refine zr_iinc (v := (x20 + (1 : Int32))) (l' := [some (zA 9 0), none, none, some (zI a3), some (zI j32), some (zI x14), some (zI (x20 + (1 : Int32))), some (zI x16)]) d_9_order_121 (by decide) rfl rfl rfl ?_
      refine zr_goto (tgt := 65) d_9_order_124 rfl ?_
      obtain rfl := Option.some.inj h
      exact zr_wk2 (hI j32 (x20 + (1 : Int32)) rfl) ⟨rfl, ⟨rfl, ⟨rfl, ⟨rfl, ⟨rfl, ⟨rfl, trivial⟩⟩⟩⟩⟩⟩
    refine zr_if_eq (tgt := 121) d_9_order_101 rfl (fun hc28 => ?_) (fun hc28 => ?_)
    · replace hT26 := z_ip hT26 hc28
      obtain rfl := Option.some.inj hT26
      exact zr_wk2 hJ27 ⟨rfl, ⟨rfl, ⟨rfl, ⟨rfl, ⟨rfl, ⟨rfl, trivial⟩⟩⟩⟩⟩⟩
    · replace hT26 := z_im hT26 hc28
      refine zr_iload d_9_order_104 rfl ?_
      refine zr_aload_n (i := 0) d_9_order_106 rfl rfl ?_
      refine zr_gets (i' := 0) d_9_order_107 fw_9_143 rfl ?_
      refine zr_iload d_9_order_110 rfl ?_
      refine zr_iconst (v := (1 : Int32)) d_9_order_112 rfl ?_
      refine zr_iload d_9_order_113 rfl ?_
      refine zr_ishl d_9_order_115 ?_
      refine zr_ior d_9_order_116 ?_
      obtain ⟨hb29, hT26⟩ := z_gd hT26
      refine zr_iald d_9_order_117 sa_163 rfl hb29 ?_
      refine zr_isub d_9_order_118 ?_
      obtain ⟨v30, hv31, hT26⟩ := z_lt hT26
      refine zr_nm hv31 ?_
      refine zr_istore (i := 4) (l' := [some (zA 9 0), none, none, some (zI a3), some (zI v30), some (zI x14), some (zI x20), some (zI x16)]) d_9_order_119 (by decide) rfl ?_
      obtain rfl := Option.some.inj hT26
      exact zr_wk2 hJ27 ⟨rfl, ⟨rfl, ⟨rfl, ⟨rfl, ⟨rfl, ⟨rfl, trivial⟩⟩⟩⟩⟩⟩
  · replace h := z_im h hc23
    refine zr_iload d_9_order_76 rfl ?_
    refine zr_aload_n (i := 0) d_9_order_78 rfl rfl ?_
    refine zr_gets (i' := 0) d_9_order_79 fw_9_143 rfl ?_
    refine zr_iload d_9_order_82 rfl ?_
    refine zr_iconst (v := (1 : Int32)) d_9_order_84 rfl ?_
    refine zr_iload d_9_order_85 rfl ?_
    refine zr_ishl d_9_order_87 ?_
    refine zr_ior d_9_order_88 ?_
    obtain ⟨hb33, h⟩ := z_gd h
    refine zr_iald d_9_order_89 sa_163 rfl hb33 ?_
    refine zr_icmp_lt (tgt := 127) d_9_order_90 rfl (fun hc34 => ?_) (fun hc34 => ?_)
    · replace h := z_ip h hc34
      obtain rfl := Option.some.inj h
      exact zr_wk2 (hE x19 x20 rfl) ⟨rfl, ⟨rfl, ⟨rfl, ⟨rfl, ⟨rfl, ⟨rfl, trivial⟩⟩⟩⟩⟩⟩
    · replace h := z_im h hc34
      refine zr_aload_n (i := 0) d_9_order_93 rfl rfl ?_
      refine zr_iload d_9_order_94 rfl ?_
      refine zr_iload d_9_order_96 rfl ?_
      obtain ⟨q35, hq36, h⟩ := z_bd h
      refine zr_callVi (av := [zI x20, zI x14]) (st := []) d_9_order_98 mw_9_mayGo ml_9_459 im_9_mayGo se_9_mayGo rfl rfl (Nat.le_of_ble_eq_true rfl) fit_1_3_4 rfl rfl rfl (s9_mayGo hq36) ?_
      obtain ⟨j42, hT37, h⟩ := z_bd h
      have hJ38 : z_RQ P M_9_order (z_rm 4) (z_mq P ro μo) 0 0 121 [some (zA 9 0), none, none, some (zI a3), some (zI j42), some (zI x14), some (zI x20), some (zI x16)] [] qm8 := by
        refine zr_iinc (v := (x20 + (1 : Int32))) (l' := [some (zA 9 0), none, none, some (zI a3), some (zI j42), some (zI x14), some (zI (x20 + (1 : Int32))), some (zI x16)]) d_9_order_121 (by decide) rfl rfl rfl ?_
        refine zr_goto (tgt := 65) d_9_order_124 rfl ?_
        obtain rfl := Option.some.inj h
        exact zr_wk2 (hI j42 (x20 + (1 : Int32)) rfl) ⟨rfl, ⟨rfl, ⟨rfl, ⟨rfl, ⟨rfl, ⟨rfl, trivial⟩⟩⟩⟩⟩⟩
      refine zr_if_eq (tgt := 121) d_9_order_101 rfl (fun hc39 => ?_) (fun hc39 => ?_)
      · replace hT37 := z_ip hT37 hc39
        obtain rfl := Option.some.inj hT37
        exact zr_wk2 hJ38 ⟨rfl, ⟨rfl, ⟨rfl, ⟨rfl, ⟨rfl, ⟨rfl, trivial⟩⟩⟩⟩⟩⟩
      · replace hT37 := z_im hT37 hc39
        refine zr_iload d_9_order_104 rfl ?_
        refine zr_aload_n (i := 0) d_9_order_106 rfl rfl ?_
        refine zr_gets (i' := 0) d_9_order_107 fw_9_143 rfl ?_
        refine zr_iload d_9_order_110 rfl ?_
        refine zr_iconst (v := (1 : Int32)) d_9_order_112 rfl ?_
        refine zr_iload d_9_order_113 rfl ?_
        refine zr_ishl d_9_order_115 ?_
        refine zr_ior d_9_order_116 ?_
        refine zr_iald d_9_order_117 sa_163 rfl hb33 ?_
        refine zr_isub d_9_order_118 ?_
        obtain ⟨v40, hv41, hT37⟩ := z_lt hT37
        refine zr_nm hv41 ?_
        refine zr_istore (i := 4) (l' := [some (zA 9 0), none, none, some (zI a3), some (zI v40), some (zI x14), some (zI x20), some (zI x16)]) d_9_order_119 (by decide) rfl ?_
        obtain rfl := Option.some.inj hT37
        exact zr_wk2 hJ38 ⟨rfl, ⟨rfl, ⟨rfl, ⟨rfl, ⟨rfl, ⟨rfl, trivial⟩⟩⟩⟩⟩⟩
theorem s9_order_L12 {P : zP} {ro : Option zV} {μo : zMem} (a3 : Int32) (qm8 : zMem) (x13 : Int32) (x14 : Int32) (x15 : Int32) (x16 : Int32) (K : (Int32 × Int32 × Int32 × Int32) ⊕ (Int32)) (h : f9_order_L12 a3 qm8 (x13, x14, x15, x16) = some K) (hI : ∀ (y0 : Int32) (y1 : Int32) (y2 : Int32) (y3 : Int32), K = .inl (y0, y1, y2, y3) → z_RQ P M_9_order (z_rm 4) (z_mq P ro μo) 0 0 56 [some (zA 9 0), none, none, some (zI a3), some (zI y0), some (zI y1), some (zI y2), some (zI y3)] [] qm8) (hE : ∀ (z0 : Int32), K = .inr z0 → z_RQ P M_9_order (z_rm 4) (z_mq P ro μo) 0 0 142 [none, none, none, none, none, none, some (zI z0), none] [] qm8)  : z_RQ P M_9_order (z_rm 4) (z_mq P ro μo) 0 0 56 [some (zA 9 0), none, none, some (zI a3), some (zI x13), some (zI x14), some (zI x15), some (zI x16)] [] qm8 := by
  unfold f9_order_L12 at h
  replace h := z_h4 h
  refine zr_iload d_9_order_56 rfl ?_
  refine zr_iload_n (i := 3) d_9_order_58 rfl rfl ?_
  refine zr_icmp_gt (tgt := 142) d_9_order_59 rfl (fun hc17 => ?_) (fun hc17 => ?_)
  · replace h := z_ip h hc17
    obtain rfl := Option.some.inj h
    exact zr_wk2 (hE x15 rfl) ⟨rfl, trivial⟩
  · replace h := z_im h hc17
    refine zr_iconst (v := (0 : Int32)) d_9_order_62 rfl ?_
    refine zr_istore (i := 6) (l' := [some (zA 9 0), none, none, some (zI a3), some (zI x13), some (zI x14), some (zI (0 : Int32)), some (zI x16)]) d_9_order_63 (by decide) rfl ?_
    obtain ⟨⟨e43, e44⟩, hl45, h⟩ := z_bd h
    replace h := z_h2 h
    refine zr_wk (l' := [some (zA 9 0), none, none, some (zI a3), some (zI x13), some (zI x14), some (zI (0 : Int32)), some (zI x16)]) ⟨rfl, ⟨rfl, ⟨rfl, ⟨rfl, ⟨rfl, ⟨rfl, trivial⟩⟩⟩⟩⟩⟩ ?_
    refine z_loop (Hd := (z_u2 fun y0 y1 => z_RQ P M_9_order (z_rm 4) (z_mq P ro μo) 0 0 65 [some (zA 9 0), none, none, some (zI a3), some (zI y0), some (zI x14), some (zI y1), some (zI x16)] [] qm8)) (Ex := (z_u2 fun z0 z1 => z_RQ P M_9_order (z_rm 4) (z_mq P ro μo) 0 0 127 [some (zA 9 0), none, none, some (zI a3), some (zI z0), some (zI x14), some (zI z1), some (zI x16)] [] qm8)) (fun ⟨x19, x20⟩ K h hI hE => s9_order_L18 a3 qm8 x14 x16 x19 x20 K h (fun y0 y1 e => hI (y0, y1) e) (fun z0 z1 e => hE (z0, z1) e) ) _ _ _ hl45 ?_
    refine zr_iload d_9_order_127 rfl ?_
    refine zr_iconst (v := (1 : Int32)) d_9_order_129 rfl ?_
    refine zr_iload d_9_order_130 rfl ?_
    refine zr_ishl d_9_order_132 ?_
    refine zr_ior d_9_order_133 ?_
    obtain ⟨v46, hv47, h⟩ := z_lt h
    refine zr_nm hv47 ?_
    refine zr_istore (i := 5) (l' := [some (zA 9 0), none, none, some (zI a3), some (zI e43), some (zI v46), some (zI e44), some (zI x16)]) d_9_order_134 (by decide) rfl ?_
    refine zr_iinc (v := (x16 + (1 : Int32))) (l' := [some (zA 9 0), none, none, some (zI a3), some (zI e43), some (zI v46), some (zI e44), some (zI (x16 + (1 : Int32)))]) d_9_order_136 (by decide) rfl rfl rfl ?_
    refine zr_goto (tgt := 56) d_9_order_139 rfl ?_
    obtain rfl := Option.some.inj h
    exact zr_wk2 (hI e43 v46 e44 (x16 + (1 : Int32)) rfl) ⟨rfl, ⟨rfl, ⟨rfl, ⟨rfl, ⟨rfl, ⟨rfl, trivial⟩⟩⟩⟩⟩⟩
theorem s9_order {P : zP} {μ : zMem} {a1 : Int32} {a2 : Int32} {a3 : Int32} {r : Int32} {μ' : zMem} (h : f9_order a1 a2 a3 μ = some (r, μ')) : z_Sp P y_9_order M_9_order 4 [zA 9 0, zI a1, zI a2, zI a3] μ (some (zI r)) μ' := by
  refine z_Sp.of (plainFor_of_name (by decide)) rfl (l0 := [some (zA 9 0), some (zI a1), some (zI a2), some (zI a3), none, none, none, none]) rfl (Nat.le_of_ble_eq_true rfl) ?_
  unfold f9_order at h
  refine zr_aload_n (i := 0) d_9_order_0 rfl rfl ?_
  refine zr_iload_n (i := 1) d_9_order_1 rfl rfl ?_
  obtain ⟨q1, hq2, h⟩ := z_bd h
  refine zr_callVi (av := [zI a1]) (st := []) d_9_order_2 mw_9_isKnown ml_9_468 im_9_isKnown se_9_isKnown rfl rfl (Nat.le_of_ble_eq_true rfl) fit_2_2_4 rfl rfl rfl (s9_isKnown hq2) ?_
  refine zr_if_eq (tgt := 42) d_9_order_5 rfl (fun hc3 => ?_) (fun hc3 => ?_)
  · replace h := z_ip h hc3
    refine zr_iconst (v := (-1 : Int32)) d_9_order_42 rfl ?_
    obtain ⟨rfl, rfl⟩ := Prod.mk.inj (Option.some.inj h)
    exact ze_i d_9_order_43 rfl
  · replace h := z_im h hc3
    refine zr_iload_n (i := 3) d_9_order_8 rfl rfl ?_
    refine zr_iconst (v := (0 : Int32)) d_9_order_9 rfl ?_
    refine zr_aload_n (i := 0) d_9_order_10 rfl rfl ?_
    refine zr_gets (i' := 0) d_9_order_11 fw_9_55 rfl ?_
    refine zr_aload_n (i := 0) d_9_order_14 rfl rfl ?_
    refine zr_geti d_9_order_15 fw_9_233 (by decide) ?_
    obtain ⟨hb4, h⟩ := z_gd h
    refine zr_iald d_9_order_18 sa_126 rfl hb4 ?_
    refine zr_iconst (v := (1 : Int32)) d_9_order_19 rfl ?_
    refine zr_isub d_9_order_20 ?_
    refine zr_callSi (av := [zI a3, zI (0 : Int32), zI ((μ.1 126 0 (μ.1 9 0 18).toNatClampNeg) - (1 : Int32))]) (st := []) d_9_order_21 mw_9_in ml_9_312 is_9_in rfl rfl (Nat.le_of_ble_eq_true rfl) fit_1_3_4 (s9_in rfl) ?_
    refine zr_if_eq (tgt := 42) d_9_order_24 rfl (fun hc6 => ?_) (fun hc6 => ?_)
    · replace h := z_ip h hc6
      refine zr_iconst (v := (-1 : Int32)) d_9_order_42 rfl ?_
      obtain ⟨rfl, rfl⟩ := Prod.mk.inj (Option.some.inj h)
      exact ze_i d_9_order_43 rfl
    · replace h := z_im h hc6
      refine zr_iload_n (i := 2) d_9_order_27 rfl rfl ?_
      refine zr_iconst (v := (0 : Int32)) d_9_order_28 rfl ?_
      refine zr_aload_n (i := 0) d_9_order_29 rfl rfl ?_
      refine zr_iload_n (i := 1) d_9_order_30 rfl rfl ?_
      obtain ⟨⟨q7, qm8⟩, hq9, h⟩ := z_bd h
      replace h := z_h2 h
      refine zr_callVi (av := [zI a1]) (st := [zI (0 : Int32), zI a2]) d_9_order_31 mw_9_countsBy ml_9_471 im_9_countsBy se_9_countsBy rfl rfl (Nat.le_of_ble_eq_true rfl) fit_3_2_4 rfl rfl rfl (s9_countsBy hq9) ?_
      refine zr_iconst (v := (1 : Int32)) d_9_order_34 rfl ?_
      refine zr_isub d_9_order_35 ?_
      refine zr_callSi (av := [zI a2, zI (0 : Int32), zI (q7 - (1 : Int32))]) (st := []) d_9_order_36 mw_9_in ml_9_312 is_9_in rfl rfl (Nat.le_of_ble_eq_true rfl) fit_1_3_4 (s9_in rfl) ?_
      refine zr_if_ne (tgt := 44) d_9_order_39 rfl (fun hc11 => ?_) (fun hc11 => ?_)
      · replace h := z_ip h hc11
        refine zr_iconst (v := (-1 : Int32)) d_9_order_42 rfl ?_
        obtain ⟨rfl, rfl⟩ := Prod.mk.inj (Option.some.inj h)
        exact ze_i d_9_order_43 rfl
      · replace h := z_im h hc11
        refine zr_iload_n (i := 2) d_9_order_44 rfl rfl ?_
        refine zr_istore (i := 4) (l' := [some (zA 9 0), some (zI a1), some (zI a2), some (zI a3), some (zI a2), none, none, none]) d_9_order_45 (by decide) rfl ?_
        refine zr_iconst (v := (0 : Int32)) d_9_order_47 rfl ?_
        refine zr_istore (i := 5) (l' := [some (zA 9 0), some (zI a1), some (zI a2), some (zI a3), some (zI a2), some (zI (0 : Int32)), none, none]) d_9_order_48 (by decide) rfl ?_
        refine zr_iconst (v := (0 : Int32)) d_9_order_50 rfl ?_
        refine zr_istore (i := 6) (l' := [some (zA 9 0), some (zI a1), some (zI a2), some (zI a3), some (zI a2), some (zI (0 : Int32)), some (zI (0 : Int32)), none]) d_9_order_51 (by decide) rfl ?_
        refine zr_iconst (v := (0 : Int32)) d_9_order_53 rfl ?_
        refine zr_istore (i := 7) (l' := [some (zA 9 0), some (zI a1), some (zI a2), some (zI a3), some (zI a2), some (zI (0 : Int32)), some (zI (0 : Int32)), some (zI (0 : Int32))]) d_9_order_54 (by decide) rfl ?_
        obtain ⟨e48, hl49, h⟩ := z_bd h
        refine zr_wk (l' := [some (zA 9 0), none, none, some (zI a3), some (zI a2), some (zI (0 : Int32)), some (zI (0 : Int32)), some (zI (0 : Int32))]) ⟨rfl, ⟨rfl, ⟨rfl, ⟨rfl, ⟨rfl, ⟨rfl, trivial⟩⟩⟩⟩⟩⟩ ?_
        refine z_loop (Hd := (z_u4 fun y0 y1 y2 y3 => z_RQ P M_9_order (z_rm 4) (z_mq P (some (zI r)) μ') 0 0 56 [some (zA 9 0), none, none, some (zI a3), some (zI y0), some (zI y1), some (zI y2), some (zI y3)] [] qm8)) (Ex := (fun z0 => z_RQ P M_9_order (z_rm 4) (z_mq P (some (zI r)) μ') 0 0 142 [none, none, none, none, none, none, some (zI z0), none] [] qm8)) (fun ⟨x13, x14, x15, x16⟩ K h hI hE => s9_order_L12 a3 qm8 x13 x14 x15 x16 K h (fun y0 y1 y2 y3 e => hI (y0, y1, y2, y3) e) (fun z0 e => hE z0 e) ) _ _ _ hl49 ?_
        refine zr_iload d_9_order_142 rfl ?_
        obtain ⟨rfl, rfl⟩ := Prod.mk.inj (Option.some.inj h)
        exact ze_i d_9_order_144 rfl
def f9_hold_L6 (a1 : Int32) : (Int32 × zMem) → Option ((Int32 × zMem) ⊕ (zMem)) := (z_u2 fun x7 xm8 => 
  (if x7 < (34 : Int32) then if z_in x7 34 = true then if z_in (((34 : Int32) * a1) + x7) 102 = true then z_let (z_sI xm8 165 0 (((34 : Int32) * a1) + x7).toNatClampNeg (xm8.1 148 0 x7.toNatClampNeg)) fun m11 => some (.inl ((x7 + (1 : Int32)), m11)) else none else none else some (.inr xm8)))
def f9_hold (a1 : Int32) (μ : zMem) : Option (Int32 × zMem) :=
  (if (f9_in a1 (0 : Int32) (2 : Int32)) = 0 then some ((0 : Int32), μ) else if z_in a1 3 = true then z_let (z_sI μ 164 0 a1.toNatClampNeg (vp_nar .boolean (1 : Int32))) fun m3 => (z_it (f9_hold_L6 a1) z_fu ((0 : Int32), m3)).bind (fun e14 => some ((1 : Int32), e14)) else none)
theorem s9_hold_L6 {P : zP} {ro : Option zV} {μo : zMem} (a1 : Int32) (x7 : Int32) (xm8 : zMem) (K : (Int32 × zMem) ⊕ (zMem)) (h : f9_hold_L6 a1 (x7, xm8) = some K) (hI : ∀ (y0 : Int32) (y1 : zMem), K = .inl (y0, y1) → z_RQ P M_9_hold (z_rm 2) (z_mq P ro μo) 0 0 20 [some (zA 9 0), some (zI a1), some (zI y0)] [] y1) (hE : ∀ (z0 : zMem), K = .inr z0 → z_RQ P M_9_hold (z_rm 2) (z_mq P ro μo) 0 0 49 [none, none, none] [] z0)  : z_RQ P M_9_hold (z_rm 2) (z_mq P ro μo) 0 0 20 [some (zA 9 0), some (zI a1), some (zI x7)] [] xm8 := by
  unfold f9_hold_L6 at h
  replace h := z_h2 h
  refine zr_iload_n (i := 2) d_9_hold_20 rfl rfl ?_
  refine zr_bipush (v := (34 : Int32)) d_9_hold_21 rfl ?_
  refine zr_icmp_ge (tgt := 49) d_9_hold_23 rfl (fun hc9 => ?_) (fun hc9 => ?_)
  · replace h := z_ip h hc9
    refine zr_aload_n (i := 0) d_9_hold_26 rfl rfl ?_
    refine zr_gets (i' := 0) d_9_hold_27 fw_9_149 rfl ?_
    refine zr_bipush (v := (34 : Int32)) d_9_hold_30 rfl ?_
    refine zr_iload_n (i := 1) d_9_hold_32 rfl rfl ?_
    refine zr_imul d_9_hold_33 ?_
    refine zr_iload_n (i := 2) d_9_hold_34 rfl rfl ?_
    refine zr_iadd d_9_hold_35 ?_
    refine zr_aload_n (i := 0) d_9_hold_36 rfl rfl ?_
    refine zr_gets (i' := 0) d_9_hold_37 fw_9_110 rfl ?_
    refine zr_iload_n (i := 2) d_9_hold_40 rfl rfl ?_
    obtain ⟨hb10, h⟩ := z_gd h
    refine zr_iald d_9_hold_41 sa_148 rfl hb10 ?_
    obtain ⟨hb13, h⟩ := z_gd h
    obtain ⟨m11, hm12, h⟩ := z_lt h
    refine zr_iast d_9_hold_42 sa_165 rfl hb13 hm12 ?_
    refine zr_iinc (v := (x7 + (1 : Int32))) (l' := [some (zA 9 0), some (zI a1), some (zI (x7 + (1 : Int32)))]) d_9_hold_43 (by decide) rfl rfl rfl ?_
    refine zr_goto (tgt := 20) d_9_hold_46 rfl ?_
    obtain rfl := Option.some.inj h
    exact zr_wk2 (hI (x7 + (1 : Int32)) m11 rfl) ⟨rfl, ⟨rfl, ⟨rfl, trivial⟩⟩⟩
  · replace h := z_im h hc9
    obtain rfl := Option.some.inj h
    exact zr_wk2 (hE xm8 rfl) trivial
theorem s9_hold {P : zP} {μ : zMem} {a1 : Int32} {r : Int32} {μ' : zMem} (h : f9_hold a1 μ = some (r, μ')) : z_Sp P y_9_hold M_9_hold 2 [zA 9 0, zI a1] μ (some (zI r)) μ' := by
  refine z_Sp.of (plainFor_of_name (by decide)) rfl (l0 := [some (zA 9 0), some (zI a1), none]) rfl (Nat.le_of_ble_eq_true rfl) ?_
  unfold f9_hold at h
  refine zr_iload_n (i := 1) d_9_hold_0 rfl rfl ?_
  refine zr_iconst (v := (0 : Int32)) d_9_hold_1 rfl ?_
  refine zr_iconst (v := (2 : Int32)) d_9_hold_2 rfl ?_
  refine zr_callSi (av := [zI a1, zI (0 : Int32), zI (2 : Int32)]) (st := []) d_9_hold_3 mw_9_in ml_9_312 is_9_in rfl rfl (Nat.le_of_ble_eq_true rfl) fit_1_3_2 (s9_in rfl) ?_
  refine zr_if_ne (tgt := 11) d_9_hold_6 rfl (fun hc2 => ?_) (fun hc2 => ?_)
  · replace h := z_ip h hc2
    refine zr_iconst (v := (0 : Int32)) d_9_hold_9 rfl ?_
    obtain ⟨rfl, rfl⟩ := Prod.mk.inj (Option.some.inj h)
    exact ze_z d_9_hold_10 rfl rfl
  · replace h := z_im h hc2
    refine zr_aload_n (i := 0) d_9_hold_11 rfl rfl ?_
    refine zr_gets (i' := 0) d_9_hold_12 fw_9_146 rfl ?_
    refine zr_iload_n (i := 1) d_9_hold_15 rfl rfl ?_
    refine zr_iconst (v := (1 : Int32)) d_9_hold_16 rfl ?_
    obtain ⟨hb5, h⟩ := z_gd h
    obtain ⟨m3, hm4, h⟩ := z_lt h
    refine zr_zast d_9_hold_17 sa_164 rfl hb5 hm4 ?_
    refine zr_iconst (v := (0 : Int32)) d_9_hold_18 rfl ?_
    refine zr_istore_n (i := 2) (l' := [some (zA 9 0), some (zI a1), some (zI (0 : Int32))]) d_9_hold_19 rfl (by decide) rfl ?_
    obtain ⟨e14, hl15, h⟩ := z_bd h
    refine zr_wk (l' := [some (zA 9 0), some (zI a1), some (zI (0 : Int32))]) ⟨rfl, ⟨rfl, ⟨rfl, trivial⟩⟩⟩ ?_
    refine z_loop (Hd := (z_u2 fun y0 y1 => z_RQ P M_9_hold (z_rm 2) (z_mq P (some (zI r)) μ') 0 0 20 [some (zA 9 0), some (zI a1), some (zI y0)] [] y1)) (Ex := (fun z0 => z_RQ P M_9_hold (z_rm 2) (z_mq P (some (zI r)) μ') 0 0 49 [none, none, none] [] z0)) (fun ⟨x7, xm8⟩ K h hI hE => s9_hold_L6 a1 x7 xm8 K h (fun y0 y1 e => hI (y0, y1) e) (fun z0 e => hE z0 e) ) _ _ _ hl15 ?_
    refine zr_iconst (v := (1 : Int32)) d_9_hold_49 rfl ?_
    obtain ⟨rfl, rfl⟩ := Prod.mk.inj (Option.some.inj h)
    exact ze_z d_9_hold_50 rfl rfl
def f9_restore_L5 (a1 : Int32) : (Int32 × zMem) → Option ((Int32 × zMem) ⊕ (zMem)) := (z_u2 fun x6 xm7 => 
  (if x6 < (34 : Int32) then if z_in (((34 : Int32) * a1) + x6) 102 = true then if z_in x6 34 = true then z_let (z_sI xm7 148 0 x6.toNatClampNeg (xm7.1 165 0 (((34 : Int32) * a1) + x6).toNatClampNeg)) fun m10 => some (.inl ((x6 + (1 : Int32)), m10)) else none else none else some (.inr xm7)))
def f9_restore (a1 : Int32) (μ : zMem) : Option (Int32 × zMem) :=
  (if (f9_in a1 (0 : Int32) (2 : Int32)) = 0 then some ((0 : Int32), μ) else if z_in a1 3 = true then (if (μ.1 164 0 a1.toNatClampNeg) = 0 then some ((0 : Int32), μ) else (z_it (f9_restore_L5 a1) z_fu ((0 : Int32), μ)).bind (fun e13 => z_let (z_sI e13 9 0 55 (0 : Int32)) fun m15 => some ((1 : Int32), m15))) else none)
theorem s9_restore_L5 {P : zP} {ro : Option zV} {μo : zMem} (a1 : Int32) (x6 : Int32) (xm7 : zMem) (K : (Int32 × zMem) ⊕ (zMem)) (h : f9_restore_L5 a1 (x6, xm7) = some K) (hI : ∀ (y0 : Int32) (y1 : zMem), K = .inl (y0, y1) → z_RQ P M_9_restore (z_rm 2) (z_mq P ro μo) 0 0 22 [some (zA 9 0), some (zI a1), some (zI y0)] [] y1) (hE : ∀ (z0 : zMem), K = .inr z0 → z_RQ P M_9_restore (z_rm 2) (z_mq P ro μo) 0 0 51 [some (zA 9 0), none, none] [] z0)  : z_RQ P M_9_restore (z_rm 2) (z_mq P ro μo) 0 0 22 [some (zA 9 0), some (zI a1), some (zI x6)] [] xm7 := by
  unfold f9_restore_L5 at h
  replace h := z_h2 h
  refine zr_iload_n (i := 2) d_9_restore_22 rfl rfl ?_
  refine zr_bipush (v := (34 : Int32)) d_9_restore_23 rfl ?_
  refine zr_icmp_ge (tgt := 51) d_9_restore_25 rfl (fun hc8 => ?_) (fun hc8 => ?_)
  · replace h := z_ip h hc8
    refine zr_aload_n (i := 0) d_9_restore_28 rfl rfl ?_
    refine zr_gets (i' := 0) d_9_restore_29 fw_9_110 rfl ?_
    refine zr_iload_n (i := 2) d_9_restore_32 rfl rfl ?_
    refine zr_aload_n (i := 0) d_9_restore_33 rfl rfl ?_
    refine zr_gets (i' := 0) d_9_restore_34 fw_9_149 rfl ?_
    refine zr_bipush (v := (34 : Int32)) d_9_restore_37 rfl ?_
    refine zr_iload_n (i := 1) d_9_restore_39 rfl rfl ?_
    refine zr_imul d_9_restore_40 ?_
    refine zr_iload_n (i := 2) d_9_restore_41 rfl rfl ?_
    refine zr_iadd d_9_restore_42 ?_
    obtain ⟨hb9, h⟩ := z_gd h
    refine zr_iald d_9_restore_43 sa_165 rfl hb9 ?_
    obtain ⟨hb12, h⟩ := z_gd h
    obtain ⟨m10, hm11, h⟩ := z_lt h
    refine zr_iast d_9_restore_44 sa_148 rfl hb12 hm11 ?_
    refine zr_iinc (v := (x6 + (1 : Int32))) (l' := [some (zA 9 0), some (zI a1), some (zI (x6 + (1 : Int32)))]) d_9_restore_45 (by decide) rfl rfl rfl ?_
    refine zr_goto (tgt := 22) d_9_restore_48 rfl ?_
    obtain rfl := Option.some.inj h
    exact zr_wk2 (hI (x6 + (1 : Int32)) m10 rfl) ⟨rfl, ⟨rfl, ⟨rfl, trivial⟩⟩⟩
  · replace h := z_im h hc8
    obtain rfl := Option.some.inj h
    exact zr_wk2 (hE xm7 rfl) ⟨rfl, trivial⟩
theorem s9_restore {P : zP} {μ : zMem} {a1 : Int32} {r : Int32} {μ' : zMem} (h : f9_restore a1 μ = some (r, μ')) : z_Sp P y_9_restore M_9_restore 2 [zA 9 0, zI a1] μ (some (zI r)) μ' := by
  refine z_Sp.of (plainFor_of_name (by decide)) rfl (l0 := [some (zA 9 0), some (zI a1), none]) rfl (Nat.le_of_ble_eq_true rfl) ?_
  unfold f9_restore at h
  refine zr_iload_n (i := 1) d_9_restore_0 rfl rfl ?_
  refine zr_iconst (v := (0 : Int32)) d_9_restore_1 rfl ?_
  refine zr_iconst (v := (2 : Int32)) d_9_restore_2 rfl ?_
  refine zr_callSi (av := [zI a1, zI (0 : Int32), zI (2 : Int32)]) (st := []) d_9_restore_3 mw_9_in ml_9_312 is_9_in rfl rfl (Nat.le_of_ble_eq_true rfl) fit_1_3_2 (s9_in rfl) ?_
  refine zr_if_eq (tgt := 18) d_9_restore_6 rfl (fun hc2 => ?_) (fun hc2 => ?_)
  · replace h := z_ip h hc2
    refine zr_iconst (v := (0 : Int32)) d_9_restore_18 rfl ?_
    obtain ⟨rfl, rfl⟩ := Prod.mk.inj (Option.some.inj h)
    exact ze_z d_9_restore_19 rfl rfl
  · replace h := z_im h hc2
    refine zr_aload_n (i := 0) d_9_restore_9 rfl rfl ?_
    refine zr_gets (i' := 0) d_9_restore_10 fw_9_146 rfl ?_
    refine zr_iload_n (i := 1) d_9_restore_13 rfl rfl ?_
    obtain ⟨hb3, h⟩ := z_gd h
    refine zr_zald d_9_restore_14 sa_164 rfl hb3 ?_
    refine zr_if_ne (tgt := 20) d_9_restore_15 rfl (fun hc4 => ?_) (fun hc4 => ?_)
    · replace h := z_ip h hc4
      refine zr_iconst (v := (0 : Int32)) d_9_restore_18 rfl ?_
      obtain ⟨rfl, rfl⟩ := Prod.mk.inj (Option.some.inj h)
      exact ze_z d_9_restore_19 rfl rfl
    · replace h := z_im h hc4
      refine zr_iconst (v := (0 : Int32)) d_9_restore_20 rfl ?_
      refine zr_istore_n (i := 2) (l' := [some (zA 9 0), some (zI a1), some (zI (0 : Int32))]) d_9_restore_21 rfl (by decide) rfl ?_
      obtain ⟨e13, hl14, h⟩ := z_bd h
      refine zr_wk (l' := [some (zA 9 0), some (zI a1), some (zI (0 : Int32))]) ⟨rfl, ⟨rfl, ⟨rfl, trivial⟩⟩⟩ ?_
      refine z_loop (Hd := (z_u2 fun y0 y1 => z_RQ P M_9_restore (z_rm 2) (z_mq P (some (zI r)) μ') 0 0 22 [some (zA 9 0), some (zI a1), some (zI y0)] [] y1)) (Ex := (fun z0 => z_RQ P M_9_restore (z_rm 2) (z_mq P (some (zI r)) μ') 0 0 51 [some (zA 9 0), none, none] [] z0)) (fun ⟨x6, xm7⟩ K h hI hE => s9_restore_L5 a1 x6 xm7 K h (fun y0 y1 e => hI (y0, y1) e) (fun z0 e => hE z0 e) ) _ _ _ hl14 ?_
      refine zr_aload_n (i := 0) d_9_restore_51 rfl rfl ?_
      refine zr_iconst (v := (0 : Int32)) d_9_restore_52 rfl ?_
      obtain ⟨m15, hm16, h⟩ := z_lt h
      refine zr_puti d_9_restore_53 fw_9_251 pw_9_55 hm16 ?_
      refine zr_iconst (v := (1 : Int32)) d_9_restore_56 rfl ?_
      obtain ⟨rfl, rfl⟩ := Prod.mk.inj (Option.some.inj h)
      exact ze_z d_9_restore_57 rfl rfl
def f9_sumNow_L1 (a1 : Int32) (μ : zMem) : (Int32 × Int32) → Option ((Int32 × Int32) ⊕ (Int32)) := (z_u2 fun x2 x3 => 
  (if x3 < (a1 + (7 : Int32)) then if z_in x3 34 = true then z_let (x2 + (μ.1 148 0 x3.toNatClampNeg)) fun v6 => some (.inl (v6, (x3 + (1 : Int32)))) else none else some (.inr x2)))
def f9_sumNow (a1 : Int32) (μ : zMem) : Option (Int32) :=
  (z_it (f9_sumNow_L1 a1 μ) z_fu ((0 : Int32), a1)).bind (fun e8 => some e8)
theorem s9_sumNow_L1 {P : zP} {ro : Option zV} {μo : zMem} (a1 : Int32) (μ : zMem) (x2 : Int32) (x3 : Int32) (K : (Int32 × Int32) ⊕ (Int32)) (h : f9_sumNow_L1 a1 μ (x2, x3) = some K) (hI : ∀ (y0 : Int32) (y1 : Int32), K = .inl (y0, y1) → z_RQ P M_9_sumNow (z_rm 1) (z_mq P ro μo) 0 0 4 [some (zA 9 0), some (zI a1), some (zI y0), some (zI y1)] [] μ) (hE : ∀ (z0 : Int32), K = .inr z0 → z_RQ P M_9_sumNow (z_rm 1) (z_mq P ro μo) 0 0 27 [none, none, some (zI z0), none] [] μ)  : z_RQ P M_9_sumNow (z_rm 1) (z_mq P ro μo) 0 0 4 [some (zA 9 0), some (zI a1), some (zI x2), some (zI x3)] [] μ := by
  unfold f9_sumNow_L1 at h
  replace h := z_h2 h
  refine zr_iload_n (i := 3) d_9_sumNow_4 rfl rfl ?_
  refine zr_iload_n (i := 1) d_9_sumNow_5 rfl rfl ?_
  refine zr_bipush (v := (7 : Int32)) d_9_sumNow_6 rfl ?_
  refine zr_iadd d_9_sumNow_8 ?_
  refine zr_icmp_ge (tgt := 27) d_9_sumNow_9 rfl (fun hc4 => ?_) (fun hc4 => ?_)
  · replace h := z_ip h hc4
    refine zr_iload_n (i := 2) d_9_sumNow_12 rfl rfl ?_
    refine zr_aload_n (i := 0) d_9_sumNow_13 rfl rfl ?_
    refine zr_gets (i' := 0) d_9_sumNow_14 fw_9_110 rfl ?_
    refine zr_iload_n (i := 3) d_9_sumNow_17 rfl rfl ?_
    obtain ⟨hb5, h⟩ := z_gd h
    refine zr_iald d_9_sumNow_18 sa_148 rfl hb5 ?_
    refine zr_iadd d_9_sumNow_19 ?_
    obtain ⟨v6, hv7, h⟩ := z_lt h
    refine zr_nm hv7 ?_
    refine zr_istore_n (i := 2) (l' := [some (zA 9 0), some (zI a1), some (zI v6), some (zI x3)]) d_9_sumNow_20 rfl (by decide) rfl ?_
    refine zr_iinc (v := (x3 + (1 : Int32))) (l' := [some (zA 9 0), some (zI a1), some (zI v6), some (zI (x3 + (1 : Int32)))]) d_9_sumNow_21 (by decide) rfl rfl rfl ?_
    refine zr_goto (tgt := 4) d_9_sumNow_24 rfl ?_
    obtain rfl := Option.some.inj h
    exact zr_wk2 (hI v6 (x3 + (1 : Int32)) rfl) ⟨rfl, ⟨rfl, ⟨rfl, ⟨rfl, trivial⟩⟩⟩⟩
  · replace h := z_im h hc4
    obtain rfl := Option.some.inj h
    exact zr_wk2 (hE x2 rfl) ⟨rfl, trivial⟩
theorem s9_sumNow {P : zP} {μ : zMem} {a1 : Int32} {r : Int32} (h : f9_sumNow a1 μ = some r) : z_Sp P y_9_sumNow M_9_sumNow 1 [zA 9 0, zI a1] μ (some (zI r)) μ := by
  refine z_Sp.of (plainFor_of_name (by decide)) rfl (l0 := [some (zA 9 0), some (zI a1), none, none]) rfl (Nat.le_of_ble_eq_true rfl) ?_
  unfold f9_sumNow at h
  refine zr_iconst (v := (0 : Int32)) d_9_sumNow_0 rfl ?_
  refine zr_istore_n (i := 2) (l' := [some (zA 9 0), some (zI a1), some (zI (0 : Int32)), none]) d_9_sumNow_1 rfl (by decide) rfl ?_
  refine zr_iload_n (i := 1) d_9_sumNow_2 rfl rfl ?_
  refine zr_istore_n (i := 3) (l' := [some (zA 9 0), some (zI a1), some (zI (0 : Int32)), some (zI a1)]) d_9_sumNow_3 rfl (by decide) rfl ?_
  obtain ⟨e8, hl9, h⟩ := z_bd h
  refine zr_wk (l' := [some (zA 9 0), some (zI a1), some (zI (0 : Int32)), some (zI a1)]) ⟨rfl, ⟨rfl, ⟨rfl, ⟨rfl, trivial⟩⟩⟩⟩ ?_
  refine z_loop (Hd := (z_u2 fun y0 y1 => z_RQ P M_9_sumNow (z_rm 1) (z_mq P (some (zI r)) μ) 0 0 4 [some (zA 9 0), some (zI a1), some (zI y0), some (zI y1)] [] μ)) (Ex := (fun z0 => z_RQ P M_9_sumNow (z_rm 1) (z_mq P (some (zI r)) μ) 0 0 27 [none, none, some (zI z0), none] [] μ)) (fun ⟨x2, x3⟩ K h hI hE => s9_sumNow_L1 a1 μ x2 x3 K h (fun y0 y1 e => hI (y0, y1) e) (fun z0 e => hE z0 e) ) _ _ _ hl9 ?_
  refine zr_iload_n (i := 2) d_9_sumNow_27 rfl rfl ?_
  obtain rfl := Option.some.inj h
  exact ze_i d_9_sumNow_28 rfl
def f9_count_L18 (qm1 : zMem) : (Int32 × Int32) → Option ((Int32 × Int32) ⊕ (Int32)) := (z_u2 fun x19 x20 => 
  if z_in (qm1.1 9 0 18) 2 = true then (if x20 < (qm1.1 126 0 (qm1.1 9 0 18).toNatClampNeg) then (f9_lordBits x20 qm1).bind (fun q23 => ((if q23 = 0 then some x19 else z_let (x19 ||| ((1 : Int32) <<< (x20 &&& 31))) fun v28 => some v28) : Option (Int32)).bind (fun j30 => some (.inl (j30, (x20 + (1 : Int32)))))) else some (.inr x19)) else none)
def f9_count_L53 (qm1 : zMem) : (Int32 × Int32) → Option ((Int32 × Int32) ⊕ (Int32)) := (z_u2 fun x54 x55 => 
  if z_in (qm1.1 9 0 18) 2 = true then (if x55 < (qm1.1 123 0 (qm1.1 9 0 18).toNatClampNeg) then if z_in (((5 : Int32) * (qm1.1 9 0 18)) + x55) 10 = true then z_let (x54 + (qm1.1 124 0 (((5 : Int32) * (qm1.1 9 0 18)) + x55).toNatClampNeg)) fun v59 => some (.inl (v59, (x55 + (1 : Int32)))) else none else some (.inr x54)) else none)
def f9_count_L67  : (Int32 × Int32 × zMem) → Option ((Int32 × Int32 × zMem) ⊕ (Int32 × zMem)) := (z_u3 fun x68 x69 xm70 => 
  if z_in (xm70.1 9 0 18) 2 = true then (if x69 < (xm70.1 123 0 (xm70.1 9 0 18).toNatClampNeg) then (f9_rentsOf x69 xm70).bind (z_u2 fun q73 qm74 => some (.inl ((x68 + q73), (x69 + (1 : Int32)), qm74))) else some (.inr (x68, xm70))) else none)
def f9_count_L80 (qm1 : zMem) : (Int32 × Int32) → Option ((Int32 × Int32) ⊕ (Int32)) := (z_u2 fun x81 x82 => 
  if z_in (qm1.1 9 0 18) 2 = true then (if x82 < (qm1.1 126 0 (qm1.1 9 0 18).toNatClampNeg) then (f9_rightBits x82 qm1).bind (fun q85 => ((if q85 = 0 then z_let (x81 ||| ((1 : Int32) <<< (x82 &&& 31))) fun v90 => some v90 else some x81) : Option (Int32)).bind (fun j92 => some (.inl (j92, (x82 + (1 : Int32)))))) else some (.inr x81)) else none)
def f9_count (a1 : Int32) (μ : zMem) : Option (Int32 × zMem) :=
  (f9_copies μ).bind (fun qm1 => (if a1 = (0 : Int32) then if z_in (qm1.1 9 0 18) 2 = true then some ((qm1.1 123 0 (qm1.1 9 0 18).toNatClampNeg), qm1) else none else (if a1 = (1 : Int32) then if z_in (qm1.1 9 0 18) 2 = true then some ((qm1.1 126 0 (qm1.1 9 0 18).toNatClampNeg), qm1) else none else (if a1 = (2 : Int32) then some ((qm1.1 149 0 (33 : Int32).toNatClampNeg), qm1) else (if a1 = (3 : Int32) then (f9_inState (0 : Int32) qm1).bind (fun q9 => some (q9, qm1)) else (if a1 = (4 : Int32) then (f9_inState (1 : Int32) qm1).bind (fun q12 => some (q12, qm1)) else (if a1 = (5 : Int32) then (f9_inState (2 : Int32) qm1).bind (fun q15 => some (q15, qm1)) else (if a1 = (6 : Int32) then (z_it (f9_count_L18 qm1) z_fu ((0 : Int32), (0 : Int32))).bind (fun e31 => some (e31, qm1)) else (if a1 = (7 : Int32) then (f9_sumNow (14 : Int32) qm1).bind (fun q34 => some (q34, qm1)) else (if a1 = (8 : Int32) then some ((qm1.1 9 0 2), qm1) else (if a1 = (9 : Int32) then some ((qm1.1 9 0 55), qm1) else (if a1 = (10 : Int32) then some ((qm1.1 9 0 58), qm1) else (if a1 = (11 : Int32) then ((if (qm1.1 164 0 (0 : Int32).toNatClampNeg) = 0 then some (0 : Int32) else some (1 : Int32)) : Option (Int32)).bind (fun j43 => ((if (qm1.1 164 0 (1 : Int32).toNatClampNeg) = 0 then some (0 : Int32) else some (1 : Int32)) : Option (Int32)).bind (fun j47 => (if (qm1.1 164 0 (2 : Int32).toNatClampNeg) = 0 then some (((j43 + j47) + (0 : Int32)), qm1) else some (((j43 + j47) + (1 : Int32)), qm1)))) else (if a1 = (12 : Int32) then (f9_rightsAll qm1).bind (fun q50 => some (q50, qm1)) else (if a1 = (13 : Int32) then (z_it (f9_count_L53 qm1) z_fu ((0 : Int32), (0 : Int32))).bind (fun e61 => some (e61, qm1)) else (if a1 = (14 : Int32) then (f9_sumNow (7 : Int32) qm1).bind (fun q64 => some (q64, qm1)) else (if a1 = (15 : Int32) then (z_it (f9_count_L67) z_fu ((0 : Int32), (0 : Int32), qm1)).bind (z_u2 fun e76 e77 => some (e76, e77)) else (if a1 = (16 : Int32) then (z_it (f9_count_L80 qm1) z_fu ((0 : Int32), (0 : Int32))).bind (fun e93 => some (e93, qm1)) else some ((-1 : Int32), qm1)))))))))))))))))))
theorem s9_count_L18 {P : zP} {ro : Option zV} {μo : zMem} (qm1 : zMem) (x19 : Int32) (x20 : Int32) (K : (Int32 × Int32) ⊕ (Int32)) (h : f9_count_L18 qm1 (x19, x20) = some K) (hI : ∀ (y0 : Int32) (y1 : Int32), K = .inl (y0, y1) → z_RQ P M_9_count (z_rm 7) (z_mq P ro μo) 0 0 136 [some (zA 9 0), none, some (zI y0), some (zI y1)] [] qm1) (hE : ∀ (z0 : Int32), K = .inr z0 → z_RQ P M_9_count (z_rm 7) (z_mq P ro μo) 0 0 169 [none, none, some (zI z0), none] [] qm1)  : z_RQ P M_9_count (z_rm 7) (z_mq P ro μo) 0 0 136 [some (zA 9 0), none, some (zI x19), some (zI x20)] [] qm1 := by
  unfold f9_count_L18 at h
  replace h := z_h2 h
  refine zr_iload_n (i := 3) d_9_count_136 rfl rfl ?_
  refine zr_aload_n (i := 0) d_9_count_137 rfl rfl ?_
  refine zr_gets (i' := 0) d_9_count_138 fw_9_55 rfl ?_
  refine zr_aload_n (i := 0) d_9_count_141 rfl rfl ?_
  refine zr_geti d_9_count_142 fw_9_233 (by decide) ?_
  obtain ⟨hb21, h⟩ := z_gd h
  refine zr_iald d_9_count_145 sa_126 rfl hb21 ?_
  refine zr_icmp_ge (tgt := 169) d_9_count_146 rfl (fun hc22 => ?_) (fun hc22 => ?_)
  · replace h := z_ip h hc22
    refine zr_aload_n (i := 0) d_9_count_149 rfl rfl ?_
    refine zr_iload_n (i := 3) d_9_count_150 rfl rfl ?_
    obtain ⟨q23, hq24, h⟩ := z_bd h
    refine zr_callVi (av := [zI x20]) (st := []) d_9_count_151 mw_9_lordBits ml_9_346 im_9_lordBits se_9_lordBits rfl rfl (Nat.le_of_ble_eq_true rfl) fit_4_4_7 rfl rfl rfl (s9_lordBits hq24) ?_
    obtain ⟨j30, hT25, h⟩ := z_bd h
    have hJ26 : z_RQ P M_9_count (z_rm 7) (z_mq P ro μo) 0 0 163 [some (zA 9 0), none, some (zI j30), some (zI x20)] [] qm1 := by
      refine zr_iinc (v := (x20 + (1 : Int32))) (l' := [some (zA 9 0), none, some (zI j30), some (zI (x20 + (1 : Int32)))]) d_9_count_163 (by decide) rfl rfl rfl ?_
      refine zr_goto (tgt := 136) d_9_count_166 rfl ?_
      obtain rfl := Option.some.inj h
      exact zr_wk2 (hI j30 (x20 + (1 : Int32)) rfl) ⟨rfl, ⟨rfl, ⟨rfl, trivial⟩⟩⟩
    refine zr_if_eq (tgt := 163) d_9_count_154 rfl (fun hc27 => ?_) (fun hc27 => ?_)
    · replace hT25 := z_ip hT25 hc27
      obtain rfl := Option.some.inj hT25
      exact zr_wk2 hJ26 ⟨rfl, ⟨rfl, ⟨rfl, trivial⟩⟩⟩
    · replace hT25 := z_im hT25 hc27
      refine zr_iload_n (i := 2) d_9_count_157 rfl rfl ?_
      refine zr_iconst (v := (1 : Int32)) d_9_count_158 rfl ?_
      refine zr_iload_n (i := 3) d_9_count_159 rfl rfl ?_
      refine zr_ishl d_9_count_160 ?_
      refine zr_ior d_9_count_161 ?_
      obtain ⟨v28, hv29, hT25⟩ := z_lt hT25
      refine zr_nm hv29 ?_
      refine zr_istore_n (i := 2) (l' := [some (zA 9 0), none, some (zI v28), some (zI x20)]) d_9_count_162 rfl (by decide) rfl ?_
      obtain rfl := Option.some.inj hT25
      exact zr_wk2 hJ26 ⟨rfl, ⟨rfl, ⟨rfl, trivial⟩⟩⟩
  · replace h := z_im h hc22
    obtain rfl := Option.some.inj h
    exact zr_wk2 (hE x19 rfl) ⟨rfl, trivial⟩
theorem s9_count_L53 {P : zP} {ro : Option zV} {μo : zMem} (qm1 : zMem) (x54 : Int32) (x55 : Int32) (K : (Int32 × Int32) ⊕ (Int32)) (h : f9_count_L53 qm1 (x54, x55) = some K) (hI : ∀ (y0 : Int32) (y1 : Int32), K = .inl (y0, y1) → z_RQ P M_9_count (z_rm 7) (z_mq P ro μo) 0 0 245 [some (zA 9 0), none, some (zI y0), some (zI y1)] [] qm1) (hE : ∀ (z0 : Int32), K = .inr z0 → z_RQ P M_9_count (z_rm 7) (z_mq P ro μo) 0 0 280 [none, none, some (zI z0), none] [] qm1)  : z_RQ P M_9_count (z_rm 7) (z_mq P ro μo) 0 0 245 [some (zA 9 0), none, some (zI x54), some (zI x55)] [] qm1 := by
  unfold f9_count_L53 at h
  replace h := z_h2 h
  refine zr_iload_n (i := 3) d_9_count_245 rfl rfl ?_
  refine zr_aload_n (i := 0) d_9_count_246 rfl rfl ?_
  refine zr_gets (i' := 0) d_9_count_247 fw_9_46 rfl ?_
  refine zr_aload_n (i := 0) d_9_count_250 rfl rfl ?_
  refine zr_geti d_9_count_251 fw_9_233 (by decide) ?_
  obtain ⟨hb56, h⟩ := z_gd h
  refine zr_iald d_9_count_254 sa_123 rfl hb56 ?_
  refine zr_icmp_ge (tgt := 280) d_9_count_255 rfl (fun hc57 => ?_) (fun hc57 => ?_)
  · replace h := z_ip h hc57
    refine zr_iload_n (i := 2) d_9_count_258 rfl rfl ?_
    refine zr_aload_n (i := 0) d_9_count_259 rfl rfl ?_
    refine zr_gets (i' := 0) d_9_count_260 fw_9_49 rfl ?_
    refine zr_iconst (v := (5 : Int32)) d_9_count_263 rfl ?_
    refine zr_aload_n (i := 0) d_9_count_264 rfl rfl ?_
    refine zr_geti d_9_count_265 fw_9_233 (by decide) ?_
    refine zr_imul d_9_count_268 ?_
    refine zr_iload_n (i := 3) d_9_count_269 rfl rfl ?_
    refine zr_iadd d_9_count_270 ?_
    obtain ⟨hb58, h⟩ := z_gd h
    refine zr_iald d_9_count_271 sa_124 rfl hb58 ?_
    refine zr_iadd d_9_count_272 ?_
    obtain ⟨v59, hv60, h⟩ := z_lt h
    refine zr_nm hv60 ?_
    refine zr_istore_n (i := 2) (l' := [some (zA 9 0), none, some (zI v59), some (zI x55)]) d_9_count_273 rfl (by decide) rfl ?_
    refine zr_iinc (v := (x55 + (1 : Int32))) (l' := [some (zA 9 0), none, some (zI v59), some (zI (x55 + (1 : Int32)))]) d_9_count_274 (by decide) rfl rfl rfl ?_
    refine zr_goto (tgt := 245) d_9_count_277 rfl ?_
    obtain rfl := Option.some.inj h
    exact zr_wk2 (hI v59 (x55 + (1 : Int32)) rfl) ⟨rfl, ⟨rfl, ⟨rfl, trivial⟩⟩⟩
  · replace h := z_im h hc57
    obtain rfl := Option.some.inj h
    exact zr_wk2 (hE x54 rfl) ⟨rfl, trivial⟩
theorem s9_count_L67 {P : zP} {ro : Option zV} {μo : zMem}  (x68 : Int32) (x69 : Int32) (xm70 : zMem) (K : (Int32 × Int32 × zMem) ⊕ (Int32 × zMem)) (h : f9_count_L67  (x68, x69, xm70) = some K) (hI : ∀ (y0 : Int32) (y1 : Int32) (y2 : zMem), K = .inl (y0, y1, y2) → z_RQ P M_9_count (z_rm 7) (z_mq P ro μo) 0 0 291 [some (zA 9 0), none, some (zI y0), some (zI y1)] [] y2) (hE : ∀ (z0 : Int32) (z1 : zMem), K = .inr (z0, z1) → z_RQ P M_9_count (z_rm 7) (z_mq P ro μo) 0 0 318 [none, none, some (zI z0), none] [] z1)  : z_RQ P M_9_count (z_rm 7) (z_mq P ro μo) 0 0 291 [some (zA 9 0), none, some (zI x68), some (zI x69)] [] xm70 := by
  unfold f9_count_L67 at h
  replace h := z_h3 h
  refine zr_iload_n (i := 3) d_9_count_291 rfl rfl ?_
  refine zr_aload_n (i := 0) d_9_count_292 rfl rfl ?_
  refine zr_gets (i' := 0) d_9_count_293 fw_9_46 rfl ?_
  refine zr_aload_n (i := 0) d_9_count_296 rfl rfl ?_
  refine zr_geti d_9_count_297 fw_9_233 (by decide) ?_
  obtain ⟨hb71, h⟩ := z_gd h
  refine zr_iald d_9_count_300 sa_123 rfl hb71 ?_
  refine zr_icmp_ge (tgt := 318) d_9_count_301 rfl (fun hc72 => ?_) (fun hc72 => ?_)
  · replace h := z_ip h hc72
    refine zr_iload_n (i := 2) d_9_count_304 rfl rfl ?_
    refine zr_aload_n (i := 0) d_9_count_305 rfl rfl ?_
    refine zr_iload_n (i := 3) d_9_count_306 rfl rfl ?_
    obtain ⟨⟨q73, qm74⟩, hq75, h⟩ := z_bd h
    replace h := z_h2 h
    refine zr_callVi (av := [zI x69]) (st := [zI x68]) d_9_count_307 mw_9_rentsOf ml_9_379 im_9_rentsOf se_9_rentsOf rfl rfl (Nat.le_of_ble_eq_true rfl) fit_6_3_7 rfl rfl rfl (s9_rentsOf hq75) ?_
    refine zr_iadd d_9_count_310 ?_
    refine zr_istore_n (i := 2) (l' := [some (zA 9 0), none, some (zI (x68 + q73)), some (zI x69)]) d_9_count_311 rfl (by decide) rfl ?_
    refine zr_iinc (v := (x69 + (1 : Int32))) (l' := [some (zA 9 0), none, some (zI (x68 + q73)), some (zI (x69 + (1 : Int32)))]) d_9_count_312 (by decide) rfl rfl rfl ?_
    refine zr_goto (tgt := 291) d_9_count_315 rfl ?_
    obtain rfl := Option.some.inj h
    exact zr_wk2 (hI (x68 + q73) (x69 + (1 : Int32)) qm74 rfl) ⟨rfl, ⟨rfl, ⟨rfl, trivial⟩⟩⟩
  · replace h := z_im h hc72
    obtain rfl := Option.some.inj h
    exact zr_wk2 (hE x68 xm70 rfl) ⟨rfl, trivial⟩
theorem s9_count_L80 {P : zP} {ro : Option zV} {μo : zMem} (qm1 : zMem) (x81 : Int32) (x82 : Int32) (K : (Int32 × Int32) ⊕ (Int32)) (h : f9_count_L80 qm1 (x81, x82) = some K) (hI : ∀ (y0 : Int32) (y1 : Int32), K = .inl (y0, y1) → z_RQ P M_9_count (z_rm 7) (z_mq P ro μo) 0 0 322 [some (zA 9 0), none, some (zI y0), some (zI y1)] [] qm1) (hE : ∀ (z0 : Int32), K = .inr z0 → z_RQ P M_9_count (z_rm 7) (z_mq P ro μo) 0 0 355 [none, none, some (zI z0), none] [] qm1)  : z_RQ P M_9_count (z_rm 7) (z_mq P ro μo) 0 0 322 [some (zA 9 0), none, some (zI x81), some (zI x82)] [] qm1 := by
  unfold f9_count_L80 at h
  replace h := z_h2 h
  refine zr_iload_n (i := 3) d_9_count_322 rfl rfl ?_
  refine zr_aload_n (i := 0) d_9_count_323 rfl rfl ?_
  refine zr_gets (i' := 0) d_9_count_324 fw_9_55 rfl ?_
  refine zr_aload_n (i := 0) d_9_count_327 rfl rfl ?_
  refine zr_geti d_9_count_328 fw_9_233 (by decide) ?_
  obtain ⟨hb83, h⟩ := z_gd h
  refine zr_iald d_9_count_331 sa_126 rfl hb83 ?_
  refine zr_icmp_ge (tgt := 355) d_9_count_332 rfl (fun hc84 => ?_) (fun hc84 => ?_)
  · replace h := z_ip h hc84
    refine zr_aload_n (i := 0) d_9_count_335 rfl rfl ?_
    refine zr_iload_n (i := 3) d_9_count_336 rfl rfl ?_
    obtain ⟨q85, hq86, h⟩ := z_bd h
    refine zr_callVi (av := [zI x82]) (st := []) d_9_count_337 mw_9_rightBits ml_9_352 im_9_rightBits se_9_rightBits rfl rfl (Nat.le_of_ble_eq_true rfl) fit_2_4_7 rfl rfl rfl (s9_rightBits hq86) ?_
    obtain ⟨j92, hT87, h⟩ := z_bd h
    have hJ88 : z_RQ P M_9_count (z_rm 7) (z_mq P ro μo) 0 0 349 [some (zA 9 0), none, some (zI j92), some (zI x82)] [] qm1 := by
      refine zr_iinc (v := (x82 + (1 : Int32))) (l' := [some (zA 9 0), none, some (zI j92), some (zI (x82 + (1 : Int32)))]) d_9_count_349 (by decide) rfl rfl rfl ?_
      refine zr_goto (tgt := 322) d_9_count_352 rfl ?_
      obtain rfl := Option.some.inj h
      exact zr_wk2 (hI j92 (x82 + (1 : Int32)) rfl) ⟨rfl, ⟨rfl, ⟨rfl, trivial⟩⟩⟩
    refine zr_if_ne (tgt := 349) d_9_count_340 rfl (fun hc89 => ?_) (fun hc89 => ?_)
    · replace hT87 := z_ip hT87 hc89
      refine zr_iload_n (i := 2) d_9_count_343 rfl rfl ?_
      refine zr_iconst (v := (1 : Int32)) d_9_count_344 rfl ?_
      refine zr_iload_n (i := 3) d_9_count_345 rfl rfl ?_
      refine zr_ishl d_9_count_346 ?_
      refine zr_ior d_9_count_347 ?_
      obtain ⟨v90, hv91, hT87⟩ := z_lt hT87
      refine zr_nm hv91 ?_
      refine zr_istore_n (i := 2) (l' := [some (zA 9 0), none, some (zI v90), some (zI x82)]) d_9_count_348 rfl (by decide) rfl ?_
      obtain rfl := Option.some.inj hT87
      exact zr_wk2 hJ88 ⟨rfl, ⟨rfl, ⟨rfl, trivial⟩⟩⟩
    · replace hT87 := z_im hT87 hc89
      obtain rfl := Option.some.inj hT87
      exact zr_wk2 hJ88 ⟨rfl, ⟨rfl, ⟨rfl, trivial⟩⟩⟩
  · replace h := z_im h hc84
    obtain rfl := Option.some.inj h
    exact zr_wk2 (hE x81 rfl) ⟨rfl, trivial⟩
theorem s9_count {P : zP} {μ : zMem} {a1 : Int32} {r : Int32} {μ' : zMem} (h : f9_count a1 μ = some (r, μ')) : z_Sp P y_9_count M_9_count 7 [zA 9 0, zI a1] μ (some (zI r)) μ' := by
  refine z_Sp.of (plainFor_of_name (by decide)) rfl (l0 := [some (zA 9 0), some (zI a1), none, none]) rfl (Nat.le_of_ble_eq_true rfl) ?_
  unfold f9_count at h
  refine zr_aload_n (i := 0) d_9_count_0 rfl rfl ?_
  obtain ⟨qm1, hq2, h⟩ := z_bd h
  refine zr_callVv (av := []) (st := []) d_9_count_1 mw_9_copies ml_9_325 im_9_copies se_9_copies rfl rfl (Nat.le_of_ble_eq_true rfl) fit_1_2_7 rfl rfl rfl (s9_copies hq2) ?_
  refine zr_iconst (v := (0 : Int32)) d_9_count_4 rfl ?_
  refine zr_istore_n (i := 2) (l' := [some (zA 9 0), some (zI a1), some (zI (0 : Int32)), none]) d_9_count_5 rfl (by decide) rfl ?_
  refine zr_iload_n (i := 1) d_9_count_6 rfl rfl ?_
  by_cases hs3 : a1 = (0 : Int32)
  · replace h := z_ip h hs3
    refine zr_tbl (off := 81) (tgt := 88) hs3 d_9_count_7 (by decide) (by decide) rfl rfl ?_
    refine zr_aload_n (i := 0) d_9_count_88 rfl rfl ?_
    refine zr_gets (i' := 0) d_9_count_89 fw_9_46 rfl ?_
    refine zr_aload_n (i := 0) d_9_count_92 rfl rfl ?_
    refine zr_geti d_9_count_93 fw_9_233 (by decide) ?_
    obtain ⟨hb4, h⟩ := z_gd h
    refine zr_iald d_9_count_96 sa_123 rfl hb4 ?_
    obtain ⟨rfl, rfl⟩ := Prod.mk.inj (Option.some.inj h)
    exact ze_i d_9_count_97 rfl
  · replace h := z_im h hs3
    by_cases hs5 : a1 = (1 : Int32)
    · replace h := z_ip h hs5
      refine zr_tbl (off := 91) (tgt := 98) hs5 d_9_count_7 (by decide) (by decide) rfl rfl ?_
      refine zr_aload_n (i := 0) d_9_count_98 rfl rfl ?_
      refine zr_gets (i' := 0) d_9_count_99 fw_9_55 rfl ?_
      refine zr_aload_n (i := 0) d_9_count_102 rfl rfl ?_
      refine zr_geti d_9_count_103 fw_9_233 (by decide) ?_
      obtain ⟨hb6, h⟩ := z_gd h
      refine zr_iald d_9_count_106 sa_126 rfl hb6 ?_
      obtain ⟨rfl, rfl⟩ := Prod.mk.inj (Option.some.inj h)
      exact ze_i d_9_count_107 rfl
    · replace h := z_im h hs5
      by_cases hs7 : a1 = (2 : Int32)
      · replace h := z_ip h hs7
        refine zr_tbl (off := 101) (tgt := 108) hs7 d_9_count_7 (by decide) (by decide) rfl rfl ?_
        refine zr_aload_n (i := 0) d_9_count_108 rfl rfl ?_
        refine zr_gets (i' := 0) d_9_count_109 fw_9_113 rfl ?_
        refine zr_bipush (v := (33 : Int32)) d_9_count_112 rfl ?_
        refine zr_iald d_9_count_114 sa_149 rfl rfl ?_
        obtain ⟨rfl, rfl⟩ := Prod.mk.inj (Option.some.inj h)
        exact ze_i d_9_count_115 rfl
      · replace h := z_im h hs7
        by_cases hs8 : a1 = (3 : Int32)
        · replace h := z_ip h hs8
          refine zr_tbl (off := 109) (tgt := 116) hs8 d_9_count_7 (by decide) (by decide) rfl rfl ?_
          refine zr_aload_n (i := 0) d_9_count_116 rfl rfl ?_
          refine zr_iconst (v := (0 : Int32)) d_9_count_117 rfl ?_
          obtain ⟨q9, hq10, h⟩ := z_bd h
          refine zr_callVi (av := [zI (0 : Int32)]) (st := []) d_9_count_118 mw_9_inState ml_9_358 im_9_inState se_9_inState rfl rfl (Nat.le_of_ble_eq_true rfl) fit_1_4_7 rfl rfl rfl (s9_inState hq10) ?_
          obtain ⟨rfl, rfl⟩ := Prod.mk.inj (Option.some.inj h)
          exact ze_i d_9_count_121 rfl
        · replace h := z_im h hs8
          by_cases hs11 : a1 = (4 : Int32)
          · replace h := z_ip h hs11
            refine zr_tbl (off := 115) (tgt := 122) hs11 d_9_count_7 (by decide) (by decide) rfl rfl ?_
            refine zr_aload_n (i := 0) d_9_count_122 rfl rfl ?_
            refine zr_iconst (v := (1 : Int32)) d_9_count_123 rfl ?_
            obtain ⟨q12, hq13, h⟩ := z_bd h
            refine zr_callVi (av := [zI (1 : Int32)]) (st := []) d_9_count_124 mw_9_inState ml_9_358 im_9_inState se_9_inState rfl rfl (Nat.le_of_ble_eq_true rfl) fit_1_4_7 rfl rfl rfl (s9_inState hq13) ?_
            obtain ⟨rfl, rfl⟩ := Prod.mk.inj (Option.some.inj h)
            exact ze_i d_9_count_127 rfl
          · replace h := z_im h hs11
            by_cases hs14 : a1 = (5 : Int32)
            · replace h := z_ip h hs14
              refine zr_tbl (off := 121) (tgt := 128) hs14 d_9_count_7 (by decide) (by decide) rfl rfl ?_
              refine zr_aload_n (i := 0) d_9_count_128 rfl rfl ?_
              refine zr_iconst (v := (2 : Int32)) d_9_count_129 rfl ?_
              obtain ⟨q15, hq16, h⟩ := z_bd h
              refine zr_callVi (av := [zI (2 : Int32)]) (st := []) d_9_count_130 mw_9_inState ml_9_358 im_9_inState se_9_inState rfl rfl (Nat.le_of_ble_eq_true rfl) fit_1_4_7 rfl rfl rfl (s9_inState hq16) ?_
              obtain ⟨rfl, rfl⟩ := Prod.mk.inj (Option.some.inj h)
              exact ze_i d_9_count_133 rfl
            · replace h := z_im h hs14
              by_cases hs17 : a1 = (6 : Int32)
              · replace h := z_ip h hs17
                refine zr_tbl (off := 127) (tgt := 134) hs17 d_9_count_7 (by decide) (by decide) rfl rfl ?_
                refine zr_iconst (v := (0 : Int32)) d_9_count_134 rfl ?_
                refine zr_istore_n (i := 3) (l' := [some (zA 9 0), some (zI a1), some (zI (0 : Int32)), some (zI (0 : Int32))]) d_9_count_135 rfl (by decide) rfl ?_
                obtain ⟨e31, hl32, h⟩ := z_bd h
                refine zr_wk (l' := [some (zA 9 0), none, some (zI (0 : Int32)), some (zI (0 : Int32))]) ⟨rfl, ⟨rfl, ⟨rfl, trivial⟩⟩⟩ ?_
                refine z_loop (Hd := (z_u2 fun y0 y1 => z_RQ P M_9_count (z_rm 7) (z_mq P (some (zI r)) μ') 0 0 136 [some (zA 9 0), none, some (zI y0), some (zI y1)] [] qm1)) (Ex := (fun z0 => z_RQ P M_9_count (z_rm 7) (z_mq P (some (zI r)) μ') 0 0 169 [none, none, some (zI z0), none] [] qm1)) (fun ⟨x19, x20⟩ K h hI hE => s9_count_L18 qm1 x19 x20 K h (fun y0 y1 e => hI (y0, y1) e) (fun z0 e => hE z0 e) ) _ _ _ hl32 ?_
                refine zr_iload_n (i := 2) d_9_count_169 rfl rfl ?_
                obtain ⟨rfl, rfl⟩ := Prod.mk.inj (Option.some.inj h)
                exact ze_i d_9_count_170 rfl
              · replace h := z_im h hs17
                by_cases hs33 : a1 = (7 : Int32)
                · replace h := z_ip h hs33
                  refine zr_tbl (off := 164) (tgt := 171) hs33 d_9_count_7 (by decide) (by decide) rfl rfl ?_
                  refine zr_aload_n (i := 0) d_9_count_171 rfl rfl ?_
                  refine zr_bipush (v := (14 : Int32)) d_9_count_172 rfl ?_
                  obtain ⟨q34, hq35, h⟩ := z_bd h
                  refine zr_callVi (av := [zI (14 : Int32)]) (st := []) d_9_count_174 mw_9_sumNow ml_9_480 im_9_sumNow se_9_sumNow rfl rfl (Nat.le_of_ble_eq_true rfl) fit_1_4_7 rfl rfl rfl (s9_sumNow hq35) ?_
                  obtain ⟨rfl, rfl⟩ := Prod.mk.inj (Option.some.inj h)
                  exact ze_i d_9_count_177 rfl
                · replace h := z_im h hs33
                  by_cases hs36 : a1 = (8 : Int32)
                  · replace h := z_ip h hs36
                    refine zr_tbl (off := 171) (tgt := 178) hs36 d_9_count_7 (by decide) (by decide) rfl rfl ?_
                    refine zr_aload_n (i := 0) d_9_count_178 rfl rfl ?_
                    refine zr_geti d_9_count_179 fw_9_166 (by decide) ?_
                    obtain ⟨rfl, rfl⟩ := Prod.mk.inj (Option.some.inj h)
                    exact ze_i d_9_count_182 rfl
                  · replace h := z_im h hs36
                    by_cases hs37 : a1 = (9 : Int32)
                    · replace h := z_ip h hs37
                      refine zr_tbl (off := 176) (tgt := 183) hs37 d_9_count_7 (by decide) (by decide) rfl rfl ?_
                      refine zr_aload_n (i := 0) d_9_count_183 rfl rfl ?_
                      refine zr_geti d_9_count_184 fw_9_251 (by decide) ?_
                      obtain ⟨rfl, rfl⟩ := Prod.mk.inj (Option.some.inj h)
                      exact ze_i d_9_count_187 rfl
                    · replace h := z_im h hs37
                      by_cases hs38 : a1 = (10 : Int32)
                      · replace h := z_ip h hs38
                        refine zr_tbl (off := 181) (tgt := 188) hs38 d_9_count_7 (by decide) (by decide) rfl rfl ?_
                        refine zr_aload_n (i := 0) d_9_count_188 rfl rfl ?_
                        refine zr_geti d_9_count_189 fw_9_254 (by decide) ?_
                        obtain ⟨rfl, rfl⟩ := Prod.mk.inj (Option.some.inj h)
                        exact ze_i d_9_count_192 rfl
                      · replace h := z_im h hs38
                        by_cases hs39 : a1 = (11 : Int32)
                        · replace h := z_ip h hs39
                          refine zr_tbl (off := 186) (tgt := 193) hs39 d_9_count_7 (by decide) (by decide) rfl rfl ?_
                          refine zr_aload_n (i := 0) d_9_count_193 rfl rfl ?_
                          refine zr_gets (i' := 0) d_9_count_194 fw_9_146 rfl ?_
                          refine zr_iconst (v := (0 : Int32)) d_9_count_197 rfl ?_
                          refine zr_zald d_9_count_198 sa_164 rfl rfl ?_
                          obtain ⟨j43, hT40, h⟩ := z_bd h
                          have hJ41 : z_RQ P M_9_count (z_rm 7) (z_mq P (some (zI r)) μ') 0 0 207 [some (zA 9 0), none, none, none] [zI j43] qm1 := by
                            refine zr_aload_n (i := 0) d_9_count_207 rfl rfl ?_
                            refine zr_gets (i' := 0) d_9_count_208 fw_9_146 rfl ?_
                            refine zr_iconst (v := (1 : Int32)) d_9_count_211 rfl ?_
                            refine zr_zald d_9_count_212 sa_164 rfl rfl ?_
                            obtain ⟨j47, hT44, h⟩ := z_bd h
                            have hJ45 : z_RQ P M_9_count (z_rm 7) (z_mq P (some (zI r)) μ') 0 0 221 [some (zA 9 0), none, none, none] [zI j47, zI j43] qm1 := by
                              refine zr_iadd d_9_count_221 ?_
                              refine zr_aload_n (i := 0) d_9_count_222 rfl rfl ?_
                              refine zr_gets (i' := 0) d_9_count_223 fw_9_146 rfl ?_
                              refine zr_iconst (v := (2 : Int32)) d_9_count_226 rfl ?_
                              refine zr_zald d_9_count_227 sa_164 rfl rfl ?_
                              refine zr_if_eq (tgt := 235) d_9_count_228 rfl (fun hc48 => ?_) (fun hc48 => ?_)
                              · replace h := z_ip h hc48
                                refine zr_iconst (v := (0 : Int32)) d_9_count_235 rfl ?_
                                refine zr_iadd d_9_count_236 ?_
                                obtain ⟨rfl, rfl⟩ := Prod.mk.inj (Option.some.inj h)
                                exact ze_i d_9_count_237 rfl
                              · replace h := z_im h hc48
                                refine zr_iconst (v := (1 : Int32)) d_9_count_231 rfl ?_
                                refine zr_goto (tgt := 236) d_9_count_232 rfl ?_
                                refine zr_iadd d_9_count_236 ?_
                                obtain ⟨rfl, rfl⟩ := Prod.mk.inj (Option.some.inj h)
                                exact ze_i d_9_count_237 rfl
                            refine zr_if_eq (tgt := 220) d_9_count_213 rfl (fun hc46 => ?_) (fun hc46 => ?_)
                            · replace hT44 := z_ip hT44 hc46
                              refine zr_iconst (v := (0 : Int32)) d_9_count_220 rfl ?_
                              obtain rfl := Option.some.inj hT44
                              exact zr_wk2 hJ45 ⟨rfl, trivial⟩
                            · replace hT44 := z_im hT44 hc46
                              refine zr_iconst (v := (1 : Int32)) d_9_count_216 rfl ?_
                              refine zr_goto (tgt := 221) d_9_count_217 rfl ?_
                              obtain rfl := Option.some.inj hT44
                              exact zr_wk2 hJ45 ⟨rfl, trivial⟩
                          refine zr_if_eq (tgt := 206) d_9_count_199 rfl (fun hc42 => ?_) (fun hc42 => ?_)
                          · replace hT40 := z_ip hT40 hc42
                            refine zr_iconst (v := (0 : Int32)) d_9_count_206 rfl ?_
                            obtain rfl := Option.some.inj hT40
                            exact zr_wk2 hJ41 ⟨rfl, trivial⟩
                          · replace hT40 := z_im hT40 hc42
                            refine zr_iconst (v := (1 : Int32)) d_9_count_202 rfl ?_
                            refine zr_goto (tgt := 207) d_9_count_203 rfl ?_
                            obtain rfl := Option.some.inj hT40
                            exact zr_wk2 hJ41 ⟨rfl, trivial⟩
                        · replace h := z_im h hs39
                          by_cases hs49 : a1 = (12 : Int32)
                          · replace h := z_ip h hs49
                            refine zr_tbl (off := 231) (tgt := 238) hs49 d_9_count_7 (by decide) (by decide) rfl rfl ?_
                            refine zr_aload_n (i := 0) d_9_count_238 rfl rfl ?_
                            obtain ⟨q50, hq51, h⟩ := z_bd h
                            refine zr_callVi (av := []) (st := []) d_9_count_239 mw_9_rightsAll ml_9_453 im_9_rightsAll se_9_rightsAll rfl rfl (Nat.le_of_ble_eq_true rfl) fit_2_3_7 rfl rfl rfl (s9_rightsAll hq51) ?_
                            obtain ⟨rfl, rfl⟩ := Prod.mk.inj (Option.some.inj h)
                            exact ze_i d_9_count_242 rfl
                          · replace h := z_im h hs49
                            by_cases hs52 : a1 = (13 : Int32)
                            · replace h := z_ip h hs52
                              refine zr_tbl (off := 236) (tgt := 243) hs52 d_9_count_7 (by decide) (by decide) rfl rfl ?_
                              refine zr_iconst (v := (0 : Int32)) d_9_count_243 rfl ?_
                              refine zr_istore_n (i := 3) (l' := [some (zA 9 0), some (zI a1), some (zI (0 : Int32)), some (zI (0 : Int32))]) d_9_count_244 rfl (by decide) rfl ?_
                              obtain ⟨e61, hl62, h⟩ := z_bd h
                              refine zr_wk (l' := [some (zA 9 0), none, some (zI (0 : Int32)), some (zI (0 : Int32))]) ⟨rfl, ⟨rfl, ⟨rfl, trivial⟩⟩⟩ ?_
                              refine z_loop (Hd := (z_u2 fun y0 y1 => z_RQ P M_9_count (z_rm 7) (z_mq P (some (zI r)) μ') 0 0 245 [some (zA 9 0), none, some (zI y0), some (zI y1)] [] qm1)) (Ex := (fun z0 => z_RQ P M_9_count (z_rm 7) (z_mq P (some (zI r)) μ') 0 0 280 [none, none, some (zI z0), none] [] qm1)) (fun ⟨x54, x55⟩ K h hI hE => s9_count_L53 qm1 x54 x55 K h (fun y0 y1 e => hI (y0, y1) e) (fun z0 e => hE z0 e) ) _ _ _ hl62 ?_
                              refine zr_iload_n (i := 2) d_9_count_280 rfl rfl ?_
                              obtain ⟨rfl, rfl⟩ := Prod.mk.inj (Option.some.inj h)
                              exact ze_i d_9_count_281 rfl
                            · replace h := z_im h hs52
                              by_cases hs63 : a1 = (14 : Int32)
                              · replace h := z_ip h hs63
                                refine zr_tbl (off := 275) (tgt := 282) hs63 d_9_count_7 (by decide) (by decide) rfl rfl ?_
                                refine zr_aload_n (i := 0) d_9_count_282 rfl rfl ?_
                                refine zr_bipush (v := (7 : Int32)) d_9_count_283 rfl ?_
                                obtain ⟨q64, hq65, h⟩ := z_bd h
                                refine zr_callVi (av := [zI (7 : Int32)]) (st := []) d_9_count_285 mw_9_sumNow ml_9_480 im_9_sumNow se_9_sumNow rfl rfl (Nat.le_of_ble_eq_true rfl) fit_1_4_7 rfl rfl rfl (s9_sumNow hq65) ?_
                                obtain ⟨rfl, rfl⟩ := Prod.mk.inj (Option.some.inj h)
                                exact ze_i d_9_count_288 rfl
                              · replace h := z_im h hs63
                                by_cases hs66 : a1 = (15 : Int32)
                                · replace h := z_ip h hs66
                                  refine zr_tbl (off := 282) (tgt := 289) hs66 d_9_count_7 (by decide) (by decide) rfl rfl ?_
                                  refine zr_iconst (v := (0 : Int32)) d_9_count_289 rfl ?_
                                  refine zr_istore_n (i := 3) (l' := [some (zA 9 0), some (zI a1), some (zI (0 : Int32)), some (zI (0 : Int32))]) d_9_count_290 rfl (by decide) rfl ?_
                                  obtain ⟨⟨e76, e77⟩, hl78, h⟩ := z_bd h
                                  replace h := z_h2 h
                                  refine zr_wk (l' := [some (zA 9 0), none, some (zI (0 : Int32)), some (zI (0 : Int32))]) ⟨rfl, ⟨rfl, ⟨rfl, trivial⟩⟩⟩ ?_
                                  refine z_loop (Hd := (z_u3 fun y0 y1 y2 => z_RQ P M_9_count (z_rm 7) (z_mq P (some (zI r)) μ') 0 0 291 [some (zA 9 0), none, some (zI y0), some (zI y1)] [] y2)) (Ex := (z_u2 fun z0 z1 => z_RQ P M_9_count (z_rm 7) (z_mq P (some (zI r)) μ') 0 0 318 [none, none, some (zI z0), none] [] z1)) (fun ⟨x68, x69, xm70⟩ K h hI hE => s9_count_L67  x68 x69 xm70 K h (fun y0 y1 y2 e => hI (y0, y1, y2) e) (fun z0 z1 e => hE (z0, z1) e) ) _ _ _ hl78 ?_
                                  refine zr_iload_n (i := 2) d_9_count_318 rfl rfl ?_
                                  obtain ⟨rfl, rfl⟩ := Prod.mk.inj (Option.some.inj h)
                                  exact ze_i d_9_count_319 rfl
                                · replace h := z_im h hs66
                                  by_cases hs79 : a1 = (16 : Int32)
                                  · replace h := z_ip h hs79
                                    refine zr_tbl (off := 313) (tgt := 320) hs79 d_9_count_7 (by decide) (by decide) rfl rfl ?_
                                    refine zr_iconst (v := (0 : Int32)) d_9_count_320 rfl ?_
                                    refine zr_istore_n (i := 3) (l' := [some (zA 9 0), some (zI a1), some (zI (0 : Int32)), some (zI (0 : Int32))]) d_9_count_321 rfl (by decide) rfl ?_
                                    obtain ⟨e93, hl94, h⟩ := z_bd h
                                    refine zr_wk (l' := [some (zA 9 0), none, some (zI (0 : Int32)), some (zI (0 : Int32))]) ⟨rfl, ⟨rfl, ⟨rfl, trivial⟩⟩⟩ ?_
                                    refine z_loop (Hd := (z_u2 fun y0 y1 => z_RQ P M_9_count (z_rm 7) (z_mq P (some (zI r)) μ') 0 0 322 [some (zA 9 0), none, some (zI y0), some (zI y1)] [] qm1)) (Ex := (fun z0 => z_RQ P M_9_count (z_rm 7) (z_mq P (some (zI r)) μ') 0 0 355 [none, none, some (zI z0), none] [] qm1)) (fun ⟨x81, x82⟩ K h hI hE => s9_count_L80 qm1 x81 x82 K h (fun y0 y1 e => hI (y0, y1) e) (fun z0 e => hE z0 e) ) _ _ _ hl94 ?_
                                    refine zr_iload_n (i := 2) d_9_count_355 rfl rfl ?_
                                    obtain ⟨rfl, rfl⟩ := Prod.mk.inj (Option.some.inj h)
                                    exact ze_i d_9_count_356 rfl
                                  · replace h := z_im h hs79
                                    have hs3t := z_ti hs3
                                    have hs5t := z_ti hs5
                                    have hs7t := z_ti hs7
                                    have hs8t := z_ti hs8
                                    have hs11t := z_ti hs11
                                    have hs14t := z_ti hs14
                                    have hs17t := z_ti hs17
                                    have hs33t := z_ti hs33
                                    have hs36t := z_ti hs36
                                    have hs37t := z_ti hs37
                                    have hs38t := z_ti hs38
                                    have hs39t := z_ti hs39
                                    have hs49t := z_ti hs49
                                    have hs52t := z_ti hs52
                                    have hs63t := z_ti hs63
                                    have hs66t := z_ti hs66
                                    have hs79t := z_ti hs79
                                    simp only [show ((0 : Int32)).toInt = 0 from rfl, show ((1 : Int32)).toInt = 1 from rfl, show ((2 : Int32)).toInt = 2 from rfl, show ((3 : Int32)).toInt = 3 from rfl, show ((4 : Int32)).toInt = 4 from rfl, show ((5 : Int32)).toInt = 5 from rfl, show ((6 : Int32)).toInt = 6 from rfl, show ((7 : Int32)).toInt = 7 from rfl, show ((8 : Int32)).toInt = 8 from rfl, show ((9 : Int32)).toInt = 9 from rfl, show ((10 : Int32)).toInt = 10 from rfl, show ((11 : Int32)).toInt = 11 from rfl, show ((12 : Int32)).toInt = 12 from rfl, show ((13 : Int32)).toInt = 13 from rfl, show ((14 : Int32)).toInt = 14 from rfl, show ((15 : Int32)).toInt = 15 from rfl, show ((16 : Int32)).toInt = 16 from rfl] at hs3t hs5t hs7t hs8t hs11t hs14t hs17t hs33t hs36t hs37t hs38t hs39t hs49t hs52t hs63t hs66t hs79t
                                    refine zr_tableOut (tgt := 357) d_9_count_7 (by omega) rfl ?_
                                    refine zr_iconst (v := (-1 : Int32)) d_9_count_357 rfl ?_
                                    obtain ⟨rfl, rfl⟩ := Prod.mk.inj (Option.some.inj h)
                                    exact ze_i d_9_count_358 rfl
