theorem z_RGc {P : zP} {X : State → Method → Prop} {M : zM} {R : Room} {F : zF} {n1 n2 pc b : Nat} {l : List (Option zV)} {st : List zV} {cs cs' : List va_E} (h : cs = cs') (k : z_RG (zk_P P b) X M R F n1 n2 pc l st (zk_H P b cs')) : z_RG (zk_P P b) X M R F n1 n2 pc l st (zk_H P b cs) := h ▸ k
def y_0_init : MethodName := ⟨zR0, "<init>", "()V"⟩
abbrev M_0_init : zM := (zR0, prog_2_method_1_code, 1, (Option.none : Option Jvm.ClassFile.FieldType))
def y_1_init : MethodName := ⟨zR1, "<init>", "()V"⟩
abbrev M_1_init : zM := (zR1, prog_3_method_1_code, 1, (Option.none : Option Jvm.ClassFile.FieldType))
def y_2_init : MethodName := ⟨zR2, "<init>", "()V"⟩
abbrev M_2_init : zM := (zR2, prog_4_method_1_code, 1, (Option.none : Option Jvm.ClassFile.FieldType))
def y_3_init : MethodName := ⟨zR3, "<init>", "()V"⟩
abbrev M_3_init : zM := (zR3, prog_5_method_1_code, 2, (Option.none : Option Jvm.ClassFile.FieldType))
def y_4_init : MethodName := ⟨zR4, "<init>", "()V"⟩
abbrev M_4_init : zM := (zR4, prog_6_method_1_code, 1, (Option.none : Option Jvm.ClassFile.FieldType))
def y_5_init : MethodName := ⟨zR5, "<init>", "()V"⟩
abbrev M_5_init : zM := (zR5, prog_7_method_1_code, 1, (Option.none : Option Jvm.ClassFile.FieldType))
def y_6_init : MethodName := ⟨zR6, "<init>", "()V"⟩
abbrev M_6_init : zM := (zR6, prog_8_method_1_code, 1, (Option.none : Option Jvm.ClassFile.FieldType))
def y_7_init : MethodName := ⟨zR7, "<init>", "()V"⟩
abbrev M_7_init : zM := (zR7, prog_9_method_1_code, 1, (Option.none : Option Jvm.ClassFile.FieldType))
def y_8_init : MethodName := ⟨zR8, "<init>", "()V"⟩
abbrev M_8_init : zM := (zR8, prog_1_method_1_code, 2, (Option.none : Option Jvm.ClassFile.FieldType))
def y_9_init : MethodName := ⟨zR9, "<init>", "()V"⟩
abbrev M_9_init : zM := (zR9, prog_11_method_2_code, 1, (Option.none : Option Jvm.ClassFile.FieldType))
theorem oi_inst : Cond.instanceMethod objectInit ∈ lw_gd := z_m1 (List.mem_of_getElem? (i := 25) rfl) rfl
theorem oi_code : Cond.code objectInit ⟨#[0xb1]⟩ 1 none ∈ lw_gd := z_m1 (List.mem_of_getElem? (i := 26) rfl) rfl
theorem ml_5_3 : Cond.methodLink zR5 3 objectInit ∈ lw_gd := z_m1 (List.mem_of_getElem? (i := 176) rfl) rfl
theorem fl_5_9 : Cond.fieldLink zR5 9 (zT5 0).1 (zT5 0).2.1 (zT5 0).2.2.1 ∈ lw_gd := z_m1 (List.mem_of_getElem? (i := 177) rfl) rfl
theorem fl_5_15 : Cond.fieldLink zR5 15 (zT5 1).1 (zT5 1).2.1 (zT5 1).2.2.1 ∈ lw_gd := z_m1 (List.mem_of_getElem? (i := 181) rfl) rfl
theorem fl_5_18 : Cond.fieldLink zR5 18 (zT5 2).1 (zT5 2).2.1 (zT5 2).2.2.1 ∈ lw_gd := z_m1 (List.mem_of_getElem? (i := 185) rfl) rfl
theorem ac_0 : Cond.arrayClass FieldType.int ∈ lw_gd := z_m1 (List.mem_of_getElem? (i := 62) rfl) rfl
theorem fl_5_21 : Cond.fieldLink zR5 21 (zT5 3).1 (zT5 3).2.1 (zT5 3).2.2.1 ∈ lw_gd := z_m1 (List.mem_of_getElem? (i := 188) rfl) rfl
theorem fl_5_25 : Cond.fieldLink zR5 25 (zT5 4).1 (zT5 4).2.1 (zT5 4).2.2.1 ∈ lw_gd := z_m1 (List.mem_of_getElem? (i := 192) rfl) rfl
theorem fl_5_28 : Cond.fieldLink zR5 28 (zT5 5).1 (zT5 5).2.1 (zT5 5).2.2.1 ∈ lw_gd := z_m1 (List.mem_of_getElem? (i := 196) rfl) rfl
theorem fl_5_31 : Cond.fieldLink zR5 31 (zT5 6).1 (zT5 6).2.1 (zT5 6).2.2.1 ∈ lw_gd := z_m1 (List.mem_of_getElem? (i := 200) rfl) rfl
theorem d_5_init_0 : zD prog_7_method_1_code 0 (.aload_n 0) 1 1 := ⟨by decide +kernel, rfl⟩
theorem d_5_init_1 : zD prog_7_method_1_code 1 (.invokespecial 3) 3 4 := ⟨by decide +kernel, rfl⟩
theorem d_5_init_4 : zD prog_7_method_1_code 4 (.aload_n 0) 1 5 := ⟨by decide +kernel, rfl⟩
theorem d_5_init_5 : zD prog_7_method_1_code 5 (.iconst 0) 1 6 := ⟨by decide +kernel, rfl⟩
theorem d_5_init_6 : zD prog_7_method_1_code 6 (.putfield 9) 3 9 := ⟨by decide +kernel, rfl⟩
theorem d_5_init_9 : zD prog_7_method_1_code 9 (.aload_n 0) 1 10 := ⟨by decide +kernel, rfl⟩
theorem d_5_init_10 : zD prog_7_method_1_code 10 (.iconst 0) 1 11 := ⟨by decide +kernel, rfl⟩
theorem d_5_init_11 : zD prog_7_method_1_code 11 (.putfield 15) 3 14 := ⟨by decide +kernel, rfl⟩
theorem d_5_init_14 : zD prog_7_method_1_code 14 (.aload_n 0) 1 15 := ⟨by decide +kernel, rfl⟩
theorem d_5_init_15 : zD prog_7_method_1_code 15 (.iconst 0) 1 16 := ⟨by decide +kernel, rfl⟩
theorem d_5_init_16 : zD prog_7_method_1_code 16 (.putfield 18) 3 19 := ⟨by decide +kernel, rfl⟩
theorem d_5_init_19 : zD prog_7_method_1_code 19 (.aload_n 0) 1 20 := ⟨by decide +kernel, rfl⟩
theorem d_5_init_20 : zD prog_7_method_1_code 20 (.bipush 7) 2 22 := ⟨by decide +kernel, rfl⟩
theorem d_5_init_22 : zD prog_7_method_1_code 22 (.newarray .int) 2 24 := ⟨by decide +kernel, rfl⟩
theorem d_5_init_24 : zD prog_7_method_1_code 24 (.putfield 21) 3 27 := ⟨by decide +kernel, rfl⟩
theorem d_5_init_27 : zD prog_7_method_1_code 27 (.aload_n 0) 1 28 := ⟨by decide +kernel, rfl⟩
theorem d_5_init_28 : zD prog_7_method_1_code 28 (.bipush 7) 2 30 := ⟨by decide +kernel, rfl⟩
theorem d_5_init_30 : zD prog_7_method_1_code 30 (.newarray .int) 2 32 := ⟨by decide +kernel, rfl⟩
theorem d_5_init_32 : zD prog_7_method_1_code 32 (.putfield 25) 3 35 := ⟨by decide +kernel, rfl⟩
theorem d_5_init_35 : zD prog_7_method_1_code 35 (.aload_n 0) 1 36 := ⟨by decide +kernel, rfl⟩
theorem d_5_init_36 : zD prog_7_method_1_code 36 (.bipush 7) 2 38 := ⟨by decide +kernel, rfl⟩
theorem d_5_init_38 : zD prog_7_method_1_code 38 (.newarray .int) 2 40 := ⟨by decide +kernel, rfl⟩
theorem d_5_init_40 : zD prog_7_method_1_code 40 (.putfield 28) 3 43 := ⟨by decide +kernel, rfl⟩
theorem d_5_init_43 : zD prog_7_method_1_code 43 (.aload_n 0) 1 44 := ⟨by decide +kernel, rfl⟩
theorem d_5_init_44 : zD prog_7_method_1_code 44 (.iconst 5) 1 45 := ⟨by decide +kernel, rfl⟩
theorem d_5_init_45 : zD prog_7_method_1_code 45 (.newarray .int) 2 47 := ⟨by decide +kernel, rfl⟩
theorem d_5_init_47 : zD prog_7_method_1_code 47 (.putfield 31) 3 50 := ⟨by decide +kernel, rfl⟩
theorem d_5_init_50 : zD prog_7_method_1_code 50 (.return_) 1 51 := ⟨by decide +kernel, rfl⟩
def zk_c5 (P : zP) (b : Nat) : List va_E := .inr (5, [.int (0 : Int32), .int (0 : Int32), .int (0 : Int32), .ref (b + 1), .ref (b + 2), .ref (b + 3), .ref (b + 4)]) :: (((([] ++ [zk_z P 0 7]) ++ [zk_z P 0 7]) ++ [zk_z P 0 7]) ++ [zk_z P 0 5])
theorem k5 (P : zP) (b : Nat) : z_Kt P b y_5_init M_5_init 2 4 26 (.inr (5, [.int 0, .int 0, .int 0, .null, .null, .null, .null])) (zk_c5 P b) := by
  refine z_Kt.of (plainFor_of_name (by decide)) rfl rfl (by decide) ?_
  refine zg_aload_n (i := 0) d_5_init_0 rfl rfl ?_
  refine zk_objInit d_5_init_1 ml_5_3 oi_inst oi_code (by decide) (by decide) ?_
  refine zg_aload_n (i := 0) d_5_init_4 rfl rfl ?_
  refine zg_iconst (v := (0 : Int32)) d_5_init_5 rfl ?_
  refine zk_put (j := 0) (k := 0) (cs' := .inr (5, [.int (0 : Int32), .int 0, .int 0, .null, .null, .null, .null]) :: []) (fun _ _ h => h.1) d_5_init_6 rfl rfl (by decide) fl_5_9 rfl (z_ty5 0 (by decide)) rfl rfl (Nat.le_of_ble_eq_true rfl) rfl ?_
  refine zg_aload_n (i := 0) d_5_init_9 rfl rfl ?_
  refine zg_iconst (v := (0 : Int32)) d_5_init_10 rfl ?_
  refine zk_put (j := 0) (k := 1) (cs' := .inr (5, [.int (0 : Int32), .int (0 : Int32), .int 0, .null, .null, .null, .null]) :: []) (fun _ _ h => h.1) d_5_init_11 rfl rfl (by decide) fl_5_15 rfl (z_ty5 1 (by decide)) rfl rfl (Nat.le_of_ble_eq_true rfl) rfl ?_
  refine zg_aload_n (i := 0) d_5_init_14 rfl rfl ?_
  refine zg_iconst (v := (0 : Int32)) d_5_init_15 rfl ?_
  refine zk_put (j := 0) (k := 2) (cs' := .inr (5, [.int (0 : Int32), .int (0 : Int32), .int (0 : Int32), .null, .null, .null, .null]) :: []) (fun _ _ h => h.1) d_5_init_16 rfl rfl (by decide) fl_5_18 rfl (z_ty5 2 (by decide)) rfl rfl (Nat.le_of_ble_eq_true rfl) rfl ?_
  refine zg_aload_n (i := 0) d_5_init_19 rfl rfl ?_
  refine zg_bipush (v := (7 : Int32)) d_5_init_20 rfl ?_
  refine zk_newa (at_ := .int) (t := 0) (N := 7) d_5_init_22 ac_0 rfl (fun c h => by cases h) (z_hc0 7) (by decide) rfl (by decide) (k := 1) rfl (by decide) (by decide) ?_
  refine z_RGc (cs' := .inr (5, [.int (0 : Int32), .int (0 : Int32), .int (0 : Int32), .null, .null, .null, .null]) :: ([] ++ [zk_z P 0 7])) rfl ?_
  refine zk_put (j := 0) (k := 3) (cs' := .inr (5, [.int (0 : Int32), .int (0 : Int32), .int (0 : Int32), .ref (b + 1), .null, .null, .null]) :: ([] ++ [zk_z P 0 7])) (fun _ _ h => h.1) d_5_init_24 rfl rfl (by decide) fl_5_21 rfl (z_ty5 3 (by decide)) rfl rfl (Nat.le_of_ble_eq_true rfl) rfl ?_
  refine zg_aload_n (i := 0) d_5_init_27 rfl rfl ?_
  refine zg_bipush (v := (7 : Int32)) d_5_init_28 rfl ?_
  refine zk_newa (at_ := .int) (t := 0) (N := 7) d_5_init_30 ac_0 rfl (fun c h => by cases h) (z_hc0 7) (by decide) rfl (by decide) (k := 2) rfl (by decide) (by decide) ?_
  refine z_RGc (cs' := .inr (5, [.int (0 : Int32), .int (0 : Int32), .int (0 : Int32), .ref (b + 1), .null, .null, .null]) :: (([] ++ [zk_z P 0 7]) ++ [zk_z P 0 7])) rfl ?_
  refine zk_put (j := 0) (k := 4) (cs' := .inr (5, [.int (0 : Int32), .int (0 : Int32), .int (0 : Int32), .ref (b + 1), .ref (b + 2), .null, .null]) :: (([] ++ [zk_z P 0 7]) ++ [zk_z P 0 7])) (fun _ _ h => h.1) d_5_init_32 rfl rfl (by decide) fl_5_25 rfl (z_ty5 4 (by decide)) rfl rfl (Nat.le_of_ble_eq_true rfl) rfl ?_
  refine zg_aload_n (i := 0) d_5_init_35 rfl rfl ?_
  refine zg_bipush (v := (7 : Int32)) d_5_init_36 rfl ?_
  refine zk_newa (at_ := .int) (t := 0) (N := 7) d_5_init_38 ac_0 rfl (fun c h => by cases h) (z_hc0 7) (by decide) rfl (by decide) (k := 3) rfl (by decide) (by decide) ?_
  refine z_RGc (cs' := .inr (5, [.int (0 : Int32), .int (0 : Int32), .int (0 : Int32), .ref (b + 1), .ref (b + 2), .null, .null]) :: ((([] ++ [zk_z P 0 7]) ++ [zk_z P 0 7]) ++ [zk_z P 0 7])) rfl ?_
  refine zk_put (j := 0) (k := 5) (cs' := .inr (5, [.int (0 : Int32), .int (0 : Int32), .int (0 : Int32), .ref (b + 1), .ref (b + 2), .ref (b + 3), .null]) :: ((([] ++ [zk_z P 0 7]) ++ [zk_z P 0 7]) ++ [zk_z P 0 7])) (fun _ _ h => h.1) d_5_init_40 rfl rfl (by decide) fl_5_28 rfl (z_ty5 5 (by decide)) rfl rfl (Nat.le_of_ble_eq_true rfl) rfl ?_
  refine zg_aload_n (i := 0) d_5_init_43 rfl rfl ?_
  refine zg_iconst (v := (5 : Int32)) d_5_init_44 rfl ?_
  refine zk_newa (at_ := .int) (t := 0) (N := 5) d_5_init_45 ac_0 rfl (fun c h => by cases h) (z_hc0 5) (by decide) rfl (by decide) (k := 4) rfl (by decide) (by decide) ?_
  refine z_RGc (cs' := .inr (5, [.int (0 : Int32), .int (0 : Int32), .int (0 : Int32), .ref (b + 1), .ref (b + 2), .ref (b + 3), .null]) :: (((([] ++ [zk_z P 0 7]) ++ [zk_z P 0 7]) ++ [zk_z P 0 7]) ++ [zk_z P 0 5])) rfl ?_
  refine zk_put (j := 0) (k := 6) (cs' := .inr (5, [.int (0 : Int32), .int (0 : Int32), .int (0 : Int32), .ref (b + 1), .ref (b + 2), .ref (b + 3), .ref (b + 4)]) :: (((([] ++ [zk_z P 0 7]) ++ [zk_z P 0 7]) ++ [zk_z P 0 7]) ++ [zk_z P 0 5])) (fun _ _ h => h.1) d_5_init_47 rfl rfl (by decide) fl_5_31 rfl (z_ty5 6 (by decide)) rfl rfl (Nat.le_of_ble_eq_true rfl) rfl ?_
  exact zk_ret d_5_init_50 rfl
theorem ml_1_3 : Cond.methodLink zR1 3 objectInit ∈ lw_gd := z_m2 (List.mem_of_getElem? (i := 2) rfl) rfl
theorem fl_1_9 : Cond.fieldLink zR1 9 (zT1 0).1 (zT1 0).2.1 (zT1 0).2.2.1 ∈ lw_gd := z_m2 (List.mem_of_getElem? (i := 3) rfl) rfl
theorem fl_1_15 : Cond.fieldLink zR1 15 (zT1 1).1 (zT1 1).2.1 (zT1 1).2.2.1 ∈ lw_gd := z_m2 (List.mem_of_getElem? (i := 4) rfl) rfl
theorem fl_1_18 : Cond.fieldLink zR1 18 (zT1 2).1 (zT1 2).2.1 (zT1 2).2.2.1 ∈ lw_gd := z_m2 (List.mem_of_getElem? (i := 5) rfl) rfl
theorem fl_1_21 : Cond.fieldLink zR1 21 (zT1 3).1 (zT1 3).2.1 (zT1 3).2.2.1 ∈ lw_gd := z_m2 (List.mem_of_getElem? (i := 6) rfl) rfl
theorem d_1_init_0 : zD prog_3_method_1_code 0 (.aload_n 0) 1 1 := ⟨by decide +kernel, rfl⟩
theorem d_1_init_1 : zD prog_3_method_1_code 1 (.invokespecial 3) 3 4 := ⟨by decide +kernel, rfl⟩
theorem d_1_init_4 : zD prog_3_method_1_code 4 (.aload_n 0) 1 5 := ⟨by decide +kernel, rfl⟩
theorem d_1_init_5 : zD prog_3_method_1_code 5 (.iconst 5) 1 6 := ⟨by decide +kernel, rfl⟩
theorem d_1_init_6 : zD prog_3_method_1_code 6 (.newarray .int) 2 8 := ⟨by decide +kernel, rfl⟩
theorem d_1_init_8 : zD prog_3_method_1_code 8 (.putfield 9) 3 11 := ⟨by decide +kernel, rfl⟩
theorem d_1_init_11 : zD prog_3_method_1_code 11 (.aload_n 0) 1 12 := ⟨by decide +kernel, rfl⟩
theorem d_1_init_12 : zD prog_3_method_1_code 12 (.bipush 7) 2 14 := ⟨by decide +kernel, rfl⟩
theorem d_1_init_14 : zD prog_3_method_1_code 14 (.newarray .int) 2 16 := ⟨by decide +kernel, rfl⟩
theorem d_1_init_16 : zD prog_3_method_1_code 16 (.putfield 15) 3 19 := ⟨by decide +kernel, rfl⟩
theorem d_1_init_19 : zD prog_3_method_1_code 19 (.aload_n 0) 1 20 := ⟨by decide +kernel, rfl⟩
theorem d_1_init_20 : zD prog_3_method_1_code 20 (.bipush 7) 2 22 := ⟨by decide +kernel, rfl⟩
theorem d_1_init_22 : zD prog_3_method_1_code 22 (.newarray .int) 2 24 := ⟨by decide +kernel, rfl⟩
theorem d_1_init_24 : zD prog_3_method_1_code 24 (.putfield 18) 3 27 := ⟨by decide +kernel, rfl⟩
theorem d_1_init_27 : zD prog_3_method_1_code 27 (.aload_n 0) 1 28 := ⟨by decide +kernel, rfl⟩
theorem d_1_init_28 : zD prog_3_method_1_code 28 (.bipush 16) 2 30 := ⟨by decide +kernel, rfl⟩
theorem d_1_init_30 : zD prog_3_method_1_code 30 (.newarray .int) 2 32 := ⟨by decide +kernel, rfl⟩
theorem d_1_init_32 : zD prog_3_method_1_code 32 (.putfield 21) 3 35 := ⟨by decide +kernel, rfl⟩
theorem d_1_init_35 : zD prog_3_method_1_code 35 (.return_) 1 36 := ⟨by decide +kernel, rfl⟩
def zk_c1 (P : zP) (b : Nat) : List va_E := .inr (1, [.ref (b + 1), .ref (b + 2), .ref (b + 3), .ref (b + 4)]) :: (((([] ++ [zk_z P 0 5]) ++ [zk_z P 0 7]) ++ [zk_z P 0 7]) ++ [zk_z P 0 16])
theorem k1 (P : zP) (b : Nat) : z_Kt P b y_1_init M_1_init 2 4 35 (.inr (1, [.null, .null, .null, .null])) (zk_c1 P b) := by
  refine z_Kt.of (plainFor_of_name (by decide)) rfl rfl (by decide) ?_
  refine zg_aload_n (i := 0) d_1_init_0 rfl rfl ?_
  refine zk_objInit d_1_init_1 ml_1_3 oi_inst oi_code (by decide) (by decide) ?_
  refine zg_aload_n (i := 0) d_1_init_4 rfl rfl ?_
  refine zg_iconst (v := (5 : Int32)) d_1_init_5 rfl ?_
  refine zk_newa (at_ := .int) (t := 0) (N := 5) d_1_init_6 ac_0 rfl (fun c h => by cases h) (z_hc0 5) (by decide) rfl (by decide) (k := 1) rfl (by decide) (by decide) ?_
  refine z_RGc (cs' := .inr (1, [.null, .null, .null, .null]) :: ([] ++ [zk_z P 0 5])) rfl ?_
  refine zk_put (j := 0) (k := 0) (cs' := .inr (1, [.ref (b + 1), .null, .null, .null]) :: ([] ++ [zk_z P 0 5])) (fun _ _ h => h.1) d_1_init_8 rfl rfl (by decide) fl_1_9 rfl (z_ty1 0 (by decide)) rfl rfl (Nat.le_of_ble_eq_true rfl) rfl ?_
  refine zg_aload_n (i := 0) d_1_init_11 rfl rfl ?_
  refine zg_bipush (v := (7 : Int32)) d_1_init_12 rfl ?_
  refine zk_newa (at_ := .int) (t := 0) (N := 7) d_1_init_14 ac_0 rfl (fun c h => by cases h) (z_hc0 7) (by decide) rfl (by decide) (k := 2) rfl (by decide) (by decide) ?_
  refine z_RGc (cs' := .inr (1, [.ref (b + 1), .null, .null, .null]) :: (([] ++ [zk_z P 0 5]) ++ [zk_z P 0 7])) rfl ?_
  refine zk_put (j := 0) (k := 1) (cs' := .inr (1, [.ref (b + 1), .ref (b + 2), .null, .null]) :: (([] ++ [zk_z P 0 5]) ++ [zk_z P 0 7])) (fun _ _ h => h.1) d_1_init_16 rfl rfl (by decide) fl_1_15 rfl (z_ty1 1 (by decide)) rfl rfl (Nat.le_of_ble_eq_true rfl) rfl ?_
  refine zg_aload_n (i := 0) d_1_init_19 rfl rfl ?_
  refine zg_bipush (v := (7 : Int32)) d_1_init_20 rfl ?_
  refine zk_newa (at_ := .int) (t := 0) (N := 7) d_1_init_22 ac_0 rfl (fun c h => by cases h) (z_hc0 7) (by decide) rfl (by decide) (k := 3) rfl (by decide) (by decide) ?_
  refine z_RGc (cs' := .inr (1, [.ref (b + 1), .ref (b + 2), .null, .null]) :: ((([] ++ [zk_z P 0 5]) ++ [zk_z P 0 7]) ++ [zk_z P 0 7])) rfl ?_
  refine zk_put (j := 0) (k := 2) (cs' := .inr (1, [.ref (b + 1), .ref (b + 2), .ref (b + 3), .null]) :: ((([] ++ [zk_z P 0 5]) ++ [zk_z P 0 7]) ++ [zk_z P 0 7])) (fun _ _ h => h.1) d_1_init_24 rfl rfl (by decide) fl_1_18 rfl (z_ty1 2 (by decide)) rfl rfl (Nat.le_of_ble_eq_true rfl) rfl ?_
  refine zg_aload_n (i := 0) d_1_init_27 rfl rfl ?_
  refine zg_bipush (v := (16 : Int32)) d_1_init_28 rfl ?_
  refine zk_newa (at_ := .int) (t := 0) (N := 16) d_1_init_30 ac_0 rfl (fun c h => by cases h) (z_hc0 16) (by decide) rfl (by decide) (k := 4) rfl (by decide) (by decide) ?_
  refine z_RGc (cs' := .inr (1, [.ref (b + 1), .ref (b + 2), .ref (b + 3), .null]) :: (((([] ++ [zk_z P 0 5]) ++ [zk_z P 0 7]) ++ [zk_z P 0 7]) ++ [zk_z P 0 16])) rfl ?_
  refine zk_put (j := 0) (k := 3) (cs' := .inr (1, [.ref (b + 1), .ref (b + 2), .ref (b + 3), .ref (b + 4)]) :: (((([] ++ [zk_z P 0 5]) ++ [zk_z P 0 7]) ++ [zk_z P 0 7]) ++ [zk_z P 0 16])) (fun _ _ h => h.1) d_1_init_32 rfl rfl (by decide) fl_1_21 rfl (z_ty1 3 (by decide)) rfl rfl (Nat.le_of_ble_eq_true rfl) rfl ?_
  exact zk_ret d_1_init_35 rfl
theorem ml_2_3 : Cond.methodLink zR2 3 objectInit ∈ lw_gd := z_m2 (List.mem_of_getElem? (i := 36) rfl) rfl
theorem fl_2_11 : Cond.fieldLink zR2 11 (zT2 0).1 (zT2 0).2.1 (zT2 0).2.2.1 ∈ lw_gd := z_m2 (List.mem_of_getElem? (i := 37) rfl) rfl
theorem fl_2_15 : Cond.fieldLink zR2 15 (zT2 1).1 (zT2 1).2.1 (zT2 1).2.2.1 ∈ lw_gd := z_m2 (List.mem_of_getElem? (i := 38) rfl) rfl
theorem fl_2_18 : Cond.fieldLink zR2 18 (zT2 2).1 (zT2 2).2.1 (zT2 2).2.2.1 ∈ lw_gd := z_m2 (List.mem_of_getElem? (i := 39) rfl) rfl
theorem fl_2_22 : Cond.fieldLink zR2 22 (zT2 3).1 (zT2 3).2.1 (zT2 3).2.2.1 ∈ lw_gd := z_m2 (List.mem_of_getElem? (i := 41) rfl) rfl
theorem fl_2_25 : Cond.fieldLink zR2 25 (zT2 4).1 (zT2 4).2.1 (zT2 4).2.2.1 ∈ lw_gd := z_m2 (List.mem_of_getElem? (i := 42) rfl) rfl
theorem fl_2_28 : Cond.fieldLink zR2 28 (zT2 5).1 (zT2 5).2.1 (zT2 5).2.2.1 ∈ lw_gd := z_m2 (List.mem_of_getElem? (i := 43) rfl) rfl
theorem fl_2_31 : Cond.fieldLink zR2 31 (zT2 6).1 (zT2 6).2.1 (zT2 6).2.2.1 ∈ lw_gd := z_m2 (List.mem_of_getElem? (i := 44) rfl) rfl
theorem d_2_init_0 : zD prog_4_method_1_code 0 (.aload_n 0) 1 1 := ⟨by decide +kernel, rfl⟩
theorem d_2_init_1 : zD prog_4_method_1_code 1 (.invokespecial 3) 3 4 := ⟨by decide +kernel, rfl⟩
theorem d_2_init_4 : zD prog_4_method_1_code 4 (.aload_n 0) 1 5 := ⟨by decide +kernel, rfl⟩
theorem d_2_init_5 : zD prog_4_method_1_code 5 (.bipush 20) 2 7 := ⟨by decide +kernel, rfl⟩
theorem d_2_init_7 : zD prog_4_method_1_code 7 (.newarray .int) 2 9 := ⟨by decide +kernel, rfl⟩
theorem d_2_init_9 : zD prog_4_method_1_code 9 (.putfield 11) 3 12 := ⟨by decide +kernel, rfl⟩
theorem d_2_init_12 : zD prog_4_method_1_code 12 (.aload_n 0) 1 13 := ⟨by decide +kernel, rfl⟩
theorem d_2_init_13 : zD prog_4_method_1_code 13 (.bipush 20) 2 15 := ⟨by decide +kernel, rfl⟩
theorem d_2_init_15 : zD prog_4_method_1_code 15 (.newarray .int) 2 17 := ⟨by decide +kernel, rfl⟩
theorem d_2_init_17 : zD prog_4_method_1_code 17 (.putfield 15) 3 20 := ⟨by decide +kernel, rfl⟩
theorem d_2_init_20 : zD prog_4_method_1_code 20 (.aload_n 0) 1 21 := ⟨by decide +kernel, rfl⟩
theorem d_2_init_21 : zD prog_4_method_1_code 21 (.iconst 0) 1 22 := ⟨by decide +kernel, rfl⟩
theorem d_2_init_22 : zD prog_4_method_1_code 22 (.putfield 18) 3 25 := ⟨by decide +kernel, rfl⟩
theorem d_2_init_25 : zD prog_4_method_1_code 25 (.aload_n 0) 1 26 := ⟨by decide +kernel, rfl⟩
theorem d_2_init_26 : zD prog_4_method_1_code 26 (.iconst 0) 1 27 := ⟨by decide +kernel, rfl⟩
theorem d_2_init_27 : zD prog_4_method_1_code 27 (.putfield 22) 3 30 := ⟨by decide +kernel, rfl⟩
theorem d_2_init_30 : zD prog_4_method_1_code 30 (.aload_n 0) 1 31 := ⟨by decide +kernel, rfl⟩
theorem d_2_init_31 : zD prog_4_method_1_code 31 (.bipush 7) 2 33 := ⟨by decide +kernel, rfl⟩
theorem d_2_init_33 : zD prog_4_method_1_code 33 (.newarray .int) 2 35 := ⟨by decide +kernel, rfl⟩
theorem d_2_init_35 : zD prog_4_method_1_code 35 (.putfield 25) 3 38 := ⟨by decide +kernel, rfl⟩
theorem d_2_init_38 : zD prog_4_method_1_code 38 (.aload_n 0) 1 39 := ⟨by decide +kernel, rfl⟩
theorem d_2_init_39 : zD prog_4_method_1_code 39 (.sipush 128) 3 42 := ⟨by decide +kernel, rfl⟩
theorem d_2_init_42 : zD prog_4_method_1_code 42 (.newarray .int) 2 44 := ⟨by decide +kernel, rfl⟩
theorem d_2_init_44 : zD prog_4_method_1_code 44 (.putfield 28) 3 47 := ⟨by decide +kernel, rfl⟩
theorem d_2_init_47 : zD prog_4_method_1_code 47 (.aload_n 0) 1 48 := ⟨by decide +kernel, rfl⟩
theorem d_2_init_48 : zD prog_4_method_1_code 48 (.sipush 128) 3 51 := ⟨by decide +kernel, rfl⟩
theorem d_2_init_51 : zD prog_4_method_1_code 51 (.newarray .int) 2 53 := ⟨by decide +kernel, rfl⟩
theorem d_2_init_53 : zD prog_4_method_1_code 53 (.putfield 31) 3 56 := ⟨by decide +kernel, rfl⟩
theorem d_2_init_56 : zD prog_4_method_1_code 56 (.return_) 1 57 := ⟨by decide +kernel, rfl⟩
def zk_c2 (P : zP) (b : Nat) : List va_E := .inr (2, [.ref (b + 1), .ref (b + 2), .int (0 : Int32), .int (0 : Int32), .ref (b + 3), .ref (b + 4), .ref (b + 5)]) :: ((((([] ++ [zk_z P 0 20]) ++ [zk_z P 0 20]) ++ [zk_z P 0 7]) ++ [zk_z P 0 128]) ++ [zk_z P 0 128])
theorem k2 (P : zP) (b : Nat) : z_Kt P b y_2_init M_2_init 2 5 303 (.inr (2, [.null, .null, .int 0, .int 0, .null, .null, .null])) (zk_c2 P b) := by
  refine z_Kt.of (plainFor_of_name (by decide)) rfl rfl (by decide) ?_
  refine zg_aload_n (i := 0) d_2_init_0 rfl rfl ?_
  refine zk_objInit d_2_init_1 ml_2_3 oi_inst oi_code (by decide) (by decide) ?_
  refine zg_aload_n (i := 0) d_2_init_4 rfl rfl ?_
  refine zg_bipush (v := (20 : Int32)) d_2_init_5 rfl ?_
  refine zk_newa (at_ := .int) (t := 0) (N := 20) d_2_init_7 ac_0 rfl (fun c h => by cases h) (z_hc0 20) (by decide) rfl (by decide) (k := 1) rfl (by decide) (by decide) ?_
  refine z_RGc (cs' := .inr (2, [.null, .null, .int 0, .int 0, .null, .null, .null]) :: ([] ++ [zk_z P 0 20])) rfl ?_
  refine zk_put (j := 0) (k := 0) (cs' := .inr (2, [.ref (b + 1), .null, .int 0, .int 0, .null, .null, .null]) :: ([] ++ [zk_z P 0 20])) (fun _ _ h => h.1) d_2_init_9 rfl rfl (by decide) fl_2_11 rfl (z_ty2 0 (by decide)) rfl rfl (Nat.le_of_ble_eq_true rfl) rfl ?_
  refine zg_aload_n (i := 0) d_2_init_12 rfl rfl ?_
  refine zg_bipush (v := (20 : Int32)) d_2_init_13 rfl ?_
  refine zk_newa (at_ := .int) (t := 0) (N := 20) d_2_init_15 ac_0 rfl (fun c h => by cases h) (z_hc0 20) (by decide) rfl (by decide) (k := 2) rfl (by decide) (by decide) ?_
  refine z_RGc (cs' := .inr (2, [.ref (b + 1), .null, .int 0, .int 0, .null, .null, .null]) :: (([] ++ [zk_z P 0 20]) ++ [zk_z P 0 20])) rfl ?_
  refine zk_put (j := 0) (k := 1) (cs' := .inr (2, [.ref (b + 1), .ref (b + 2), .int 0, .int 0, .null, .null, .null]) :: (([] ++ [zk_z P 0 20]) ++ [zk_z P 0 20])) (fun _ _ h => h.1) d_2_init_17 rfl rfl (by decide) fl_2_15 rfl (z_ty2 1 (by decide)) rfl rfl (Nat.le_of_ble_eq_true rfl) rfl ?_
  refine zg_aload_n (i := 0) d_2_init_20 rfl rfl ?_
  refine zg_iconst (v := (0 : Int32)) d_2_init_21 rfl ?_
  refine zk_put (j := 0) (k := 2) (cs' := .inr (2, [.ref (b + 1), .ref (b + 2), .int (0 : Int32), .int 0, .null, .null, .null]) :: (([] ++ [zk_z P 0 20]) ++ [zk_z P 0 20])) (fun _ _ h => h.1) d_2_init_22 rfl rfl (by decide) fl_2_18 rfl (z_ty2 2 (by decide)) rfl rfl (Nat.le_of_ble_eq_true rfl) rfl ?_
  refine zg_aload_n (i := 0) d_2_init_25 rfl rfl ?_
  refine zg_iconst (v := (0 : Int32)) d_2_init_26 rfl ?_
  refine zk_put (j := 0) (k := 3) (cs' := .inr (2, [.ref (b + 1), .ref (b + 2), .int (0 : Int32), .int (0 : Int32), .null, .null, .null]) :: (([] ++ [zk_z P 0 20]) ++ [zk_z P 0 20])) (fun _ _ h => h.1) d_2_init_27 rfl rfl (by decide) fl_2_22 rfl (z_ty2 3 (by decide)) rfl rfl (Nat.le_of_ble_eq_true rfl) rfl ?_
  refine zg_aload_n (i := 0) d_2_init_30 rfl rfl ?_
  refine zg_bipush (v := (7 : Int32)) d_2_init_31 rfl ?_
  refine zk_newa (at_ := .int) (t := 0) (N := 7) d_2_init_33 ac_0 rfl (fun c h => by cases h) (z_hc0 7) (by decide) rfl (by decide) (k := 3) rfl (by decide) (by decide) ?_
  refine z_RGc (cs' := .inr (2, [.ref (b + 1), .ref (b + 2), .int (0 : Int32), .int (0 : Int32), .null, .null, .null]) :: ((([] ++ [zk_z P 0 20]) ++ [zk_z P 0 20]) ++ [zk_z P 0 7])) rfl ?_
  refine zk_put (j := 0) (k := 4) (cs' := .inr (2, [.ref (b + 1), .ref (b + 2), .int (0 : Int32), .int (0 : Int32), .ref (b + 3), .null, .null]) :: ((([] ++ [zk_z P 0 20]) ++ [zk_z P 0 20]) ++ [zk_z P 0 7])) (fun _ _ h => h.1) d_2_init_35 rfl rfl (by decide) fl_2_25 rfl (z_ty2 4 (by decide)) rfl rfl (Nat.le_of_ble_eq_true rfl) rfl ?_
  refine zg_aload_n (i := 0) d_2_init_38 rfl rfl ?_
  refine zg_sipush (v := (128 : Int32)) d_2_init_39 rfl ?_
  refine zk_newa (at_ := .int) (t := 0) (N := 128) d_2_init_42 ac_0 rfl (fun c h => by cases h) (z_hc0 128) (by decide) rfl (by decide) (k := 4) rfl (by decide) (by decide) ?_
  refine z_RGc (cs' := .inr (2, [.ref (b + 1), .ref (b + 2), .int (0 : Int32), .int (0 : Int32), .ref (b + 3), .null, .null]) :: (((([] ++ [zk_z P 0 20]) ++ [zk_z P 0 20]) ++ [zk_z P 0 7]) ++ [zk_z P 0 128])) rfl ?_
  refine zk_put (j := 0) (k := 5) (cs' := .inr (2, [.ref (b + 1), .ref (b + 2), .int (0 : Int32), .int (0 : Int32), .ref (b + 3), .ref (b + 4), .null]) :: (((([] ++ [zk_z P 0 20]) ++ [zk_z P 0 20]) ++ [zk_z P 0 7]) ++ [zk_z P 0 128])) (fun _ _ h => h.1) d_2_init_44 rfl rfl (by decide) fl_2_28 rfl (z_ty2 5 (by decide)) rfl rfl (Nat.le_of_ble_eq_true rfl) rfl ?_
  refine zg_aload_n (i := 0) d_2_init_47 rfl rfl ?_
  refine zg_sipush (v := (128 : Int32)) d_2_init_48 rfl ?_
  refine zk_newa (at_ := .int) (t := 0) (N := 128) d_2_init_51 ac_0 rfl (fun c h => by cases h) (z_hc0 128) (by decide) rfl (by decide) (k := 5) rfl (by decide) (by decide) ?_
  refine z_RGc (cs' := .inr (2, [.ref (b + 1), .ref (b + 2), .int (0 : Int32), .int (0 : Int32), .ref (b + 3), .ref (b + 4), .null]) :: ((((([] ++ [zk_z P 0 20]) ++ [zk_z P 0 20]) ++ [zk_z P 0 7]) ++ [zk_z P 0 128]) ++ [zk_z P 0 128])) rfl ?_
  refine zk_put (j := 0) (k := 6) (cs' := .inr (2, [.ref (b + 1), .ref (b + 2), .int (0 : Int32), .int (0 : Int32), .ref (b + 3), .ref (b + 4), .ref (b + 5)]) :: ((((([] ++ [zk_z P 0 20]) ++ [zk_z P 0 20]) ++ [zk_z P 0 7]) ++ [zk_z P 0 128]) ++ [zk_z P 0 128])) (fun _ _ h => h.1) d_2_init_53 rfl rfl (by decide) fl_2_31 rfl (z_ty2 6 (by decide)) rfl rfl (Nat.le_of_ble_eq_true rfl) rfl ?_
  exact zk_ret d_2_init_56 rfl
theorem ml_7_1 : Cond.methodLink zR7 1 objectInit ∈ lw_gd := z_m1 (List.mem_of_getElem? (i := 38) rfl) rfl
theorem fl_7_9 : Cond.fieldLink zR7 9 (zT7 0).1 (zT7 0).2.1 (zT7 0).2.2.1 ∈ lw_gd := z_m1 (List.mem_of_getElem? (i := 39) rfl) rfl
theorem fl_7_13 : Cond.fieldLink zR7 13 (zT7 1).1 (zT7 1).2.1 (zT7 1).2.2.1 ∈ lw_gd := z_m1 (List.mem_of_getElem? (i := 41) rfl) rfl
theorem ac_3 : Cond.arrayClass FieldType.long ∈ lw_gd := z_m1 (List.mem_of_getElem? (i := 63) rfl) rfl
theorem fl_7_16 : Cond.fieldLink zR7 16 (zT7 2).1 (zT7 2).2.1 (zT7 2).2.2.1 ∈ lw_gd := z_m1 (List.mem_of_getElem? (i := 43) rfl) rfl
theorem ac_1 : Cond.arrayClass FieldType.byte ∈ lw_gd := z_m1 (List.mem_of_getElem? (i := 61) rfl) rfl
theorem fl_7_20 : Cond.fieldLink zR7 20 (zT7 3).1 (zT7 3).2.1 (zT7 3).2.2.1 ∈ lw_gd := z_m1 (List.mem_of_getElem? (i := 45) rfl) rfl
theorem fl_7_24 : Cond.fieldLink zR7 24 (zT7 4).1 (zT7 4).2.1 (zT7 4).2.2.1 ∈ lw_gd := z_m1 (List.mem_of_getElem? (i := 46) rfl) rfl
theorem fl_7_28 : Cond.fieldLink zR7 28 (zT7 5).1 (zT7 5).2.1 (zT7 5).2.2.1 ∈ lw_gd := z_m1 (List.mem_of_getElem? (i := 47) rfl) rfl
theorem d_7_init_0 : zD prog_9_method_1_code 0 (.aload_n 0) 1 1 := ⟨by decide +kernel, rfl⟩
theorem d_7_init_1 : zD prog_9_method_1_code 1 (.invokespecial 1) 3 4 := ⟨by decide +kernel, rfl⟩
theorem d_7_init_4 : zD prog_9_method_1_code 4 (.aload_n 0) 1 5 := ⟨by decide +kernel, rfl⟩
theorem d_7_init_5 : zD prog_9_method_1_code 5 (.sipush 401) 3 8 := ⟨by decide +kernel, rfl⟩
theorem d_7_init_8 : zD prog_9_method_1_code 8 (.newarray .int) 2 10 := ⟨by decide +kernel, rfl⟩
theorem d_7_init_10 : zD prog_9_method_1_code 10 (.putfield 9) 3 13 := ⟨by decide +kernel, rfl⟩
theorem d_7_init_13 : zD prog_9_method_1_code 13 (.aload_n 0) 1 14 := ⟨by decide +kernel, rfl⟩
theorem d_7_init_14 : zD prog_9_method_1_code 14 (.sipush 401) 3 17 := ⟨by decide +kernel, rfl⟩
theorem d_7_init_17 : zD prog_9_method_1_code 17 (.newarray .int) 2 19 := ⟨by decide +kernel, rfl⟩
theorem d_7_init_19 : zD prog_9_method_1_code 19 (.putfield 13) 3 22 := ⟨by decide +kernel, rfl⟩
theorem d_7_init_22 : zD prog_9_method_1_code 22 (.aload_n 0) 1 23 := ⟨by decide +kernel, rfl⟩
theorem d_7_init_23 : zD prog_9_method_1_code 23 (.sipush 401) 3 26 := ⟨by decide +kernel, rfl⟩
theorem d_7_init_26 : zD prog_9_method_1_code 26 (.newarray .long) 2 28 := ⟨by decide +kernel, rfl⟩
theorem d_7_init_28 : zD prog_9_method_1_code 28 (.putfield 16) 3 31 := ⟨by decide +kernel, rfl⟩
theorem d_7_init_31 : zD prog_9_method_1_code 31 (.aload_n 0) 1 32 := ⟨by decide +kernel, rfl⟩
theorem d_7_init_32 : zD prog_9_method_1_code 32 (.iconst 0) 1 33 := ⟨by decide +kernel, rfl⟩
theorem d_7_init_33 : zD prog_9_method_1_code 33 (.newarray .byte) 2 35 := ⟨by decide +kernel, rfl⟩
theorem d_7_init_35 : zD prog_9_method_1_code 35 (.putfield 20) 3 38 := ⟨by decide +kernel, rfl⟩
theorem d_7_init_38 : zD prog_9_method_1_code 38 (.aload_n 0) 1 39 := ⟨by decide +kernel, rfl⟩
theorem d_7_init_39 : zD prog_9_method_1_code 39 (.iconst 0) 1 40 := ⟨by decide +kernel, rfl⟩
theorem d_7_init_40 : zD prog_9_method_1_code 40 (.putfield 24) 3 43 := ⟨by decide +kernel, rfl⟩
theorem d_7_init_43 : zD prog_9_method_1_code 43 (.aload_n 0) 1 44 := ⟨by decide +kernel, rfl⟩
theorem d_7_init_44 : zD prog_9_method_1_code 44 (.iconst 0) 1 45 := ⟨by decide +kernel, rfl⟩
theorem d_7_init_45 : zD prog_9_method_1_code 45 (.putfield 28) 3 48 := ⟨by decide +kernel, rfl⟩
theorem d_7_init_48 : zD prog_9_method_1_code 48 (.return_) 1 49 := ⟨by decide +kernel, rfl⟩
def zk_c7 (P : zP) (b : Nat) : List va_E := .inr (7, [.ref (b + 1), .ref (b + 2), .ref (b + 3), .ref (b + 4), .int (0 : Int32), .int (0 : Int32)]) :: (((([] ++ [zk_z P 0 401]) ++ [zk_z P 0 401]) ++ [zk_z P 3 401]) ++ [zk_z P 1 0])
theorem k7 (P : zP) (b : Nat) : z_Kt P b y_7_init M_7_init 2 4 1203 (.inr (7, [.null, .null, .null, .null, .int 0, .int 0])) (zk_c7 P b) := by
  refine z_Kt.of (plainFor_of_name (by decide)) rfl rfl (by decide) ?_
  refine zg_aload_n (i := 0) d_7_init_0 rfl rfl ?_
  refine zk_objInit d_7_init_1 ml_7_1 oi_inst oi_code (by decide) (by decide) ?_
  refine zg_aload_n (i := 0) d_7_init_4 rfl rfl ?_
  refine zg_sipush (v := (401 : Int32)) d_7_init_5 rfl ?_
  refine zk_newa (at_ := .int) (t := 0) (N := 401) d_7_init_8 ac_0 rfl (fun c h => by cases h) (z_hc0 401) (by decide) rfl (by decide) (k := 1) rfl (by decide) (by decide) ?_
  refine z_RGc (cs' := .inr (7, [.null, .null, .null, .null, .int 0, .int 0]) :: ([] ++ [zk_z P 0 401])) rfl ?_
  refine zk_put (j := 0) (k := 0) (cs' := .inr (7, [.ref (b + 1), .null, .null, .null, .int 0, .int 0]) :: ([] ++ [zk_z P 0 401])) (fun _ _ h => h.1) d_7_init_10 rfl rfl (by decide) fl_7_9 rfl (z_ty7 0 (by decide)) rfl rfl (Nat.le_of_ble_eq_true rfl) rfl ?_
  refine zg_aload_n (i := 0) d_7_init_13 rfl rfl ?_
  refine zg_sipush (v := (401 : Int32)) d_7_init_14 rfl ?_
  refine zk_newa (at_ := .int) (t := 0) (N := 401) d_7_init_17 ac_0 rfl (fun c h => by cases h) (z_hc0 401) (by decide) rfl (by decide) (k := 2) rfl (by decide) (by decide) ?_
  refine z_RGc (cs' := .inr (7, [.ref (b + 1), .null, .null, .null, .int 0, .int 0]) :: (([] ++ [zk_z P 0 401]) ++ [zk_z P 0 401])) rfl ?_
  refine zk_put (j := 0) (k := 1) (cs' := .inr (7, [.ref (b + 1), .ref (b + 2), .null, .null, .int 0, .int 0]) :: (([] ++ [zk_z P 0 401]) ++ [zk_z P 0 401])) (fun _ _ h => h.1) d_7_init_19 rfl rfl (by decide) fl_7_13 rfl (z_ty7 1 (by decide)) rfl rfl (Nat.le_of_ble_eq_true rfl) rfl ?_
  refine zg_aload_n (i := 0) d_7_init_22 rfl rfl ?_
  refine zg_sipush (v := (401 : Int32)) d_7_init_23 rfl ?_
  refine zk_newa (at_ := .long) (t := 3) (N := 401) d_7_init_26 ac_3 rfl (fun c h => by cases h) (z_hc3 401) (by decide) rfl (by decide) (k := 3) rfl (by decide) (by decide) ?_
  refine z_RGc (cs' := .inr (7, [.ref (b + 1), .ref (b + 2), .null, .null, .int 0, .int 0]) :: ((([] ++ [zk_z P 0 401]) ++ [zk_z P 0 401]) ++ [zk_z P 3 401])) rfl ?_
  refine zk_put (j := 0) (k := 2) (cs' := .inr (7, [.ref (b + 1), .ref (b + 2), .ref (b + 3), .null, .int 0, .int 0]) :: ((([] ++ [zk_z P 0 401]) ++ [zk_z P 0 401]) ++ [zk_z P 3 401])) (fun _ _ h => h.1) d_7_init_28 rfl rfl (by decide) fl_7_16 rfl (z_ty7 2 (by decide)) rfl rfl (Nat.le_of_ble_eq_true rfl) rfl ?_
  refine zg_aload_n (i := 0) d_7_init_31 rfl rfl ?_
  refine zg_iconst (v := (0 : Int32)) d_7_init_32 rfl ?_
  refine zk_newa (at_ := .byte) (t := 1) (N := 0) d_7_init_33 ac_1 rfl (fun c h => by cases h) (z_hc1 0) (by decide) rfl (by decide) (k := 4) rfl (by decide) (by decide) ?_
  refine z_RGc (cs' := .inr (7, [.ref (b + 1), .ref (b + 2), .ref (b + 3), .null, .int 0, .int 0]) :: (((([] ++ [zk_z P 0 401]) ++ [zk_z P 0 401]) ++ [zk_z P 3 401]) ++ [zk_z P 1 0])) rfl ?_
  refine zk_put (j := 0) (k := 3) (cs' := .inr (7, [.ref (b + 1), .ref (b + 2), .ref (b + 3), .ref (b + 4), .int 0, .int 0]) :: (((([] ++ [zk_z P 0 401]) ++ [zk_z P 0 401]) ++ [zk_z P 3 401]) ++ [zk_z P 1 0])) (fun _ _ h => h.1) d_7_init_35 rfl rfl (by decide) fl_7_20 rfl (z_ty7 3 (by decide)) rfl rfl (Nat.le_of_ble_eq_true rfl) rfl ?_
  refine zg_aload_n (i := 0) d_7_init_38 rfl rfl ?_
  refine zg_iconst (v := (0 : Int32)) d_7_init_39 rfl ?_
  refine zk_put (j := 0) (k := 4) (cs' := .inr (7, [.ref (b + 1), .ref (b + 2), .ref (b + 3), .ref (b + 4), .int (0 : Int32), .int 0]) :: (((([] ++ [zk_z P 0 401]) ++ [zk_z P 0 401]) ++ [zk_z P 3 401]) ++ [zk_z P 1 0])) (fun _ _ h => h.1) d_7_init_40 rfl rfl (by decide) fl_7_24 rfl (z_ty7 4 (by decide)) rfl rfl (Nat.le_of_ble_eq_true rfl) rfl ?_
  refine zg_aload_n (i := 0) d_7_init_43 rfl rfl ?_
  refine zg_iconst (v := (0 : Int32)) d_7_init_44 rfl ?_
  refine zk_put (j := 0) (k := 5) (cs' := .inr (7, [.ref (b + 1), .ref (b + 2), .ref (b + 3), .ref (b + 4), .int (0 : Int32), .int (0 : Int32)]) :: (((([] ++ [zk_z P 0 401]) ++ [zk_z P 0 401]) ++ [zk_z P 3 401]) ++ [zk_z P 1 0])) (fun _ _ h => h.1) d_7_init_45 rfl rfl (by decide) fl_7_28 rfl (z_ty7 5 (by decide)) rfl rfl (Nat.le_of_ble_eq_true rfl) rfl ?_
  exact zk_ret d_7_init_48 rfl
theorem ml_0_3 : Cond.methodLink zR0 3 objectInit ∈ lw_gd := z_m2 (List.mem_of_getElem? (i := 21) rfl) rfl
theorem cl_0_9 : Cond.classLink zR0 9 zR1 ∈ lw_gd := z_m2 (List.mem_of_getElem? (i := 22) rfl) rfl
theorem ist_1 : Cond.instantiable zR1 4 ∈ lw_gd := z_m1 (List.mem_of_getElem? (i := 238) rfl) rfl
theorem ini_1 : Cond.initialized zR1 ∈ lw_gd := z_m1 (List.mem_of_getElem? (i := 7) rfl) rfl
theorem z_df1 : ∀ ty : Nat → FieldType, (∀ k, k < 4 → parseFieldDescriptor (zT1 k).2.2.1 = some (ty k)) → ∀ j, j < 4 → defaultValue (ty j) = vp_V [.null, .null, .null, .null] j := by
  intro ty h j hj
  have e : ty j = zt1 j := Option.some.inj ((h j hj).symm.trans (z_ty1 j hj))
  rw [e]
  match j, hj with
  | 0, _ => rfl
  | 1, _ => rfl
  | 2, _ => rfl
  | 3, _ => rfl
  | j + 4, h => exact absurd h (by omega)
theorem mw_1_init : z_MW y_1_init M_1_init 0 := ⟨z_m1 (List.mem_of_getElem? (i := 7) rfl) rfl, z_m2 (List.mem_of_getElem? (i := 1) rfl) rfl, by decide, by decide, by decide +kernel⟩
theorem im_1_init : Cond.instanceMethod y_1_init ∈ lw_gd := z_m2 (List.mem_of_getElem? (i := 0) rfl) rfl
theorem nl_0_11 : (zR0, 11, y_1_init, "AbsentLords") ∈ z_nest := List.mem_of_getElem? (i := 6) rfl
theorem fl_0_12 : Cond.fieldLink zR0 12 (zT0 0).1 (zT0 0).2.1 (zT0 0).2.2.1 ∈ lw_gd := z_m2 (List.mem_of_getElem? (i := 24) rfl) rfl
theorem fl_0_18 : Cond.fieldLink zR0 18 (zT0 1).1 (zT0 1).2.1 (zT0 1).2.2.1 ∈ lw_gd := z_m2 (List.mem_of_getElem? (i := 25) rfl) rfl
theorem d_0_init_0 : zD prog_2_method_1_code 0 (.aload_n 0) 1 1 := ⟨by decide +kernel, rfl⟩
theorem d_0_init_1 : zD prog_2_method_1_code 1 (.invokespecial 3) 3 4 := ⟨by decide +kernel, rfl⟩
theorem d_0_init_4 : zD prog_2_method_1_code 4 (.aload_n 0) 1 5 := ⟨by decide +kernel, rfl⟩
theorem d_0_init_5 : zD prog_2_method_1_code 5 (.new 9) 3 8 := ⟨by decide +kernel, rfl⟩
theorem d_0_init_8 : zD prog_2_method_1_code 8 (.dup) 1 9 := ⟨by decide +kernel, rfl⟩
theorem d_0_init_9 : zD prog_2_method_1_code 9 (.invokespecial 11) 3 12 := ⟨by decide +kernel, rfl⟩
theorem d_0_init_12 : zD prog_2_method_1_code 12 (.putfield 12) 3 15 := ⟨by decide +kernel, rfl⟩
theorem d_0_init_15 : zD prog_2_method_1_code 15 (.aload_n 0) 1 16 := ⟨by decide +kernel, rfl⟩
theorem d_0_init_16 : zD prog_2_method_1_code 16 (.bipush 7) 2 18 := ⟨by decide +kernel, rfl⟩
theorem d_0_init_18 : zD prog_2_method_1_code 18 (.newarray .int) 2 20 := ⟨by decide +kernel, rfl⟩
theorem d_0_init_20 : zD prog_2_method_1_code 20 (.putfield 18) 3 23 := ⟨by decide +kernel, rfl⟩
theorem d_0_init_23 : zD prog_2_method_1_code 23 (.return_) 1 24 := ⟨by decide +kernel, rfl⟩
def zk_c0 (P : zP) (b : Nat) : List va_E := .inr (0, [.ref (b + 1), .ref (b + 6)]) :: (([] ++ zk_c1 P (b + 1)) ++ [zk_z P 0 7])
theorem k0 (P : zP) (b : Nat) : z_Kt P b y_0_init M_0_init 4 6 46 (.inr (0, [.null, .null])) (zk_c0 P b) := by
  refine z_Kt.of (plainFor_of_name (by decide)) rfl rfl (by decide) ?_
  refine zg_aload_n (i := 0) d_0_init_0 rfl rfl ?_
  refine zk_objInit d_0_init_1 ml_0_3 oi_inst oi_code (by decide) (by decide) ?_
  refine zg_aload_n (i := 0) d_0_init_4 rfl rfl ?_
  refine zk_new (ci := 1) d_0_init_5 rfl cl_0_9 ist_1 ini_1 z_df1 (k := 1) rfl (by decide) (by decide) ?_
  refine z_RGc (cs' := .inr (0, [.null, .null]) :: ([] ++ [.inr (1, [.null, .null, .null, .null])])) rfl ?_
  refine zg_dupa d_0_init_8 ?_
  refine zk_childN (cs0 := .inr (0, [.null, .null]) :: []) (raw := .inr (1, [.null, .null, .null, .null])) (cs' := .inr (0, [.null, .null]) :: ([] ++ zk_c1 P (b + 1))) (k := 1) (fun _ _ h => h.2) d_0_init_9 mw_1_init rfl nl_0_11 im_1_init rfl rfl rfl (by decide) ⟨by decide, by decide⟩ ⟨(by decide), (by decide)⟩ (k1 P (b + 1)) rfl ?_
  refine zk_put (j := 0) (k := 0) (cs' := .inr (0, [.ref (b + 1), .null]) :: ([] ++ zk_c1 P (b + 1))) (fun _ _ h => h.1) d_0_init_12 rfl rfl (by decide) fl_0_12 rfl (z_ty0 0 (by decide)) rfl rfl (Nat.le_of_ble_eq_true rfl) rfl ?_
  refine zg_aload_n (i := 0) d_0_init_15 rfl rfl ?_
  refine zg_bipush (v := (7 : Int32)) d_0_init_16 rfl ?_
  refine zk_newa (at_ := .int) (t := 0) (N := 7) d_0_init_18 ac_0 rfl (fun c h => by cases h) (z_hc0 7) (by decide) rfl (by decide) (k := 6) rfl (by decide) (by decide) ?_
  refine z_RGc (cs' := .inr (0, [.ref (b + 1), .null]) :: (([] ++ zk_c1 P (b + 1)) ++ [zk_z P 0 7])) rfl ?_
  refine zk_put (j := 0) (k := 1) (cs' := .inr (0, [.ref (b + 1), .ref (b + 6)]) :: (([] ++ zk_c1 P (b + 1)) ++ [zk_z P 0 7])) (fun _ _ h => h.1) d_0_init_20 rfl rfl (by decide) fl_0_18 rfl (z_ty0 1 (by decide)) rfl rfl (Nat.le_of_ble_eq_true rfl) rfl ?_
  exact zk_ret d_0_init_23 rfl
