theorem zk_gl {L M : List va_E} {i : Nat} {x : va_E} (h : L[i]? = some x) : (L ++ M)[i]? = some x := by
  rw [List.getElem?_append_left (List.getElem?_eq_some_iff.mp h).1]
  exact h
theorem zk_ge {A : List va_E} {e : va_E} {i : Nat} (hl : A.length = i) : (A ++ [e])[i]? = some e := by
  subst hl
  simp
theorem zk_gh {A B : List va_E} {x : va_E} {i : Nat} (hl : A.length = i) (h : B[0]? = some x) : (A ++ B)[i]? = some x := by
  subst hl
  rw [List.getElem?_append_right (Nat.le_refl _), Nat.sub_self]
  exact h
theorem zk_se {A : List va_E} {e e' : va_E} {i : Nat} (hl : A.length = i) : (A ++ [e]).set i e' = A ++ [e'] := by
  subst hl
  simp
theorem zk_sl {L L' M : List va_E} {i : Nat} {a : va_E} (hi : i < L.length) (h : L.set i a = L') : (L ++ M).set i a = L' ++ M := by
  rw [List.set_append_left _ _ hi, h]
theorem zk_gc {L : List va_E} {i : Nat} {x y : va_E} (h : L[i]? = some y) : (x :: L)[i + 1]? = some y := h
theorem zk_sc {L L' : List va_E} {i : Nat} {x a : va_E} (h : L.set i a = L') : (x :: L).set (i + 1) a = x :: L' := h ▸ rfl
theorem zk_cc {x : va_E} {L L' : List va_E} (h : L = L') : x :: L = x :: L' := h ▸ rfl
theorem zk_l0 (P : zP) (b : Nat) : (zk_c0 P b).length = 7 := rfl
theorem zk_l1 (P : zP) (b : Nat) : (zk_c1 P b).length = 5 := rfl
theorem zk_l2 (P : zP) (b : Nat) : (zk_c2 P b).length = 6 := rfl
theorem zk_l5 (P : zP) (b : Nat) : (zk_c5 P b).length = 5 := rfl
theorem zk_l7 (P : zP) (b : Nat) : (zk_c7 P b).length = 5 := rfl
theorem ml_6_3 : Cond.methodLink zR6 3 objectInit ∈ lw_gd := z_m1 (List.mem_of_getElem? (i := 69) rfl) rfl
theorem fl_6_9 : Cond.fieldLink zR6 9 (zT6 0).1 (zT6 0).2.1 (zT6 0).2.2.1 ∈ lw_gd := z_m1 (List.mem_of_getElem? (i := 78) rfl) rfl
theorem fl_6_15 : Cond.fieldLink zR6 15 (zT6 1).1 (zT6 1).2.1 (zT6 1).2.2.1 ∈ lw_gd := z_m1 (List.mem_of_getElem? (i := 84) rfl) rfl
theorem fl_6_18 : Cond.fieldLink zR6 18 (zT6 2).1 (zT6 2).2.1 (zT6 2).2.2.1 ∈ lw_gd := z_m1 (List.mem_of_getElem? (i := 89) rfl) rfl
theorem fl_6_21 : Cond.fieldLink zR6 21 (zT6 3).1 (zT6 3).2.1 (zT6 3).2.2.1 ∈ lw_gd := z_m1 (List.mem_of_getElem? (i := 92) rfl) rfl
theorem fl_6_25 : Cond.fieldLink zR6 25 (zT6 4).1 (zT6 4).2.1 (zT6 4).2.2.1 ∈ lw_gd := z_m1 (List.mem_of_getElem? (i := 96) rfl) rfl
theorem fl_6_28 : Cond.fieldLink zR6 28 (zT6 5).1 (zT6 5).2.1 (zT6 5).2.2.1 ∈ lw_gd := z_m1 (List.mem_of_getElem? (i := 99) rfl) rfl
theorem fl_6_31 : Cond.fieldLink zR6 31 (zT6 6).1 (zT6 6).2.1 (zT6 6).2.2.1 ∈ lw_gd := z_m1 (List.mem_of_getElem? (i := 102) rfl) rfl
theorem fl_6_34 : Cond.fieldLink zR6 34 (zT6 7).1 (zT6 7).2.1 (zT6 7).2.2.1 ∈ lw_gd := z_m1 (List.mem_of_getElem? (i := 105) rfl) rfl
theorem fl_6_37 : Cond.fieldLink zR6 37 (zT6 8).1 (zT6 8).2.1 (zT6 8).2.2.1 ∈ lw_gd := z_m1 (List.mem_of_getElem? (i := 107) rfl) rfl
theorem fl_6_40 : Cond.fieldLink zR6 40 (zT6 9).1 (zT6 9).2.1 (zT6 9).2.2.1 ∈ lw_gd := z_m1 (List.mem_of_getElem? (i := 110) rfl) rfl
theorem d_6_init_0 : zD prog_8_method_1_code 0 (.aload_n 0) 1 1 := ⟨by decide +kernel, rfl⟩
theorem d_6_init_1 : zD prog_8_method_1_code 1 (.invokespecial 3) 3 4 := ⟨by decide +kernel, rfl⟩
theorem d_6_init_4 : zD prog_8_method_1_code 4 (.aload_n 0) 1 5 := ⟨by decide +kernel, rfl⟩
theorem d_6_init_5 : zD prog_8_method_1_code 5 (.iconst 0) 1 6 := ⟨by decide +kernel, rfl⟩
theorem d_6_init_6 : zD prog_8_method_1_code 6 (.putfield 9) 3 9 := ⟨by decide +kernel, rfl⟩
theorem d_6_init_9 : zD prog_8_method_1_code 9 (.aload_n 0) 1 10 := ⟨by decide +kernel, rfl⟩
theorem d_6_init_10 : zD prog_8_method_1_code 10 (.iconst 0) 1 11 := ⟨by decide +kernel, rfl⟩
theorem d_6_init_11 : zD prog_8_method_1_code 11 (.putfield 15) 3 14 := ⟨by decide +kernel, rfl⟩
theorem d_6_init_14 : zD prog_8_method_1_code 14 (.aload_n 0) 1 15 := ⟨by decide +kernel, rfl⟩
theorem d_6_init_15 : zD prog_8_method_1_code 15 (.iconst 0) 1 16 := ⟨by decide +kernel, rfl⟩
theorem d_6_init_16 : zD prog_8_method_1_code 16 (.putfield 18) 3 19 := ⟨by decide +kernel, rfl⟩
theorem d_6_init_19 : zD prog_8_method_1_code 19 (.aload_n 0) 1 20 := ⟨by decide +kernel, rfl⟩
theorem d_6_init_20 : zD prog_8_method_1_code 20 (.iconst 5) 1 21 := ⟨by decide +kernel, rfl⟩
theorem d_6_init_21 : zD prog_8_method_1_code 21 (.newarray .int) 2 23 := ⟨by decide +kernel, rfl⟩
theorem d_6_init_23 : zD prog_8_method_1_code 23 (.putfield 21) 3 26 := ⟨by decide +kernel, rfl⟩
theorem d_6_init_26 : zD prog_8_method_1_code 26 (.aload_n 0) 1 27 := ⟨by decide +kernel, rfl⟩
theorem d_6_init_27 : zD prog_8_method_1_code 27 (.iconst 5) 1 28 := ⟨by decide +kernel, rfl⟩
theorem d_6_init_28 : zD prog_8_method_1_code 28 (.newarray .int) 2 30 := ⟨by decide +kernel, rfl⟩
theorem d_6_init_30 : zD prog_8_method_1_code 30 (.putfield 25) 3 33 := ⟨by decide +kernel, rfl⟩
theorem d_6_init_33 : zD prog_8_method_1_code 33 (.aload_n 0) 1 34 := ⟨by decide +kernel, rfl⟩
theorem d_6_init_34 : zD prog_8_method_1_code 34 (.bipush 7) 2 36 := ⟨by decide +kernel, rfl⟩
theorem d_6_init_36 : zD prog_8_method_1_code 36 (.newarray .int) 2 38 := ⟨by decide +kernel, rfl⟩
theorem d_6_init_38 : zD prog_8_method_1_code 38 (.putfield 28) 3 41 := ⟨by decide +kernel, rfl⟩
theorem d_6_init_41 : zD prog_8_method_1_code 41 (.aload_n 0) 1 42 := ⟨by decide +kernel, rfl⟩
theorem d_6_init_42 : zD prog_8_method_1_code 42 (.bipush 7) 2 44 := ⟨by decide +kernel, rfl⟩
theorem d_6_init_44 : zD prog_8_method_1_code 44 (.newarray .int) 2 46 := ⟨by decide +kernel, rfl⟩
theorem d_6_init_46 : zD prog_8_method_1_code 46 (.putfield 31) 3 49 := ⟨by decide +kernel, rfl⟩
theorem d_6_init_49 : zD prog_8_method_1_code 49 (.aload_n 0) 1 50 := ⟨by decide +kernel, rfl⟩
theorem d_6_init_50 : zD prog_8_method_1_code 50 (.sipush 404) 3 53 := ⟨by decide +kernel, rfl⟩
theorem d_6_init_53 : zD prog_8_method_1_code 53 (.newarray .int) 2 55 := ⟨by decide +kernel, rfl⟩
theorem d_6_init_55 : zD prog_8_method_1_code 55 (.putfield 34) 3 58 := ⟨by decide +kernel, rfl⟩
theorem d_6_init_58 : zD prog_8_method_1_code 58 (.aload_n 0) 1 59 := ⟨by decide +kernel, rfl⟩
theorem d_6_init_59 : zD prog_8_method_1_code 59 (.iconst 4) 1 60 := ⟨by decide +kernel, rfl⟩
theorem d_6_init_60 : zD prog_8_method_1_code 60 (.newarray .int) 2 62 := ⟨by decide +kernel, rfl⟩
theorem d_6_init_62 : zD prog_8_method_1_code 62 (.putfield 37) 3 65 := ⟨by decide +kernel, rfl⟩
theorem d_6_init_65 : zD prog_8_method_1_code 65 (.aload_n 0) 1 66 := ⟨by decide +kernel, rfl⟩
theorem d_6_init_66 : zD prog_8_method_1_code 66 (.iconst 0) 1 67 := ⟨by decide +kernel, rfl⟩
theorem d_6_init_67 : zD prog_8_method_1_code 67 (.putfield 40) 3 70 := ⟨by decide +kernel, rfl⟩
theorem d_6_init_70 : zD prog_8_method_1_code 70 (.aload_n 0) 1 71 := ⟨by decide +kernel, rfl⟩
theorem d_6_init_71 : zD prog_8_method_1_code 71 (.invokevirtual 43) 3 74 := ⟨by decide +kernel, rfl⟩
theorem d_6_init_74 : zD prog_8_method_1_code 74 (.return_) 1 75 := ⟨by decide +kernel, rfl⟩
def zL6 : List (Nat × Nat) := [(6, 0), (26, 0), (27, 0), (26, 1), (28, 0), (29, 0), (30, 0)]
theorem zL6_ok : zl_ok zL6 = true := by decide +kernel
theorem zL6_nd : zL6.Nodup := by decide +kernel
def zk_c6 (P : zP) (b : Nat) : List va_E := zL6.map fun q => z_enc (zl_P P b zL6) (z_em 0 z_M0) q.1 q.2
theorem fitK6 : z_fit (z_rmK 5 6 432) 6 432 2 2 := ⟨by decide, by decide, by decide, by decide⟩
theorem ml_6_43 : Cond.methodLink zR6 43 y_6_empty ∈ lw_gd := z_m1 (List.mem_of_getElem? (i := 70) rfl) rfl
theorem k6 (P : zP) (b : Nat) : z_Kt P b y_6_init M_6_init 5 6 432 (.inr (6, [.int 0, .int 0, .int 0, .null, .null, .null, .null, .null, .null, .int 0])) (zk_c6 P b) := by
  refine z_Kt.of (plainFor_of_name (by decide)) rfl rfl (by decide) ?_
  refine zg_aload_n (i := 0) d_6_init_0 rfl rfl ?_
  refine zk_objInit d_6_init_1 ml_6_3 oi_inst oi_code (by decide) (by decide) ?_
  refine zg_aload_n (i := 0) d_6_init_4 rfl rfl ?_
  refine zg_iconst (v := (0 : Int32)) d_6_init_5 rfl ?_
  refine zk_put (j := 0) (k := 0) (cs' := .inr (6, [.int (0 : Int32), .int 0, .int 0, .null, .null, .null, .null, .null, .null, .int 0]) :: []) (fun _ _ h => h.1) d_6_init_6 rfl rfl (by decide) fl_6_9 rfl (z_ty6 0 (by decide)) rfl rfl (Nat.le_of_ble_eq_true rfl) rfl ?_
  refine zg_aload_n (i := 0) d_6_init_9 rfl rfl ?_
  refine zg_iconst (v := (0 : Int32)) d_6_init_10 rfl ?_
  refine zk_put (j := 0) (k := 1) (cs' := .inr (6, [.int (0 : Int32), .int (0 : Int32), .int 0, .null, .null, .null, .null, .null, .null, .int 0]) :: []) (fun _ _ h => h.1) d_6_init_11 rfl rfl (by decide) fl_6_15 rfl (z_ty6 1 (by decide)) rfl rfl (Nat.le_of_ble_eq_true rfl) rfl ?_
  refine zg_aload_n (i := 0) d_6_init_14 rfl rfl ?_
  refine zg_iconst (v := (0 : Int32)) d_6_init_15 rfl ?_
  refine zk_put (j := 0) (k := 2) (cs' := .inr (6, [.int (0 : Int32), .int (0 : Int32), .int (0 : Int32), .null, .null, .null, .null, .null, .null, .int 0]) :: []) (fun _ _ h => h.1) d_6_init_16 rfl rfl (by decide) fl_6_18 rfl (z_ty6 2 (by decide)) rfl rfl (Nat.le_of_ble_eq_true rfl) rfl ?_
  refine zg_aload_n (i := 0) d_6_init_19 rfl rfl ?_
  refine zg_iconst (v := (5 : Int32)) d_6_init_20 rfl ?_
  refine zk_newa (at_ := .int) (t := 0) (N := 5) d_6_init_21 ac_0 rfl (fun c h => by cases h) (z_hc0 5) (by decide) rfl (by decide) (k := 1) rfl (by decide) (by decide) ?_
  refine z_RGc (cs' := .inr (6, [.int (0 : Int32), .int (0 : Int32), .int (0 : Int32), .null, .null, .null, .null, .null, .null, .int 0]) :: ([] ++ [zk_z P 0 5])) rfl ?_
  refine zk_put (j := 0) (k := 3) (cs' := .inr (6, [.int (0 : Int32), .int (0 : Int32), .int (0 : Int32), .ref (b + 1), .null, .null, .null, .null, .null, .int 0]) :: ([] ++ [zk_z P 0 5])) (fun _ _ h => h.1) d_6_init_23 rfl rfl (by decide) fl_6_21 rfl (z_ty6 3 (by decide)) rfl rfl (Nat.le_of_ble_eq_true rfl) rfl ?_
  refine zg_aload_n (i := 0) d_6_init_26 rfl rfl ?_
  refine zg_iconst (v := (5 : Int32)) d_6_init_27 rfl ?_
  refine zk_newa (at_ := .int) (t := 0) (N := 5) d_6_init_28 ac_0 rfl (fun c h => by cases h) (z_hc0 5) (by decide) rfl (by decide) (k := 2) rfl (by decide) (by decide) ?_
  refine z_RGc (cs' := .inr (6, [.int (0 : Int32), .int (0 : Int32), .int (0 : Int32), .ref (b + 1), .null, .null, .null, .null, .null, .int 0]) :: (([] ++ [zk_z P 0 5]) ++ [zk_z P 0 5])) rfl ?_
  refine zk_put (j := 0) (k := 4) (cs' := .inr (6, [.int (0 : Int32), .int (0 : Int32), .int (0 : Int32), .ref (b + 1), .ref (b + 2), .null, .null, .null, .null, .int 0]) :: (([] ++ [zk_z P 0 5]) ++ [zk_z P 0 5])) (fun _ _ h => h.1) d_6_init_30 rfl rfl (by decide) fl_6_25 rfl (z_ty6 4 (by decide)) rfl rfl (Nat.le_of_ble_eq_true rfl) rfl ?_
  refine zg_aload_n (i := 0) d_6_init_33 rfl rfl ?_
  refine zg_bipush (v := (7 : Int32)) d_6_init_34 rfl ?_
  refine zk_newa (at_ := .int) (t := 0) (N := 7) d_6_init_36 ac_0 rfl (fun c h => by cases h) (z_hc0 7) (by decide) rfl (by decide) (k := 3) rfl (by decide) (by decide) ?_
  refine z_RGc (cs' := .inr (6, [.int (0 : Int32), .int (0 : Int32), .int (0 : Int32), .ref (b + 1), .ref (b + 2), .null, .null, .null, .null, .int 0]) :: ((([] ++ [zk_z P 0 5]) ++ [zk_z P 0 5]) ++ [zk_z P 0 7])) rfl ?_
  refine zk_put (j := 0) (k := 5) (cs' := .inr (6, [.int (0 : Int32), .int (0 : Int32), .int (0 : Int32), .ref (b + 1), .ref (b + 2), .ref (b + 3), .null, .null, .null, .int 0]) :: ((([] ++ [zk_z P 0 5]) ++ [zk_z P 0 5]) ++ [zk_z P 0 7])) (fun _ _ h => h.1) d_6_init_38 rfl rfl (by decide) fl_6_28 rfl (z_ty6 5 (by decide)) rfl rfl (Nat.le_of_ble_eq_true rfl) rfl ?_
  refine zg_aload_n (i := 0) d_6_init_41 rfl rfl ?_
  refine zg_bipush (v := (7 : Int32)) d_6_init_42 rfl ?_
  refine zk_newa (at_ := .int) (t := 0) (N := 7) d_6_init_44 ac_0 rfl (fun c h => by cases h) (z_hc0 7) (by decide) rfl (by decide) (k := 4) rfl (by decide) (by decide) ?_
  refine z_RGc (cs' := .inr (6, [.int (0 : Int32), .int (0 : Int32), .int (0 : Int32), .ref (b + 1), .ref (b + 2), .ref (b + 3), .null, .null, .null, .int 0]) :: (((([] ++ [zk_z P 0 5]) ++ [zk_z P 0 5]) ++ [zk_z P 0 7]) ++ [zk_z P 0 7])) rfl ?_
  refine zk_put (j := 0) (k := 6) (cs' := .inr (6, [.int (0 : Int32), .int (0 : Int32), .int (0 : Int32), .ref (b + 1), .ref (b + 2), .ref (b + 3), .ref (b + 4), .null, .null, .int 0]) :: (((([] ++ [zk_z P 0 5]) ++ [zk_z P 0 5]) ++ [zk_z P 0 7]) ++ [zk_z P 0 7])) (fun _ _ h => h.1) d_6_init_46 rfl rfl (by decide) fl_6_31 rfl (z_ty6 6 (by decide)) rfl rfl (Nat.le_of_ble_eq_true rfl) rfl ?_
  refine zg_aload_n (i := 0) d_6_init_49 rfl rfl ?_
  refine zg_sipush (v := (404 : Int32)) d_6_init_50 rfl ?_
  refine zk_newa (at_ := .int) (t := 0) (N := 404) d_6_init_53 ac_0 rfl (fun c h => by cases h) (z_hc0 404) (by decide) rfl (by decide) (k := 5) rfl (by decide) (by decide) ?_
  refine z_RGc (cs' := .inr (6, [.int (0 : Int32), .int (0 : Int32), .int (0 : Int32), .ref (b + 1), .ref (b + 2), .ref (b + 3), .ref (b + 4), .null, .null, .int 0]) :: ((((([] ++ [zk_z P 0 5]) ++ [zk_z P 0 5]) ++ [zk_z P 0 7]) ++ [zk_z P 0 7]) ++ [zk_z P 0 404])) rfl ?_
  refine zk_put (j := 0) (k := 7) (cs' := .inr (6, [.int (0 : Int32), .int (0 : Int32), .int (0 : Int32), .ref (b + 1), .ref (b + 2), .ref (b + 3), .ref (b + 4), .ref (b + 5), .null, .int 0]) :: ((((([] ++ [zk_z P 0 5]) ++ [zk_z P 0 5]) ++ [zk_z P 0 7]) ++ [zk_z P 0 7]) ++ [zk_z P 0 404])) (fun _ _ h => h.1) d_6_init_55 rfl rfl (by decide) fl_6_34 rfl (z_ty6 7 (by decide)) rfl rfl (Nat.le_of_ble_eq_true rfl) rfl ?_
  refine zg_aload_n (i := 0) d_6_init_58 rfl rfl ?_
  refine zg_iconst (v := (4 : Int32)) d_6_init_59 rfl ?_
  refine zk_newa (at_ := .int) (t := 0) (N := 4) d_6_init_60 ac_0 rfl (fun c h => by cases h) (z_hc0 4) (by decide) rfl (by decide) (k := 6) rfl (by decide) (by decide) ?_
  refine z_RGc (cs' := .inr (6, [.int (0 : Int32), .int (0 : Int32), .int (0 : Int32), .ref (b + 1), .ref (b + 2), .ref (b + 3), .ref (b + 4), .ref (b + 5), .null, .int 0]) :: (((((([] ++ [zk_z P 0 5]) ++ [zk_z P 0 5]) ++ [zk_z P 0 7]) ++ [zk_z P 0 7]) ++ [zk_z P 0 404]) ++ [zk_z P 0 4])) rfl ?_
  refine zk_put (j := 0) (k := 8) (cs' := .inr (6, [.int (0 : Int32), .int (0 : Int32), .int (0 : Int32), .ref (b + 1), .ref (b + 2), .ref (b + 3), .ref (b + 4), .ref (b + 5), .ref (b + 6), .int 0]) :: (((((([] ++ [zk_z P 0 5]) ++ [zk_z P 0 5]) ++ [zk_z P 0 7]) ++ [zk_z P 0 7]) ++ [zk_z P 0 404]) ++ [zk_z P 0 4])) (fun _ _ h => h.1) d_6_init_62 rfl rfl (by decide) fl_6_37 rfl (z_ty6 8 (by decide)) rfl rfl (Nat.le_of_ble_eq_true rfl) rfl ?_
  refine zg_aload_n (i := 0) d_6_init_65 rfl rfl ?_
  refine zg_iconst (v := (0 : Int32)) d_6_init_66 rfl ?_
  refine zk_put (j := 0) (k := 9) (cs' := .inr (6, [.int (0 : Int32), .int (0 : Int32), .int (0 : Int32), .ref (b + 1), .ref (b + 2), .ref (b + 3), .ref (b + 4), .ref (b + 5), .ref (b + 6), .int (0 : Int32)]) :: (((((([] ++ [zk_z P 0 5]) ++ [zk_z P 0 5]) ++ [zk_z P 0 7]) ++ [zk_z P 0 7]) ++ [zk_z P 0 404]) ++ [zk_z P 0 4])) (fun _ _ h => h.1) d_6_init_67 rfl rfl (by decide) fl_6_40 rfl (z_ty6 9 (by decide)) rfl rfl (Nat.le_of_ble_eq_true rfl) rfl ?_
  refine zk_toRQ (L := zL6) (μ := z_M0) (c0 := 6) zL6_ok (zl_dyn0 (by decide +kernel)) rfl rfl rfl ?_
  refine zr_aload_n (i := 0) d_6_init_70 rfl rfl ?_
  refine zr_callVv (av := []) (st := []) d_6_init_71 mw_6_empty ml_6_43 im_6_empty se_6_empty rfl rfl (Nat.le_of_ble_eq_true rfl) fitK6 rfl rfl rfl (s6_empty (p6_empty 0 z_M0)) ?_
  exact zk_retQ zL6_ok zL6_nd d_6_init_74 rfl
theorem zk_l6 (P : zP) (b : Nat) : (zk_c6 P b).length = 7 := rfl
theorem ml_4_3 : Cond.methodLink zR4 3 objectInit ∈ lw_gd := z_m1 (List.mem_of_getElem? (i := 32) rfl) rfl
theorem cl_4_9 : Cond.classLink zR4 9 zR7 ∈ lw_gd := z_m1 (List.mem_of_getElem? (i := 33) rfl) rfl
theorem ist_7 : Cond.instantiable zR7 6 ∈ lw_gd := z_m1 (List.mem_of_getElem? (i := 34) rfl) rfl
theorem ini_7 : Cond.initialized zR7 ∈ lw_gd := z_m1 (List.mem_of_getElem? (i := 3) rfl) rfl
theorem z_df7 : ∀ ty : Nat → FieldType, (∀ k, k < 6 → parseFieldDescriptor (zT7 k).2.2.1 = some (ty k)) → ∀ j, j < 6 → defaultValue (ty j) = vp_V [.null, .null, .null, .null, .int 0, .int 0] j := by
  intro ty h j hj
  have e : ty j = zt7 j := Option.some.inj ((h j hj).symm.trans (z_ty7 j hj))
  rw [e]
  match j, hj with
  | 0, _ => rfl
  | 1, _ => rfl
  | 2, _ => rfl
  | 3, _ => rfl
  | 4, _ => rfl
  | 5, _ => rfl
  | j + 6, h => exact absurd h (by omega)
theorem mw_7_init : z_MW y_7_init M_7_init 0 := ⟨z_m1 (List.mem_of_getElem? (i := 3) rfl) rfl, z_m1 (List.mem_of_getElem? (i := 37) rfl) rfl, by decide, by decide, by decide +kernel⟩
theorem im_7_init : Cond.instanceMethod y_7_init ∈ lw_gd := z_m1 (List.mem_of_getElem? (i := 36) rfl) rfl
theorem nl_4_11 : (zR4, 11, y_7_init, "AbsentLords") ∈ z_nest := List.mem_of_getElem? (i := 1) rfl
theorem fl_4_12 : Cond.fieldLink zR4 12 (zT4 0).1 (zT4 0).2.1 (zT4 0).2.2.1 ∈ lw_gd := z_m1 (List.mem_of_getElem? (i := 134) rfl) rfl
theorem fl_4_18 : Cond.fieldLink zR4 18 (zT4 1).1 (zT4 1).2.1 (zT4 1).2.2.1 ∈ lw_gd := z_m1 (List.mem_of_getElem? (i := 135) rfl) rfl
theorem fl_4_22 : Cond.fieldLink zR4 22 (zT4 2).1 (zT4 2).2.1 (zT4 2).2.2.1 ∈ lw_gd := z_m1 (List.mem_of_getElem? (i := 136) rfl) rfl
theorem cl_4_25 : Cond.classLink zR4 25 zR6 ∈ lw_gd := z_m1 (List.mem_of_getElem? (i := 64) rfl) rfl
theorem ist_6 : Cond.instantiable zR6 10 ∈ lw_gd := z_m1 (List.mem_of_getElem? (i := 65) rfl) rfl
theorem ini_6 : Cond.initialized zR6 ∈ lw_gd := z_m1 (List.mem_of_getElem? (i := 4) rfl) rfl
theorem z_df6 : ∀ ty : Nat → FieldType, (∀ k, k < 10 → parseFieldDescriptor (zT6 k).2.2.1 = some (ty k)) → ∀ j, j < 10 → defaultValue (ty j) = vp_V [.int 0, .int 0, .int 0, .null, .null, .null, .null, .null, .null, .int 0] j := by
  intro ty h j hj
  have e : ty j = zt6 j := Option.some.inj ((h j hj).symm.trans (z_ty6 j hj))
  rw [e]
  match j, hj with
  | 0, _ => rfl
  | 1, _ => rfl
  | 2, _ => rfl
  | 3, _ => rfl
  | 4, _ => rfl
  | 5, _ => rfl
  | 6, _ => rfl
  | 7, _ => rfl
  | 8, _ => rfl
  | 9, _ => rfl
  | j + 10, h => exact absurd h (by omega)
theorem mw_6_init : z_MW y_6_init M_6_init 0 := ⟨z_m1 (List.mem_of_getElem? (i := 4) rfl) rfl, z_m1 (List.mem_of_getElem? (i := 68) rfl) rfl, by decide, by decide, by decide +kernel⟩
theorem im_6_init : Cond.instanceMethod y_6_init ∈ lw_gd := z_m1 (List.mem_of_getElem? (i := 67) rfl) rfl
theorem ml_4_27 : Cond.methodLink zR4 27 y_6_init ∈ lw_gd := z_m1 (List.mem_of_getElem? (i := 66) rfl) rfl
theorem fl_4_28 : Cond.fieldLink zR4 28 (zT4 3).1 (zT4 3).2.1 (zT4 3).2.2.1 ∈ lw_gd := z_m1 (List.mem_of_getElem? (i := 137) rfl) rfl
theorem fl_4_32 : Cond.fieldLink zR4 32 (zT4 4).1 (zT4 4).2.1 (zT4 4).2.2.1 ∈ lw_gd := z_m1 (List.mem_of_getElem? (i := 138) rfl) rfl
theorem fl_4_36 : Cond.fieldLink zR4 36 (zT4 5).1 (zT4 5).2.1 (zT4 5).2.2.1 ∈ lw_gd := z_m1 (List.mem_of_getElem? (i := 139) rfl) rfl
theorem fl_4_39 : Cond.fieldLink zR4 39 (zT4 6).1 (zT4 6).2.1 (zT4 6).2.2.1 ∈ lw_gd := z_m1 (List.mem_of_getElem? (i := 140) rfl) rfl
theorem fl_4_42 : Cond.fieldLink zR4 42 (zT4 7).1 (zT4 7).2.1 (zT4 7).2.2.1 ∈ lw_gd := z_m1 (List.mem_of_getElem? (i := 141) rfl) rfl
theorem fl_4_45 : Cond.fieldLink zR4 45 (zT4 8).1 (zT4 8).2.1 (zT4 8).2.2.1 ∈ lw_gd := z_m1 (List.mem_of_getElem? (i := 142) rfl) rfl
theorem fl_4_48 : Cond.fieldLink zR4 48 (zT4 9).1 (zT4 9).2.1 (zT4 9).2.2.1 ∈ lw_gd := z_m1 (List.mem_of_getElem? (i := 144) rfl) rfl
theorem fl_4_51 : Cond.fieldLink zR4 51 (zT4 10).1 (zT4 10).2.1 (zT4 10).2.2.1 ∈ lw_gd := z_m1 (List.mem_of_getElem? (i := 145) rfl) rfl
theorem d_4_init_0 : zD prog_6_method_1_code 0 (.aload_n 0) 1 1 := ⟨by decide +kernel, rfl⟩
theorem d_4_init_1 : zD prog_6_method_1_code 1 (.invokespecial 3) 3 4 := ⟨by decide +kernel, rfl⟩
theorem d_4_init_4 : zD prog_6_method_1_code 4 (.aload_n 0) 1 5 := ⟨by decide +kernel, rfl⟩
theorem d_4_init_5 : zD prog_6_method_1_code 5 (.new 9) 3 8 := ⟨by decide +kernel, rfl⟩
theorem d_4_init_8 : zD prog_6_method_1_code 8 (.dup) 1 9 := ⟨by decide +kernel, rfl⟩
theorem d_4_init_9 : zD prog_6_method_1_code 9 (.invokespecial 11) 3 12 := ⟨by decide +kernel, rfl⟩
theorem d_4_init_12 : zD prog_6_method_1_code 12 (.putfield 12) 3 15 := ⟨by decide +kernel, rfl⟩
theorem d_4_init_15 : zD prog_6_method_1_code 15 (.aload_n 0) 1 16 := ⟨by decide +kernel, rfl⟩
theorem d_4_init_16 : zD prog_6_method_1_code 16 (.iconst 5) 1 17 := ⟨by decide +kernel, rfl⟩
theorem d_4_init_17 : zD prog_6_method_1_code 17 (.newarray .long) 2 19 := ⟨by decide +kernel, rfl⟩
theorem d_4_init_19 : zD prog_6_method_1_code 19 (.putfield 18) 3 22 := ⟨by decide +kernel, rfl⟩
theorem d_4_init_22 : zD prog_6_method_1_code 22 (.aload_n 0) 1 23 := ⟨by decide +kernel, rfl⟩
theorem d_4_init_23 : zD prog_6_method_1_code 23 (.bipush 7) 2 25 := ⟨by decide +kernel, rfl⟩
theorem d_4_init_25 : zD prog_6_method_1_code 25 (.newarray .long) 2 27 := ⟨by decide +kernel, rfl⟩
theorem d_4_init_27 : zD prog_6_method_1_code 27 (.putfield 22) 3 30 := ⟨by decide +kernel, rfl⟩
theorem d_4_init_30 : zD prog_6_method_1_code 30 (.aload_n 0) 1 31 := ⟨by decide +kernel, rfl⟩
theorem d_4_init_31 : zD prog_6_method_1_code 31 (.new 25) 3 34 := ⟨by decide +kernel, rfl⟩
theorem d_4_init_34 : zD prog_6_method_1_code 34 (.dup) 1 35 := ⟨by decide +kernel, rfl⟩
theorem d_4_init_35 : zD prog_6_method_1_code 35 (.invokespecial 27) 3 38 := ⟨by decide +kernel, rfl⟩
theorem d_4_init_38 : zD prog_6_method_1_code 38 (.putfield 28) 3 41 := ⟨by decide +kernel, rfl⟩
theorem d_4_init_41 : zD prog_6_method_1_code 41 (.aload_n 0) 1 42 := ⟨by decide +kernel, rfl⟩
theorem d_4_init_42 : zD prog_6_method_1_code 42 (.iconst 0) 1 43 := ⟨by decide +kernel, rfl⟩
theorem d_4_init_43 : zD prog_6_method_1_code 43 (.putfield 32) 3 46 := ⟨by decide +kernel, rfl⟩
theorem d_4_init_46 : zD prog_6_method_1_code 46 (.aload_n 0) 1 47 := ⟨by decide +kernel, rfl⟩
theorem d_4_init_47 : zD prog_6_method_1_code 47 (.iconst 0) 1 48 := ⟨by decide +kernel, rfl⟩
theorem d_4_init_48 : zD prog_6_method_1_code 48 (.putfield 36) 3 51 := ⟨by decide +kernel, rfl⟩
theorem d_4_init_51 : zD prog_6_method_1_code 51 (.aload_n 0) 1 52 := ⟨by decide +kernel, rfl⟩
theorem d_4_init_52 : zD prog_6_method_1_code 52 (.iconst 0) 1 53 := ⟨by decide +kernel, rfl⟩
theorem d_4_init_53 : zD prog_6_method_1_code 53 (.putfield 39) 3 56 := ⟨by decide +kernel, rfl⟩
theorem d_4_init_56 : zD prog_6_method_1_code 56 (.aload_n 0) 1 57 := ⟨by decide +kernel, rfl⟩
theorem d_4_init_57 : zD prog_6_method_1_code 57 (.iconst 0) 1 58 := ⟨by decide +kernel, rfl⟩
theorem d_4_init_58 : zD prog_6_method_1_code 58 (.putfield 42) 3 61 := ⟨by decide +kernel, rfl⟩
theorem d_4_init_61 : zD prog_6_method_1_code 61 (.aload_n 0) 1 62 := ⟨by decide +kernel, rfl⟩
theorem d_4_init_62 : zD prog_6_method_1_code 62 (.iconst (-1)) 1 63 := ⟨by decide +kernel, rfl⟩
theorem d_4_init_63 : zD prog_6_method_1_code 63 (.putfield 45) 3 66 := ⟨by decide +kernel, rfl⟩
theorem d_4_init_66 : zD prog_6_method_1_code 66 (.aload_n 0) 1 67 := ⟨by decide +kernel, rfl⟩
theorem d_4_init_67 : zD prog_6_method_1_code 67 (.iconst 0) 1 68 := ⟨by decide +kernel, rfl⟩
theorem d_4_init_68 : zD prog_6_method_1_code 68 (.putfield 48) 3 71 := ⟨by decide +kernel, rfl⟩
theorem d_4_init_71 : zD prog_6_method_1_code 71 (.aload_n 0) 1 72 := ⟨by decide +kernel, rfl⟩
theorem d_4_init_72 : zD prog_6_method_1_code 72 (.iconst (-1)) 1 73 := ⟨by decide +kernel, rfl⟩
theorem d_4_init_73 : zD prog_6_method_1_code 73 (.putfield 51) 3 76 := ⟨by decide +kernel, rfl⟩
theorem d_4_init_76 : zD prog_6_method_1_code 76 (.return_) 1 77 := ⟨by decide +kernel, rfl⟩
def zk_c4 (P : zP) (b : Nat) : List va_E := .inr (4, [.ref (b + 1), .ref (b + 6), .ref (b + 7), .ref (b + 8), .int (0 : Int32), .int (0 : Int32), .int (0 : Int32), .int (0 : Int32), .int (-1 : Int32), .int (0 : Int32), .int (-1 : Int32)]) :: (((([] ++ zk_c7 P (b + 1)) ++ [zk_z P 3 5]) ++ [zk_z P 3 7]) ++ zk_c6 P (b + 8))
theorem k4 (P : zP) (b : Nat) : z_Kt P b y_4_init M_4_init 7 14 1663 (.inr (4, [.null, .null, .null, .null, .int 0, .int 0, .int 0, .int 0, .int 0, .int 0, .int 0])) (zk_c4 P b) := by
  refine z_Kt.of (plainFor_of_name (by decide)) rfl rfl (by decide) ?_
  refine zg_aload_n (i := 0) d_4_init_0 rfl rfl ?_
  refine zk_objInit d_4_init_1 ml_4_3 oi_inst oi_code (by decide) (by decide) ?_
  refine zg_aload_n (i := 0) d_4_init_4 rfl rfl ?_
  refine zk_new (ci := 7) d_4_init_5 rfl cl_4_9 ist_7 ini_7 z_df7 (k := 1) rfl (by decide) (by decide) ?_
  refine z_RGc (cs' := .inr (4, [.null, .null, .null, .null, .int 0, .int 0, .int 0, .int 0, .int 0, .int 0, .int 0]) :: ([] ++ [.inr (7, [.null, .null, .null, .null, .int 0, .int 0])])) rfl ?_
  refine zg_dupa d_4_init_8 ?_
  refine zk_childN (cs0 := .inr (4, [.null, .null, .null, .null, .int 0, .int 0, .int 0, .int 0, .int 0, .int 0, .int 0]) :: []) (raw := .inr (7, [.null, .null, .null, .null, .int 0, .int 0])) (cs' := .inr (4, [.null, .null, .null, .null, .int 0, .int 0, .int 0, .int 0, .int 0, .int 0, .int 0]) :: ([] ++ zk_c7 P (b + 1))) (k := 1) (fun _ _ h => h.2) d_4_init_9 mw_7_init rfl nl_4_11 im_7_init rfl rfl rfl (by decide) ⟨by decide, by decide⟩ ⟨(by decide), (by decide)⟩ (k7 P (b + 1)) rfl ?_
  refine zk_put (j := 0) (k := 0) (cs' := .inr (4, [.ref (b + 1), .null, .null, .null, .int 0, .int 0, .int 0, .int 0, .int 0, .int 0, .int 0]) :: ([] ++ zk_c7 P (b + 1))) (fun _ _ h => h.1) d_4_init_12 rfl rfl (by decide) fl_4_12 rfl (z_ty4 0 (by decide)) rfl rfl (Nat.le_of_ble_eq_true rfl) rfl ?_
  refine zg_aload_n (i := 0) d_4_init_15 rfl rfl ?_
  refine zg_iconst (v := (5 : Int32)) d_4_init_16 rfl ?_
  refine zk_newa (at_ := .long) (t := 3) (N := 5) d_4_init_17 ac_3 rfl (fun c h => by cases h) (z_hc3 5) (by decide) rfl (by decide) (k := 6) rfl (by decide) (by decide) ?_
  refine z_RGc (cs' := .inr (4, [.ref (b + 1), .null, .null, .null, .int 0, .int 0, .int 0, .int 0, .int 0, .int 0, .int 0]) :: (([] ++ zk_c7 P (b + 1)) ++ [zk_z P 3 5])) rfl ?_
  refine zk_put (j := 0) (k := 1) (cs' := .inr (4, [.ref (b + 1), .ref (b + 6), .null, .null, .int 0, .int 0, .int 0, .int 0, .int 0, .int 0, .int 0]) :: (([] ++ zk_c7 P (b + 1)) ++ [zk_z P 3 5])) (fun _ _ h => h.1) d_4_init_19 rfl rfl (by decide) fl_4_18 rfl (z_ty4 1 (by decide)) rfl rfl (Nat.le_of_ble_eq_true rfl) rfl ?_
  refine zg_aload_n (i := 0) d_4_init_22 rfl rfl ?_
  refine zg_bipush (v := (7 : Int32)) d_4_init_23 rfl ?_
  refine zk_newa (at_ := .long) (t := 3) (N := 7) d_4_init_25 ac_3 rfl (fun c h => by cases h) (z_hc3 7) (by decide) rfl (by decide) (k := 7) rfl (by decide) (by decide) ?_
  refine z_RGc (cs' := .inr (4, [.ref (b + 1), .ref (b + 6), .null, .null, .int 0, .int 0, .int 0, .int 0, .int 0, .int 0, .int 0]) :: ((([] ++ zk_c7 P (b + 1)) ++ [zk_z P 3 5]) ++ [zk_z P 3 7])) rfl ?_
  refine zk_put (j := 0) (k := 2) (cs' := .inr (4, [.ref (b + 1), .ref (b + 6), .ref (b + 7), .null, .int 0, .int 0, .int 0, .int 0, .int 0, .int 0, .int 0]) :: ((([] ++ zk_c7 P (b + 1)) ++ [zk_z P 3 5]) ++ [zk_z P 3 7])) (fun _ _ h => h.1) d_4_init_27 rfl rfl (by decide) fl_4_22 rfl (z_ty4 2 (by decide)) rfl rfl (Nat.le_of_ble_eq_true rfl) rfl ?_
  refine zg_aload_n (i := 0) d_4_init_30 rfl rfl ?_
  refine zk_new (ci := 6) d_4_init_31 rfl cl_4_25 ist_6 ini_6 z_df6 (k := 8) rfl (by decide) (by decide) ?_
  refine z_RGc (cs' := .inr (4, [.ref (b + 1), .ref (b + 6), .ref (b + 7), .null, .int 0, .int 0, .int 0, .int 0, .int 0, .int 0, .int 0]) :: (((([] ++ zk_c7 P (b + 1)) ++ [zk_z P 3 5]) ++ [zk_z P 3 7]) ++ [.inr (6, [.int 0, .int 0, .int 0, .null, .null, .null, .null, .null, .null, .int 0])])) rfl ?_
  refine zg_dupa d_4_init_34 ?_
  refine zk_childI (cs0 := .inr (4, [.ref (b + 1), .ref (b + 6), .ref (b + 7), .null, .int 0, .int 0, .int 0, .int 0, .int 0, .int 0, .int 0]) :: ((([] ++ zk_c7 P (b + 1)) ++ [zk_z P 3 5]) ++ [zk_z P 3 7])) (raw := .inr (6, [.int 0, .int 0, .int 0, .null, .null, .null, .null, .null, .null, .int 0])) (cs' := .inr (4, [.ref (b + 1), .ref (b + 6), .ref (b + 7), .null, .int 0, .int 0, .int 0, .int 0, .int 0, .int 0, .int 0]) :: (((([] ++ zk_c7 P (b + 1)) ++ [zk_z P 3 5]) ++ [zk_z P 3 7]) ++ zk_c6 P (b + 8))) (k := 8) (fun _ _ h => h.2) d_4_init_35 mw_6_init rfl ml_4_27 im_6_init rfl rfl rfl (by decide) ⟨by decide, by decide⟩ ⟨(by decide), (by decide)⟩ (k6 P (b + 8)) rfl ?_
  refine zk_put (j := 0) (k := 3) (cs' := .inr (4, [.ref (b + 1), .ref (b + 6), .ref (b + 7), .ref (b + 8), .int 0, .int 0, .int 0, .int 0, .int 0, .int 0, .int 0]) :: (((([] ++ zk_c7 P (b + 1)) ++ [zk_z P 3 5]) ++ [zk_z P 3 7]) ++ zk_c6 P (b + 8))) (fun _ _ h => h.1) d_4_init_38 rfl rfl (by decide) fl_4_28 rfl (z_ty4 3 (by decide)) rfl rfl (Nat.le_of_ble_eq_true rfl) rfl ?_
  refine zg_aload_n (i := 0) d_4_init_41 rfl rfl ?_
  refine zg_iconst (v := (0 : Int32)) d_4_init_42 rfl ?_
  refine zk_put (j := 0) (k := 4) (cs' := .inr (4, [.ref (b + 1), .ref (b + 6), .ref (b + 7), .ref (b + 8), .int (0 : Int32), .int 0, .int 0, .int 0, .int 0, .int 0, .int 0]) :: (((([] ++ zk_c7 P (b + 1)) ++ [zk_z P 3 5]) ++ [zk_z P 3 7]) ++ zk_c6 P (b + 8))) (fun _ _ h => h.1) d_4_init_43 rfl rfl (by decide) fl_4_32 rfl (z_ty4 4 (by decide)) rfl rfl (Nat.le_of_ble_eq_true rfl) rfl ?_
  refine zg_aload_n (i := 0) d_4_init_46 rfl rfl ?_
  refine zg_iconst (v := (0 : Int32)) d_4_init_47 rfl ?_
  refine zk_put (j := 0) (k := 5) (cs' := .inr (4, [.ref (b + 1), .ref (b + 6), .ref (b + 7), .ref (b + 8), .int (0 : Int32), .int (0 : Int32), .int 0, .int 0, .int 0, .int 0, .int 0]) :: (((([] ++ zk_c7 P (b + 1)) ++ [zk_z P 3 5]) ++ [zk_z P 3 7]) ++ zk_c6 P (b + 8))) (fun _ _ h => h.1) d_4_init_48 rfl rfl (by decide) fl_4_36 rfl (z_ty4 5 (by decide)) rfl rfl (Nat.le_of_ble_eq_true rfl) rfl ?_
  refine zg_aload_n (i := 0) d_4_init_51 rfl rfl ?_
  refine zg_iconst (v := (0 : Int32)) d_4_init_52 rfl ?_
  refine zk_put (j := 0) (k := 6) (cs' := .inr (4, [.ref (b + 1), .ref (b + 6), .ref (b + 7), .ref (b + 8), .int (0 : Int32), .int (0 : Int32), .int (0 : Int32), .int 0, .int 0, .int 0, .int 0]) :: (((([] ++ zk_c7 P (b + 1)) ++ [zk_z P 3 5]) ++ [zk_z P 3 7]) ++ zk_c6 P (b + 8))) (fun _ _ h => h.1) d_4_init_53 rfl rfl (by decide) fl_4_39 rfl (z_ty4 6 (by decide)) rfl rfl (Nat.le_of_ble_eq_true rfl) rfl ?_
  refine zg_aload_n (i := 0) d_4_init_56 rfl rfl ?_
  refine zg_iconst (v := (0 : Int32)) d_4_init_57 rfl ?_
  refine zk_put (j := 0) (k := 7) (cs' := .inr (4, [.ref (b + 1), .ref (b + 6), .ref (b + 7), .ref (b + 8), .int (0 : Int32), .int (0 : Int32), .int (0 : Int32), .int (0 : Int32), .int 0, .int 0, .int 0]) :: (((([] ++ zk_c7 P (b + 1)) ++ [zk_z P 3 5]) ++ [zk_z P 3 7]) ++ zk_c6 P (b + 8))) (fun _ _ h => h.1) d_4_init_58 rfl rfl (by decide) fl_4_42 rfl (z_ty4 7 (by decide)) rfl rfl (Nat.le_of_ble_eq_true rfl) rfl ?_
  refine zg_aload_n (i := 0) d_4_init_61 rfl rfl ?_
  refine zg_iconst (v := (-1 : Int32)) d_4_init_62 rfl ?_
  refine zk_put (j := 0) (k := 8) (cs' := .inr (4, [.ref (b + 1), .ref (b + 6), .ref (b + 7), .ref (b + 8), .int (0 : Int32), .int (0 : Int32), .int (0 : Int32), .int (0 : Int32), .int (-1 : Int32), .int 0, .int 0]) :: (((([] ++ zk_c7 P (b + 1)) ++ [zk_z P 3 5]) ++ [zk_z P 3 7]) ++ zk_c6 P (b + 8))) (fun _ _ h => h.1) d_4_init_63 rfl rfl (by decide) fl_4_45 rfl (z_ty4 8 (by decide)) rfl rfl (Nat.le_of_ble_eq_true rfl) rfl ?_
  refine zg_aload_n (i := 0) d_4_init_66 rfl rfl ?_
  refine zg_iconst (v := (0 : Int32)) d_4_init_67 rfl ?_
  refine zk_put (j := 0) (k := 9) (cs' := .inr (4, [.ref (b + 1), .ref (b + 6), .ref (b + 7), .ref (b + 8), .int (0 : Int32), .int (0 : Int32), .int (0 : Int32), .int (0 : Int32), .int (-1 : Int32), .int (0 : Int32), .int 0]) :: (((([] ++ zk_c7 P (b + 1)) ++ [zk_z P 3 5]) ++ [zk_z P 3 7]) ++ zk_c6 P (b + 8))) (fun _ _ h => h.1) d_4_init_68 rfl rfl (by decide) fl_4_48 rfl (z_ty4 9 (by decide)) rfl rfl (Nat.le_of_ble_eq_true rfl) rfl ?_
  refine zg_aload_n (i := 0) d_4_init_71 rfl rfl ?_
  refine zg_iconst (v := (-1 : Int32)) d_4_init_72 rfl ?_
  refine zk_put (j := 0) (k := 10) (cs' := .inr (4, [.ref (b + 1), .ref (b + 6), .ref (b + 7), .ref (b + 8), .int (0 : Int32), .int (0 : Int32), .int (0 : Int32), .int (0 : Int32), .int (-1 : Int32), .int (0 : Int32), .int (-1 : Int32)]) :: (((([] ++ zk_c7 P (b + 1)) ++ [zk_z P 3 5]) ++ [zk_z P 3 7]) ++ zk_c6 P (b + 8))) (fun _ _ h => h.1) d_4_init_73 rfl rfl (by decide) fl_4_51 rfl (z_ty4 10 (by decide)) rfl rfl (Nat.le_of_ble_eq_true rfl) rfl ?_
  exact zk_ret d_4_init_76 rfl
theorem zk_l4 (P : zP) (b : Nat) : (zk_c4 P b).length = 15 := by
  unfold zk_c4
  simp only [List.length_cons, List.length_append, List.length_nil, zk_l7, zk_l6]
theorem ml_3_1 : Cond.methodLink zR3 1 objectInit ∈ lw_gd := z_m1 (List.mem_of_getElem? (i := 222) rfl) rfl
theorem cl_3_9 : Cond.classLink zR3 9 zR5 ∈ lw_gd := z_m1 (List.mem_of_getElem? (i := 223) rfl) rfl
theorem fl_3_11 : Cond.fieldLink zR3 11 (zT3 0).1 (zT3 0).2.1 (zT3 0).2.2.1 ∈ lw_gd := z_m1 (List.mem_of_getElem? (i := 226) rfl) rfl
theorem fl_3_15 : Cond.fieldLink zR3 15 (zT3 1).1 (zT3 1).2.1 (zT3 1).2.2.1 ∈ lw_gd := z_m1 (List.mem_of_getElem? (i := 227) rfl) rfl
theorem fl_3_19 : Cond.fieldLink zR3 19 (zT3 2).1 (zT3 2).2.1 (zT3 2).2.2.1 ∈ lw_gd := z_m1 (List.mem_of_getElem? (i := 228) rfl) rfl
theorem d_3_init_0 : zD prog_5_method_1_code 0 (.aload_n 0) 1 1 := ⟨by decide +kernel, rfl⟩
theorem d_3_init_1 : zD prog_5_method_1_code 1 (.invokespecial 1) 3 4 := ⟨by decide +kernel, rfl⟩
theorem d_3_init_4 : zD prog_5_method_1_code 4 (.aload_n 0) 1 5 := ⟨by decide +kernel, rfl⟩
theorem d_3_init_5 : zD prog_5_method_1_code 5 (.bipush 40) 2 7 := ⟨by decide +kernel, rfl⟩
theorem d_3_init_7 : zD prog_5_method_1_code 7 (.anewarray 9) 3 10 := ⟨by decide +kernel, rfl⟩
theorem d_3_init_10 : zD prog_5_method_1_code 10 (.putfield 11) 3 13 := ⟨by decide +kernel, rfl⟩
theorem d_3_init_13 : zD prog_5_method_1_code 13 (.aload_n 0) 1 14 := ⟨by decide +kernel, rfl⟩
theorem d_3_init_14 : zD prog_5_method_1_code 14 (.iconst 0) 1 15 := ⟨by decide +kernel, rfl⟩
theorem d_3_init_15 : zD prog_5_method_1_code 15 (.putfield 15) 3 18 := ⟨by decide +kernel, rfl⟩
theorem d_3_init_18 : zD prog_5_method_1_code 18 (.aload_n 0) 1 19 := ⟨by decide +kernel, rfl⟩
theorem d_3_init_19 : zD prog_5_method_1_code 19 (.iconst 0) 1 20 := ⟨by decide +kernel, rfl⟩
theorem d_3_init_20 : zD prog_5_method_1_code 20 (.putfield 19) 3 23 := ⟨by decide +kernel, rfl⟩
theorem d_3_init_23 : zD prog_5_method_1_code 23 (.iconst 0) 1 24 := ⟨by decide +kernel, rfl⟩
theorem d_3_init_24 : zD prog_5_method_1_code 24 (.istore_n 1) 1 25 := ⟨by decide +kernel, rfl⟩
theorem d_3_init_25 : zD prog_5_method_1_code 25 (.iload_n 1) 1 26 := ⟨by decide +kernel, rfl⟩
theorem d_3_init_26 : zD prog_5_method_1_code 26 (.bipush 40) 2 28 := ⟨by decide +kernel, rfl⟩
theorem d_3_init_28 : zD prog_5_method_1_code 28 (.if_icmp .ge 22) 3 31 := ⟨by decide +kernel, rfl⟩
theorem d_3_init_31 : zD prog_5_method_1_code 31 (.aload_n 0) 1 32 := ⟨by decide +kernel, rfl⟩
theorem d_3_init_32 : zD prog_5_method_1_code 32 (.getfield 11) 3 35 := ⟨by decide +kernel, rfl⟩
theorem d_3_init_35 : zD prog_5_method_1_code 35 (.iload_n 1) 1 36 := ⟨by decide +kernel, rfl⟩
theorem d_3_init_36 : zD prog_5_method_1_code 36 (.new 9) 3 39 := ⟨by decide +kernel, rfl⟩
theorem d_3_init_39 : zD prog_5_method_1_code 39 (.dup) 1 40 := ⟨by decide +kernel, rfl⟩
theorem d_3_init_40 : zD prog_5_method_1_code 40 (.invokespecial 22) 3 43 := ⟨by decide +kernel, rfl⟩
theorem d_3_init_43 : zD prog_5_method_1_code 43 (.aastore) 1 44 := ⟨by decide +kernel, rfl⟩
theorem d_3_init_44 : zD prog_5_method_1_code 44 (.iinc 1 1) 3 47 := ⟨by decide +kernel, rfl⟩
theorem d_3_init_47 : zD prog_5_method_1_code 47 (.goto (-22)) 3 50 := ⟨by decide +kernel, rfl⟩
theorem d_3_init_50 : zD prog_5_method_1_code 50 (.return_) 1 51 := ⟨by decide +kernel, rfl⟩
theorem nl_3_22 : (zR3, 22, y_5_init, "AbsentLords") ∈ z_nest := List.mem_of_getElem? (i := 3) rfl
theorem mw_5_init : z_MW y_5_init M_5_init 0 := ⟨z_m1 (List.mem_of_getElem? (i := 5) rfl) rfl, z_m1 (List.mem_of_getElem? (i := 175) rfl) rfl, by decide, by decide, by decide +kernel⟩
theorem im_5_init : Cond.instanceMethod y_5_init ∈ lw_gd := z_m1 (List.mem_of_getElem? (i := 174) rfl) rfl
theorem ist_5 : Cond.instantiable zR5 7 ∈ lw_gd := z_m1 (List.mem_of_getElem? (i := 172) rfl) rfl
theorem ini_5 : Cond.initialized zR5 ∈ lw_gd := z_m1 (List.mem_of_getElem? (i := 5) rfl) rfl
theorem z_df5 : ∀ ty : Nat → FieldType, (∀ k, k < 7 → parseFieldDescriptor (zT5 k).2.2.1 = some (ty k)) → ∀ j, j < 7 → defaultValue (ty j) = vp_V [.int 0, .int 0, .int 0, .null, .null, .null, .null] j := by
  intro ty h j hj
  have e : ty j = zt5 j := Option.some.inj ((h j hj).symm.trans (z_ty5 j hj))
  rw [e]
  match j, hj with
  | 0, _ => rfl
  | 1, _ => rfl
  | 2, _ => rfl
  | 3, _ => rfl
  | 4, _ => rfl
  | 5, _ => rfl
  | 6, _ => rfl
  | j + 7, h => exact absurd h (by omega)
def zk_pr (b i : Nat) : Nat → Option Nat := fun k => if k < i then some (b + (2 + 5 * k)) else none
def zk_pf (P : zP) (b i : Nat) : List va_E := (List.range i).flatMap fun j => zk_c5 P (b + (2 + 5 * j))
def zk_pc (P : zP) (b i : Nat) : List va_E := .inr (3, [.ref (b + 1), .int (0 : Int32), .int (0 : Int32)]) :: .inl (z_cA P 4, 40, .inr (.inr (.inr (.inr (zk_pr b i))))) :: zk_pf P b i
theorem zk_pf_s (P : zP) (b i : Nat) : zk_pf P b (i + 1) = zk_pf P b i ++ zk_c5 P (b + (2 + 5 * i)) := by
  unfold zk_pf
  rw [List.range_succ, List.flatMap_append]
  simp
theorem zk_pf_l (P : zP) (b : Nat) : ∀ i, (zk_pf P b i).length = 5 * i
  | 0 => rfl
  | i + 1 => by
    rw [zk_pf_s, List.length_append, zk_pf_l P b i]
    rfl
def zk_c3 (P : zP) (b : Nat) : List va_E := zk_pc P b 40
theorem zk_pr_s (b i : Nat) : va_up (zk_pr b i) i (some (b + (2 + 5 * i))) = zk_pr b (i + 1) := by
  funext k
  unfold va_up zk_pr
  by_cases h : k = i
  · subst h
    rw [if_pos rfl, if_pos (by omega)]
  · rw [if_neg h]
    by_cases h2 : k < i
    · rw [if_pos h2, if_pos (by omega)]
    · rw [if_neg h2, if_neg (by omega)]
theorem k3_loop (P : zP) (b : Nat) : ∀ (d i : Nat), i + d = 40 → z_RG (zk_P P b) (zk_X P b) M_3_init (z_rmK 4 201 1360) (zk_F P b (zk_c3 P b) 201 1360) (1 + 5 * i) (40 + 33 * i) 25 [some (zA 0 0), some (zI (nI i))] [] (zk_H P b (zk_pc P b i))
  | 0, i, hi => by
    have : i = 40 := by omega
    subst this
    refine zg_iload_n (i := 1) d_3_init_25 rfl rfl ?_
    refine zg_bipush (v := (40 : Int32)) d_3_init_26 rfl ?_
    refine zg_icmp_ge (tgt := 50) d_3_init_28 rfl (fun h => absurd h (by decide)) (fun _ => ?_)
    exact zk_ret d_3_init_50 rfl
  | d + 1, i, hi => by
    have hl : (zk_pc P b i).length = 2 + 5 * i := by
      unfold zk_pc
      rw [List.length_cons, List.length_cons, zk_pf_l]
      omega
    refine zg_iload_n (i := 1) d_3_init_25 rfl rfl ?_
    refine zg_bipush (v := (40 : Int32)) d_3_init_26 rfl ?_
    refine zg_icmp_ge (tgt := 50) d_3_init_28 rfl (fun _ => ?_) (fun h => absurd (nI_lt (a := i) (b := 40) (by omega) (by decide)) h)
    refine zg_aload_n (i := 0) d_3_init_31 rfl rfl ?_
    refine zk_get (k := 0) (i := 1) d_3_init_32 rfl rfl (by decide) fl_3_11 rfl ?_
    refine zg_iload_n (i := 1) d_3_init_35 rfl rfl ?_
    refine zk_new (ci := 5) d_3_init_36 rfl cl_3_9 ist_5 ini_5 z_df5 (k := 2 + 5 * i) hl (by show 1 + 5 * i + 1 ≤ 201; omega) (by show 40 + 33 * i + 7 ≤ 1360; omega) ?_
    refine zg_dupa d_3_init_39 ?_
    refine zk_childN (cs0 := zk_pc P b i) (raw := .inr (5, [.int 0, .int 0, .int 0, .null, .null, .null, .null])) (cs' := zk_pc P b i ++ zk_c5 P (b + (2 + 5 * i))) (k := 2 + 5 * i) (fun _ _ h => h.2) d_3_init_40 mw_5_init rfl nl_3_22 im_5_init rfl rfl hl (Nat.le_of_ble_eq_true rfl) ⟨by decide, by decide⟩ ⟨by show 1 + 5 * i + 1 + 4 ≤ 201; omega, by show 40 + 33 * i + 7 + 26 ≤ 1360; omega⟩ (k5 P (b + (2 + 5 * i))) rfl ?_
    refine zk_aast (j := 1) (v := 2 + 5 * i) (vs := [.int (0 : Int32), .int (0 : Int32), .int (0 : Int32), .ref (b + (2 + 5 * i) + 1), .ref (b + (2 + 5 * i) + 2), .ref (b + (2 + 5 * i) + 3), .ref (b + (2 + 5 * i) + 4)]) (f := zk_pr b i) (n := 40) (cs' := zk_pc P b (i + 1)) d_3_init_43 rfl ?_ (z_in_n (by omega) (by decide)) ?_ ?_
    · rw [List.getElem?_append_right (by omega), hl, Nat.sub_self]
      rfl
    · show .inr (3, _) :: .inl (z_cA P 4, 40, .inr (.inr (.inr (.inr _)))) :: (zk_pf P b i ++ zk_c5 P (b + (2 + 5 * i))) = _
      rw [← zk_pf_s, nI_clamp (by omega), zk_pr_s]
      rfl
    refine zg_iinc (v := nI (i + 1)) (l' := [some (zA 0 0), some (zI (nI (i + 1)))]) d_3_init_44 (by decide) rfl (nI_1 i) rfl ?_
    refine zg_goto (tgt := 25) d_3_init_47 rfl ?_
    have ih := k3_loop P b d (i + 1) (by omega)
    rw [show 1 + 5 * (i + 1) = 1 + 5 * i + 1 + 4 by omega, show 40 + 33 * (i + 1) = 40 + 33 * i + 7 + 26 by omega] at ih
    exact ih
theorem k3 (P : zP) (b : Nat) : z_Kt P b y_3_init M_3_init 4 201 1360 (.inr (3, [.null, .int 0, .int 0])) (zk_c3 P b) := by
  refine z_Kt.of (plainFor_of_name (by decide)) rfl rfl (by decide) ?_
  refine zg_aload_n (i := 0) d_3_init_0 rfl rfl ?_
  refine zk_objInit d_3_init_1 ml_3_1 oi_inst oi_code (by decide) (by decide) ?_
  refine zg_aload_n (i := 0) d_3_init_4 rfl rfl ?_
  refine zg_bipush (v := (40 : Int32)) d_3_init_5 rfl ?_
  refine zk_anewa (N := 40) (fun _ _ h => h.2.1) d_3_init_7 cl_3_9 (by decide) rfl (by decide) (k := 1) rfl (by decide) (by decide) ?_
  refine z_RGc (cs' := .inr (3, [.null, .int 0, .int 0]) :: ([] ++ [.inl (z_cA P 4, 40, .inr (.inr (.inr (.inr (fun _ => none)))))])) rfl ?_
  refine zk_put (j := 0) (k := 0) (cs' := .inr (3, [.ref (b + 1), .int 0, .int 0]) :: ([] ++ [.inl (z_cA P 4, 40, .inr (.inr (.inr (.inr (fun _ => none)))))])) (fun _ _ h => h.1) d_3_init_10 rfl rfl (by decide) fl_3_11 rfl (z_ty3 0 (by decide)) rfl rfl (Nat.le_of_ble_eq_true rfl) rfl ?_
  refine zg_aload_n (i := 0) d_3_init_13 rfl rfl ?_
  refine zg_iconst (v := (0 : Int32)) d_3_init_14 rfl ?_
  refine zk_put (j := 0) (k := 1) (cs' := .inr (3, [.ref (b + 1), .int (0 : Int32), .int 0]) :: ([] ++ [.inl (z_cA P 4, 40, .inr (.inr (.inr (.inr (fun _ => none)))))])) (fun _ _ h => h.1) d_3_init_15 rfl rfl (by decide) fl_3_15 rfl (z_ty3 1 (by decide)) rfl rfl (Nat.le_of_ble_eq_true rfl) rfl ?_
  refine zg_aload_n (i := 0) d_3_init_18 rfl rfl ?_
  refine zg_iconst (v := (0 : Int32)) d_3_init_19 rfl ?_
  refine zk_put (j := 0) (k := 2) (cs' := .inr (3, [.ref (b + 1), .int (0 : Int32), .int (0 : Int32)]) :: ([] ++ [.inl (z_cA P 4, 40, .inr (.inr (.inr (.inr (fun _ => none)))))])) (fun _ _ h => h.1) d_3_init_20 rfl rfl (by decide) fl_3_19 rfl (z_ty3 2 (by decide)) rfl rfl (Nat.le_of_ble_eq_true rfl) rfl ?_
  refine zg_iconst (v := (0 : Int32)) d_3_init_23 rfl ?_
  refine zg_istore_n (i := 1) (l' := [some (zA 0 0), some (zI (nI 0))]) d_3_init_24 rfl (by decide) rfl ?_
  refine z_RGc (cs' := zk_pc P b 0) ?_ (k3_loop P b 40 0 rfl)
  have e : (fun _ => none : Nat → Option Nat) = zk_pr b 0 := by
    funext k
    unfold zk_pr
    rw [if_neg (by omega)]
  rw [e]
  rfl
theorem zk_l3 (P : zP) (b : Nat) : (zk_c3 P b).length = 202 := by
  unfold zk_c3 zk_pc
  rw [List.length_cons, List.length_cons, zk_pf_l]
theorem ml_8_1 : Cond.methodLink zR8 1 objectInit ∈ lw_gd := z_m1 (List.mem_of_getElem? (i := 24) rfl) rfl
theorem fl_8_9 : Cond.fieldLink zR8 9 (zT8 0).1 (zT8 0).2.1 (zT8 0).2.2.1 ∈ lw_gd := z_m2 (List.mem_of_getElem? (i := 60) rfl) rfl
theorem fl_8_13 : Cond.fieldLink zR8 13 (zT8 1).1 (zT8 1).2.1 (zT8 1).2.2.1 ∈ lw_gd := z_m2 (List.mem_of_getElem? (i := 61) rfl) rfl
theorem cl_8_17 : Cond.classLink zR8 17 zR4 ∈ lw_gd := z_m1 (List.mem_of_getElem? (i := 27) rfl) rfl
theorem ist_4 : Cond.instantiable zR4 11 ∈ lw_gd := z_m1 (List.mem_of_getElem? (i := 28) rfl) rfl
theorem ini_4 : Cond.initialized zR4 ∈ lw_gd := z_m1 (List.mem_of_getElem? (i := 2) rfl) rfl
theorem z_df4 : ∀ ty : Nat → FieldType, (∀ k, k < 11 → parseFieldDescriptor (zT4 k).2.2.1 = some (ty k)) → ∀ j, j < 11 → defaultValue (ty j) = vp_V [.null, .null, .null, .null, .int 0, .int 0, .int 0, .int 0, .int 0, .int 0, .int 0] j := by
  intro ty h j hj
  have e : ty j = zt4 j := Option.some.inj ((h j hj).symm.trans (z_ty4 j hj))
  rw [e]
  match j, hj with
  | 0, _ => rfl
  | 1, _ => rfl
  | 2, _ => rfl
  | 3, _ => rfl
  | 4, _ => rfl
  | 5, _ => rfl
  | 6, _ => rfl
  | 7, _ => rfl
  | 8, _ => rfl
  | 9, _ => rfl
  | 10, _ => rfl
  | j + 11, h => exact absurd h (by omega)
theorem mw_4_init : z_MW y_4_init M_4_init 0 := ⟨z_m1 (List.mem_of_getElem? (i := 2) rfl) rfl, z_m1 (List.mem_of_getElem? (i := 31) rfl) rfl, by decide, by decide, by decide +kernel⟩
theorem im_4_init : Cond.instanceMethod y_4_init ∈ lw_gd := z_m1 (List.mem_of_getElem? (i := 30) rfl) rfl
theorem nl_8_19 : (zR8, 19, y_4_init, "AbsentLords") ∈ z_nest := List.mem_of_getElem? (i := 0) rfl
theorem fl_8_20 : Cond.fieldLink zR8 20 (zT8 2).1 (zT8 2).2.1 (zT8 2).2.2.1 ∈ lw_gd := z_m2 (List.mem_of_getElem? (i := 62) rfl) rfl
theorem cl_8_24 : Cond.classLink zR8 24 zR6 ∈ lw_gd := z_m1 (List.mem_of_getElem? (i := 169) rfl) rfl
theorem ml_8_26 : Cond.methodLink zR8 26 y_6_init ∈ lw_gd := z_m1 (List.mem_of_getElem? (i := 170) rfl) rfl
theorem fl_8_27 : Cond.fieldLink zR8 27 (zT8 3).1 (zT8 3).2.1 (zT8 3).2.2.1 ∈ lw_gd := z_m2 (List.mem_of_getElem? (i := 63) rfl) rfl
theorem cl_8_31 : Cond.classLink zR8 31 zR5 ∈ lw_gd := z_m1 (List.mem_of_getElem? (i := 171) rfl) rfl
theorem nl_8_33 : (zR8, 33, y_5_init, "AbsentLords") ∈ z_nest := List.mem_of_getElem? (i := 2) rfl
theorem fl_8_34 : Cond.fieldLink zR8 34 (zT8 4).1 (zT8 4).2.1 (zT8 4).2.2.1 ∈ lw_gd := z_m2 (List.mem_of_getElem? (i := 64) rfl) rfl
theorem fl_8_38 : Cond.fieldLink zR8 38 (zT8 5).1 (zT8 5).2.1 (zT8 5).2.2.1 ∈ lw_gd := z_m2 (List.mem_of_getElem? (i := 65) rfl) rfl
theorem fl_8_41 : Cond.fieldLink zR8 41 (zT8 6).1 (zT8 6).2.1 (zT8 6).2.2.1 ∈ lw_gd := z_m2 (List.mem_of_getElem? (i := 66) rfl) rfl
theorem fl_8_44 : Cond.fieldLink zR8 44 (zT8 7).1 (zT8 7).2.1 (zT8 7).2.2.1 ∈ lw_gd := z_m2 (List.mem_of_getElem? (i := 67) rfl) rfl
theorem fl_8_48 : Cond.fieldLink zR8 48 (zT8 8).1 (zT8 8).2.1 (zT8 8).2.2.1 ∈ lw_gd := z_m2 (List.mem_of_getElem? (i := 68) rfl) rfl
theorem cl_8_51 : Cond.classLink zR8 51 zR3 ∈ lw_gd := z_m1 (List.mem_of_getElem? (i := 217) rfl) rfl
theorem ist_3 : Cond.instantiable zR3 3 ∈ lw_gd := z_m1 (List.mem_of_getElem? (i := 218) rfl) rfl
theorem ini_3 : Cond.initialized zR3 ∈ lw_gd := z_m1 (List.mem_of_getElem? (i := 6) rfl) rfl
theorem z_df3 : ∀ ty : Nat → FieldType, (∀ k, k < 3 → parseFieldDescriptor (zT3 k).2.2.1 = some (ty k)) → ∀ j, j < 3 → defaultValue (ty j) = vp_V [.null, .int 0, .int 0] j := by
  intro ty h j hj
  have e : ty j = zt3 j := Option.some.inj ((h j hj).symm.trans (z_ty3 j hj))
  rw [e]
  match j, hj with
  | 0, _ => rfl
  | 1, _ => rfl
  | 2, _ => rfl
  | j + 3, h => exact absurd h (by omega)
theorem mw_3_init : z_MW y_3_init M_3_init 0 := ⟨z_m1 (List.mem_of_getElem? (i := 6) rfl) rfl, z_m1 (List.mem_of_getElem? (i := 221) rfl) rfl, by decide, by decide, by decide +kernel⟩
theorem im_3_init : Cond.instanceMethod y_3_init ∈ lw_gd := z_m1 (List.mem_of_getElem? (i := 220) rfl) rfl
theorem ml_8_53 : Cond.methodLink zR8 53 y_3_init ∈ lw_gd := z_m1 (List.mem_of_getElem? (i := 219) rfl) rfl
theorem fl_8_54 : Cond.fieldLink zR8 54 (zT8 9).1 (zT8 9).2.1 (zT8 9).2.2.1 ∈ lw_gd := z_m2 (List.mem_of_getElem? (i := 69) rfl) rfl
theorem fl_8_58 : Cond.fieldLink zR8 58 (zT8 10).1 (zT8 10).2.1 (zT8 10).2.2.1 ∈ lw_gd := z_m2 (List.mem_of_getElem? (i := 70) rfl) rfl
theorem fl_8_62 : Cond.fieldLink zR8 62 (zT8 11).1 (zT8 11).2.1 (zT8 11).2.2.1 ∈ lw_gd := z_m2 (List.mem_of_getElem? (i := 71) rfl) rfl
theorem cl_8_65 : Cond.classLink zR8 65 zR1 ∈ lw_gd := z_m1 (List.mem_of_getElem? (i := 237) rfl) rfl
theorem nl_8_67 : (zR8, 67, y_1_init, "AbsentLords") ∈ z_nest := List.mem_of_getElem? (i := 4) rfl
theorem fl_8_68 : Cond.fieldLink zR8 68 (zT8 12).1 (zT8 12).2.1 (zT8 12).2.2.1 ∈ lw_gd := z_m2 (List.mem_of_getElem? (i := 72) rfl) rfl
theorem cl_8_72 : Cond.classLink zR8 72 zR0 ∈ lw_gd := z_m2 (List.mem_of_getElem? (i := 16) rfl) rfl
theorem ist_0 : Cond.instantiable zR0 2 ∈ lw_gd := z_m2 (List.mem_of_getElem? (i := 17) rfl) rfl
theorem ini_0 : Cond.initialized zR0 ∈ lw_gd := z_m1 (List.mem_of_getElem? (i := 8) rfl) rfl
theorem z_df0 : ∀ ty : Nat → FieldType, (∀ k, k < 2 → parseFieldDescriptor (zT0 k).2.2.1 = some (ty k)) → ∀ j, j < 2 → defaultValue (ty j) = vp_V [.null, .null] j := by
  intro ty h j hj
  have e : ty j = zt0 j := Option.some.inj ((h j hj).symm.trans (z_ty0 j hj))
  rw [e]
  match j, hj with
  | 0, _ => rfl
  | 1, _ => rfl
  | j + 2, h => exact absurd h (by omega)
theorem mw_0_init : z_MW y_0_init M_0_init 0 := ⟨z_m1 (List.mem_of_getElem? (i := 8) rfl) rfl, z_m2 (List.mem_of_getElem? (i := 20) rfl) rfl, by decide, by decide, by decide +kernel⟩
theorem im_0_init : Cond.instanceMethod y_0_init ∈ lw_gd := z_m2 (List.mem_of_getElem? (i := 19) rfl) rfl
theorem nl_8_74 : (zR8, 74, y_0_init, "AbsentLords") ∈ z_nest := List.mem_of_getElem? (i := 5) rfl
theorem fl_8_75 : Cond.fieldLink zR8 75 (zT8 13).1 (zT8 13).2.1 (zT8 13).2.2.1 ∈ lw_gd := z_m2 (List.mem_of_getElem? (i := 73) rfl) rfl
theorem cl_8_79 : Cond.classLink zR8 79 zR2 ∈ lw_gd := z_m2 (List.mem_of_getElem? (i := 31) rfl) rfl
theorem ist_2 : Cond.instantiable zR2 7 ∈ lw_gd := z_m2 (List.mem_of_getElem? (i := 32) rfl) rfl
theorem ini_2 : Cond.initialized zR2 ∈ lw_gd := z_m1 (List.mem_of_getElem? (i := 9) rfl) rfl
theorem z_df2 : ∀ ty : Nat → FieldType, (∀ k, k < 7 → parseFieldDescriptor (zT2 k).2.2.1 = some (ty k)) → ∀ j, j < 7 → defaultValue (ty j) = vp_V [.null, .null, .int 0, .int 0, .null, .null, .null] j := by
  intro ty h j hj
  have e : ty j = zt2 j := Option.some.inj ((h j hj).symm.trans (z_ty2 j hj))
  rw [e]
  match j, hj with
  | 0, _ => rfl
  | 1, _ => rfl
  | 2, _ => rfl
  | 3, _ => rfl
  | 4, _ => rfl
  | 5, _ => rfl
  | 6, _ => rfl
  | j + 7, h => exact absurd h (by omega)
theorem mw_2_init : z_MW y_2_init M_2_init 0 := ⟨z_m1 (List.mem_of_getElem? (i := 9) rfl) rfl, z_m2 (List.mem_of_getElem? (i := 35) rfl) rfl, by decide, by decide, by decide +kernel⟩
theorem im_2_init : Cond.instanceMethod y_2_init ∈ lw_gd := z_m2 (List.mem_of_getElem? (i := 34) rfl) rfl
theorem nl_8_81 : (zR8, 81, y_2_init, "AbsentLords") ∈ z_nest := List.mem_of_getElem? (i := 7) rfl
theorem fl_8_82 : Cond.fieldLink zR8 82 (zT8 14).1 (zT8 14).2.1 (zT8 14).2.2.1 ∈ lw_gd := z_m2 (List.mem_of_getElem? (i := 74) rfl) rfl
theorem d_8_init_0 : zD prog_1_method_1_code 0 (.aload_n 0) 1 1 := ⟨by decide +kernel, rfl⟩
theorem d_8_init_1 : zD prog_1_method_1_code 1 (.invokespecial 1) 3 4 := ⟨by decide +kernel, rfl⟩
theorem d_8_init_4 : zD prog_1_method_1_code 4 (.aload_n 0) 1 5 := ⟨by decide +kernel, rfl⟩
theorem d_8_init_5 : zD prog_1_method_1_code 5 (.sipush 2000) 3 8 := ⟨by decide +kernel, rfl⟩
theorem d_8_init_8 : zD prog_1_method_1_code 8 (.newarray .byte) 2 10 := ⟨by decide +kernel, rfl⟩
theorem d_8_init_10 : zD prog_1_method_1_code 10 (.putfield 9) 3 13 := ⟨by decide +kernel, rfl⟩
theorem d_8_init_13 : zD prog_1_method_1_code 13 (.aload_n 0) 1 14 := ⟨by decide +kernel, rfl⟩
theorem d_8_init_14 : zD prog_1_method_1_code 14 (.iconst 0) 1 15 := ⟨by decide +kernel, rfl⟩
theorem d_8_init_15 : zD prog_1_method_1_code 15 (.putfield 13) 3 18 := ⟨by decide +kernel, rfl⟩
theorem d_8_init_18 : zD prog_1_method_1_code 18 (.aload_n 0) 1 19 := ⟨by decide +kernel, rfl⟩
theorem d_8_init_19 : zD prog_1_method_1_code 19 (.new 17) 3 22 := ⟨by decide +kernel, rfl⟩
theorem d_8_init_22 : zD prog_1_method_1_code 22 (.dup) 1 23 := ⟨by decide +kernel, rfl⟩
theorem d_8_init_23 : zD prog_1_method_1_code 23 (.invokespecial 19) 3 26 := ⟨by decide +kernel, rfl⟩
theorem d_8_init_26 : zD prog_1_method_1_code 26 (.putfield 20) 3 29 := ⟨by decide +kernel, rfl⟩
theorem d_8_init_29 : zD prog_1_method_1_code 29 (.aload_n 0) 1 30 := ⟨by decide +kernel, rfl⟩
theorem d_8_init_30 : zD prog_1_method_1_code 30 (.new 24) 3 33 := ⟨by decide +kernel, rfl⟩
theorem d_8_init_33 : zD prog_1_method_1_code 33 (.dup) 1 34 := ⟨by decide +kernel, rfl⟩
theorem d_8_init_34 : zD prog_1_method_1_code 34 (.invokespecial 26) 3 37 := ⟨by decide +kernel, rfl⟩
theorem d_8_init_37 : zD prog_1_method_1_code 37 (.putfield 27) 3 40 := ⟨by decide +kernel, rfl⟩
theorem d_8_init_40 : zD prog_1_method_1_code 40 (.aload_n 0) 1 41 := ⟨by decide +kernel, rfl⟩
theorem d_8_init_41 : zD prog_1_method_1_code 41 (.new 31) 3 44 := ⟨by decide +kernel, rfl⟩
theorem d_8_init_44 : zD prog_1_method_1_code 44 (.dup) 1 45 := ⟨by decide +kernel, rfl⟩
theorem d_8_init_45 : zD prog_1_method_1_code 45 (.invokespecial 33) 3 48 := ⟨by decide +kernel, rfl⟩
theorem d_8_init_48 : zD prog_1_method_1_code 48 (.putfield 34) 3 51 := ⟨by decide +kernel, rfl⟩
theorem d_8_init_51 : zD prog_1_method_1_code 51 (.aload_n 0) 1 52 := ⟨by decide +kernel, rfl⟩
theorem d_8_init_52 : zD prog_1_method_1_code 52 (.new 31) 3 55 := ⟨by decide +kernel, rfl⟩
theorem d_8_init_55 : zD prog_1_method_1_code 55 (.dup) 1 56 := ⟨by decide +kernel, rfl⟩
theorem d_8_init_56 : zD prog_1_method_1_code 56 (.invokespecial 33) 3 59 := ⟨by decide +kernel, rfl⟩
theorem d_8_init_59 : zD prog_1_method_1_code 59 (.putfield 38) 3 62 := ⟨by decide +kernel, rfl⟩
theorem d_8_init_62 : zD prog_1_method_1_code 62 (.aload_n 0) 1 63 := ⟨by decide +kernel, rfl⟩
theorem d_8_init_63 : zD prog_1_method_1_code 63 (.new 31) 3 66 := ⟨by decide +kernel, rfl⟩
theorem d_8_init_66 : zD prog_1_method_1_code 66 (.dup) 1 67 := ⟨by decide +kernel, rfl⟩
theorem d_8_init_67 : zD prog_1_method_1_code 67 (.invokespecial 33) 3 70 := ⟨by decide +kernel, rfl⟩
theorem d_8_init_70 : zD prog_1_method_1_code 70 (.putfield 41) 3 73 := ⟨by decide +kernel, rfl⟩
theorem d_8_init_73 : zD prog_1_method_1_code 73 (.aload_n 0) 1 74 := ⟨by decide +kernel, rfl⟩
theorem d_8_init_74 : zD prog_1_method_1_code 74 (.iconst 4) 1 75 := ⟨by decide +kernel, rfl⟩
theorem d_8_init_75 : zD prog_1_method_1_code 75 (.newarray .int) 2 77 := ⟨by decide +kernel, rfl⟩
theorem d_8_init_77 : zD prog_1_method_1_code 77 (.putfield 44) 3 80 := ⟨by decide +kernel, rfl⟩
theorem d_8_init_80 : zD prog_1_method_1_code 80 (.aload_n 0) 1 81 := ⟨by decide +kernel, rfl⟩
theorem d_8_init_81 : zD prog_1_method_1_code 81 (.iconst 4) 1 82 := ⟨by decide +kernel, rfl⟩
theorem d_8_init_82 : zD prog_1_method_1_code 82 (.newarray .int) 2 84 := ⟨by decide +kernel, rfl⟩
theorem d_8_init_84 : zD prog_1_method_1_code 84 (.putfield 48) 3 87 := ⟨by decide +kernel, rfl⟩
theorem d_8_init_87 : zD prog_1_method_1_code 87 (.aload_n 0) 1 88 := ⟨by decide +kernel, rfl⟩
theorem d_8_init_88 : zD prog_1_method_1_code 88 (.new 51) 3 91 := ⟨by decide +kernel, rfl⟩
theorem d_8_init_91 : zD prog_1_method_1_code 91 (.dup) 1 92 := ⟨by decide +kernel, rfl⟩
theorem d_8_init_92 : zD prog_1_method_1_code 92 (.invokespecial 53) 3 95 := ⟨by decide +kernel, rfl⟩
theorem d_8_init_95 : zD prog_1_method_1_code 95 (.putfield 54) 3 98 := ⟨by decide +kernel, rfl⟩
theorem d_8_init_98 : zD prog_1_method_1_code 98 (.aload_n 0) 1 99 := ⟨by decide +kernel, rfl⟩
theorem d_8_init_99 : zD prog_1_method_1_code 99 (.iconst 3) 1 100 := ⟨by decide +kernel, rfl⟩
theorem d_8_init_100 : zD prog_1_method_1_code 100 (.anewarray 31) 3 103 := ⟨by decide +kernel, rfl⟩
theorem d_8_init_103 : zD prog_1_method_1_code 103 (.putfield 58) 3 106 := ⟨by decide +kernel, rfl⟩
theorem d_8_init_106 : zD prog_1_method_1_code 106 (.aload_n 0) 1 107 := ⟨by decide +kernel, rfl⟩
theorem d_8_init_107 : zD prog_1_method_1_code 107 (.iconst 0) 1 108 := ⟨by decide +kernel, rfl⟩
theorem d_8_init_108 : zD prog_1_method_1_code 108 (.putfield 62) 3 111 := ⟨by decide +kernel, rfl⟩
theorem d_8_init_111 : zD prog_1_method_1_code 111 (.aload_n 0) 1 112 := ⟨by decide +kernel, rfl⟩
theorem d_8_init_112 : zD prog_1_method_1_code 112 (.new 65) 3 115 := ⟨by decide +kernel, rfl⟩
theorem d_8_init_115 : zD prog_1_method_1_code 115 (.dup) 1 116 := ⟨by decide +kernel, rfl⟩
theorem d_8_init_116 : zD prog_1_method_1_code 116 (.invokespecial 67) 3 119 := ⟨by decide +kernel, rfl⟩
theorem d_8_init_119 : zD prog_1_method_1_code 119 (.putfield 68) 3 122 := ⟨by decide +kernel, rfl⟩
theorem d_8_init_122 : zD prog_1_method_1_code 122 (.aload_n 0) 1 123 := ⟨by decide +kernel, rfl⟩
theorem d_8_init_123 : zD prog_1_method_1_code 123 (.new 72) 3 126 := ⟨by decide +kernel, rfl⟩
theorem d_8_init_126 : zD prog_1_method_1_code 126 (.dup) 1 127 := ⟨by decide +kernel, rfl⟩
theorem d_8_init_127 : zD prog_1_method_1_code 127 (.invokespecial 74) 3 130 := ⟨by decide +kernel, rfl⟩
theorem d_8_init_130 : zD prog_1_method_1_code 130 (.putfield 75) 3 133 := ⟨by decide +kernel, rfl⟩
theorem d_8_init_133 : zD prog_1_method_1_code 133 (.aload_n 0) 1 134 := ⟨by decide +kernel, rfl⟩
theorem d_8_init_134 : zD prog_1_method_1_code 134 (.new 79) 3 137 := ⟨by decide +kernel, rfl⟩
theorem d_8_init_137 : zD prog_1_method_1_code 137 (.dup) 1 138 := ⟨by decide +kernel, rfl⟩
theorem d_8_init_138 : zD prog_1_method_1_code 138 (.invokespecial 81) 3 141 := ⟨by decide +kernel, rfl⟩
theorem d_8_init_141 : zD prog_1_method_1_code 141 (.putfield 82) 3 144 := ⟨by decide +kernel, rfl⟩
theorem d_8_init_144 : zD prog_1_method_1_code 144 (.iconst 0) 1 145 := ⟨by decide +kernel, rfl⟩
theorem d_8_init_145 : zD prog_1_method_1_code 145 (.istore_n 1) 1 146 := ⟨by decide +kernel, rfl⟩
theorem d_8_init_146 : zD prog_1_method_1_code 146 (.iload_n 1) 1 147 := ⟨by decide +kernel, rfl⟩
theorem d_8_init_147 : zD prog_1_method_1_code 147 (.iconst 3) 1 148 := ⟨by decide +kernel, rfl⟩
theorem d_8_init_148 : zD prog_1_method_1_code 148 (.if_icmp .ge 22) 3 151 := ⟨by decide +kernel, rfl⟩
theorem d_8_init_151 : zD prog_1_method_1_code 151 (.aload_n 0) 1 152 := ⟨by decide +kernel, rfl⟩
theorem d_8_init_152 : zD prog_1_method_1_code 152 (.getfield 58) 3 155 := ⟨by decide +kernel, rfl⟩
theorem d_8_init_155 : zD prog_1_method_1_code 155 (.iload_n 1) 1 156 := ⟨by decide +kernel, rfl⟩
theorem d_8_init_156 : zD prog_1_method_1_code 156 (.new 31) 3 159 := ⟨by decide +kernel, rfl⟩
theorem d_8_init_159 : zD prog_1_method_1_code 159 (.dup) 1 160 := ⟨by decide +kernel, rfl⟩
theorem d_8_init_160 : zD prog_1_method_1_code 160 (.invokespecial 33) 3 163 := ⟨by decide +kernel, rfl⟩
theorem d_8_init_163 : zD prog_1_method_1_code 163 (.aastore) 1 164 := ⟨by decide +kernel, rfl⟩
theorem d_8_init_164 : zD prog_1_method_1_code 164 (.iinc 1 1) 3 167 := ⟨by decide +kernel, rfl⟩
theorem d_8_init_167 : zD prog_1_method_1_code 167 (.goto (-21)) 3 170 := ⟨by decide +kernel, rfl⟩
theorem d_8_init_170 : zD prog_1_method_1_code 170 (.return_) 1 171 := ⟨by decide +kernel, rfl⟩
def zk_c8 (P : zP) (b : Nat) : List va_E := .inr (8, [.ref (b + 1), .int (0 : Int32), .ref (b + 2), .ref (b + 17), .ref (b + 24), .ref (b + 29), .ref (b + 34), .ref (b + 39), .ref (b + 40), .ref (b + 41), .ref (b + 243), .int (0 : Int32), .ref (b + 244), .ref (b + 249), .ref (b + 256)]) :: (((((((((((((((([] ++ [zk_z P 1 2000]) ++ zk_c4 P (b + 2)) ++ zk_c6 P (b + 17)) ++ zk_c5 P (b + 24)) ++ zk_c5 P (b + 29)) ++ zk_c5 P (b + 34)) ++ [zk_z P 0 4]) ++ [zk_z P 0 4]) ++ zk_c3 P (b + 41)) ++ [.inl (z_cA P 4, 3, .inr (.inr (.inr (.inr (va_up (va_up (va_up (fun _ => none) 0 (some (b + 262))) 1 (some (b + 267))) 2 (some (b + 272)))))))]) ++ zk_c1 P (b + 244)) ++ zk_c0 P (b + 249)) ++ zk_c2 P (b + 256)) ++ zk_c5 P (b + 262)) ++ zk_c5 P (b + 267)) ++ zk_c5 P (b + 272))
set_option maxHeartbeats 8000000 in
set_option maxRecDepth 20000 in
theorem k8 (P : zP) (b : Nat) : z_Kt P b y_8_init M_8_init 9 276 6085 (.inr (8, [.null, .int 0, .null, .null, .null, .null, .null, .null, .null, .null, .null, .int 0, .null, .null, .null])) (zk_c8 P b) := by
  refine z_Kt.of (plainFor_of_name (by decide)) rfl rfl (by decide) ?_
  refine zg_aload_n (i := 0) d_8_init_0 rfl rfl ?_
  refine zk_objInit d_8_init_1 ml_8_1 oi_inst oi_code (by decide) (by decide) ?_
  refine zg_aload_n (i := 0) d_8_init_4 rfl rfl ?_
  refine zg_sipush (v := (2000 : Int32)) d_8_init_5 rfl ?_
  refine zk_newa (at_ := .byte) (t := 1) (N := 2000) d_8_init_8 ac_1 rfl (fun c h => by cases h) (z_hc1 2000) (by decide) rfl (by decide) (k := 1) (by simp only [List.length_cons, List.length_append, List.length_nil, zk_l0, zk_l1, zk_l2, zk_l3, zk_l4, zk_l5, zk_l6]) (by decide) (by decide) ?_
  refine z_RGc (cs' := .inr (8, [.null, .int 0, .null, .null, .null, .null, .null, .null, .null, .null, .null, .int 0, .null, .null, .null]) :: ([] ++ [zk_z P 1 2000])) rfl ?_
  refine zk_put (j := 0) (k := 0) (cs' := .inr (8, [.ref (b + 1), .int 0, .null, .null, .null, .null, .null, .null, .null, .null, .null, .int 0, .null, .null, .null]) :: ([] ++ [zk_z P 1 2000])) (fun _ _ h => h.1) d_8_init_10 rfl rfl (by decide) fl_8_9 rfl (z_ty8 0 (by decide)) rfl rfl (Nat.le_of_ble_eq_true rfl) rfl ?_
  refine zg_aload_n (i := 0) d_8_init_13 rfl rfl ?_
  refine zg_iconst (v := (0 : Int32)) d_8_init_14 rfl ?_
  refine zk_put (j := 0) (k := 1) (cs' := .inr (8, [.ref (b + 1), .int (0 : Int32), .null, .null, .null, .null, .null, .null, .null, .null, .null, .int 0, .null, .null, .null]) :: ([] ++ [zk_z P 1 2000])) (fun _ _ h => h.1) d_8_init_15 rfl rfl (by decide) fl_8_13 rfl (z_ty8 1 (by decide)) rfl rfl (Nat.le_of_ble_eq_true rfl) rfl ?_
  refine zg_aload_n (i := 0) d_8_init_18 rfl rfl ?_
  refine zk_new (ci := 4) d_8_init_19 rfl cl_8_17 ist_4 ini_4 z_df4 (k := 2) (by simp only [List.length_cons, List.length_append, List.length_nil, zk_l0, zk_l1, zk_l2, zk_l3, zk_l4, zk_l5, zk_l6]) (by decide) (by decide) ?_
  refine z_RGc (cs' := .inr (8, [.ref (b + 1), .int (0 : Int32), .null, .null, .null, .null, .null, .null, .null, .null, .null, .int 0, .null, .null, .null]) :: (([] ++ [zk_z P 1 2000]) ++ [.inr (4, [.null, .null, .null, .null, .int 0, .int 0, .int 0, .int 0, .int 0, .int 0, .int 0])])) rfl ?_
  refine zg_dupa d_8_init_22 ?_
  refine zk_childN (cs0 := .inr (8, [.ref (b + 1), .int (0 : Int32), .null, .null, .null, .null, .null, .null, .null, .null, .null, .int 0, .null, .null, .null]) :: ([] ++ [zk_z P 1 2000])) (raw := .inr (4, [.null, .null, .null, .null, .int 0, .int 0, .int 0, .int 0, .int 0, .int 0, .int 0])) (cs' := .inr (8, [.ref (b + 1), .int (0 : Int32), .null, .null, .null, .null, .null, .null, .null, .null, .null, .int 0, .null, .null, .null]) :: (([] ++ [zk_z P 1 2000]) ++ zk_c4 P (b + 2))) (k := 2) (fun _ _ h => h.2) d_8_init_23 mw_4_init rfl nl_8_19 im_4_init rfl rfl (by simp only [List.length_cons, List.length_append, List.length_nil, zk_l0, zk_l1, zk_l2, zk_l3, zk_l4, zk_l5, zk_l6]) (by decide) ⟨by decide, by decide⟩ ⟨(by decide), (by decide)⟩ (k4 P (b + 2)) rfl ?_
  refine zk_put (j := 0) (k := 2) (cs' := .inr (8, [.ref (b + 1), .int (0 : Int32), .ref (b + 2), .null, .null, .null, .null, .null, .null, .null, .null, .int 0, .null, .null, .null]) :: (([] ++ [zk_z P 1 2000]) ++ zk_c4 P (b + 2))) (fun _ _ h => h.1) d_8_init_26 rfl rfl (by decide) fl_8_20 rfl (z_ty8 2 (by decide)) rfl rfl (Nat.le_of_ble_eq_true rfl) rfl ?_
  refine zg_aload_n (i := 0) d_8_init_29 rfl rfl ?_
  refine zk_new (ci := 6) d_8_init_30 rfl cl_8_24 ist_6 ini_6 z_df6 (k := 17) (by simp only [List.length_cons, List.length_append, List.length_nil, zk_l0, zk_l1, zk_l2, zk_l3, zk_l4, zk_l5, zk_l6]) (by decide) (by decide) ?_
  refine z_RGc (cs' := .inr (8, [.ref (b + 1), .int (0 : Int32), .ref (b + 2), .null, .null, .null, .null, .null, .null, .null, .null, .int 0, .null, .null, .null]) :: ((([] ++ [zk_z P 1 2000]) ++ zk_c4 P (b + 2)) ++ [.inr (6, [.int 0, .int 0, .int 0, .null, .null, .null, .null, .null, .null, .int 0])])) rfl ?_
  refine zg_dupa d_8_init_33 ?_
  refine zk_childI (cs0 := .inr (8, [.ref (b + 1), .int (0 : Int32), .ref (b + 2), .null, .null, .null, .null, .null, .null, .null, .null, .int 0, .null, .null, .null]) :: (([] ++ [zk_z P 1 2000]) ++ zk_c4 P (b + 2))) (raw := .inr (6, [.int 0, .int 0, .int 0, .null, .null, .null, .null, .null, .null, .int 0])) (cs' := .inr (8, [.ref (b + 1), .int (0 : Int32), .ref (b + 2), .null, .null, .null, .null, .null, .null, .null, .null, .int 0, .null, .null, .null]) :: ((([] ++ [zk_z P 1 2000]) ++ zk_c4 P (b + 2)) ++ zk_c6 P (b + 17))) (k := 17) (fun _ _ h => h.2) d_8_init_34 mw_6_init rfl ml_8_26 im_6_init rfl rfl (by simp only [List.length_cons, List.length_append, List.length_nil, zk_l0, zk_l1, zk_l2, zk_l3, zk_l4, zk_l5, zk_l6]) (by decide) ⟨by decide, by decide⟩ ⟨(by decide), (by decide)⟩ (k6 P (b + 17)) rfl ?_
  refine zk_put (j := 0) (k := 3) (cs' := .inr (8, [.ref (b + 1), .int (0 : Int32), .ref (b + 2), .ref (b + 17), .null, .null, .null, .null, .null, .null, .null, .int 0, .null, .null, .null]) :: ((([] ++ [zk_z P 1 2000]) ++ zk_c4 P (b + 2)) ++ zk_c6 P (b + 17))) (fun _ _ h => h.1) d_8_init_37 rfl rfl (by decide) fl_8_27 rfl (z_ty8 3 (by decide)) rfl rfl (Nat.le_of_ble_eq_true rfl) rfl ?_
  refine zg_aload_n (i := 0) d_8_init_40 rfl rfl ?_
  refine zk_new (ci := 5) d_8_init_41 rfl cl_8_31 ist_5 ini_5 z_df5 (k := 24) (by simp only [List.length_cons, List.length_append, List.length_nil, zk_l0, zk_l1, zk_l2, zk_l3, zk_l4, zk_l5, zk_l6]) (by decide) (by decide) ?_
  refine z_RGc (cs' := .inr (8, [.ref (b + 1), .int (0 : Int32), .ref (b + 2), .ref (b + 17), .null, .null, .null, .null, .null, .null, .null, .int 0, .null, .null, .null]) :: (((([] ++ [zk_z P 1 2000]) ++ zk_c4 P (b + 2)) ++ zk_c6 P (b + 17)) ++ [.inr (5, [.int 0, .int 0, .int 0, .null, .null, .null, .null])])) rfl ?_
  refine zg_dupa d_8_init_44 ?_
  refine zk_childN (cs0 := .inr (8, [.ref (b + 1), .int (0 : Int32), .ref (b + 2), .ref (b + 17), .null, .null, .null, .null, .null, .null, .null, .int 0, .null, .null, .null]) :: ((([] ++ [zk_z P 1 2000]) ++ zk_c4 P (b + 2)) ++ zk_c6 P (b + 17))) (raw := .inr (5, [.int 0, .int 0, .int 0, .null, .null, .null, .null])) (cs' := .inr (8, [.ref (b + 1), .int (0 : Int32), .ref (b + 2), .ref (b + 17), .null, .null, .null, .null, .null, .null, .null, .int 0, .null, .null, .null]) :: (((([] ++ [zk_z P 1 2000]) ++ zk_c4 P (b + 2)) ++ zk_c6 P (b + 17)) ++ zk_c5 P (b + 24))) (k := 24) (fun _ _ h => h.2) d_8_init_45 mw_5_init rfl nl_8_33 im_5_init rfl rfl (by simp only [List.length_cons, List.length_append, List.length_nil, zk_l0, zk_l1, zk_l2, zk_l3, zk_l4, zk_l5, zk_l6]) (by decide) ⟨by decide, by decide⟩ ⟨(by decide), (by decide)⟩ (k5 P (b + 24)) rfl ?_
  refine zk_put (j := 0) (k := 4) (cs' := .inr (8, [.ref (b + 1), .int (0 : Int32), .ref (b + 2), .ref (b + 17), .ref (b + 24), .null, .null, .null, .null, .null, .null, .int 0, .null, .null, .null]) :: (((([] ++ [zk_z P 1 2000]) ++ zk_c4 P (b + 2)) ++ zk_c6 P (b + 17)) ++ zk_c5 P (b + 24))) (fun _ _ h => h.1) d_8_init_48 rfl rfl (by decide) fl_8_34 rfl (z_ty8 4 (by decide)) rfl rfl (Nat.le_of_ble_eq_true rfl) rfl ?_
  refine zg_aload_n (i := 0) d_8_init_51 rfl rfl ?_
  refine zk_new (ci := 5) d_8_init_52 rfl cl_8_31 ist_5 ini_5 z_df5 (k := 29) (by simp only [List.length_cons, List.length_append, List.length_nil, zk_l0, zk_l1, zk_l2, zk_l3, zk_l4, zk_l5, zk_l6]) (by decide) (by decide) ?_
  refine z_RGc (cs' := .inr (8, [.ref (b + 1), .int (0 : Int32), .ref (b + 2), .ref (b + 17), .ref (b + 24), .null, .null, .null, .null, .null, .null, .int 0, .null, .null, .null]) :: ((((([] ++ [zk_z P 1 2000]) ++ zk_c4 P (b + 2)) ++ zk_c6 P (b + 17)) ++ zk_c5 P (b + 24)) ++ [.inr (5, [.int 0, .int 0, .int 0, .null, .null, .null, .null])])) rfl ?_
  refine zg_dupa d_8_init_55 ?_
  refine zk_childN (cs0 := .inr (8, [.ref (b + 1), .int (0 : Int32), .ref (b + 2), .ref (b + 17), .ref (b + 24), .null, .null, .null, .null, .null, .null, .int 0, .null, .null, .null]) :: (((([] ++ [zk_z P 1 2000]) ++ zk_c4 P (b + 2)) ++ zk_c6 P (b + 17)) ++ zk_c5 P (b + 24))) (raw := .inr (5, [.int 0, .int 0, .int 0, .null, .null, .null, .null])) (cs' := .inr (8, [.ref (b + 1), .int (0 : Int32), .ref (b + 2), .ref (b + 17), .ref (b + 24), .null, .null, .null, .null, .null, .null, .int 0, .null, .null, .null]) :: ((((([] ++ [zk_z P 1 2000]) ++ zk_c4 P (b + 2)) ++ zk_c6 P (b + 17)) ++ zk_c5 P (b + 24)) ++ zk_c5 P (b + 29))) (k := 29) (fun _ _ h => h.2) d_8_init_56 mw_5_init rfl nl_8_33 im_5_init rfl rfl (by simp only [List.length_cons, List.length_append, List.length_nil, zk_l0, zk_l1, zk_l2, zk_l3, zk_l4, zk_l5, zk_l6]) (by decide) ⟨by decide, by decide⟩ ⟨(by decide), (by decide)⟩ (k5 P (b + 29)) rfl ?_
  refine zk_put (j := 0) (k := 5) (cs' := .inr (8, [.ref (b + 1), .int (0 : Int32), .ref (b + 2), .ref (b + 17), .ref (b + 24), .ref (b + 29), .null, .null, .null, .null, .null, .int 0, .null, .null, .null]) :: ((((([] ++ [zk_z P 1 2000]) ++ zk_c4 P (b + 2)) ++ zk_c6 P (b + 17)) ++ zk_c5 P (b + 24)) ++ zk_c5 P (b + 29))) (fun _ _ h => h.1) d_8_init_59 rfl rfl (by decide) fl_8_38 rfl (z_ty8 5 (by decide)) rfl rfl (Nat.le_of_ble_eq_true rfl) rfl ?_
  refine zg_aload_n (i := 0) d_8_init_62 rfl rfl ?_
  refine zk_new (ci := 5) d_8_init_63 rfl cl_8_31 ist_5 ini_5 z_df5 (k := 34) (by simp only [List.length_cons, List.length_append, List.length_nil, zk_l0, zk_l1, zk_l2, zk_l3, zk_l4, zk_l5, zk_l6]) (by decide) (by decide) ?_
  refine z_RGc (cs' := .inr (8, [.ref (b + 1), .int (0 : Int32), .ref (b + 2), .ref (b + 17), .ref (b + 24), .ref (b + 29), .null, .null, .null, .null, .null, .int 0, .null, .null, .null]) :: (((((([] ++ [zk_z P 1 2000]) ++ zk_c4 P (b + 2)) ++ zk_c6 P (b + 17)) ++ zk_c5 P (b + 24)) ++ zk_c5 P (b + 29)) ++ [.inr (5, [.int 0, .int 0, .int 0, .null, .null, .null, .null])])) rfl ?_
  refine zg_dupa d_8_init_66 ?_
  refine zk_childN (cs0 := .inr (8, [.ref (b + 1), .int (0 : Int32), .ref (b + 2), .ref (b + 17), .ref (b + 24), .ref (b + 29), .null, .null, .null, .null, .null, .int 0, .null, .null, .null]) :: ((((([] ++ [zk_z P 1 2000]) ++ zk_c4 P (b + 2)) ++ zk_c6 P (b + 17)) ++ zk_c5 P (b + 24)) ++ zk_c5 P (b + 29))) (raw := .inr (5, [.int 0, .int 0, .int 0, .null, .null, .null, .null])) (cs' := .inr (8, [.ref (b + 1), .int (0 : Int32), .ref (b + 2), .ref (b + 17), .ref (b + 24), .ref (b + 29), .null, .null, .null, .null, .null, .int 0, .null, .null, .null]) :: (((((([] ++ [zk_z P 1 2000]) ++ zk_c4 P (b + 2)) ++ zk_c6 P (b + 17)) ++ zk_c5 P (b + 24)) ++ zk_c5 P (b + 29)) ++ zk_c5 P (b + 34))) (k := 34) (fun _ _ h => h.2) d_8_init_67 mw_5_init rfl nl_8_33 im_5_init rfl rfl (by simp only [List.length_cons, List.length_append, List.length_nil, zk_l0, zk_l1, zk_l2, zk_l3, zk_l4, zk_l5, zk_l6]) (by decide) ⟨by decide, by decide⟩ ⟨(by decide), (by decide)⟩ (k5 P (b + 34)) rfl ?_
  refine zk_put (j := 0) (k := 6) (cs' := .inr (8, [.ref (b + 1), .int (0 : Int32), .ref (b + 2), .ref (b + 17), .ref (b + 24), .ref (b + 29), .ref (b + 34), .null, .null, .null, .null, .int 0, .null, .null, .null]) :: (((((([] ++ [zk_z P 1 2000]) ++ zk_c4 P (b + 2)) ++ zk_c6 P (b + 17)) ++ zk_c5 P (b + 24)) ++ zk_c5 P (b + 29)) ++ zk_c5 P (b + 34))) (fun _ _ h => h.1) d_8_init_70 rfl rfl (by decide) fl_8_41 rfl (z_ty8 6 (by decide)) rfl rfl (Nat.le_of_ble_eq_true rfl) rfl ?_
  refine zg_aload_n (i := 0) d_8_init_73 rfl rfl ?_
  refine zg_iconst (v := (4 : Int32)) d_8_init_74 rfl ?_
  refine zk_newa (at_ := .int) (t := 0) (N := 4) d_8_init_75 ac_0 rfl (fun c h => by cases h) (z_hc0 4) (by decide) rfl (by decide) (k := 39) (by simp only [List.length_cons, List.length_append, List.length_nil, zk_l0, zk_l1, zk_l2, zk_l3, zk_l4, zk_l5, zk_l6]) (by decide) (by decide) ?_
  refine z_RGc (cs' := .inr (8, [.ref (b + 1), .int (0 : Int32), .ref (b + 2), .ref (b + 17), .ref (b + 24), .ref (b + 29), .ref (b + 34), .null, .null, .null, .null, .int 0, .null, .null, .null]) :: ((((((([] ++ [zk_z P 1 2000]) ++ zk_c4 P (b + 2)) ++ zk_c6 P (b + 17)) ++ zk_c5 P (b + 24)) ++ zk_c5 P (b + 29)) ++ zk_c5 P (b + 34)) ++ [zk_z P 0 4])) rfl ?_
  refine zk_put (j := 0) (k := 7) (cs' := .inr (8, [.ref (b + 1), .int (0 : Int32), .ref (b + 2), .ref (b + 17), .ref (b + 24), .ref (b + 29), .ref (b + 34), .ref (b + 39), .null, .null, .null, .int 0, .null, .null, .null]) :: ((((((([] ++ [zk_z P 1 2000]) ++ zk_c4 P (b + 2)) ++ zk_c6 P (b + 17)) ++ zk_c5 P (b + 24)) ++ zk_c5 P (b + 29)) ++ zk_c5 P (b + 34)) ++ [zk_z P 0 4])) (fun _ _ h => h.1) d_8_init_77 rfl rfl (by decide) fl_8_44 rfl (z_ty8 7 (by decide)) rfl rfl (Nat.le_of_ble_eq_true rfl) rfl ?_
  refine zg_aload_n (i := 0) d_8_init_80 rfl rfl ?_
  refine zg_iconst (v := (4 : Int32)) d_8_init_81 rfl ?_
  refine zk_newa (at_ := .int) (t := 0) (N := 4) d_8_init_82 ac_0 rfl (fun c h => by cases h) (z_hc0 4) (by decide) rfl (by decide) (k := 40) (by simp only [List.length_cons, List.length_append, List.length_nil, zk_l0, zk_l1, zk_l2, zk_l3, zk_l4, zk_l5, zk_l6]) (by decide) (by decide) ?_
  refine z_RGc (cs' := .inr (8, [.ref (b + 1), .int (0 : Int32), .ref (b + 2), .ref (b + 17), .ref (b + 24), .ref (b + 29), .ref (b + 34), .ref (b + 39), .null, .null, .null, .int 0, .null, .null, .null]) :: (((((((([] ++ [zk_z P 1 2000]) ++ zk_c4 P (b + 2)) ++ zk_c6 P (b + 17)) ++ zk_c5 P (b + 24)) ++ zk_c5 P (b + 29)) ++ zk_c5 P (b + 34)) ++ [zk_z P 0 4]) ++ [zk_z P 0 4])) rfl ?_
  refine zk_put (j := 0) (k := 8) (cs' := .inr (8, [.ref (b + 1), .int (0 : Int32), .ref (b + 2), .ref (b + 17), .ref (b + 24), .ref (b + 29), .ref (b + 34), .ref (b + 39), .ref (b + 40), .null, .null, .int 0, .null, .null, .null]) :: (((((((([] ++ [zk_z P 1 2000]) ++ zk_c4 P (b + 2)) ++ zk_c6 P (b + 17)) ++ zk_c5 P (b + 24)) ++ zk_c5 P (b + 29)) ++ zk_c5 P (b + 34)) ++ [zk_z P 0 4]) ++ [zk_z P 0 4])) (fun _ _ h => h.1) d_8_init_84 rfl rfl (by decide) fl_8_48 rfl (z_ty8 8 (by decide)) rfl rfl (Nat.le_of_ble_eq_true rfl) rfl ?_
  refine zg_aload_n (i := 0) d_8_init_87 rfl rfl ?_
  refine zk_new (ci := 3) d_8_init_88 rfl cl_8_51 ist_3 ini_3 z_df3 (k := 41) (by simp only [List.length_cons, List.length_append, List.length_nil, zk_l0, zk_l1, zk_l2, zk_l3, zk_l4, zk_l5, zk_l6]) (by decide) (by decide) ?_
  refine z_RGc (cs' := .inr (8, [.ref (b + 1), .int (0 : Int32), .ref (b + 2), .ref (b + 17), .ref (b + 24), .ref (b + 29), .ref (b + 34), .ref (b + 39), .ref (b + 40), .null, .null, .int 0, .null, .null, .null]) :: ((((((((([] ++ [zk_z P 1 2000]) ++ zk_c4 P (b + 2)) ++ zk_c6 P (b + 17)) ++ zk_c5 P (b + 24)) ++ zk_c5 P (b + 29)) ++ zk_c5 P (b + 34)) ++ [zk_z P 0 4]) ++ [zk_z P 0 4]) ++ [.inr (3, [.null, .int 0, .int 0])])) rfl ?_
  refine zg_dupa d_8_init_91 ?_
  refine zk_childI (cs0 := .inr (8, [.ref (b + 1), .int (0 : Int32), .ref (b + 2), .ref (b + 17), .ref (b + 24), .ref (b + 29), .ref (b + 34), .ref (b + 39), .ref (b + 40), .null, .null, .int 0, .null, .null, .null]) :: (((((((([] ++ [zk_z P 1 2000]) ++ zk_c4 P (b + 2)) ++ zk_c6 P (b + 17)) ++ zk_c5 P (b + 24)) ++ zk_c5 P (b + 29)) ++ zk_c5 P (b + 34)) ++ [zk_z P 0 4]) ++ [zk_z P 0 4])) (raw := .inr (3, [.null, .int 0, .int 0])) (cs' := .inr (8, [.ref (b + 1), .int (0 : Int32), .ref (b + 2), .ref (b + 17), .ref (b + 24), .ref (b + 29), .ref (b + 34), .ref (b + 39), .ref (b + 40), .null, .null, .int 0, .null, .null, .null]) :: ((((((((([] ++ [zk_z P 1 2000]) ++ zk_c4 P (b + 2)) ++ zk_c6 P (b + 17)) ++ zk_c5 P (b + 24)) ++ zk_c5 P (b + 29)) ++ zk_c5 P (b + 34)) ++ [zk_z P 0 4]) ++ [zk_z P 0 4]) ++ zk_c3 P (b + 41))) (k := 41) (fun _ _ h => h.2) d_8_init_92 mw_3_init rfl ml_8_53 im_3_init rfl rfl (by simp only [List.length_cons, List.length_append, List.length_nil, zk_l0, zk_l1, zk_l2, zk_l3, zk_l4, zk_l5, zk_l6]) (by decide) ⟨by decide, by decide⟩ ⟨(by decide), (by decide)⟩ (k3 P (b + 41)) rfl ?_
  refine zk_put (j := 0) (k := 9) (cs' := .inr (8, [.ref (b + 1), .int (0 : Int32), .ref (b + 2), .ref (b + 17), .ref (b + 24), .ref (b + 29), .ref (b + 34), .ref (b + 39), .ref (b + 40), .ref (b + 41), .null, .int 0, .null, .null, .null]) :: ((((((((([] ++ [zk_z P 1 2000]) ++ zk_c4 P (b + 2)) ++ zk_c6 P (b + 17)) ++ zk_c5 P (b + 24)) ++ zk_c5 P (b + 29)) ++ zk_c5 P (b + 34)) ++ [zk_z P 0 4]) ++ [zk_z P 0 4]) ++ zk_c3 P (b + 41))) (fun _ _ h => h.1) d_8_init_95 rfl rfl (by decide) fl_8_54 rfl (z_ty8 9 (by decide)) rfl rfl (Nat.le_of_ble_eq_true rfl) rfl ?_
  refine zg_aload_n (i := 0) d_8_init_98 rfl rfl ?_
  refine zg_iconst (v := (3 : Int32)) d_8_init_99 rfl ?_
  refine zk_anewa (N := 3) (fun _ _ h => h.2.1) d_8_init_100 cl_8_31 (by decide) rfl (by decide) (k := 243) (by simp only [List.length_cons, List.length_append, List.length_nil, zk_l0, zk_l1, zk_l2, zk_l3, zk_l4, zk_l5, zk_l6]) (by decide) (by decide) ?_
  refine z_RGc (cs' := .inr (8, [.ref (b + 1), .int (0 : Int32), .ref (b + 2), .ref (b + 17), .ref (b + 24), .ref (b + 29), .ref (b + 34), .ref (b + 39), .ref (b + 40), .ref (b + 41), .null, .int 0, .null, .null, .null]) :: (((((((((([] ++ [zk_z P 1 2000]) ++ zk_c4 P (b + 2)) ++ zk_c6 P (b + 17)) ++ zk_c5 P (b + 24)) ++ zk_c5 P (b + 29)) ++ zk_c5 P (b + 34)) ++ [zk_z P 0 4]) ++ [zk_z P 0 4]) ++ zk_c3 P (b + 41)) ++ [.inl (z_cA P 4, 3, .inr (.inr (.inr (.inr (fun _ => none)))))])) rfl ?_
  refine zk_put (j := 0) (k := 10) (cs' := .inr (8, [.ref (b + 1), .int (0 : Int32), .ref (b + 2), .ref (b + 17), .ref (b + 24), .ref (b + 29), .ref (b + 34), .ref (b + 39), .ref (b + 40), .ref (b + 41), .ref (b + 243), .int 0, .null, .null, .null]) :: (((((((((([] ++ [zk_z P 1 2000]) ++ zk_c4 P (b + 2)) ++ zk_c6 P (b + 17)) ++ zk_c5 P (b + 24)) ++ zk_c5 P (b + 29)) ++ zk_c5 P (b + 34)) ++ [zk_z P 0 4]) ++ [zk_z P 0 4]) ++ zk_c3 P (b + 41)) ++ [.inl (z_cA P 4, 3, .inr (.inr (.inr (.inr (fun _ => none)))))])) (fun _ _ h => h.1) d_8_init_103 rfl rfl (by decide) fl_8_58 rfl (z_ty8 10 (by decide)) rfl rfl (Nat.le_of_ble_eq_true rfl) rfl ?_
  refine zg_aload_n (i := 0) d_8_init_106 rfl rfl ?_
  refine zg_iconst (v := (0 : Int32)) d_8_init_107 rfl ?_
  refine zk_put (j := 0) (k := 11) (cs' := .inr (8, [.ref (b + 1), .int (0 : Int32), .ref (b + 2), .ref (b + 17), .ref (b + 24), .ref (b + 29), .ref (b + 34), .ref (b + 39), .ref (b + 40), .ref (b + 41), .ref (b + 243), .int (0 : Int32), .null, .null, .null]) :: (((((((((([] ++ [zk_z P 1 2000]) ++ zk_c4 P (b + 2)) ++ zk_c6 P (b + 17)) ++ zk_c5 P (b + 24)) ++ zk_c5 P (b + 29)) ++ zk_c5 P (b + 34)) ++ [zk_z P 0 4]) ++ [zk_z P 0 4]) ++ zk_c3 P (b + 41)) ++ [.inl (z_cA P 4, 3, .inr (.inr (.inr (.inr (fun _ => none)))))])) (fun _ _ h => h.1) d_8_init_108 rfl rfl (by decide) fl_8_62 rfl (z_ty8 11 (by decide)) rfl rfl (Nat.le_of_ble_eq_true rfl) rfl ?_
  refine zg_aload_n (i := 0) d_8_init_111 rfl rfl ?_
  refine zk_new (ci := 1) d_8_init_112 rfl cl_8_65 ist_1 ini_1 z_df1 (k := 244) (by simp only [List.length_cons, List.length_append, List.length_nil, zk_l0, zk_l1, zk_l2, zk_l3, zk_l4, zk_l5, zk_l6]) (by decide) (by decide) ?_
  refine z_RGc (cs' := .inr (8, [.ref (b + 1), .int (0 : Int32), .ref (b + 2), .ref (b + 17), .ref (b + 24), .ref (b + 29), .ref (b + 34), .ref (b + 39), .ref (b + 40), .ref (b + 41), .ref (b + 243), .int (0 : Int32), .null, .null, .null]) :: ((((((((((([] ++ [zk_z P 1 2000]) ++ zk_c4 P (b + 2)) ++ zk_c6 P (b + 17)) ++ zk_c5 P (b + 24)) ++ zk_c5 P (b + 29)) ++ zk_c5 P (b + 34)) ++ [zk_z P 0 4]) ++ [zk_z P 0 4]) ++ zk_c3 P (b + 41)) ++ [.inl (z_cA P 4, 3, .inr (.inr (.inr (.inr (fun _ => none)))))]) ++ [.inr (1, [.null, .null, .null, .null])])) rfl ?_
  refine zg_dupa d_8_init_115 ?_
  refine zk_childN (cs0 := .inr (8, [.ref (b + 1), .int (0 : Int32), .ref (b + 2), .ref (b + 17), .ref (b + 24), .ref (b + 29), .ref (b + 34), .ref (b + 39), .ref (b + 40), .ref (b + 41), .ref (b + 243), .int (0 : Int32), .null, .null, .null]) :: (((((((((([] ++ [zk_z P 1 2000]) ++ zk_c4 P (b + 2)) ++ zk_c6 P (b + 17)) ++ zk_c5 P (b + 24)) ++ zk_c5 P (b + 29)) ++ zk_c5 P (b + 34)) ++ [zk_z P 0 4]) ++ [zk_z P 0 4]) ++ zk_c3 P (b + 41)) ++ [.inl (z_cA P 4, 3, .inr (.inr (.inr (.inr (fun _ => none)))))])) (raw := .inr (1, [.null, .null, .null, .null])) (cs' := .inr (8, [.ref (b + 1), .int (0 : Int32), .ref (b + 2), .ref (b + 17), .ref (b + 24), .ref (b + 29), .ref (b + 34), .ref (b + 39), .ref (b + 40), .ref (b + 41), .ref (b + 243), .int (0 : Int32), .null, .null, .null]) :: ((((((((((([] ++ [zk_z P 1 2000]) ++ zk_c4 P (b + 2)) ++ zk_c6 P (b + 17)) ++ zk_c5 P (b + 24)) ++ zk_c5 P (b + 29)) ++ zk_c5 P (b + 34)) ++ [zk_z P 0 4]) ++ [zk_z P 0 4]) ++ zk_c3 P (b + 41)) ++ [.inl (z_cA P 4, 3, .inr (.inr (.inr (.inr (fun _ => none)))))]) ++ zk_c1 P (b + 244))) (k := 244) (fun _ _ h => h.2) d_8_init_116 mw_1_init rfl nl_8_67 im_1_init rfl rfl (by simp only [List.length_cons, List.length_append, List.length_nil, zk_l0, zk_l1, zk_l2, zk_l3, zk_l4, zk_l5, zk_l6]) (by decide) ⟨by decide, by decide⟩ ⟨(by decide), (by decide)⟩ (k1 P (b + 244)) rfl ?_
  refine zk_put (j := 0) (k := 12) (cs' := .inr (8, [.ref (b + 1), .int (0 : Int32), .ref (b + 2), .ref (b + 17), .ref (b + 24), .ref (b + 29), .ref (b + 34), .ref (b + 39), .ref (b + 40), .ref (b + 41), .ref (b + 243), .int (0 : Int32), .ref (b + 244), .null, .null]) :: ((((((((((([] ++ [zk_z P 1 2000]) ++ zk_c4 P (b + 2)) ++ zk_c6 P (b + 17)) ++ zk_c5 P (b + 24)) ++ zk_c5 P (b + 29)) ++ zk_c5 P (b + 34)) ++ [zk_z P 0 4]) ++ [zk_z P 0 4]) ++ zk_c3 P (b + 41)) ++ [.inl (z_cA P 4, 3, .inr (.inr (.inr (.inr (fun _ => none)))))]) ++ zk_c1 P (b + 244))) (fun _ _ h => h.1) d_8_init_119 rfl rfl (by decide) fl_8_68 rfl (z_ty8 12 (by decide)) rfl rfl (Nat.le_of_ble_eq_true rfl) rfl ?_
  refine zg_aload_n (i := 0) d_8_init_122 rfl rfl ?_
  refine zk_new (ci := 0) d_8_init_123 rfl cl_8_72 ist_0 ini_0 z_df0 (k := 249) (by simp only [List.length_cons, List.length_append, List.length_nil, zk_l0, zk_l1, zk_l2, zk_l3, zk_l4, zk_l5, zk_l6]) (by decide) (by decide) ?_
  refine z_RGc (cs' := .inr (8, [.ref (b + 1), .int (0 : Int32), .ref (b + 2), .ref (b + 17), .ref (b + 24), .ref (b + 29), .ref (b + 34), .ref (b + 39), .ref (b + 40), .ref (b + 41), .ref (b + 243), .int (0 : Int32), .ref (b + 244), .null, .null]) :: (((((((((((([] ++ [zk_z P 1 2000]) ++ zk_c4 P (b + 2)) ++ zk_c6 P (b + 17)) ++ zk_c5 P (b + 24)) ++ zk_c5 P (b + 29)) ++ zk_c5 P (b + 34)) ++ [zk_z P 0 4]) ++ [zk_z P 0 4]) ++ zk_c3 P (b + 41)) ++ [.inl (z_cA P 4, 3, .inr (.inr (.inr (.inr (fun _ => none)))))]) ++ zk_c1 P (b + 244)) ++ [.inr (0, [.null, .null])])) rfl ?_
  refine zg_dupa d_8_init_126 ?_
  refine zk_childN (cs0 := .inr (8, [.ref (b + 1), .int (0 : Int32), .ref (b + 2), .ref (b + 17), .ref (b + 24), .ref (b + 29), .ref (b + 34), .ref (b + 39), .ref (b + 40), .ref (b + 41), .ref (b + 243), .int (0 : Int32), .ref (b + 244), .null, .null]) :: ((((((((((([] ++ [zk_z P 1 2000]) ++ zk_c4 P (b + 2)) ++ zk_c6 P (b + 17)) ++ zk_c5 P (b + 24)) ++ zk_c5 P (b + 29)) ++ zk_c5 P (b + 34)) ++ [zk_z P 0 4]) ++ [zk_z P 0 4]) ++ zk_c3 P (b + 41)) ++ [.inl (z_cA P 4, 3, .inr (.inr (.inr (.inr (fun _ => none)))))]) ++ zk_c1 P (b + 244))) (raw := .inr (0, [.null, .null])) (cs' := .inr (8, [.ref (b + 1), .int (0 : Int32), .ref (b + 2), .ref (b + 17), .ref (b + 24), .ref (b + 29), .ref (b + 34), .ref (b + 39), .ref (b + 40), .ref (b + 41), .ref (b + 243), .int (0 : Int32), .ref (b + 244), .null, .null]) :: (((((((((((([] ++ [zk_z P 1 2000]) ++ zk_c4 P (b + 2)) ++ zk_c6 P (b + 17)) ++ zk_c5 P (b + 24)) ++ zk_c5 P (b + 29)) ++ zk_c5 P (b + 34)) ++ [zk_z P 0 4]) ++ [zk_z P 0 4]) ++ zk_c3 P (b + 41)) ++ [.inl (z_cA P 4, 3, .inr (.inr (.inr (.inr (fun _ => none)))))]) ++ zk_c1 P (b + 244)) ++ zk_c0 P (b + 249))) (k := 249) (fun _ _ h => h.2) d_8_init_127 mw_0_init rfl nl_8_74 im_0_init rfl rfl (by simp only [List.length_cons, List.length_append, List.length_nil, zk_l0, zk_l1, zk_l2, zk_l3, zk_l4, zk_l5, zk_l6]) (by decide) ⟨by decide, by decide⟩ ⟨(by decide), (by decide)⟩ (k0 P (b + 249)) rfl ?_
  refine zk_put (j := 0) (k := 13) (cs' := .inr (8, [.ref (b + 1), .int (0 : Int32), .ref (b + 2), .ref (b + 17), .ref (b + 24), .ref (b + 29), .ref (b + 34), .ref (b + 39), .ref (b + 40), .ref (b + 41), .ref (b + 243), .int (0 : Int32), .ref (b + 244), .ref (b + 249), .null]) :: (((((((((((([] ++ [zk_z P 1 2000]) ++ zk_c4 P (b + 2)) ++ zk_c6 P (b + 17)) ++ zk_c5 P (b + 24)) ++ zk_c5 P (b + 29)) ++ zk_c5 P (b + 34)) ++ [zk_z P 0 4]) ++ [zk_z P 0 4]) ++ zk_c3 P (b + 41)) ++ [.inl (z_cA P 4, 3, .inr (.inr (.inr (.inr (fun _ => none)))))]) ++ zk_c1 P (b + 244)) ++ zk_c0 P (b + 249))) (fun _ _ h => h.1) d_8_init_130 rfl rfl (by decide) fl_8_75 rfl (z_ty8 13 (by decide)) rfl rfl (Nat.le_of_ble_eq_true rfl) rfl ?_
  refine zg_aload_n (i := 0) d_8_init_133 rfl rfl ?_
  refine zk_new (ci := 2) d_8_init_134 rfl cl_8_79 ist_2 ini_2 z_df2 (k := 256) (by simp only [List.length_cons, List.length_append, List.length_nil, zk_l0, zk_l1, zk_l2, zk_l3, zk_l4, zk_l5, zk_l6]) (by decide) (by decide) ?_
  refine z_RGc (cs' := .inr (8, [.ref (b + 1), .int (0 : Int32), .ref (b + 2), .ref (b + 17), .ref (b + 24), .ref (b + 29), .ref (b + 34), .ref (b + 39), .ref (b + 40), .ref (b + 41), .ref (b + 243), .int (0 : Int32), .ref (b + 244), .ref (b + 249), .null]) :: ((((((((((((([] ++ [zk_z P 1 2000]) ++ zk_c4 P (b + 2)) ++ zk_c6 P (b + 17)) ++ zk_c5 P (b + 24)) ++ zk_c5 P (b + 29)) ++ zk_c5 P (b + 34)) ++ [zk_z P 0 4]) ++ [zk_z P 0 4]) ++ zk_c3 P (b + 41)) ++ [.inl (z_cA P 4, 3, .inr (.inr (.inr (.inr (fun _ => none)))))]) ++ zk_c1 P (b + 244)) ++ zk_c0 P (b + 249)) ++ [.inr (2, [.null, .null, .int 0, .int 0, .null, .null, .null])])) rfl ?_
  refine zg_dupa d_8_init_137 ?_
  refine zk_childN (cs0 := .inr (8, [.ref (b + 1), .int (0 : Int32), .ref (b + 2), .ref (b + 17), .ref (b + 24), .ref (b + 29), .ref (b + 34), .ref (b + 39), .ref (b + 40), .ref (b + 41), .ref (b + 243), .int (0 : Int32), .ref (b + 244), .ref (b + 249), .null]) :: (((((((((((([] ++ [zk_z P 1 2000]) ++ zk_c4 P (b + 2)) ++ zk_c6 P (b + 17)) ++ zk_c5 P (b + 24)) ++ zk_c5 P (b + 29)) ++ zk_c5 P (b + 34)) ++ [zk_z P 0 4]) ++ [zk_z P 0 4]) ++ zk_c3 P (b + 41)) ++ [.inl (z_cA P 4, 3, .inr (.inr (.inr (.inr (fun _ => none)))))]) ++ zk_c1 P (b + 244)) ++ zk_c0 P (b + 249))) (raw := .inr (2, [.null, .null, .int 0, .int 0, .null, .null, .null])) (cs' := .inr (8, [.ref (b + 1), .int (0 : Int32), .ref (b + 2), .ref (b + 17), .ref (b + 24), .ref (b + 29), .ref (b + 34), .ref (b + 39), .ref (b + 40), .ref (b + 41), .ref (b + 243), .int (0 : Int32), .ref (b + 244), .ref (b + 249), .null]) :: ((((((((((((([] ++ [zk_z P 1 2000]) ++ zk_c4 P (b + 2)) ++ zk_c6 P (b + 17)) ++ zk_c5 P (b + 24)) ++ zk_c5 P (b + 29)) ++ zk_c5 P (b + 34)) ++ [zk_z P 0 4]) ++ [zk_z P 0 4]) ++ zk_c3 P (b + 41)) ++ [.inl (z_cA P 4, 3, .inr (.inr (.inr (.inr (fun _ => none)))))]) ++ zk_c1 P (b + 244)) ++ zk_c0 P (b + 249)) ++ zk_c2 P (b + 256))) (k := 256) (fun _ _ h => h.2) d_8_init_138 mw_2_init rfl nl_8_81 im_2_init rfl rfl (by simp only [List.length_cons, List.length_append, List.length_nil, zk_l0, zk_l1, zk_l2, zk_l3, zk_l4, zk_l5, zk_l6]) (by decide) ⟨by decide, by decide⟩ ⟨(by decide), (by decide)⟩ (k2 P (b + 256)) rfl ?_
  refine zk_put (j := 0) (k := 14) (cs' := .inr (8, [.ref (b + 1), .int (0 : Int32), .ref (b + 2), .ref (b + 17), .ref (b + 24), .ref (b + 29), .ref (b + 34), .ref (b + 39), .ref (b + 40), .ref (b + 41), .ref (b + 243), .int (0 : Int32), .ref (b + 244), .ref (b + 249), .ref (b + 256)]) :: ((((((((((((([] ++ [zk_z P 1 2000]) ++ zk_c4 P (b + 2)) ++ zk_c6 P (b + 17)) ++ zk_c5 P (b + 24)) ++ zk_c5 P (b + 29)) ++ zk_c5 P (b + 34)) ++ [zk_z P 0 4]) ++ [zk_z P 0 4]) ++ zk_c3 P (b + 41)) ++ [.inl (z_cA P 4, 3, .inr (.inr (.inr (.inr (fun _ => none)))))]) ++ zk_c1 P (b + 244)) ++ zk_c0 P (b + 249)) ++ zk_c2 P (b + 256))) (fun _ _ h => h.1) d_8_init_141 rfl rfl (by decide) fl_8_82 rfl (z_ty8 14 (by decide)) rfl rfl (Nat.le_of_ble_eq_true rfl) rfl ?_
  refine zg_iconst (v := (0 : Int32)) d_8_init_144 rfl ?_
  refine zg_istore_n (i := 1) (l' := [some (zA 0 0), some (zI (0 : Int32))]) d_8_init_145 rfl (by decide) rfl ?_
  refine zg_iload_n (i := 1) d_8_init_146 rfl rfl ?_
  refine zg_iconst (v := (3 : Int32)) d_8_init_147 rfl ?_
  refine zg_icmp_ge (tgt := 170) d_8_init_148 rfl (fun _ => ?_) (fun h => absurd (by decide) h)
  refine zg_aload_n (i := 0) d_8_init_151 rfl rfl ?_
  refine zk_get (k := 10) (i := 243) d_8_init_152 rfl rfl (by decide) fl_8_58 rfl ?_
  refine zg_iload_n (i := 1) d_8_init_155 rfl rfl ?_
  refine zk_new (ci := 5) d_8_init_156 rfl cl_8_31 ist_5 ini_5 z_df5 (k := 262) (by simp only [List.length_cons, List.length_append, List.length_nil, zk_l0, zk_l1, zk_l2, zk_l3, zk_l4, zk_l5, zk_l6]) (by decide) (by decide) ?_
  refine z_RGc (cs' := .inr (8, [.ref (b + 1), .int (0 : Int32), .ref (b + 2), .ref (b + 17), .ref (b + 24), .ref (b + 29), .ref (b + 34), .ref (b + 39), .ref (b + 40), .ref (b + 41), .ref (b + 243), .int (0 : Int32), .ref (b + 244), .ref (b + 249), .ref (b + 256)]) :: (((((((((((((([] ++ [zk_z P 1 2000]) ++ zk_c4 P (b + 2)) ++ zk_c6 P (b + 17)) ++ zk_c5 P (b + 24)) ++ zk_c5 P (b + 29)) ++ zk_c5 P (b + 34)) ++ [zk_z P 0 4]) ++ [zk_z P 0 4]) ++ zk_c3 P (b + 41)) ++ [.inl (z_cA P 4, 3, .inr (.inr (.inr (.inr (fun _ => none)))))]) ++ zk_c1 P (b + 244)) ++ zk_c0 P (b + 249)) ++ zk_c2 P (b + 256)) ++ [.inr (5, [.int 0, .int 0, .int 0, .null, .null, .null, .null])])) rfl ?_
  refine zg_dupa d_8_init_159 ?_
  refine zk_childN (cs0 := .inr (8, [.ref (b + 1), .int (0 : Int32), .ref (b + 2), .ref (b + 17), .ref (b + 24), .ref (b + 29), .ref (b + 34), .ref (b + 39), .ref (b + 40), .ref (b + 41), .ref (b + 243), .int (0 : Int32), .ref (b + 244), .ref (b + 249), .ref (b + 256)]) :: ((((((((((((([] ++ [zk_z P 1 2000]) ++ zk_c4 P (b + 2)) ++ zk_c6 P (b + 17)) ++ zk_c5 P (b + 24)) ++ zk_c5 P (b + 29)) ++ zk_c5 P (b + 34)) ++ [zk_z P 0 4]) ++ [zk_z P 0 4]) ++ zk_c3 P (b + 41)) ++ [.inl (z_cA P 4, 3, .inr (.inr (.inr (.inr (fun _ => none)))))]) ++ zk_c1 P (b + 244)) ++ zk_c0 P (b + 249)) ++ zk_c2 P (b + 256))) (raw := .inr (5, [.int 0, .int 0, .int 0, .null, .null, .null, .null])) (cs' := .inr (8, [.ref (b + 1), .int (0 : Int32), .ref (b + 2), .ref (b + 17), .ref (b + 24), .ref (b + 29), .ref (b + 34), .ref (b + 39), .ref (b + 40), .ref (b + 41), .ref (b + 243), .int (0 : Int32), .ref (b + 244), .ref (b + 249), .ref (b + 256)]) :: (((((((((((((([] ++ [zk_z P 1 2000]) ++ zk_c4 P (b + 2)) ++ zk_c6 P (b + 17)) ++ zk_c5 P (b + 24)) ++ zk_c5 P (b + 29)) ++ zk_c5 P (b + 34)) ++ [zk_z P 0 4]) ++ [zk_z P 0 4]) ++ zk_c3 P (b + 41)) ++ [.inl (z_cA P 4, 3, .inr (.inr (.inr (.inr (fun _ => none)))))]) ++ zk_c1 P (b + 244)) ++ zk_c0 P (b + 249)) ++ zk_c2 P (b + 256)) ++ zk_c5 P (b + 262))) (k := 262) (fun _ _ h => h.2) d_8_init_160 mw_5_init rfl nl_8_33 im_5_init rfl rfl (by simp only [List.length_cons, List.length_append, List.length_nil, zk_l0, zk_l1, zk_l2, zk_l3, zk_l4, zk_l5, zk_l6]) (by decide) ⟨by decide, by decide⟩ ⟨(by decide), (by decide)⟩ (k5 P (b + 262)) rfl ?_
  refine zk_aast (j := 243) (v := 262) (cs' := .inr (8, [.ref (b + 1), .int (0 : Int32), .ref (b + 2), .ref (b + 17), .ref (b + 24), .ref (b + 29), .ref (b + 34), .ref (b + 39), .ref (b + 40), .ref (b + 41), .ref (b + 243), .int (0 : Int32), .ref (b + 244), .ref (b + 249), .ref (b + 256)]) :: (((((((((((((([] ++ [zk_z P 1 2000]) ++ zk_c4 P (b + 2)) ++ zk_c6 P (b + 17)) ++ zk_c5 P (b + 24)) ++ zk_c5 P (b + 29)) ++ zk_c5 P (b + 34)) ++ [zk_z P 0 4]) ++ [zk_z P 0 4]) ++ zk_c3 P (b + 41)) ++ [.inl (z_cA P 4, 3, .inr (.inr (.inr (.inr (va_up (fun _ => none) 0 (some (b + 262)))))))]) ++ zk_c1 P (b + 244)) ++ zk_c0 P (b + 249)) ++ zk_c2 P (b + 256)) ++ zk_c5 P (b + 262))) d_8_init_163 (zk_gc (i := 242) (zk_gl (zk_gl (zk_gl (zk_gl (zk_ge (by simp only [List.length_cons, List.length_append, List.length_nil, zk_l0, zk_l1, zk_l2, zk_l3, zk_l4, zk_l5, zk_l6]))))))) (zk_gc (i := 261) (zk_gh (by simp only [List.length_cons, List.length_append, List.length_nil, zk_l0, zk_l1, zk_l2, zk_l3, zk_l4, zk_l5, zk_l6]) rfl)) rfl (zk_sc (i := 242) (zk_sl (by simp only [List.length_cons, List.length_append, List.length_nil, zk_l0, zk_l1, zk_l2, zk_l3, zk_l4, zk_l5, zk_l6]; decide) (zk_sl (by simp only [List.length_cons, List.length_append, List.length_nil, zk_l0, zk_l1, zk_l2, zk_l3, zk_l4, zk_l5, zk_l6]; decide) (zk_sl (by simp only [List.length_cons, List.length_append, List.length_nil, zk_l0, zk_l1, zk_l2, zk_l3, zk_l4, zk_l5, zk_l6]; decide) (zk_sl (by simp only [List.length_cons, List.length_append, List.length_nil, zk_l0, zk_l1, zk_l2, zk_l3, zk_l4, zk_l5, zk_l6]; decide) (zk_se (by simp only [List.length_cons, List.length_append, List.length_nil, zk_l0, zk_l1, zk_l2, zk_l3, zk_l4, zk_l5, zk_l6]))))))) ?_
  refine zg_iinc (v := (1 : Int32)) (l' := [some (zA 0 0), some (zI (1 : Int32))]) d_8_init_164 (by decide) rfl (by decide) rfl ?_
  refine zg_goto (tgt := 146) d_8_init_167 rfl ?_
  refine zg_iload_n (i := 1) d_8_init_146 rfl rfl ?_
  refine zg_iconst (v := (3 : Int32)) d_8_init_147 rfl ?_
  refine zg_icmp_ge (tgt := 170) d_8_init_148 rfl (fun _ => ?_) (fun h => absurd (by decide) h)
  refine zg_aload_n (i := 0) d_8_init_151 rfl rfl ?_
  refine zk_get (k := 10) (i := 243) d_8_init_152 rfl rfl (by decide) fl_8_58 rfl ?_
  refine zg_iload_n (i := 1) d_8_init_155 rfl rfl ?_
  refine zk_new (ci := 5) d_8_init_156 rfl cl_8_31 ist_5 ini_5 z_df5 (k := 267) (by simp only [List.length_cons, List.length_append, List.length_nil, zk_l0, zk_l1, zk_l2, zk_l3, zk_l4, zk_l5, zk_l6]) (by decide) (by decide) ?_
  refine z_RGc (cs' := .inr (8, [.ref (b + 1), .int (0 : Int32), .ref (b + 2), .ref (b + 17), .ref (b + 24), .ref (b + 29), .ref (b + 34), .ref (b + 39), .ref (b + 40), .ref (b + 41), .ref (b + 243), .int (0 : Int32), .ref (b + 244), .ref (b + 249), .ref (b + 256)]) :: ((((((((((((((([] ++ [zk_z P 1 2000]) ++ zk_c4 P (b + 2)) ++ zk_c6 P (b + 17)) ++ zk_c5 P (b + 24)) ++ zk_c5 P (b + 29)) ++ zk_c5 P (b + 34)) ++ [zk_z P 0 4]) ++ [zk_z P 0 4]) ++ zk_c3 P (b + 41)) ++ [.inl (z_cA P 4, 3, .inr (.inr (.inr (.inr (va_up (fun _ => none) 0 (some (b + 262)))))))]) ++ zk_c1 P (b + 244)) ++ zk_c0 P (b + 249)) ++ zk_c2 P (b + 256)) ++ zk_c5 P (b + 262)) ++ [.inr (5, [.int 0, .int 0, .int 0, .null, .null, .null, .null])])) rfl ?_
  refine zg_dupa d_8_init_159 ?_
  refine zk_childN (cs0 := .inr (8, [.ref (b + 1), .int (0 : Int32), .ref (b + 2), .ref (b + 17), .ref (b + 24), .ref (b + 29), .ref (b + 34), .ref (b + 39), .ref (b + 40), .ref (b + 41), .ref (b + 243), .int (0 : Int32), .ref (b + 244), .ref (b + 249), .ref (b + 256)]) :: (((((((((((((([] ++ [zk_z P 1 2000]) ++ zk_c4 P (b + 2)) ++ zk_c6 P (b + 17)) ++ zk_c5 P (b + 24)) ++ zk_c5 P (b + 29)) ++ zk_c5 P (b + 34)) ++ [zk_z P 0 4]) ++ [zk_z P 0 4]) ++ zk_c3 P (b + 41)) ++ [.inl (z_cA P 4, 3, .inr (.inr (.inr (.inr (va_up (fun _ => none) 0 (some (b + 262)))))))]) ++ zk_c1 P (b + 244)) ++ zk_c0 P (b + 249)) ++ zk_c2 P (b + 256)) ++ zk_c5 P (b + 262))) (raw := .inr (5, [.int 0, .int 0, .int 0, .null, .null, .null, .null])) (cs' := .inr (8, [.ref (b + 1), .int (0 : Int32), .ref (b + 2), .ref (b + 17), .ref (b + 24), .ref (b + 29), .ref (b + 34), .ref (b + 39), .ref (b + 40), .ref (b + 41), .ref (b + 243), .int (0 : Int32), .ref (b + 244), .ref (b + 249), .ref (b + 256)]) :: ((((((((((((((([] ++ [zk_z P 1 2000]) ++ zk_c4 P (b + 2)) ++ zk_c6 P (b + 17)) ++ zk_c5 P (b + 24)) ++ zk_c5 P (b + 29)) ++ zk_c5 P (b + 34)) ++ [zk_z P 0 4]) ++ [zk_z P 0 4]) ++ zk_c3 P (b + 41)) ++ [.inl (z_cA P 4, 3, .inr (.inr (.inr (.inr (va_up (fun _ => none) 0 (some (b + 262)))))))]) ++ zk_c1 P (b + 244)) ++ zk_c0 P (b + 249)) ++ zk_c2 P (b + 256)) ++ zk_c5 P (b + 262)) ++ zk_c5 P (b + 267))) (k := 267) (fun _ _ h => h.2) d_8_init_160 mw_5_init rfl nl_8_33 im_5_init rfl rfl (by simp only [List.length_cons, List.length_append, List.length_nil, zk_l0, zk_l1, zk_l2, zk_l3, zk_l4, zk_l5, zk_l6]) (by decide) ⟨by decide, by decide⟩ ⟨(by decide), (by decide)⟩ (k5 P (b + 267)) rfl ?_
  refine zk_aast (j := 243) (v := 267) (cs' := .inr (8, [.ref (b + 1), .int (0 : Int32), .ref (b + 2), .ref (b + 17), .ref (b + 24), .ref (b + 29), .ref (b + 34), .ref (b + 39), .ref (b + 40), .ref (b + 41), .ref (b + 243), .int (0 : Int32), .ref (b + 244), .ref (b + 249), .ref (b + 256)]) :: ((((((((((((((([] ++ [zk_z P 1 2000]) ++ zk_c4 P (b + 2)) ++ zk_c6 P (b + 17)) ++ zk_c5 P (b + 24)) ++ zk_c5 P (b + 29)) ++ zk_c5 P (b + 34)) ++ [zk_z P 0 4]) ++ [zk_z P 0 4]) ++ zk_c3 P (b + 41)) ++ [.inl (z_cA P 4, 3, .inr (.inr (.inr (.inr (va_up (va_up (fun _ => none) 0 (some (b + 262))) 1 (some (b + 267)))))))]) ++ zk_c1 P (b + 244)) ++ zk_c0 P (b + 249)) ++ zk_c2 P (b + 256)) ++ zk_c5 P (b + 262)) ++ zk_c5 P (b + 267))) d_8_init_163 (zk_gc (i := 242) (zk_gl (zk_gl (zk_gl (zk_gl (zk_gl (zk_ge (by simp only [List.length_cons, List.length_append, List.length_nil, zk_l0, zk_l1, zk_l2, zk_l3, zk_l4, zk_l5, zk_l6])))))))) (zk_gc (i := 266) (zk_gh (by simp only [List.length_cons, List.length_append, List.length_nil, zk_l0, zk_l1, zk_l2, zk_l3, zk_l4, zk_l5, zk_l6]) rfl)) rfl (zk_sc (i := 242) (zk_sl (by simp only [List.length_cons, List.length_append, List.length_nil, zk_l0, zk_l1, zk_l2, zk_l3, zk_l4, zk_l5, zk_l6]; decide) (zk_sl (by simp only [List.length_cons, List.length_append, List.length_nil, zk_l0, zk_l1, zk_l2, zk_l3, zk_l4, zk_l5, zk_l6]; decide) (zk_sl (by simp only [List.length_cons, List.length_append, List.length_nil, zk_l0, zk_l1, zk_l2, zk_l3, zk_l4, zk_l5, zk_l6]; decide) (zk_sl (by simp only [List.length_cons, List.length_append, List.length_nil, zk_l0, zk_l1, zk_l2, zk_l3, zk_l4, zk_l5, zk_l6]; decide) (zk_sl (by simp only [List.length_cons, List.length_append, List.length_nil, zk_l0, zk_l1, zk_l2, zk_l3, zk_l4, zk_l5, zk_l6]; decide) (zk_se (by simp only [List.length_cons, List.length_append, List.length_nil, zk_l0, zk_l1, zk_l2, zk_l3, zk_l4, zk_l5, zk_l6])))))))) ?_
  refine zg_iinc (v := (2 : Int32)) (l' := [some (zA 0 0), some (zI (2 : Int32))]) d_8_init_164 (by decide) rfl (by decide) rfl ?_
  refine zg_goto (tgt := 146) d_8_init_167 rfl ?_
  refine zg_iload_n (i := 1) d_8_init_146 rfl rfl ?_
  refine zg_iconst (v := (3 : Int32)) d_8_init_147 rfl ?_
  refine zg_icmp_ge (tgt := 170) d_8_init_148 rfl (fun _ => ?_) (fun h => absurd (by decide) h)
  refine zg_aload_n (i := 0) d_8_init_151 rfl rfl ?_
  refine zk_get (k := 10) (i := 243) d_8_init_152 rfl rfl (by decide) fl_8_58 rfl ?_
  refine zg_iload_n (i := 1) d_8_init_155 rfl rfl ?_
  refine zk_new (ci := 5) d_8_init_156 rfl cl_8_31 ist_5 ini_5 z_df5 (k := 272) (by simp only [List.length_cons, List.length_append, List.length_nil, zk_l0, zk_l1, zk_l2, zk_l3, zk_l4, zk_l5, zk_l6]) (by decide) (by decide) ?_
  refine z_RGc (cs' := .inr (8, [.ref (b + 1), .int (0 : Int32), .ref (b + 2), .ref (b + 17), .ref (b + 24), .ref (b + 29), .ref (b + 34), .ref (b + 39), .ref (b + 40), .ref (b + 41), .ref (b + 243), .int (0 : Int32), .ref (b + 244), .ref (b + 249), .ref (b + 256)]) :: (((((((((((((((([] ++ [zk_z P 1 2000]) ++ zk_c4 P (b + 2)) ++ zk_c6 P (b + 17)) ++ zk_c5 P (b + 24)) ++ zk_c5 P (b + 29)) ++ zk_c5 P (b + 34)) ++ [zk_z P 0 4]) ++ [zk_z P 0 4]) ++ zk_c3 P (b + 41)) ++ [.inl (z_cA P 4, 3, .inr (.inr (.inr (.inr (va_up (va_up (fun _ => none) 0 (some (b + 262))) 1 (some (b + 267)))))))]) ++ zk_c1 P (b + 244)) ++ zk_c0 P (b + 249)) ++ zk_c2 P (b + 256)) ++ zk_c5 P (b + 262)) ++ zk_c5 P (b + 267)) ++ [.inr (5, [.int 0, .int 0, .int 0, .null, .null, .null, .null])])) rfl ?_
  refine zg_dupa d_8_init_159 ?_
  refine zk_childN (cs0 := .inr (8, [.ref (b + 1), .int (0 : Int32), .ref (b + 2), .ref (b + 17), .ref (b + 24), .ref (b + 29), .ref (b + 34), .ref (b + 39), .ref (b + 40), .ref (b + 41), .ref (b + 243), .int (0 : Int32), .ref (b + 244), .ref (b + 249), .ref (b + 256)]) :: ((((((((((((((([] ++ [zk_z P 1 2000]) ++ zk_c4 P (b + 2)) ++ zk_c6 P (b + 17)) ++ zk_c5 P (b + 24)) ++ zk_c5 P (b + 29)) ++ zk_c5 P (b + 34)) ++ [zk_z P 0 4]) ++ [zk_z P 0 4]) ++ zk_c3 P (b + 41)) ++ [.inl (z_cA P 4, 3, .inr (.inr (.inr (.inr (va_up (va_up (fun _ => none) 0 (some (b + 262))) 1 (some (b + 267)))))))]) ++ zk_c1 P (b + 244)) ++ zk_c0 P (b + 249)) ++ zk_c2 P (b + 256)) ++ zk_c5 P (b + 262)) ++ zk_c5 P (b + 267))) (raw := .inr (5, [.int 0, .int 0, .int 0, .null, .null, .null, .null])) (cs' := .inr (8, [.ref (b + 1), .int (0 : Int32), .ref (b + 2), .ref (b + 17), .ref (b + 24), .ref (b + 29), .ref (b + 34), .ref (b + 39), .ref (b + 40), .ref (b + 41), .ref (b + 243), .int (0 : Int32), .ref (b + 244), .ref (b + 249), .ref (b + 256)]) :: (((((((((((((((([] ++ [zk_z P 1 2000]) ++ zk_c4 P (b + 2)) ++ zk_c6 P (b + 17)) ++ zk_c5 P (b + 24)) ++ zk_c5 P (b + 29)) ++ zk_c5 P (b + 34)) ++ [zk_z P 0 4]) ++ [zk_z P 0 4]) ++ zk_c3 P (b + 41)) ++ [.inl (z_cA P 4, 3, .inr (.inr (.inr (.inr (va_up (va_up (fun _ => none) 0 (some (b + 262))) 1 (some (b + 267)))))))]) ++ zk_c1 P (b + 244)) ++ zk_c0 P (b + 249)) ++ zk_c2 P (b + 256)) ++ zk_c5 P (b + 262)) ++ zk_c5 P (b + 267)) ++ zk_c5 P (b + 272))) (k := 272) (fun _ _ h => h.2) d_8_init_160 mw_5_init rfl nl_8_33 im_5_init rfl rfl (by simp only [List.length_cons, List.length_append, List.length_nil, zk_l0, zk_l1, zk_l2, zk_l3, zk_l4, zk_l5, zk_l6]) (by decide) ⟨by decide, by decide⟩ ⟨(by decide), (by decide)⟩ (k5 P (b + 272)) rfl ?_
  refine zk_aast (j := 243) (v := 272) (cs' := .inr (8, [.ref (b + 1), .int (0 : Int32), .ref (b + 2), .ref (b + 17), .ref (b + 24), .ref (b + 29), .ref (b + 34), .ref (b + 39), .ref (b + 40), .ref (b + 41), .ref (b + 243), .int (0 : Int32), .ref (b + 244), .ref (b + 249), .ref (b + 256)]) :: (((((((((((((((([] ++ [zk_z P 1 2000]) ++ zk_c4 P (b + 2)) ++ zk_c6 P (b + 17)) ++ zk_c5 P (b + 24)) ++ zk_c5 P (b + 29)) ++ zk_c5 P (b + 34)) ++ [zk_z P 0 4]) ++ [zk_z P 0 4]) ++ zk_c3 P (b + 41)) ++ [.inl (z_cA P 4, 3, .inr (.inr (.inr (.inr (va_up (va_up (va_up (fun _ => none) 0 (some (b + 262))) 1 (some (b + 267))) 2 (some (b + 272)))))))]) ++ zk_c1 P (b + 244)) ++ zk_c0 P (b + 249)) ++ zk_c2 P (b + 256)) ++ zk_c5 P (b + 262)) ++ zk_c5 P (b + 267)) ++ zk_c5 P (b + 272))) d_8_init_163 (zk_gc (i := 242) (zk_gl (zk_gl (zk_gl (zk_gl (zk_gl (zk_gl (zk_ge (by simp only [List.length_cons, List.length_append, List.length_nil, zk_l0, zk_l1, zk_l2, zk_l3, zk_l4, zk_l5, zk_l6]))))))))) (zk_gc (i := 271) (zk_gh (by simp only [List.length_cons, List.length_append, List.length_nil, zk_l0, zk_l1, zk_l2, zk_l3, zk_l4, zk_l5, zk_l6]) rfl)) rfl (zk_sc (i := 242) (zk_sl (by simp only [List.length_cons, List.length_append, List.length_nil, zk_l0, zk_l1, zk_l2, zk_l3, zk_l4, zk_l5, zk_l6]; decide) (zk_sl (by simp only [List.length_cons, List.length_append, List.length_nil, zk_l0, zk_l1, zk_l2, zk_l3, zk_l4, zk_l5, zk_l6]; decide) (zk_sl (by simp only [List.length_cons, List.length_append, List.length_nil, zk_l0, zk_l1, zk_l2, zk_l3, zk_l4, zk_l5, zk_l6]; decide) (zk_sl (by simp only [List.length_cons, List.length_append, List.length_nil, zk_l0, zk_l1, zk_l2, zk_l3, zk_l4, zk_l5, zk_l6]; decide) (zk_sl (by simp only [List.length_cons, List.length_append, List.length_nil, zk_l0, zk_l1, zk_l2, zk_l3, zk_l4, zk_l5, zk_l6]; decide) (zk_sl (by simp only [List.length_cons, List.length_append, List.length_nil, zk_l0, zk_l1, zk_l2, zk_l3, zk_l4, zk_l5, zk_l6]; decide) (zk_se (by simp only [List.length_cons, List.length_append, List.length_nil, zk_l0, zk_l1, zk_l2, zk_l3, zk_l4, zk_l5, zk_l6]))))))))) ?_
  refine zg_iinc (v := (3 : Int32)) (l' := [some (zA 0 0), some (zI (3 : Int32))]) d_8_init_164 (by decide) rfl (by decide) rfl ?_
  refine zg_goto (tgt := 146) d_8_init_167 rfl ?_
  refine zg_iload_n (i := 1) d_8_init_146 rfl rfl ?_
  refine zg_iconst (v := (3 : Int32)) d_8_init_147 rfl ?_
  refine zg_icmp_ge (tgt := 170) d_8_init_148 rfl (fun h => absurd h (by decide)) (fun _ => ?_)
  exact zk_ret d_8_init_170 rfl
theorem zk_l8 (P : zP) (b : Nat) : (zk_c8 P b).length = 277 := by
  unfold zk_c8
  simp only [List.length_cons, List.length_append, List.length_nil, zk_l0, zk_l1, zk_l2, zk_l3, zk_l4, zk_l5, zk_l6]
