theorem ml_9_7 : Cond.methodLink zR9 7 objectInit ∈ lw_gd := z_m5 (List.mem_of_getElem? (i := 129) rfl) rfl
theorem fl_9_13 : Cond.fieldLink zR9 13 (zT9 1).1 (zT9 1).2.1 (zT9 1).2.2.1 ∈ lw_gd := z_m5 (List.mem_of_getElem? (i := 149) rfl) rfl
theorem fl_9_17 : Cond.fieldLink zR9 17 (zT9 3).1 (zT9 3).2.1 (zT9 3).2.2.1 ∈ lw_gd := z_m5 (List.mem_of_getElem? (i := 151) rfl) rfl
theorem fl_9_20 : Cond.fieldLink zR9 20 (zT9 5).1 (zT9 5).2.1 (zT9 5).2.2.1 ∈ lw_gd := z_m5 (List.mem_of_getElem? (i := 153) rfl) rfl
theorem fl_9_24 : Cond.fieldLink zR9 24 (zT9 6).1 (zT9 6).2.1 (zT9 6).2.2.1 ∈ lw_gd := z_m5 (List.mem_of_getElem? (i := 154) rfl) rfl
theorem fl_9_27 : Cond.fieldLink zR9 27 (zT9 7).1 (zT9 7).2.1 (zT9 7).2.2.1 ∈ lw_gd := z_m5 (List.mem_of_getElem? (i := 155) rfl) rfl
theorem fl_9_30 : Cond.fieldLink zR9 30 (zT9 8).1 (zT9 8).2.1 (zT9 8).2.2.1 ∈ lw_gd := z_m5 (List.mem_of_getElem? (i := 156) rfl) rfl
theorem fl_9_34 : Cond.fieldLink zR9 34 (zT9 9).1 (zT9 9).2.1 (zT9 9).2.2.1 ∈ lw_gd := z_m5 (List.mem_of_getElem? (i := 157) rfl) rfl
theorem fl_9_37 : Cond.fieldLink zR9 37 (zT9 17).1 (zT9 17).2.1 (zT9 17).2.2.1 ∈ lw_gd := z_m5 (List.mem_of_getElem? (i := 165) rfl) rfl
theorem fl_9_40 : Cond.fieldLink zR9 40 (zT9 21).1 (zT9 21).2.1 (zT9 21).2.2.1 ∈ lw_gd := z_m5 (List.mem_of_getElem? (i := 169) rfl) rfl
theorem fl_9_43 : Cond.fieldLink zR9 43 (zT9 22).1 (zT9 22).2.1 (zT9 22).2.2.1 ∈ lw_gd := z_m5 (List.mem_of_getElem? (i := 170) rfl) rfl
theorem fl_9_46 : Cond.fieldLink zR9 46 (zT9 23).1 (zT9 23).2.1 (zT9 23).2.2.1 ∈ lw_gd := z_m5 (List.mem_of_getElem? (i := 171) rfl) rfl
theorem fl_9_49 : Cond.fieldLink zR9 49 (zT9 24).1 (zT9 24).2.1 (zT9 24).2.2.1 ∈ lw_gd := z_m5 (List.mem_of_getElem? (i := 172) rfl) rfl
theorem fl_9_52 : Cond.fieldLink zR9 52 (zT9 25).1 (zT9 25).2.1 (zT9 25).2.2.1 ∈ lw_gd := z_m5 (List.mem_of_getElem? (i := 173) rfl) rfl
theorem fl_9_55 : Cond.fieldLink zR9 55 (zT9 26).1 (zT9 26).2.1 (zT9 26).2.2.1 ∈ lw_gd := z_m5 (List.mem_of_getElem? (i := 174) rfl) rfl
theorem fl_9_58 : Cond.fieldLink zR9 58 (zT9 27).1 (zT9 27).2.1 (zT9 27).2.2.1 ∈ lw_gd := z_m5 (List.mem_of_getElem? (i := 175) rfl) rfl
theorem fl_9_61 : Cond.fieldLink zR9 61 (zT9 28).1 (zT9 28).2.1 (zT9 28).2.2.1 ∈ lw_gd := z_m5 (List.mem_of_getElem? (i := 176) rfl) rfl
theorem fl_9_64 : Cond.fieldLink zR9 64 (zT9 29).1 (zT9 29).2.1 (zT9 29).2.2.1 ∈ lw_gd := z_m5 (List.mem_of_getElem? (i := 177) rfl) rfl
theorem fl_9_67 : Cond.fieldLink zR9 67 (zT9 30).1 (zT9 30).2.1 (zT9 30).2.2.1 ∈ lw_gd := z_m5 (List.mem_of_getElem? (i := 178) rfl) rfl
theorem fl_9_70 : Cond.fieldLink zR9 70 (zT9 31).1 (zT9 31).2.1 (zT9 31).2.2.1 ∈ lw_gd := z_m5 (List.mem_of_getElem? (i := 179) rfl) rfl
theorem fl_9_73 : Cond.fieldLink zR9 73 (zT9 32).1 (zT9 32).2.1 (zT9 32).2.2.1 ∈ lw_gd := z_m5 (List.mem_of_getElem? (i := 180) rfl) rfl
theorem fl_9_76 : Cond.fieldLink zR9 76 (zT9 33).1 (zT9 33).2.1 (zT9 33).2.2.1 ∈ lw_gd := z_m5 (List.mem_of_getElem? (i := 181) rfl) rfl
theorem ac_2 : Cond.arrayClass FieldType.boolean ∈ lw_gd := z_m6 (List.mem_of_getElem? (i := 107) rfl) rfl
theorem fl_9_79 : Cond.fieldLink zR9 79 (zT9 35).1 (zT9 35).2.1 (zT9 35).2.2.1 ∈ lw_gd := z_m5 (List.mem_of_getElem? (i := 183) rfl) rfl
theorem fl_9_83 : Cond.fieldLink zR9 83 (zT9 36).1 (zT9 36).2.1 (zT9 36).2.2.1 ∈ lw_gd := z_m5 (List.mem_of_getElem? (i := 184) rfl) rfl
theorem fl_9_86 : Cond.fieldLink zR9 86 (zT9 37).1 (zT9 37).2.1 (zT9 37).2.2.1 ∈ lw_gd := z_m5 (List.mem_of_getElem? (i := 185) rfl) rfl
theorem fl_9_89 : Cond.fieldLink zR9 89 (zT9 38).1 (zT9 38).2.1 (zT9 38).2.2.1 ∈ lw_gd := z_m5 (List.mem_of_getElem? (i := 186) rfl) rfl
theorem fl_9_92 : Cond.fieldLink zR9 92 (zT9 39).1 (zT9 39).2.1 (zT9 39).2.2.1 ∈ lw_gd := z_m5 (List.mem_of_getElem? (i := 187) rfl) rfl
theorem fl_9_95 : Cond.fieldLink zR9 95 (zT9 41).1 (zT9 41).2.1 (zT9 41).2.2.1 ∈ lw_gd := z_m5 (List.mem_of_getElem? (i := 189) rfl) rfl
theorem fl_9_98 : Cond.fieldLink zR9 98 (zT9 42).1 (zT9 42).2.1 (zT9 42).2.2.1 ∈ lw_gd := z_m5 (List.mem_of_getElem? (i := 190) rfl) rfl
theorem fl_9_101 : Cond.fieldLink zR9 101 (zT9 43).1 (zT9 43).2.1 (zT9 43).2.2.1 ∈ lw_gd := z_m5 (List.mem_of_getElem? (i := 191) rfl) rfl
theorem fl_9_104 : Cond.fieldLink zR9 104 (zT9 45).1 (zT9 45).2.1 (zT9 45).2.2.1 ∈ lw_gd := z_m5 (List.mem_of_getElem? (i := 193) rfl) rfl
theorem fl_9_107 : Cond.fieldLink zR9 107 (zT9 46).1 (zT9 46).2.1 (zT9 46).2.2.1 ∈ lw_gd := z_m5 (List.mem_of_getElem? (i := 194) rfl) rfl
theorem fl_9_110 : Cond.fieldLink zR9 110 (zT9 48).1 (zT9 48).2.1 (zT9 48).2.2.1 ∈ lw_gd := z_m5 (List.mem_of_getElem? (i := 196) rfl) rfl
theorem fl_9_113 : Cond.fieldLink zR9 113 (zT9 49).1 (zT9 49).2.1 (zT9 49).2.2.1 ∈ lw_gd := z_m5 (List.mem_of_getElem? (i := 197) rfl) rfl
theorem fl_9_116 : Cond.fieldLink zR9 116 (zT9 52).1 (zT9 52).2.1 (zT9 52).2.2.1 ∈ lw_gd := z_m5 (List.mem_of_getElem? (i := 200) rfl) rfl
theorem fl_9_119 : Cond.fieldLink zR9 119 (zT9 53).1 (zT9 53).2.1 (zT9 53).2.2.1 ∈ lw_gd := z_m5 (List.mem_of_getElem? (i := 201) rfl) rfl
theorem fl_9_122 : Cond.fieldLink zR9 122 (zT9 54).1 (zT9 54).2.1 (zT9 54).2.2.1 ∈ lw_gd := z_m5 (List.mem_of_getElem? (i := 202) rfl) rfl
theorem fl_9_125 : Cond.fieldLink zR9 125 (zT9 56).1 (zT9 56).2.1 (zT9 56).2.2.1 ∈ lw_gd := z_m5 (List.mem_of_getElem? (i := 204) rfl) rfl
theorem fl_9_128 : Cond.fieldLink zR9 128 (zT9 57).1 (zT9 57).2.1 (zT9 57).2.2.1 ∈ lw_gd := z_m5 (List.mem_of_getElem? (i := 205) rfl) rfl
theorem fl_9_131 : Cond.fieldLink zR9 131 (zT9 59).1 (zT9 59).2.1 (zT9 59).2.2.1 ∈ lw_gd := z_m5 (List.mem_of_getElem? (i := 207) rfl) rfl
theorem fl_9_134 : Cond.fieldLink zR9 134 (zT9 60).1 (zT9 60).2.1 (zT9 60).2.2.1 ∈ lw_gd := z_m5 (List.mem_of_getElem? (i := 208) rfl) rfl
theorem fl_9_137 : Cond.fieldLink zR9 137 (zT9 61).1 (zT9 61).2.1 (zT9 61).2.2.1 ∈ lw_gd := z_m5 (List.mem_of_getElem? (i := 209) rfl) rfl
theorem fl_9_140 : Cond.fieldLink zR9 140 (zT9 62).1 (zT9 62).2.1 (zT9 62).2.2.1 ∈ lw_gd := z_m5 (List.mem_of_getElem? (i := 210) rfl) rfl
theorem fl_9_143 : Cond.fieldLink zR9 143 (zT9 63).1 (zT9 63).2.1 (zT9 63).2.2.1 ∈ lw_gd := z_m5 (List.mem_of_getElem? (i := 211) rfl) rfl
theorem fl_9_146 : Cond.fieldLink zR9 146 (zT9 64).1 (zT9 64).2.1 (zT9 64).2.2.1 ∈ lw_gd := z_m5 (List.mem_of_getElem? (i := 212) rfl) rfl
theorem fl_9_149 : Cond.fieldLink zR9 149 (zT9 65).1 (zT9 65).2.1 (zT9 65).2.2.1 ∈ lw_gd := z_m5 (List.mem_of_getElem? (i := 213) rfl) rfl
section ZN
variable {P : zP} {X : State → Method → Prop} {M : zM} {R : Room} {F : zF} {n1 n2 pc pc' b : Nat} {l : List (Option zV)} {st : List zV}
theorem zk_newaC {at_ : ArrayType} {t N k : Nat} {n : Int32} {x : va_E} {rs : List va_E} (hd : zD M.2.1 pc (.newarray at_) 2 pc') (hw : Cond.arrayClass (newarray.typeOf at_) ∈ lw_gd) (ht : (z_tys (zk_P P b))[t]? = some (z_cA P t, newarray.typeOf at_)) (hne : ∀ c, newarray.typeOf at_ ≠ .object c) (hc : ∀ cA : ClassId, vp_cell cA (N, if t = 3 then .inr (.inl fun _ => 0) else .inl fun _ => 0) = arrV cA N (fun _ => defaultValue (newarray.typeOf at_))) (hn : ¬ n < 0) (hN : n.toNatClampNeg = N) (hby : N * componentBytes (newarray.typeOf at_) ≤ 536870912) (hk : rs.length + 1 = k) (hc1 : n1 + 1 ≤ R.cells) (hs1 : n2 + N ≤ R.slots)
    (kk : ∀ rs', rs' = rs ++ [zk_z P t N] → rs'.length + 1 = k + 1 → z_RG (zk_P P b) X M R F (n1 + 1) (n2 + N) pc' l (zA 0 k :: st) (zk_H P b (x :: rs'))) : z_RG (zk_P P b) X M R F n1 n2 pc l (zI n :: st) (zk_H P b (x :: rs)) :=
  zk_newa hd hw ht hne hc hn hN hby (by rw [List.length_cons]; exact hk) hc1 hs1 (kk _ rfl (by show (rs ++ [zk_z P t N]).length + 1 = k + 1; rw [List.length_append]; show rs.length + 1 + 1 = k + 1; omega))
theorem zk_putC {idx ci k N : Nat} {C T} {fs : List Value} {rs : List va_E} {v : zV} {ty : FieldType} (hX : ∀ s meth, X s meth → meth.name = "<init>") (hd : zD M.2.1 pc (.putfield idx) 3 pc') (hcl : classes[ci]? = some (C, T, N)) (hkN : k < N) (hl : Cond.fieldLink M.1 idx (T k).1 (T k).2.1 (T k).2.2.1 ∈ lw_gd) (hown : (T k).1 = M.1) (hty : parseFieldDescriptor (T k).2.2.1 = some ty) (hn : narrow ty (z_cv (zk_P P b) v) = z_cv (zk_P P b) v) (hfit : fits ty (z_cv (zk_P P b) v) = true) (hlen : fs.length = N)
    (kk : ∀ fs', fs' = fs.set k (z_cv (zk_P P b) v) → fs'.length = N → z_RG (zk_P P b) X M R F n1 n2 pc' l st (zk_H P b (.inr (ci, fs') :: rs))) : z_RG (zk_P P b) X M R F n1 n2 pc l (v :: zA 0 0 :: st) (zk_H P b (.inr (ci, fs) :: rs)) :=
  zk_put hX hd rfl hcl hkN hl hown hty hn hfit (by rw [hlen]; exact hkN) rfl (kk _ rfl (by rw [List.length_set]; exact hlen))
end ZN
theorem mw_9_word : z_MW y_9_word M_9_word 7 := ⟨z_m1 (List.mem_of_getElem? (i := 10) rfl) rfl, z_m5 (List.mem_of_getElem? (i := 136) rfl) rfl, by decide, by decide, by decide +kernel⟩
theorem ml_9_156 : Cond.methodLink zR9 156 y_9_word ∈ lw_gd := z_m5 (List.mem_of_getElem? (i := 134) rfl) rfl
theorem is_9_word : Cond.static y_9_word ∈ lw_gd := z_m5 (List.mem_of_getElem? (i := 135) rfl) rfl
theorem fitM_1_3 : z_fit (z_rmK 6 44 11805) 44 11805 1 3 := ⟨by decide, by decide, by decide, by decide⟩
theorem fitM_2_7 : z_fit (z_rmK 6 44 11805) 44 11805 2 7 := ⟨by decide, by decide, by decide, by decide⟩
theorem fitM_1_2 : z_fit (z_rmK 6 44 11805) 44 11805 1 2 := ⟨by decide, by decide, by decide, by decide⟩
theorem d_9_init_0 : zD prog_11_method_2_code 0 (.aload_n 0) 1 1 := ⟨by decide +kernel, rfl⟩
theorem d_9_init_1 : zD prog_11_method_2_code 1 (.invokespecial 7) 3 4 := ⟨by decide +kernel, rfl⟩
theorem d_9_init_4 : zD prog_11_method_2_code 4 (.aload_n 0) 1 5 := ⟨by decide +kernel, rfl⟩
theorem d_9_init_5 : zD prog_11_method_2_code 5 (.sipush 2000) 3 8 := ⟨by decide +kernel, rfl⟩
theorem d_9_init_8 : zD prog_11_method_2_code 8 (.newarray .byte) 2 10 := ⟨by decide +kernel, rfl⟩
theorem d_9_init_10 : zD prog_11_method_2_code 10 (.putfield 13) 3 13 := ⟨by decide +kernel, rfl⟩
theorem d_9_init_13 : zD prog_11_method_2_code 13 (.aload_n 0) 1 14 := ⟨by decide +kernel, rfl⟩
theorem d_9_init_14 : zD prog_11_method_2_code 14 (.sipush 2000) 3 17 := ⟨by decide +kernel, rfl⟩
theorem d_9_init_17 : zD prog_11_method_2_code 17 (.newarray .byte) 2 19 := ⟨by decide +kernel, rfl⟩
theorem d_9_init_19 : zD prog_11_method_2_code 19 (.putfield 17) 3 22 := ⟨by decide +kernel, rfl⟩
theorem d_9_init_22 : zD prog_11_method_2_code 22 (.aload_n 0) 1 23 := ⟨by decide +kernel, rfl⟩
theorem d_9_init_23 : zD prog_11_method_2_code 23 (.sipush 403) 3 26 := ⟨by decide +kernel, rfl⟩
theorem d_9_init_26 : zD prog_11_method_2_code 26 (.newarray .int) 2 28 := ⟨by decide +kernel, rfl⟩
theorem d_9_init_28 : zD prog_11_method_2_code 28 (.putfield 20) 3 31 := ⟨by decide +kernel, rfl⟩
theorem d_9_init_31 : zD prog_11_method_2_code 31 (.aload_n 0) 1 32 := ⟨by decide +kernel, rfl⟩
theorem d_9_init_32 : zD prog_11_method_2_code 32 (.sipush 403) 3 35 := ⟨by decide +kernel, rfl⟩
theorem d_9_init_35 : zD prog_11_method_2_code 35 (.newarray .int) 2 37 := ⟨by decide +kernel, rfl⟩
theorem d_9_init_37 : zD prog_11_method_2_code 37 (.putfield 24) 3 40 := ⟨by decide +kernel, rfl⟩
theorem d_9_init_40 : zD prog_11_method_2_code 40 (.aload_n 0) 1 41 := ⟨by decide +kernel, rfl⟩
theorem d_9_init_41 : zD prog_11_method_2_code 41 (.sipush 403) 3 44 := ⟨by decide +kernel, rfl⟩
theorem d_9_init_44 : zD prog_11_method_2_code 44 (.newarray .int) 2 46 := ⟨by decide +kernel, rfl⟩
theorem d_9_init_46 : zD prog_11_method_2_code 46 (.putfield 27) 3 49 := ⟨by decide +kernel, rfl⟩
theorem d_9_init_49 : zD prog_11_method_2_code 49 (.aload_n 0) 1 50 := ⟨by decide +kernel, rfl⟩
theorem d_9_init_50 : zD prog_11_method_2_code 50 (.sipush 403) 3 53 := ⟨by decide +kernel, rfl⟩
theorem d_9_init_53 : zD prog_11_method_2_code 53 (.newarray .long) 2 55 := ⟨by decide +kernel, rfl⟩
theorem d_9_init_55 : zD prog_11_method_2_code 55 (.putfield 30) 3 58 := ⟨by decide +kernel, rfl⟩
theorem d_9_init_58 : zD prog_11_method_2_code 58 (.aload_n 0) 1 59 := ⟨by decide +kernel, rfl⟩
theorem d_9_init_59 : zD prog_11_method_2_code 59 (.bipush 21) 2 61 := ⟨by decide +kernel, rfl⟩
theorem d_9_init_61 : zD prog_11_method_2_code 61 (.newarray .long) 2 63 := ⟨by decide +kernel, rfl⟩
theorem d_9_init_63 : zD prog_11_method_2_code 63 (.putfield 34) 3 66 := ⟨by decide +kernel, rfl⟩
theorem d_9_init_66 : zD prog_11_method_2_code 66 (.aload_n 0) 1 67 := ⟨by decide +kernel, rfl⟩
theorem d_9_init_67 : zD prog_11_method_2_code 67 (.iconst (-1)) 1 68 := ⟨by decide +kernel, rfl⟩
theorem d_9_init_68 : zD prog_11_method_2_code 68 (.putfield 37) 3 71 := ⟨by decide +kernel, rfl⟩
theorem d_9_init_71 : zD prog_11_method_2_code 71 (.aload_n 0) 1 72 := ⟨by decide +kernel, rfl⟩
theorem d_9_init_72 : zD prog_11_method_2_code 72 (.bipush 12) 2 74 := ⟨by decide +kernel, rfl⟩
theorem d_9_init_74 : zD prog_11_method_2_code 74 (.newarray .long) 2 76 := ⟨by decide +kernel, rfl⟩
theorem d_9_init_76 : zD prog_11_method_2_code 76 (.putfield 40) 3 79 := ⟨by decide +kernel, rfl⟩
theorem d_9_init_79 : zD prog_11_method_2_code 79 (.aload_n 0) 1 80 := ⟨by decide +kernel, rfl⟩
theorem d_9_init_80 : zD prog_11_method_2_code 80 (.bipush 12) 2 82 := ⟨by decide +kernel, rfl⟩
theorem d_9_init_82 : zD prog_11_method_2_code 82 (.newarray .int) 2 84 := ⟨by decide +kernel, rfl⟩
theorem d_9_init_84 : zD prog_11_method_2_code 84 (.putfield 43) 3 87 := ⟨by decide +kernel, rfl⟩
theorem d_9_init_87 : zD prog_11_method_2_code 87 (.aload_n 0) 1 88 := ⟨by decide +kernel, rfl⟩
theorem d_9_init_88 : zD prog_11_method_2_code 88 (.iconst 2) 1 89 := ⟨by decide +kernel, rfl⟩
theorem d_9_init_89 : zD prog_11_method_2_code 89 (.newarray .int) 2 91 := ⟨by decide +kernel, rfl⟩
theorem d_9_init_91 : zD prog_11_method_2_code 91 (.putfield 46) 3 94 := ⟨by decide +kernel, rfl⟩
theorem d_9_init_94 : zD prog_11_method_2_code 94 (.aload_n 0) 1 95 := ⟨by decide +kernel, rfl⟩
theorem d_9_init_95 : zD prog_11_method_2_code 95 (.bipush 10) 2 97 := ⟨by decide +kernel, rfl⟩
theorem d_9_init_97 : zD prog_11_method_2_code 97 (.newarray .int) 2 99 := ⟨by decide +kernel, rfl⟩
theorem d_9_init_99 : zD prog_11_method_2_code 99 (.putfield 49) 3 102 := ⟨by decide +kernel, rfl⟩
theorem d_9_init_102 : zD prog_11_method_2_code 102 (.aload_n 0) 1 103 := ⟨by decide +kernel, rfl⟩
theorem d_9_init_103 : zD prog_11_method_2_code 103 (.bipush 10) 2 105 := ⟨by decide +kernel, rfl⟩
theorem d_9_init_105 : zD prog_11_method_2_code 105 (.newarray .int) 2 107 := ⟨by decide +kernel, rfl⟩
theorem d_9_init_107 : zD prog_11_method_2_code 107 (.putfield 52) 3 110 := ⟨by decide +kernel, rfl⟩
theorem d_9_init_110 : zD prog_11_method_2_code 110 (.aload_n 0) 1 111 := ⟨by decide +kernel, rfl⟩
theorem d_9_init_111 : zD prog_11_method_2_code 111 (.iconst 2) 1 112 := ⟨by decide +kernel, rfl⟩
theorem d_9_init_112 : zD prog_11_method_2_code 112 (.newarray .int) 2 114 := ⟨by decide +kernel, rfl⟩
theorem d_9_init_114 : zD prog_11_method_2_code 114 (.putfield 55) 3 117 := ⟨by decide +kernel, rfl⟩
theorem d_9_init_117 : zD prog_11_method_2_code 117 (.aload_n 0) 1 118 := ⟨by decide +kernel, rfl⟩
theorem d_9_init_118 : zD prog_11_method_2_code 118 (.bipush 14) 2 120 := ⟨by decide +kernel, rfl⟩
theorem d_9_init_120 : zD prog_11_method_2_code 120 (.newarray .int) 2 122 := ⟨by decide +kernel, rfl⟩
theorem d_9_init_122 : zD prog_11_method_2_code 122 (.putfield 58) 3 125 := ⟨by decide +kernel, rfl⟩
theorem d_9_init_125 : zD prog_11_method_2_code 125 (.aload_n 0) 1 126 := ⟨by decide +kernel, rfl⟩
theorem d_9_init_126 : zD prog_11_method_2_code 126 (.bipush 14) 2 128 := ⟨by decide +kernel, rfl⟩
theorem d_9_init_128 : zD prog_11_method_2_code 128 (.newarray .int) 2 130 := ⟨by decide +kernel, rfl⟩
theorem d_9_init_130 : zD prog_11_method_2_code 130 (.putfield 61) 3 133 := ⟨by decide +kernel, rfl⟩
theorem d_9_init_133 : zD prog_11_method_2_code 133 (.aload_n 0) 1 134 := ⟨by decide +kernel, rfl⟩
theorem d_9_init_134 : zD prog_11_method_2_code 134 (.iconst 2) 1 135 := ⟨by decide +kernel, rfl⟩
theorem d_9_init_135 : zD prog_11_method_2_code 135 (.newarray .int) 2 137 := ⟨by decide +kernel, rfl⟩
theorem d_9_init_137 : zD prog_11_method_2_code 137 (.putfield 64) 3 140 := ⟨by decide +kernel, rfl⟩
theorem d_9_init_140 : zD prog_11_method_2_code 140 (.aload_n 0) 1 141 := ⟨by decide +kernel, rfl⟩
theorem d_9_init_141 : zD prog_11_method_2_code 141 (.iconst 2) 1 142 := ⟨by decide +kernel, rfl⟩
theorem d_9_init_142 : zD prog_11_method_2_code 142 (.newarray .int) 2 144 := ⟨by decide +kernel, rfl⟩
theorem d_9_init_144 : zD prog_11_method_2_code 144 (.putfield 67) 3 147 := ⟨by decide +kernel, rfl⟩
theorem d_9_init_147 : zD prog_11_method_2_code 147 (.aload_n 0) 1 148 := ⟨by decide +kernel, rfl⟩
theorem d_9_init_148 : zD prog_11_method_2_code 148 (.iconst 2) 1 149 := ⟨by decide +kernel, rfl⟩
theorem d_9_init_149 : zD prog_11_method_2_code 149 (.newarray .int) 2 151 := ⟨by decide +kernel, rfl⟩
theorem d_9_init_151 : zD prog_11_method_2_code 151 (.putfield 70) 3 154 := ⟨by decide +kernel, rfl⟩
theorem d_9_init_154 : zD prog_11_method_2_code 154 (.aload_n 0) 1 155 := ⟨by decide +kernel, rfl⟩
theorem d_9_init_155 : zD prog_11_method_2_code 155 (.bipush 8) 2 157 := ⟨by decide +kernel, rfl⟩
theorem d_9_init_157 : zD prog_11_method_2_code 157 (.newarray .int) 2 159 := ⟨by decide +kernel, rfl⟩
theorem d_9_init_159 : zD prog_11_method_2_code 159 (.putfield 73) 3 162 := ⟨by decide +kernel, rfl⟩
theorem d_9_init_162 : zD prog_11_method_2_code 162 (.aload_n 0) 1 163 := ⟨by decide +kernel, rfl⟩
theorem d_9_init_163 : zD prog_11_method_2_code 163 (.bipush 8) 2 165 := ⟨by decide +kernel, rfl⟩
theorem d_9_init_165 : zD prog_11_method_2_code 165 (.newarray .int) 2 167 := ⟨by decide +kernel, rfl⟩
theorem d_9_init_167 : zD prog_11_method_2_code 167 (.putfield 76) 3 170 := ⟨by decide +kernel, rfl⟩
theorem d_9_init_170 : zD prog_11_method_2_code 170 (.aload_n 0) 1 171 := ⟨by decide +kernel, rfl⟩
theorem d_9_init_171 : zD prog_11_method_2_code 171 (.sipush 260) 3 174 := ⟨by decide +kernel, rfl⟩
theorem d_9_init_174 : zD prog_11_method_2_code 174 (.newarray .boolean) 2 176 := ⟨by decide +kernel, rfl⟩
theorem d_9_init_176 : zD prog_11_method_2_code 176 (.putfield 79) 3 179 := ⟨by decide +kernel, rfl⟩
theorem d_9_init_179 : zD prog_11_method_2_code 179 (.aload_n 0) 1 180 := ⟨by decide +kernel, rfl⟩
theorem d_9_init_180 : zD prog_11_method_2_code 180 (.sipush 260) 3 183 := ⟨by decide +kernel, rfl⟩
theorem d_9_init_183 : zD prog_11_method_2_code 183 (.newarray .int) 2 185 := ⟨by decide +kernel, rfl⟩
theorem d_9_init_185 : zD prog_11_method_2_code 185 (.putfield 83) 3 188 := ⟨by decide +kernel, rfl⟩
theorem d_9_init_188 : zD prog_11_method_2_code 188 (.aload_n 0) 1 189 := ⟨by decide +kernel, rfl⟩
theorem d_9_init_189 : zD prog_11_method_2_code 189 (.sipush 260) 3 192 := ⟨by decide +kernel, rfl⟩
theorem d_9_init_192 : zD prog_11_method_2_code 192 (.newarray .int) 2 194 := ⟨by decide +kernel, rfl⟩
theorem d_9_init_194 : zD prog_11_method_2_code 194 (.putfield 86) 3 197 := ⟨by decide +kernel, rfl⟩
theorem d_9_init_197 : zD prog_11_method_2_code 197 (.aload_n 0) 1 198 := ⟨by decide +kernel, rfl⟩
theorem d_9_init_198 : zD prog_11_method_2_code 198 (.sipush 260) 3 201 := ⟨by decide +kernel, rfl⟩
theorem d_9_init_201 : zD prog_11_method_2_code 201 (.newarray .int) 2 203 := ⟨by decide +kernel, rfl⟩
theorem d_9_init_203 : zD prog_11_method_2_code 203 (.putfield 89) 3 206 := ⟨by decide +kernel, rfl⟩
theorem d_9_init_206 : zD prog_11_method_2_code 206 (.aload_n 0) 1 207 := ⟨by decide +kernel, rfl⟩
theorem d_9_init_207 : zD prog_11_method_2_code 207 (.sipush 260) 3 210 := ⟨by decide +kernel, rfl⟩
theorem d_9_init_210 : zD prog_11_method_2_code 210 (.newarray .int) 2 212 := ⟨by decide +kernel, rfl⟩
theorem d_9_init_212 : zD prog_11_method_2_code 212 (.putfield 92) 3 215 := ⟨by decide +kernel, rfl⟩
theorem d_9_init_215 : zD prog_11_method_2_code 215 (.aload_n 0) 1 216 := ⟨by decide +kernel, rfl⟩
theorem d_9_init_216 : zD prog_11_method_2_code 216 (.sipush 840) 3 219 := ⟨by decide +kernel, rfl⟩
theorem d_9_init_219 : zD prog_11_method_2_code 219 (.newarray .int) 2 221 := ⟨by decide +kernel, rfl⟩
theorem d_9_init_221 : zD prog_11_method_2_code 221 (.putfield 95) 3 224 := ⟨by decide +kernel, rfl⟩
theorem d_9_init_224 : zD prog_11_method_2_code 224 (.aload_n 0) 1 225 := ⟨by decide +kernel, rfl⟩
theorem d_9_init_225 : zD prog_11_method_2_code 225 (.sipush 840) 3 228 := ⟨by decide +kernel, rfl⟩
theorem d_9_init_228 : zD prog_11_method_2_code 228 (.newarray .int) 2 230 := ⟨by decide +kernel, rfl⟩
theorem d_9_init_230 : zD prog_11_method_2_code 230 (.putfield 98) 3 233 := ⟨by decide +kernel, rfl⟩
theorem d_9_init_233 : zD prog_11_method_2_code 233 (.aload_n 0) 1 234 := ⟨by decide +kernel, rfl⟩
theorem d_9_init_234 : zD prog_11_method_2_code 234 (.bipush 64) 2 236 := ⟨by decide +kernel, rfl⟩
theorem d_9_init_236 : zD prog_11_method_2_code 236 (.newarray .int) 2 238 := ⟨by decide +kernel, rfl⟩
theorem d_9_init_238 : zD prog_11_method_2_code 238 (.putfield 101) 3 241 := ⟨by decide +kernel, rfl⟩
theorem d_9_init_241 : zD prog_11_method_2_code 241 (.aload_n 0) 1 242 := ⟨by decide +kernel, rfl⟩
theorem d_9_init_242 : zD prog_11_method_2_code 242 (.bipush 9) 2 244 := ⟨by decide +kernel, rfl⟩
theorem d_9_init_244 : zD prog_11_method_2_code 244 (.newarray .int) 2 246 := ⟨by decide +kernel, rfl⟩
theorem d_9_init_246 : zD prog_11_method_2_code 246 (.putfield 104) 3 249 := ⟨by decide +kernel, rfl⟩
theorem d_9_init_249 : zD prog_11_method_2_code 249 (.aload_n 0) 1 250 := ⟨by decide +kernel, rfl⟩
theorem d_9_init_250 : zD prog_11_method_2_code 250 (.sipush 400) 3 253 := ⟨by decide +kernel, rfl⟩
theorem d_9_init_253 : zD prog_11_method_2_code 253 (.newarray .int) 2 255 := ⟨by decide +kernel, rfl⟩
theorem d_9_init_255 : zD prog_11_method_2_code 255 (.putfield 107) 3 258 := ⟨by decide +kernel, rfl⟩
theorem d_9_init_258 : zD prog_11_method_2_code 258 (.aload_n 0) 1 259 := ⟨by decide +kernel, rfl⟩
theorem d_9_init_259 : zD prog_11_method_2_code 259 (.bipush 34) 2 261 := ⟨by decide +kernel, rfl⟩
theorem d_9_init_261 : zD prog_11_method_2_code 261 (.newarray .int) 2 263 := ⟨by decide +kernel, rfl⟩
theorem d_9_init_263 : zD prog_11_method_2_code 263 (.putfield 110) 3 266 := ⟨by decide +kernel, rfl⟩
theorem d_9_init_266 : zD prog_11_method_2_code 266 (.aload_n 0) 1 267 := ⟨by decide +kernel, rfl⟩
theorem d_9_init_267 : zD prog_11_method_2_code 267 (.bipush 34) 2 269 := ⟨by decide +kernel, rfl⟩
theorem d_9_init_269 : zD prog_11_method_2_code 269 (.newarray .int) 2 271 := ⟨by decide +kernel, rfl⟩
theorem d_9_init_271 : zD prog_11_method_2_code 271 (.putfield 113) 3 274 := ⟨by decide +kernel, rfl⟩
theorem d_9_init_274 : zD prog_11_method_2_code 274 (.aload_n 0) 1 275 := ⟨by decide +kernel, rfl⟩
theorem d_9_init_275 : zD prog_11_method_2_code 275 (.iconst 5) 1 276 := ⟨by decide +kernel, rfl⟩
theorem d_9_init_276 : zD prog_11_method_2_code 276 (.newarray .int) 2 278 := ⟨by decide +kernel, rfl⟩
theorem d_9_init_278 : zD prog_11_method_2_code 278 (.putfield 116) 3 281 := ⟨by decide +kernel, rfl⟩
theorem d_9_init_281 : zD prog_11_method_2_code 281 (.aload_n 0) 1 282 := ⟨by decide +kernel, rfl⟩
theorem d_9_init_282 : zD prog_11_method_2_code 282 (.iconst 5) 1 283 := ⟨by decide +kernel, rfl⟩
theorem d_9_init_283 : zD prog_11_method_2_code 283 (.newarray .int) 2 285 := ⟨by decide +kernel, rfl⟩
theorem d_9_init_285 : zD prog_11_method_2_code 285 (.putfield 119) 3 288 := ⟨by decide +kernel, rfl⟩
theorem d_9_init_288 : zD prog_11_method_2_code 288 (.aload_n 0) 1 289 := ⟨by decide +kernel, rfl⟩
theorem d_9_init_289 : zD prog_11_method_2_code 289 (.bipush 7) 2 291 := ⟨by decide +kernel, rfl⟩
theorem d_9_init_291 : zD prog_11_method_2_code 291 (.newarray .int) 2 293 := ⟨by decide +kernel, rfl⟩
theorem d_9_init_293 : zD prog_11_method_2_code 293 (.putfield 122) 3 296 := ⟨by decide +kernel, rfl⟩
theorem d_9_init_296 : zD prog_11_method_2_code 296 (.aload_n 0) 1 297 := ⟨by decide +kernel, rfl⟩
theorem d_9_init_297 : zD prog_11_method_2_code 297 (.sipush 1360) 3 300 := ⟨by decide +kernel, rfl⟩
theorem d_9_init_300 : zD prog_11_method_2_code 300 (.newarray .int) 2 302 := ⟨by decide +kernel, rfl⟩
theorem d_9_init_302 : zD prog_11_method_2_code 302 (.putfield 125) 3 305 := ⟨by decide +kernel, rfl⟩
theorem d_9_init_305 : zD prog_11_method_2_code 305 (.aload_n 0) 1 306 := ⟨by decide +kernel, rfl⟩
theorem d_9_init_306 : zD prog_11_method_2_code 306 (.sipush 768) 3 309 := ⟨by decide +kernel, rfl⟩
theorem d_9_init_309 : zD prog_11_method_2_code 309 (.newarray .int) 2 311 := ⟨by decide +kernel, rfl⟩
theorem d_9_init_311 : zD prog_11_method_2_code 311 (.putfield 128) 3 314 := ⟨by decide +kernel, rfl⟩
theorem d_9_init_314 : zD prog_11_method_2_code 314 (.aload_n 0) 1 315 := ⟨by decide +kernel, rfl⟩
theorem d_9_init_315 : zD prog_11_method_2_code 315 (.bipush 20) 2 317 := ⟨by decide +kernel, rfl⟩
theorem d_9_init_317 : zD prog_11_method_2_code 317 (.newarray .int) 2 319 := ⟨by decide +kernel, rfl⟩
theorem d_9_init_319 : zD prog_11_method_2_code 319 (.putfield 131) 3 322 := ⟨by decide +kernel, rfl⟩
theorem d_9_init_322 : zD prog_11_method_2_code 322 (.aload_n 0) 1 323 := ⟨by decide +kernel, rfl⟩
theorem d_9_init_323 : zD prog_11_method_2_code 323 (.bipush 20) 2 325 := ⟨by decide +kernel, rfl⟩
theorem d_9_init_325 : zD prog_11_method_2_code 325 (.newarray .int) 2 327 := ⟨by decide +kernel, rfl⟩
theorem d_9_init_327 : zD prog_11_method_2_code 327 (.putfield 134) 3 330 := ⟨by decide +kernel, rfl⟩
theorem d_9_init_330 : zD prog_11_method_2_code 330 (.aload_n 0) 1 331 := ⟨by decide +kernel, rfl⟩
theorem d_9_init_331 : zD prog_11_method_2_code 331 (.bipush 7) 2 333 := ⟨by decide +kernel, rfl⟩
theorem d_9_init_333 : zD prog_11_method_2_code 333 (.newarray .int) 2 335 := ⟨by decide +kernel, rfl⟩
theorem d_9_init_335 : zD prog_11_method_2_code 335 (.putfield 137) 3 338 := ⟨by decide +kernel, rfl⟩
theorem d_9_init_338 : zD prog_11_method_2_code 338 (.aload_n 0) 1 339 := ⟨by decide +kernel, rfl⟩
theorem d_9_init_339 : zD prog_11_method_2_code 339 (.sipush 128) 3 342 := ⟨by decide +kernel, rfl⟩
theorem d_9_init_342 : zD prog_11_method_2_code 342 (.newarray .int) 2 344 := ⟨by decide +kernel, rfl⟩
theorem d_9_init_344 : zD prog_11_method_2_code 344 (.putfield 140) 3 347 := ⟨by decide +kernel, rfl⟩
theorem d_9_init_347 : zD prog_11_method_2_code 347 (.aload_n 0) 1 348 := ⟨by decide +kernel, rfl⟩
theorem d_9_init_348 : zD prog_11_method_2_code 348 (.sipush 128) 3 351 := ⟨by decide +kernel, rfl⟩
theorem d_9_init_351 : zD prog_11_method_2_code 351 (.newarray .int) 2 353 := ⟨by decide +kernel, rfl⟩
theorem d_9_init_353 : zD prog_11_method_2_code 353 (.putfield 143) 3 356 := ⟨by decide +kernel, rfl⟩
theorem d_9_init_356 : zD prog_11_method_2_code 356 (.aload_n 0) 1 357 := ⟨by decide +kernel, rfl⟩
theorem d_9_init_357 : zD prog_11_method_2_code 357 (.iconst 3) 1 358 := ⟨by decide +kernel, rfl⟩
theorem d_9_init_358 : zD prog_11_method_2_code 358 (.newarray .boolean) 2 360 := ⟨by decide +kernel, rfl⟩
theorem d_9_init_360 : zD prog_11_method_2_code 360 (.putfield 146) 3 363 := ⟨by decide +kernel, rfl⟩
theorem d_9_init_363 : zD prog_11_method_2_code 363 (.aload_n 0) 1 364 := ⟨by decide +kernel, rfl⟩
theorem d_9_init_364 : zD prog_11_method_2_code 364 (.bipush 102) 2 366 := ⟨by decide +kernel, rfl⟩
theorem d_9_init_366 : zD prog_11_method_2_code 366 (.newarray .int) 2 368 := ⟨by decide +kernel, rfl⟩
theorem d_9_init_368 : zD prog_11_method_2_code 368 (.putfield 149) 3 371 := ⟨by decide +kernel, rfl⟩
theorem d_9_init_371 : zD prog_11_method_2_code 371 (.aload_n 0) 1 372 := ⟨by decide +kernel, rfl⟩
theorem d_9_init_372 : zD prog_11_method_2_code 372 (.iconst 0) 1 373 := ⟨by decide +kernel, rfl⟩
theorem d_9_init_373 : zD prog_11_method_2_code 373 (.invokevirtual 152) 3 376 := ⟨by decide +kernel, rfl⟩
theorem d_9_init_376 : zD prog_11_method_2_code 376 (.aload_n 0) 1 377 := ⟨by decide +kernel, rfl⟩
theorem d_9_init_377 : zD prog_11_method_2_code 377 (.iconst 1) 1 378 := ⟨by decide +kernel, rfl⟩
theorem d_9_init_378 : zD prog_11_method_2_code 378 (.invokevirtual 152) 3 381 := ⟨by decide +kernel, rfl⟩
theorem d_9_init_381 : zD prog_11_method_2_code 381 (.aload_n 0) 1 382 := ⟨by decide +kernel, rfl⟩
theorem d_9_init_382 : zD prog_11_method_2_code 382 (.getfield 34) 3 385 := ⟨by decide +kernel, rfl⟩
theorem d_9_init_385 : zD prog_11_method_2_code 385 (.iconst 0) 1 386 := ⟨by decide +kernel, rfl⟩
theorem d_9_init_386 : zD prog_11_method_2_code 386 (.bipush 104) 2 388 := ⟨by decide +kernel, rfl⟩
theorem d_9_init_388 : zD prog_11_method_2_code 388 (.bipush 111) 2 390 := ⟨by decide +kernel, rfl⟩
theorem d_9_init_390 : zD prog_11_method_2_code 390 (.bipush 117) 2 392 := ⟨by decide +kernel, rfl⟩
theorem d_9_init_392 : zD prog_11_method_2_code 392 (.bipush 115) 2 394 := ⟨by decide +kernel, rfl⟩
theorem d_9_init_394 : zD prog_11_method_2_code 394 (.bipush 101) 2 396 := ⟨by decide +kernel, rfl⟩
theorem d_9_init_396 : zD prog_11_method_2_code 396 (.iconst 0) 1 397 := ⟨by decide +kernel, rfl⟩
theorem d_9_init_397 : zD prog_11_method_2_code 397 (.iconst 0) 1 398 := ⟨by decide +kernel, rfl⟩
theorem d_9_init_398 : zD prog_11_method_2_code 398 (.invokestatic 156) 3 401 := ⟨by decide +kernel, rfl⟩
theorem d_9_init_401 : zD prog_11_method_2_code 401 (.lastore) 1 402 := ⟨by decide +kernel, rfl⟩
theorem d_9_init_402 : zD prog_11_method_2_code 402 (.aload_n 0) 1 403 := ⟨by decide +kernel, rfl⟩
theorem d_9_init_403 : zD prog_11_method_2_code 403 (.getfield 34) 3 406 := ⟨by decide +kernel, rfl⟩
theorem d_9_init_406 : zD prog_11_method_2_code 406 (.iconst 1) 1 407 := ⟨by decide +kernel, rfl⟩
theorem d_9_init_407 : zD prog_11_method_2_code 407 (.bipush 112) 2 409 := ⟨by decide +kernel, rfl⟩
theorem d_9_init_409 : zD prog_11_method_2_code 409 (.bipush 101) 2 411 := ⟨by decide +kernel, rfl⟩
theorem d_9_init_411 : zD prog_11_method_2_code 411 (.bipush 114) 2 413 := ⟨by decide +kernel, rfl⟩
theorem d_9_init_413 : zD prog_11_method_2_code 413 (.bipush 115) 2 415 := ⟨by decide +kernel, rfl⟩
theorem d_9_init_415 : zD prog_11_method_2_code 415 (.bipush 111) 2 417 := ⟨by decide +kernel, rfl⟩
theorem d_9_init_417 : zD prog_11_method_2_code 417 (.bipush 110) 2 419 := ⟨by decide +kernel, rfl⟩
theorem d_9_init_419 : zD prog_11_method_2_code 419 (.iconst 0) 1 420 := ⟨by decide +kernel, rfl⟩
theorem d_9_init_420 : zD prog_11_method_2_code 420 (.invokestatic 156) 3 423 := ⟨by decide +kernel, rfl⟩
theorem d_9_init_423 : zD prog_11_method_2_code 423 (.lastore) 1 424 := ⟨by decide +kernel, rfl⟩
theorem d_9_init_424 : zD prog_11_method_2_code 424 (.aload_n 0) 1 425 := ⟨by decide +kernel, rfl⟩
theorem d_9_init_425 : zD prog_11_method_2_code 425 (.getfield 34) 3 428 := ⟨by decide +kernel, rfl⟩
theorem d_9_init_428 : zD prog_11_method_2_code 428 (.iconst 2) 1 429 := ⟨by decide +kernel, rfl⟩
theorem d_9_init_429 : zD prog_11_method_2_code 429 (.bipush 114) 2 431 := ⟨by decide +kernel, rfl⟩
theorem d_9_init_431 : zD prog_11_method_2_code 431 (.bipush 105) 2 433 := ⟨by decide +kernel, rfl⟩
theorem d_9_init_433 : zD prog_11_method_2_code 433 (.bipush 103) 2 435 := ⟨by decide +kernel, rfl⟩
theorem d_9_init_435 : zD prog_11_method_2_code 435 (.bipush 104) 2 437 := ⟨by decide +kernel, rfl⟩
theorem d_9_init_437 : zD prog_11_method_2_code 437 (.bipush 116) 2 439 := ⟨by decide +kernel, rfl⟩
theorem d_9_init_439 : zD prog_11_method_2_code 439 (.iconst 0) 1 440 := ⟨by decide +kernel, rfl⟩
theorem d_9_init_440 : zD prog_11_method_2_code 440 (.iconst 0) 1 441 := ⟨by decide +kernel, rfl⟩
theorem d_9_init_441 : zD prog_11_method_2_code 441 (.invokestatic 156) 3 444 := ⟨by decide +kernel, rfl⟩
theorem d_9_init_444 : zD prog_11_method_2_code 444 (.lastore) 1 445 := ⟨by decide +kernel, rfl⟩
theorem d_9_init_445 : zD prog_11_method_2_code 445 (.aload_n 0) 1 446 := ⟨by decide +kernel, rfl⟩
theorem d_9_init_446 : zD prog_11_method_2_code 446 (.getfield 34) 3 449 := ⟨by decide +kernel, rfl⟩
theorem d_9_init_449 : zD prog_11_method_2_code 449 (.iconst 3) 1 450 := ⟨by decide +kernel, rfl⟩
theorem d_9_init_450 : zD prog_11_method_2_code 450 (.bipush 97) 2 452 := ⟨by decide +kernel, rfl⟩
theorem d_9_init_452 : zD prog_11_method_2_code 452 (.bipush 119) 2 454 := ⟨by decide +kernel, rfl⟩
theorem d_9_init_454 : zD prog_11_method_2_code 454 (.bipush 97) 2 456 := ⟨by decide +kernel, rfl⟩
theorem d_9_init_456 : zD prog_11_method_2_code 456 (.bipush 121) 2 458 := ⟨by decide +kernel, rfl⟩
theorem d_9_init_458 : zD prog_11_method_2_code 458 (.iconst 0) 1 459 := ⟨by decide +kernel, rfl⟩
theorem d_9_init_459 : zD prog_11_method_2_code 459 (.iconst 0) 1 460 := ⟨by decide +kernel, rfl⟩
theorem d_9_init_460 : zD prog_11_method_2_code 460 (.iconst 0) 1 461 := ⟨by decide +kernel, rfl⟩
theorem d_9_init_461 : zD prog_11_method_2_code 461 (.invokestatic 156) 3 464 := ⟨by decide +kernel, rfl⟩
theorem d_9_init_464 : zD prog_11_method_2_code 464 (.lastore) 1 465 := ⟨by decide +kernel, rfl⟩
theorem d_9_init_465 : zD prog_11_method_2_code 465 (.aload_n 0) 1 466 := ⟨by decide +kernel, rfl⟩
theorem d_9_init_466 : zD prog_11_method_2_code 466 (.getfield 34) 3 469 := ⟨by decide +kernel, rfl⟩
theorem d_9_init_469 : zD prog_11_method_2_code 469 (.iconst 4) 1 470 := ⟨by decide +kernel, rfl⟩
theorem d_9_init_470 : zD prog_11_method_2_code 470 (.bipush 103) 2 472 := ⟨by decide +kernel, rfl⟩
theorem d_9_init_472 : zD prog_11_method_2_code 472 (.bipush 111) 2 474 := ⟨by decide +kernel, rfl⟩
theorem d_9_init_474 : zD prog_11_method_2_code 474 (.bipush 101) 2 476 := ⟨by decide +kernel, rfl⟩
theorem d_9_init_476 : zD prog_11_method_2_code 476 (.bipush 115) 2 478 := ⟨by decide +kernel, rfl⟩
theorem d_9_init_478 : zD prog_11_method_2_code 478 (.iconst 0) 1 479 := ⟨by decide +kernel, rfl⟩
theorem d_9_init_479 : zD prog_11_method_2_code 479 (.iconst 0) 1 480 := ⟨by decide +kernel, rfl⟩
theorem d_9_init_480 : zD prog_11_method_2_code 480 (.iconst 0) 1 481 := ⟨by decide +kernel, rfl⟩
theorem d_9_init_481 : zD prog_11_method_2_code 481 (.invokestatic 156) 3 484 := ⟨by decide +kernel, rfl⟩
theorem d_9_init_484 : zD prog_11_method_2_code 484 (.lastore) 1 485 := ⟨by decide +kernel, rfl⟩
theorem d_9_init_485 : zD prog_11_method_2_code 485 (.aload_n 0) 1 486 := ⟨by decide +kernel, rfl⟩
theorem d_9_init_486 : zD prog_11_method_2_code 486 (.getfield 34) 3 489 := ⟨by decide +kernel, rfl⟩
theorem d_9_init_489 : zD prog_11_method_2_code 489 (.iconst 5) 1 490 := ⟨by decide +kernel, rfl⟩
theorem d_9_init_490 : zD prog_11_method_2_code 490 (.bipush 99) 2 492 := ⟨by decide +kernel, rfl⟩
theorem d_9_init_492 : zD prog_11_method_2_code 492 (.bipush 111) 2 494 := ⟨by decide +kernel, rfl⟩
theorem d_9_init_494 : zD prog_11_method_2_code 494 (.bipush 109) 2 496 := ⟨by decide +kernel, rfl⟩
theorem d_9_init_496 : zD prog_11_method_2_code 496 (.bipush 101) 2 498 := ⟨by decide +kernel, rfl⟩
theorem d_9_init_498 : zD prog_11_method_2_code 498 (.bipush 115) 2 500 := ⟨by decide +kernel, rfl⟩
theorem d_9_init_500 : zD prog_11_method_2_code 500 (.iconst 0) 1 501 := ⟨by decide +kernel, rfl⟩
theorem d_9_init_501 : zD prog_11_method_2_code 501 (.iconst 0) 1 502 := ⟨by decide +kernel, rfl⟩
theorem d_9_init_502 : zD prog_11_method_2_code 502 (.invokestatic 156) 3 505 := ⟨by decide +kernel, rfl⟩
theorem d_9_init_505 : zD prog_11_method_2_code 505 (.lastore) 1 506 := ⟨by decide +kernel, rfl⟩
theorem d_9_init_506 : zD prog_11_method_2_code 506 (.aload_n 0) 1 507 := ⟨by decide +kernel, rfl⟩
theorem d_9_init_507 : zD prog_11_method_2_code 507 (.getfield 34) 3 510 := ⟨by decide +kernel, rfl⟩
theorem d_9_init_510 : zD prog_11_method_2_code 510 (.bipush 6) 2 512 := ⟨by decide +kernel, rfl⟩
theorem d_9_init_512 : zD prog_11_method_2_code 512 (.bipush 100) 2 514 := ⟨by decide +kernel, rfl⟩
theorem d_9_init_514 : zD prog_11_method_2_code 514 (.bipush 105) 2 516 := ⟨by decide +kernel, rfl⟩
theorem d_9_init_516 : zD prog_11_method_2_code 516 (.bipush 101) 2 518 := ⟨by decide +kernel, rfl⟩
theorem d_9_init_518 : zD prog_11_method_2_code 518 (.bipush 115) 2 520 := ⟨by decide +kernel, rfl⟩
theorem d_9_init_520 : zD prog_11_method_2_code 520 (.iconst 0) 1 521 := ⟨by decide +kernel, rfl⟩
theorem d_9_init_521 : zD prog_11_method_2_code 521 (.iconst 0) 1 522 := ⟨by decide +kernel, rfl⟩
theorem d_9_init_522 : zD prog_11_method_2_code 522 (.iconst 0) 1 523 := ⟨by decide +kernel, rfl⟩
theorem d_9_init_523 : zD prog_11_method_2_code 523 (.invokestatic 156) 3 526 := ⟨by decide +kernel, rfl⟩
theorem d_9_init_526 : zD prog_11_method_2_code 526 (.lastore) 1 527 := ⟨by decide +kernel, rfl⟩
theorem d_9_init_527 : zD prog_11_method_2_code 527 (.aload_n 0) 1 528 := ⟨by decide +kernel, rfl⟩
theorem d_9_init_528 : zD prog_11_method_2_code 528 (.getfield 34) 3 531 := ⟨by decide +kernel, rfl⟩
theorem d_9_init_531 : zD prog_11_method_2_code 531 (.bipush 7) 2 533 := ⟨by decide +kernel, rfl⟩
theorem d_9_init_533 : zD prog_11_method_2_code 533 (.bipush 114) 2 535 := ⟨by decide +kernel, rfl⟩
theorem d_9_init_535 : zD prog_11_method_2_code 535 (.bipush 101) 2 537 := ⟨by decide +kernel, rfl⟩
theorem d_9_init_537 : zD prog_11_method_2_code 537 (.bipush 110) 2 539 := ⟨by decide +kernel, rfl⟩
theorem d_9_init_539 : zD prog_11_method_2_code 539 (.bipush 116) 2 541 := ⟨by decide +kernel, rfl⟩
theorem d_9_init_541 : zD prog_11_method_2_code 541 (.bipush 115) 2 543 := ⟨by decide +kernel, rfl⟩
theorem d_9_init_543 : zD prog_11_method_2_code 543 (.iconst 0) 1 544 := ⟨by decide +kernel, rfl⟩
theorem d_9_init_544 : zD prog_11_method_2_code 544 (.iconst 0) 1 545 := ⟨by decide +kernel, rfl⟩
theorem d_9_init_545 : zD prog_11_method_2_code 545 (.invokestatic 156) 3 548 := ⟨by decide +kernel, rfl⟩
theorem d_9_init_548 : zD prog_11_method_2_code 548 (.lastore) 1 549 := ⟨by decide +kernel, rfl⟩
theorem d_9_init_549 : zD prog_11_method_2_code 549 (.aload_n 0) 1 550 := ⟨by decide +kernel, rfl⟩
theorem d_9_init_550 : zD prog_11_method_2_code 550 (.getfield 34) 3 553 := ⟨by decide +kernel, rfl⟩
theorem d_9_init_553 : zD prog_11_method_2_code 553 (.bipush 8) 2 555 := ⟨by decide +kernel, rfl⟩
theorem d_9_init_555 : zD prog_11_method_2_code 555 (.bipush 115) 2 557 := ⟨by decide +kernel, rfl⟩
theorem d_9_init_557 : zD prog_11_method_2_code 557 (.bipush 101) 2 559 := ⟨by decide +kernel, rfl⟩
theorem d_9_init_559 : zD prog_11_method_2_code 559 (.bipush 101) 2 561 := ⟨by decide +kernel, rfl⟩
theorem d_9_init_561 : zD prog_11_method_2_code 561 (.bipush 100) 2 563 := ⟨by decide +kernel, rfl⟩
theorem d_9_init_563 : zD prog_11_method_2_code 563 (.iconst 0) 1 564 := ⟨by decide +kernel, rfl⟩
theorem d_9_init_564 : zD prog_11_method_2_code 564 (.iconst 0) 1 565 := ⟨by decide +kernel, rfl⟩
theorem d_9_init_565 : zD prog_11_method_2_code 565 (.iconst 0) 1 566 := ⟨by decide +kernel, rfl⟩
theorem d_9_init_566 : zD prog_11_method_2_code 566 (.invokestatic 156) 3 569 := ⟨by decide +kernel, rfl⟩
theorem d_9_init_569 : zD prog_11_method_2_code 569 (.lastore) 1 570 := ⟨by decide +kernel, rfl⟩
theorem d_9_init_570 : zD prog_11_method_2_code 570 (.aload_n 0) 1 571 := ⟨by decide +kernel, rfl⟩
theorem d_9_init_571 : zD prog_11_method_2_code 571 (.getfield 34) 3 574 := ⟨by decide +kernel, rfl⟩
theorem d_9_init_574 : zD prog_11_method_2_code 574 (.bipush 9) 2 576 := ⟨by decide +kernel, rfl⟩
theorem d_9_init_576 : zD prog_11_method_2_code 576 (.bipush 105) 2 578 := ⟨by decide +kernel, rfl⟩
theorem d_9_init_578 : zD prog_11_method_2_code 578 (.bipush 102) 2 580 := ⟨by decide +kernel, rfl⟩
theorem d_9_init_580 : zD prog_11_method_2_code 580 (.iconst 0) 1 581 := ⟨by decide +kernel, rfl⟩
theorem d_9_init_581 : zD prog_11_method_2_code 581 (.iconst 0) 1 582 := ⟨by decide +kernel, rfl⟩
theorem d_9_init_582 : zD prog_11_method_2_code 582 (.iconst 0) 1 583 := ⟨by decide +kernel, rfl⟩
theorem d_9_init_583 : zD prog_11_method_2_code 583 (.iconst 0) 1 584 := ⟨by decide +kernel, rfl⟩
theorem d_9_init_584 : zD prog_11_method_2_code 584 (.iconst 0) 1 585 := ⟨by decide +kernel, rfl⟩
theorem d_9_init_585 : zD prog_11_method_2_code 585 (.invokestatic 156) 3 588 := ⟨by decide +kernel, rfl⟩
theorem d_9_init_588 : zD prog_11_method_2_code 588 (.lastore) 1 589 := ⟨by decide +kernel, rfl⟩
theorem d_9_init_589 : zD prog_11_method_2_code 589 (.aload_n 0) 1 590 := ⟨by decide +kernel, rfl⟩
theorem d_9_init_590 : zD prog_11_method_2_code 590 (.getfield 34) 3 593 := ⟨by decide +kernel, rfl⟩
theorem d_9_init_593 : zD prog_11_method_2_code 593 (.bipush 10) 2 595 := ⟨by decide +kernel, rfl⟩
theorem d_9_init_595 : zD prog_11_method_2_code 595 (.bipush 116) 2 597 := ⟨by decide +kernel, rfl⟩
theorem d_9_init_597 : zD prog_11_method_2_code 597 (.bipush 104) 2 599 := ⟨by decide +kernel, rfl⟩
theorem d_9_init_599 : zD prog_11_method_2_code 599 (.bipush 101) 2 601 := ⟨by decide +kernel, rfl⟩
theorem d_9_init_601 : zD prog_11_method_2_code 601 (.bipush 110) 2 603 := ⟨by decide +kernel, rfl⟩
theorem d_9_init_603 : zD prog_11_method_2_code 603 (.iconst 0) 1 604 := ⟨by decide +kernel, rfl⟩
theorem d_9_init_604 : zD prog_11_method_2_code 604 (.iconst 0) 1 605 := ⟨by decide +kernel, rfl⟩
theorem d_9_init_605 : zD prog_11_method_2_code 605 (.iconst 0) 1 606 := ⟨by decide +kernel, rfl⟩
theorem d_9_init_606 : zD prog_11_method_2_code 606 (.invokestatic 156) 3 609 := ⟨by decide +kernel, rfl⟩
theorem d_9_init_609 : zD prog_11_method_2_code 609 (.lastore) 1 610 := ⟨by decide +kernel, rfl⟩
theorem d_9_init_610 : zD prog_11_method_2_code 610 (.aload_n 0) 1 611 := ⟨by decide +kernel, rfl⟩
theorem d_9_init_611 : zD prog_11_method_2_code 611 (.getfield 34) 3 614 := ⟨by decide +kernel, rfl⟩
theorem d_9_init_614 : zD prog_11_method_2_code 614 (.bipush 11) 2 616 := ⟨by decide +kernel, rfl⟩
theorem d_9_init_616 : zD prog_11_method_2_code 616 (.bipush 101) 2 618 := ⟨by decide +kernel, rfl⟩
theorem d_9_init_618 : zD prog_11_method_2_code 618 (.bipush 108) 2 620 := ⟨by decide +kernel, rfl⟩
theorem d_9_init_620 : zD prog_11_method_2_code 620 (.bipush 115) 2 622 := ⟨by decide +kernel, rfl⟩
theorem d_9_init_622 : zD prog_11_method_2_code 622 (.bipush 101) 2 624 := ⟨by decide +kernel, rfl⟩
theorem d_9_init_624 : zD prog_11_method_2_code 624 (.iconst 0) 1 625 := ⟨by decide +kernel, rfl⟩
theorem d_9_init_625 : zD prog_11_method_2_code 625 (.iconst 0) 1 626 := ⟨by decide +kernel, rfl⟩
theorem d_9_init_626 : zD prog_11_method_2_code 626 (.iconst 0) 1 627 := ⟨by decide +kernel, rfl⟩
theorem d_9_init_627 : zD prog_11_method_2_code 627 (.invokestatic 156) 3 630 := ⟨by decide +kernel, rfl⟩
theorem d_9_init_630 : zD prog_11_method_2_code 630 (.lastore) 1 631 := ⟨by decide +kernel, rfl⟩
theorem d_9_init_631 : zD prog_11_method_2_code 631 (.aload_n 0) 1 632 := ⟨by decide +kernel, rfl⟩
theorem d_9_init_632 : zD prog_11_method_2_code 632 (.getfield 34) 3 635 := ⟨by decide +kernel, rfl⟩
theorem d_9_init_635 : zD prog_11_method_2_code 635 (.bipush 12) 2 637 := ⟨by decide +kernel, rfl⟩
theorem d_9_init_637 : zD prog_11_method_2_code 637 (.bipush 114) 2 639 := ⟨by decide +kernel, rfl⟩
theorem d_9_init_639 : zD prog_11_method_2_code 639 (.bipush 101) 2 641 := ⟨by decide +kernel, rfl⟩
theorem d_9_init_641 : zD prog_11_method_2_code 641 (.bipush 110) 2 643 := ⟨by decide +kernel, rfl⟩
theorem d_9_init_643 : zD prog_11_method_2_code 643 (.bipush 116) 2 645 := ⟨by decide +kernel, rfl⟩
theorem d_9_init_645 : zD prog_11_method_2_code 645 (.iconst 0) 1 646 := ⟨by decide +kernel, rfl⟩
theorem d_9_init_646 : zD prog_11_method_2_code 646 (.iconst 0) 1 647 := ⟨by decide +kernel, rfl⟩
theorem d_9_init_647 : zD prog_11_method_2_code 647 (.iconst 0) 1 648 := ⟨by decide +kernel, rfl⟩
theorem d_9_init_648 : zD prog_11_method_2_code 648 (.invokestatic 156) 3 651 := ⟨by decide +kernel, rfl⟩
theorem d_9_init_651 : zD prog_11_method_2_code 651 (.lastore) 1 652 := ⟨by decide +kernel, rfl⟩
theorem d_9_init_652 : zD prog_11_method_2_code 652 (.aload_n 0) 1 653 := ⟨by decide +kernel, rfl⟩
theorem d_9_init_653 : zD prog_11_method_2_code 653 (.getfield 34) 3 656 := ⟨by decide +kernel, rfl⟩
theorem d_9_init_656 : zD prog_11_method_2_code 656 (.bipush 13) 2 658 := ⟨by decide +kernel, rfl⟩
theorem d_9_init_658 : zD prog_11_method_2_code 658 (.bipush 97) 2 660 := ⟨by decide +kernel, rfl⟩
theorem d_9_init_660 : zD prog_11_method_2_code 660 (.bipush 103) 2 662 := ⟨by decide +kernel, rfl⟩
theorem d_9_init_662 : zD prog_11_method_2_code 662 (.bipush 101) 2 664 := ⟨by decide +kernel, rfl⟩
theorem d_9_init_664 : zD prog_11_method_2_code 664 (.iconst 0) 1 665 := ⟨by decide +kernel, rfl⟩
theorem d_9_init_665 : zD prog_11_method_2_code 665 (.iconst 0) 1 666 := ⟨by decide +kernel, rfl⟩
theorem d_9_init_666 : zD prog_11_method_2_code 666 (.iconst 0) 1 667 := ⟨by decide +kernel, rfl⟩
theorem d_9_init_667 : zD prog_11_method_2_code 667 (.iconst 0) 1 668 := ⟨by decide +kernel, rfl⟩
theorem d_9_init_668 : zD prog_11_method_2_code 668 (.invokestatic 156) 3 671 := ⟨by decide +kernel, rfl⟩
theorem d_9_init_671 : zD prog_11_method_2_code 671 (.lastore) 1 672 := ⟨by decide +kernel, rfl⟩
theorem d_9_init_672 : zD prog_11_method_2_code 672 (.aload_n 0) 1 673 := ⟨by decide +kernel, rfl⟩
theorem d_9_init_673 : zD prog_11_method_2_code 673 (.getfield 34) 3 676 := ⟨by decide +kernel, rfl⟩
theorem d_9_init_676 : zD prog_11_method_2_code 676 (.bipush 14) 2 678 := ⟨by decide +kernel, rfl⟩
theorem d_9_init_678 : zD prog_11_method_2_code 678 (.bipush 103) 2 680 := ⟨by decide +kernel, rfl⟩
theorem d_9_init_680 : zD prog_11_method_2_code 680 (.bipush 111) 2 682 := ⟨by decide +kernel, rfl⟩
theorem d_9_init_682 : zD prog_11_method_2_code 682 (.bipush 110) 2 684 := ⟨by decide +kernel, rfl⟩
theorem d_9_init_684 : zD prog_11_method_2_code 684 (.bipush 101) 2 686 := ⟨by decide +kernel, rfl⟩
theorem d_9_init_686 : zD prog_11_method_2_code 686 (.iconst 0) 1 687 := ⟨by decide +kernel, rfl⟩
theorem d_9_init_687 : zD prog_11_method_2_code 687 (.iconst 0) 1 688 := ⟨by decide +kernel, rfl⟩
theorem d_9_init_688 : zD prog_11_method_2_code 688 (.iconst 0) 1 689 := ⟨by decide +kernel, rfl⟩
theorem d_9_init_689 : zD prog_11_method_2_code 689 (.invokestatic 156) 3 692 := ⟨by decide +kernel, rfl⟩
theorem d_9_init_692 : zD prog_11_method_2_code 692 (.lastore) 1 693 := ⟨by decide +kernel, rfl⟩
theorem d_9_init_693 : zD prog_11_method_2_code 693 (.aload_n 0) 1 694 := ⟨by decide +kernel, rfl⟩
theorem d_9_init_694 : zD prog_11_method_2_code 694 (.getfield 34) 3 697 := ⟨by decide +kernel, rfl⟩
theorem d_9_init_697 : zD prog_11_method_2_code 697 (.bipush 15) 2 699 := ⟨by decide +kernel, rfl⟩
theorem d_9_init_699 : zD prog_11_method_2_code 699 (.bipush 103) 2 701 := ⟨by decide +kernel, rfl⟩
theorem d_9_init_701 : zD prog_11_method_2_code 701 (.bipush 111) 2 703 := ⟨by decide +kernel, rfl⟩
theorem d_9_init_703 : zD prog_11_method_2_code 703 (.bipush 116) 2 705 := ⟨by decide +kernel, rfl⟩
theorem d_9_init_705 : zD prog_11_method_2_code 705 (.iconst 0) 1 706 := ⟨by decide +kernel, rfl⟩
theorem d_9_init_706 : zD prog_11_method_2_code 706 (.iconst 0) 1 707 := ⟨by decide +kernel, rfl⟩
theorem d_9_init_707 : zD prog_11_method_2_code 707 (.iconst 0) 1 708 := ⟨by decide +kernel, rfl⟩
theorem d_9_init_708 : zD prog_11_method_2_code 708 (.iconst 0) 1 709 := ⟨by decide +kernel, rfl⟩
theorem d_9_init_709 : zD prog_11_method_2_code 709 (.invokestatic 156) 3 712 := ⟨by decide +kernel, rfl⟩
theorem d_9_init_712 : zD prog_11_method_2_code 712 (.lastore) 1 713 := ⟨by decide +kernel, rfl⟩
theorem d_9_init_713 : zD prog_11_method_2_code 713 (.aload_n 0) 1 714 := ⟨by decide +kernel, rfl⟩
theorem d_9_init_714 : zD prog_11_method_2_code 714 (.getfield 34) 3 717 := ⟨by decide +kernel, rfl⟩
theorem d_9_init_717 : zD prog_11_method_2_code 717 (.bipush 16) 2 719 := ⟨by decide +kernel, rfl⟩
theorem d_9_init_719 : zD prog_11_method_2_code 719 (.bipush 121) 2 721 := ⟨by decide +kernel, rfl⟩
theorem d_9_init_721 : zD prog_11_method_2_code 721 (.bipush 101) 2 723 := ⟨by decide +kernel, rfl⟩
theorem d_9_init_723 : zD prog_11_method_2_code 723 (.bipush 97) 2 725 := ⟨by decide +kernel, rfl⟩
theorem d_9_init_725 : zD prog_11_method_2_code 725 (.bipush 114) 2 727 := ⟨by decide +kernel, rfl⟩
theorem d_9_init_727 : zD prog_11_method_2_code 727 (.iconst 0) 1 728 := ⟨by decide +kernel, rfl⟩
theorem d_9_init_728 : zD prog_11_method_2_code 728 (.iconst 0) 1 729 := ⟨by decide +kernel, rfl⟩
theorem d_9_init_729 : zD prog_11_method_2_code 729 (.iconst 0) 1 730 := ⟨by decide +kernel, rfl⟩
theorem d_9_init_730 : zD prog_11_method_2_code 730 (.invokestatic 156) 3 733 := ⟨by decide +kernel, rfl⟩
theorem d_9_init_733 : zD prog_11_method_2_code 733 (.lastore) 1 734 := ⟨by decide +kernel, rfl⟩
theorem d_9_init_734 : zD prog_11_method_2_code 734 (.aload_n 0) 1 735 := ⟨by decide +kernel, rfl⟩
theorem d_9_init_735 : zD prog_11_method_2_code 735 (.getfield 34) 3 738 := ⟨by decide +kernel, rfl⟩
theorem d_9_init_738 : zD prog_11_method_2_code 738 (.bipush 17) 2 740 := ⟨by decide +kernel, rfl⟩
theorem d_9_init_740 : zD prog_11_method_2_code 740 (.bipush 114) 2 742 := ⟨by decide +kernel, rfl⟩
theorem d_9_init_742 : zD prog_11_method_2_code 742 (.bipush 105) 2 744 := ⟨by decide +kernel, rfl⟩
theorem d_9_init_744 : zD prog_11_method_2_code 744 (.bipush 103) 2 746 := ⟨by decide +kernel, rfl⟩
theorem d_9_init_746 : zD prog_11_method_2_code 746 (.bipush 104) 2 748 := ⟨by decide +kernel, rfl⟩
theorem d_9_init_748 : zD prog_11_method_2_code 748 (.bipush 116) 2 750 := ⟨by decide +kernel, rfl⟩
theorem d_9_init_750 : zD prog_11_method_2_code 750 (.bipush 115) 2 752 := ⟨by decide +kernel, rfl⟩
theorem d_9_init_752 : zD prog_11_method_2_code 752 (.iconst 0) 1 753 := ⟨by decide +kernel, rfl⟩
theorem d_9_init_753 : zD prog_11_method_2_code 753 (.invokestatic 156) 3 756 := ⟨by decide +kernel, rfl⟩
theorem d_9_init_756 : zD prog_11_method_2_code 756 (.lastore) 1 757 := ⟨by decide +kernel, rfl⟩
theorem d_9_init_757 : zD prog_11_method_2_code 757 (.aload_n 0) 1 758 := ⟨by decide +kernel, rfl⟩
theorem d_9_init_758 : zD prog_11_method_2_code 758 (.getfield 34) 3 761 := ⟨by decide +kernel, rfl⟩
theorem d_9_init_761 : zD prog_11_method_2_code 761 (.bipush 18) 2 763 := ⟨by decide +kernel, rfl⟩
theorem d_9_init_763 : zD prog_11_method_2_code 763 (.bipush 108) 2 765 := ⟨by decide +kernel, rfl⟩
theorem d_9_init_765 : zD prog_11_method_2_code 765 (.bipush 111) 2 767 := ⟨by decide +kernel, rfl⟩
theorem d_9_init_767 : zD prog_11_method_2_code 767 (.bipush 114) 2 769 := ⟨by decide +kernel, rfl⟩
theorem d_9_init_769 : zD prog_11_method_2_code 769 (.bipush 100) 2 771 := ⟨by decide +kernel, rfl⟩
theorem d_9_init_771 : zD prog_11_method_2_code 771 (.iconst 0) 1 772 := ⟨by decide +kernel, rfl⟩
theorem d_9_init_772 : zD prog_11_method_2_code 772 (.iconst 0) 1 773 := ⟨by decide +kernel, rfl⟩
theorem d_9_init_773 : zD prog_11_method_2_code 773 (.iconst 0) 1 774 := ⟨by decide +kernel, rfl⟩
theorem d_9_init_774 : zD prog_11_method_2_code 774 (.invokestatic 156) 3 777 := ⟨by decide +kernel, rfl⟩
theorem d_9_init_777 : zD prog_11_method_2_code 777 (.lastore) 1 778 := ⟨by decide +kernel, rfl⟩
theorem d_9_init_778 : zD prog_11_method_2_code 778 (.aload_n 0) 1 779 := ⟨by decide +kernel, rfl⟩
theorem d_9_init_779 : zD prog_11_method_2_code 779 (.getfield 34) 3 782 := ⟨by decide +kernel, rfl⟩
theorem d_9_init_782 : zD prog_11_method_2_code 782 (.bipush 19) 2 784 := ⟨by decide +kernel, rfl⟩
theorem d_9_init_784 : zD prog_11_method_2_code 784 (.bipush 119) 2 786 := ⟨by decide +kernel, rfl⟩
theorem d_9_init_786 : zD prog_11_method_2_code 786 (.bipush 104) 2 788 := ⟨by decide +kernel, rfl⟩
theorem d_9_init_788 : zD prog_11_method_2_code 788 (.bipush 105) 2 790 := ⟨by decide +kernel, rfl⟩
theorem d_9_init_790 : zD prog_11_method_2_code 790 (.bipush 99) 2 792 := ⟨by decide +kernel, rfl⟩
theorem d_9_init_792 : zD prog_11_method_2_code 792 (.bipush 104) 2 794 := ⟨by decide +kernel, rfl⟩
theorem d_9_init_794 : zD prog_11_method_2_code 794 (.iconst 0) 1 795 := ⟨by decide +kernel, rfl⟩
theorem d_9_init_795 : zD prog_11_method_2_code 795 (.iconst 0) 1 796 := ⟨by decide +kernel, rfl⟩
theorem d_9_init_796 : zD prog_11_method_2_code 796 (.invokestatic 156) 3 799 := ⟨by decide +kernel, rfl⟩
theorem d_9_init_799 : zD prog_11_method_2_code 799 (.lastore) 1 800 := ⟨by decide +kernel, rfl⟩
theorem d_9_init_800 : zD prog_11_method_2_code 800 (.aload_n 0) 1 801 := ⟨by decide +kernel, rfl⟩
theorem d_9_init_801 : zD prog_11_method_2_code 801 (.getfield 34) 3 804 := ⟨by decide +kernel, rfl⟩
theorem d_9_init_804 : zD prog_11_method_2_code 804 (.bipush 20) 2 806 := ⟨by decide +kernel, rfl⟩
theorem d_9_init_806 : zD prog_11_method_2_code 806 (.bipush 104) 2 808 := ⟨by decide +kernel, rfl⟩
theorem d_9_init_808 : zD prog_11_method_2_code 808 (.bipush 111) 2 810 := ⟨by decide +kernel, rfl⟩
theorem d_9_init_810 : zD prog_11_method_2_code 810 (.bipush 109) 2 812 := ⟨by decide +kernel, rfl⟩
theorem d_9_init_812 : zD prog_11_method_2_code 812 (.bipush 101) 2 814 := ⟨by decide +kernel, rfl⟩
theorem d_9_init_814 : zD prog_11_method_2_code 814 (.iconst 0) 1 815 := ⟨by decide +kernel, rfl⟩
theorem d_9_init_815 : zD prog_11_method_2_code 815 (.iconst 0) 1 816 := ⟨by decide +kernel, rfl⟩
theorem d_9_init_816 : zD prog_11_method_2_code 816 (.iconst 0) 1 817 := ⟨by decide +kernel, rfl⟩
theorem d_9_init_817 : zD prog_11_method_2_code 817 (.invokestatic 156) 3 820 := ⟨by decide +kernel, rfl⟩
theorem d_9_init_820 : zD prog_11_method_2_code 820 (.lastore) 1 821 := ⟨by decide +kernel, rfl⟩
theorem d_9_init_821 : zD prog_11_method_2_code 821 (.aload_n 0) 1 822 := ⟨by decide +kernel, rfl⟩
theorem d_9_init_822 : zD prog_11_method_2_code 822 (.invokevirtual 160) 3 825 := ⟨by decide +kernel, rfl⟩
theorem d_9_init_825 : zD prog_11_method_2_code 825 (.aload_n 0) 1 826 := ⟨by decide +kernel, rfl⟩
theorem d_9_init_826 : zD prog_11_method_2_code 826 (.invokevirtual 163) 3 829 := ⟨by decide +kernel, rfl⟩
theorem d_9_init_829 : zD prog_11_method_2_code 829 (.return_) 1 830 := ⟨by decide +kernel, rfl⟩
def f9_irest (μ : zMem) : Option zMem :=
  (f9_plain (0 : Int32) μ).bind (fun qm1 => (f9_plain (1 : Int32) qm1).bind (fun qm3 => z_let (z_sL qm3 109 0 (0 : Int32).toNatClampNeg (f9_word (104 : Int32) (111 : Int32) (117 : Int32) (115 : Int32) (101 : Int32) (0 : Int32) (0 : Int32))) fun m6 => z_let (z_sL m6 109 0 (1 : Int32).toNatClampNeg (f9_word (112 : Int32) (101 : Int32) (114 : Int32) (115 : Int32) (111 : Int32) (110 : Int32) (0 : Int32))) fun m9 => z_let (z_sL m9 109 0 (2 : Int32).toNatClampNeg (f9_word (114 : Int32) (105 : Int32) (103 : Int32) (104 : Int32) (116 : Int32) (0 : Int32) (0 : Int32))) fun m12 => z_let (z_sL m12 109 0 (3 : Int32).toNatClampNeg (f9_word (97 : Int32) (119 : Int32) (97 : Int32) (121 : Int32) (0 : Int32) (0 : Int32) (0 : Int32))) fun m15 => z_let (z_sL m15 109 0 (4 : Int32).toNatClampNeg (f9_word (103 : Int32) (111 : Int32) (101 : Int32) (115 : Int32) (0 : Int32) (0 : Int32) (0 : Int32))) fun m18 => z_let (z_sL m18 109 0 (5 : Int32).toNatClampNeg (f9_word (99 : Int32) (111 : Int32) (109 : Int32) (101 : Int32) (115 : Int32) (0 : Int32) (0 : Int32))) fun m21 => z_let (z_sL m21 109 0 (6 : Int32).toNatClampNeg (f9_word (100 : Int32) (105 : Int32) (101 : Int32) (115 : Int32) (0 : Int32) (0 : Int32) (0 : Int32))) fun m24 => z_let (z_sL m24 109 0 (7 : Int32).toNatClampNeg (f9_word (114 : Int32) (101 : Int32) (110 : Int32) (116 : Int32) (115 : Int32) (0 : Int32) (0 : Int32))) fun m27 => z_let (z_sL m27 109 0 (8 : Int32).toNatClampNeg (f9_word (115 : Int32) (101 : Int32) (101 : Int32) (100 : Int32) (0 : Int32) (0 : Int32) (0 : Int32))) fun m30 => z_let (z_sL m30 109 0 (9 : Int32).toNatClampNeg (f9_word (105 : Int32) (102 : Int32) (0 : Int32) (0 : Int32) (0 : Int32) (0 : Int32) (0 : Int32))) fun m33 => z_let (z_sL m33 109 0 (10 : Int32).toNatClampNeg (f9_word (116 : Int32) (104 : Int32) (101 : Int32) (110 : Int32) (0 : Int32) (0 : Int32) (0 : Int32))) fun m36 => z_let (z_sL m36 109 0 (11 : Int32).toNatClampNeg (f9_word (101 : Int32) (108 : Int32) (115 : Int32) (101 : Int32) (0 : Int32) (0 : Int32) (0 : Int32))) fun m39 => z_let (z_sL m39 109 0 (12 : Int32).toNatClampNeg (f9_word (114 : Int32) (101 : Int32) (110 : Int32) (116 : Int32) (0 : Int32) (0 : Int32) (0 : Int32))) fun m42 => z_let (z_sL m42 109 0 (13 : Int32).toNatClampNeg (f9_word (97 : Int32) (103 : Int32) (101 : Int32) (0 : Int32) (0 : Int32) (0 : Int32) (0 : Int32))) fun m45 => z_let (z_sL m45 109 0 (14 : Int32).toNatClampNeg (f9_word (103 : Int32) (111 : Int32) (110 : Int32) (101 : Int32) (0 : Int32) (0 : Int32) (0 : Int32))) fun m48 => z_let (z_sL m48 109 0 (15 : Int32).toNatClampNeg (f9_word (103 : Int32) (111 : Int32) (116 : Int32) (0 : Int32) (0 : Int32) (0 : Int32) (0 : Int32))) fun m51 => z_let (z_sL m51 109 0 (16 : Int32).toNatClampNeg (f9_word (121 : Int32) (101 : Int32) (97 : Int32) (114 : Int32) (0 : Int32) (0 : Int32) (0 : Int32))) fun m54 => z_let (z_sL m54 109 0 (17 : Int32).toNatClampNeg (f9_word (114 : Int32) (105 : Int32) (103 : Int32) (104 : Int32) (116 : Int32) (115 : Int32) (0 : Int32))) fun m57 => z_let (z_sL m57 109 0 (18 : Int32).toNatClampNeg (f9_word (108 : Int32) (111 : Int32) (114 : Int32) (100 : Int32) (0 : Int32) (0 : Int32) (0 : Int32))) fun m60 => z_let (z_sL m60 109 0 (19 : Int32).toNatClampNeg (f9_word (119 : Int32) (104 : Int32) (105 : Int32) (99 : Int32) (104 : Int32) (0 : Int32) (0 : Int32))) fun m63 => z_let (z_sL m63 109 0 (20 : Int32).toNatClampNeg (f9_word (104 : Int32) (111 : Int32) (109 : Int32) (101 : Int32) (0 : Int32) (0 : Int32) (0 : Int32))) fun m66 => (f9_begins m66).bind (fun qm68 => (f9_keepsRow qm68).bind (fun qm70 => some qm70))))
theorem s9_irest {P : zP} {F : zF} {μ μ' : zMem} (h : f9_irest μ = some μ') (hret : z_RQ P M_9_init (z_rmK 6 44 11805) F 44 11805 829 [none] [] μ') : z_RQ P M_9_init (z_rmK 6 44 11805) F 44 11805 371 [some (zA 9 0)] [] μ := by
  unfold f9_irest at h
  refine zr_aload_n (i := 0) d_9_init_371 rfl rfl ?_
  refine zr_iconst (v := (0 : Int32)) d_9_init_372 rfl ?_
  obtain ⟨qm1, hq2, h⟩ := z_bd h
  refine zr_callVv (av := [zI (0 : Int32)]) (st := []) d_9_init_373 mw_9_plain ml_9_152 im_9_plain se_9_plain rfl rfl (Nat.le_of_ble_eq_true rfl) fitM_1_3 rfl rfl rfl (s9_plain hq2) ?_
  refine zr_aload_n (i := 0) d_9_init_376 rfl rfl ?_
  refine zr_iconst (v := (1 : Int32)) d_9_init_377 rfl ?_
  obtain ⟨qm3, hq4, h⟩ := z_bd h
  refine zr_callVv (av := [zI (1 : Int32)]) (st := []) d_9_init_378 mw_9_plain ml_9_152 im_9_plain se_9_plain rfl rfl (Nat.le_of_ble_eq_true rfl) fitM_1_3 rfl rfl rfl (s9_plain hq4) ?_
  refine zr_aload_n (i := 0) d_9_init_381 rfl rfl ?_
  refine zr_gets (i' := 0) d_9_init_382 fw_9_34 rfl ?_
  refine zr_iconst (v := (0 : Int32)) d_9_init_385 rfl ?_
  refine zr_bipush (v := (104 : Int32)) d_9_init_386 rfl ?_
  refine zr_bipush (v := (111 : Int32)) d_9_init_388 rfl ?_
  refine zr_bipush (v := (117 : Int32)) d_9_init_390 rfl ?_
  refine zr_bipush (v := (115 : Int32)) d_9_init_392 rfl ?_
  refine zr_bipush (v := (101 : Int32)) d_9_init_394 rfl ?_
  refine zr_iconst (v := (0 : Int32)) d_9_init_396 rfl ?_
  refine zr_iconst (v := (0 : Int32)) d_9_init_397 rfl ?_
  refine zr_callSl (av := [zI (104 : Int32), zI (111 : Int32), zI (117 : Int32), zI (115 : Int32), zI (101 : Int32), zI (0 : Int32), zI (0 : Int32)]) (st := [zI (0 : Int32), zA 109 0]) d_9_init_398 mw_9_word ml_9_156 is_9_word rfl rfl (Nat.le_of_ble_eq_true rfl) fitM_2_7 (s9_word rfl) ?_
  obtain ⟨m6, hm7, h⟩ := z_lt h
  refine zr_last d_9_init_401 sa_109 rfl rfl hm7 ?_
  refine zr_aload_n (i := 0) d_9_init_402 rfl rfl ?_
  refine zr_gets (i' := 0) d_9_init_403 fw_9_34 rfl ?_
  refine zr_iconst (v := (1 : Int32)) d_9_init_406 rfl ?_
  refine zr_bipush (v := (112 : Int32)) d_9_init_407 rfl ?_
  refine zr_bipush (v := (101 : Int32)) d_9_init_409 rfl ?_
  refine zr_bipush (v := (114 : Int32)) d_9_init_411 rfl ?_
  refine zr_bipush (v := (115 : Int32)) d_9_init_413 rfl ?_
  refine zr_bipush (v := (111 : Int32)) d_9_init_415 rfl ?_
  refine zr_bipush (v := (110 : Int32)) d_9_init_417 rfl ?_
  refine zr_iconst (v := (0 : Int32)) d_9_init_419 rfl ?_
  refine zr_callSl (av := [zI (112 : Int32), zI (101 : Int32), zI (114 : Int32), zI (115 : Int32), zI (111 : Int32), zI (110 : Int32), zI (0 : Int32)]) (st := [zI (1 : Int32), zA 109 0]) d_9_init_420 mw_9_word ml_9_156 is_9_word rfl rfl (Nat.le_of_ble_eq_true rfl) fitM_2_7 (s9_word rfl) ?_
  obtain ⟨m9, hm10, h⟩ := z_lt h
  refine zr_last d_9_init_423 sa_109 rfl rfl hm10 ?_
  refine zr_aload_n (i := 0) d_9_init_424 rfl rfl ?_
  refine zr_gets (i' := 0) d_9_init_425 fw_9_34 rfl ?_
  refine zr_iconst (v := (2 : Int32)) d_9_init_428 rfl ?_
  refine zr_bipush (v := (114 : Int32)) d_9_init_429 rfl ?_
  refine zr_bipush (v := (105 : Int32)) d_9_init_431 rfl ?_
  refine zr_bipush (v := (103 : Int32)) d_9_init_433 rfl ?_
  refine zr_bipush (v := (104 : Int32)) d_9_init_435 rfl ?_
  refine zr_bipush (v := (116 : Int32)) d_9_init_437 rfl ?_
  refine zr_iconst (v := (0 : Int32)) d_9_init_439 rfl ?_
  refine zr_iconst (v := (0 : Int32)) d_9_init_440 rfl ?_
  refine zr_callSl (av := [zI (114 : Int32), zI (105 : Int32), zI (103 : Int32), zI (104 : Int32), zI (116 : Int32), zI (0 : Int32), zI (0 : Int32)]) (st := [zI (2 : Int32), zA 109 0]) d_9_init_441 mw_9_word ml_9_156 is_9_word rfl rfl (Nat.le_of_ble_eq_true rfl) fitM_2_7 (s9_word rfl) ?_
  obtain ⟨m12, hm13, h⟩ := z_lt h
  refine zr_last d_9_init_444 sa_109 rfl rfl hm13 ?_
  refine zr_aload_n (i := 0) d_9_init_445 rfl rfl ?_
  refine zr_gets (i' := 0) d_9_init_446 fw_9_34 rfl ?_
  refine zr_iconst (v := (3 : Int32)) d_9_init_449 rfl ?_
  refine zr_bipush (v := (97 : Int32)) d_9_init_450 rfl ?_
  refine zr_bipush (v := (119 : Int32)) d_9_init_452 rfl ?_
  refine zr_bipush (v := (97 : Int32)) d_9_init_454 rfl ?_
  refine zr_bipush (v := (121 : Int32)) d_9_init_456 rfl ?_
  refine zr_iconst (v := (0 : Int32)) d_9_init_458 rfl ?_
  refine zr_iconst (v := (0 : Int32)) d_9_init_459 rfl ?_
  refine zr_iconst (v := (0 : Int32)) d_9_init_460 rfl ?_
  refine zr_callSl (av := [zI (97 : Int32), zI (119 : Int32), zI (97 : Int32), zI (121 : Int32), zI (0 : Int32), zI (0 : Int32), zI (0 : Int32)]) (st := [zI (3 : Int32), zA 109 0]) d_9_init_461 mw_9_word ml_9_156 is_9_word rfl rfl (Nat.le_of_ble_eq_true rfl) fitM_2_7 (s9_word rfl) ?_
  obtain ⟨m15, hm16, h⟩ := z_lt h
  refine zr_last d_9_init_464 sa_109 rfl rfl hm16 ?_
  refine zr_aload_n (i := 0) d_9_init_465 rfl rfl ?_
  refine zr_gets (i' := 0) d_9_init_466 fw_9_34 rfl ?_
  refine zr_iconst (v := (4 : Int32)) d_9_init_469 rfl ?_
  refine zr_bipush (v := (103 : Int32)) d_9_init_470 rfl ?_
  refine zr_bipush (v := (111 : Int32)) d_9_init_472 rfl ?_
  refine zr_bipush (v := (101 : Int32)) d_9_init_474 rfl ?_
  refine zr_bipush (v := (115 : Int32)) d_9_init_476 rfl ?_
  refine zr_iconst (v := (0 : Int32)) d_9_init_478 rfl ?_
  refine zr_iconst (v := (0 : Int32)) d_9_init_479 rfl ?_
  refine zr_iconst (v := (0 : Int32)) d_9_init_480 rfl ?_
  refine zr_callSl (av := [zI (103 : Int32), zI (111 : Int32), zI (101 : Int32), zI (115 : Int32), zI (0 : Int32), zI (0 : Int32), zI (0 : Int32)]) (st := [zI (4 : Int32), zA 109 0]) d_9_init_481 mw_9_word ml_9_156 is_9_word rfl rfl (Nat.le_of_ble_eq_true rfl) fitM_2_7 (s9_word rfl) ?_
  obtain ⟨m18, hm19, h⟩ := z_lt h
  refine zr_last d_9_init_484 sa_109 rfl rfl hm19 ?_
  refine zr_aload_n (i := 0) d_9_init_485 rfl rfl ?_
  refine zr_gets (i' := 0) d_9_init_486 fw_9_34 rfl ?_
  refine zr_iconst (v := (5 : Int32)) d_9_init_489 rfl ?_
  refine zr_bipush (v := (99 : Int32)) d_9_init_490 rfl ?_
  refine zr_bipush (v := (111 : Int32)) d_9_init_492 rfl ?_
  refine zr_bipush (v := (109 : Int32)) d_9_init_494 rfl ?_
  refine zr_bipush (v := (101 : Int32)) d_9_init_496 rfl ?_
  refine zr_bipush (v := (115 : Int32)) d_9_init_498 rfl ?_
  refine zr_iconst (v := (0 : Int32)) d_9_init_500 rfl ?_
  refine zr_iconst (v := (0 : Int32)) d_9_init_501 rfl ?_
  refine zr_callSl (av := [zI (99 : Int32), zI (111 : Int32), zI (109 : Int32), zI (101 : Int32), zI (115 : Int32), zI (0 : Int32), zI (0 : Int32)]) (st := [zI (5 : Int32), zA 109 0]) d_9_init_502 mw_9_word ml_9_156 is_9_word rfl rfl (Nat.le_of_ble_eq_true rfl) fitM_2_7 (s9_word rfl) ?_
  obtain ⟨m21, hm22, h⟩ := z_lt h
  refine zr_last d_9_init_505 sa_109 rfl rfl hm22 ?_
  refine zr_aload_n (i := 0) d_9_init_506 rfl rfl ?_
  refine zr_gets (i' := 0) d_9_init_507 fw_9_34 rfl ?_
  refine zr_bipush (v := (6 : Int32)) d_9_init_510 rfl ?_
  refine zr_bipush (v := (100 : Int32)) d_9_init_512 rfl ?_
  refine zr_bipush (v := (105 : Int32)) d_9_init_514 rfl ?_
  refine zr_bipush (v := (101 : Int32)) d_9_init_516 rfl ?_
  refine zr_bipush (v := (115 : Int32)) d_9_init_518 rfl ?_
  refine zr_iconst (v := (0 : Int32)) d_9_init_520 rfl ?_
  refine zr_iconst (v := (0 : Int32)) d_9_init_521 rfl ?_
  refine zr_iconst (v := (0 : Int32)) d_9_init_522 rfl ?_
  refine zr_callSl (av := [zI (100 : Int32), zI (105 : Int32), zI (101 : Int32), zI (115 : Int32), zI (0 : Int32), zI (0 : Int32), zI (0 : Int32)]) (st := [zI (6 : Int32), zA 109 0]) d_9_init_523 mw_9_word ml_9_156 is_9_word rfl rfl (Nat.le_of_ble_eq_true rfl) fitM_2_7 (s9_word rfl) ?_
  obtain ⟨m24, hm25, h⟩ := z_lt h
  refine zr_last d_9_init_526 sa_109 rfl rfl hm25 ?_
  refine zr_aload_n (i := 0) d_9_init_527 rfl rfl ?_
  refine zr_gets (i' := 0) d_9_init_528 fw_9_34 rfl ?_
  refine zr_bipush (v := (7 : Int32)) d_9_init_531 rfl ?_
  refine zr_bipush (v := (114 : Int32)) d_9_init_533 rfl ?_
  refine zr_bipush (v := (101 : Int32)) d_9_init_535 rfl ?_
  refine zr_bipush (v := (110 : Int32)) d_9_init_537 rfl ?_
  refine zr_bipush (v := (116 : Int32)) d_9_init_539 rfl ?_
  refine zr_bipush (v := (115 : Int32)) d_9_init_541 rfl ?_
  refine zr_iconst (v := (0 : Int32)) d_9_init_543 rfl ?_
  refine zr_iconst (v := (0 : Int32)) d_9_init_544 rfl ?_
  refine zr_callSl (av := [zI (114 : Int32), zI (101 : Int32), zI (110 : Int32), zI (116 : Int32), zI (115 : Int32), zI (0 : Int32), zI (0 : Int32)]) (st := [zI (7 : Int32), zA 109 0]) d_9_init_545 mw_9_word ml_9_156 is_9_word rfl rfl (Nat.le_of_ble_eq_true rfl) fitM_2_7 (s9_word rfl) ?_
  obtain ⟨m27, hm28, h⟩ := z_lt h
  refine zr_last d_9_init_548 sa_109 rfl rfl hm28 ?_
  refine zr_aload_n (i := 0) d_9_init_549 rfl rfl ?_
  refine zr_gets (i' := 0) d_9_init_550 fw_9_34 rfl ?_
  refine zr_bipush (v := (8 : Int32)) d_9_init_553 rfl ?_
  refine zr_bipush (v := (115 : Int32)) d_9_init_555 rfl ?_
  refine zr_bipush (v := (101 : Int32)) d_9_init_557 rfl ?_
  refine zr_bipush (v := (101 : Int32)) d_9_init_559 rfl ?_
  refine zr_bipush (v := (100 : Int32)) d_9_init_561 rfl ?_
  refine zr_iconst (v := (0 : Int32)) d_9_init_563 rfl ?_
  refine zr_iconst (v := (0 : Int32)) d_9_init_564 rfl ?_
  refine zr_iconst (v := (0 : Int32)) d_9_init_565 rfl ?_
  refine zr_callSl (av := [zI (115 : Int32), zI (101 : Int32), zI (101 : Int32), zI (100 : Int32), zI (0 : Int32), zI (0 : Int32), zI (0 : Int32)]) (st := [zI (8 : Int32), zA 109 0]) d_9_init_566 mw_9_word ml_9_156 is_9_word rfl rfl (Nat.le_of_ble_eq_true rfl) fitM_2_7 (s9_word rfl) ?_
  obtain ⟨m30, hm31, h⟩ := z_lt h
  refine zr_last d_9_init_569 sa_109 rfl rfl hm31 ?_
  refine zr_aload_n (i := 0) d_9_init_570 rfl rfl ?_
  refine zr_gets (i' := 0) d_9_init_571 fw_9_34 rfl ?_
  refine zr_bipush (v := (9 : Int32)) d_9_init_574 rfl ?_
  refine zr_bipush (v := (105 : Int32)) d_9_init_576 rfl ?_
  refine zr_bipush (v := (102 : Int32)) d_9_init_578 rfl ?_
  refine zr_iconst (v := (0 : Int32)) d_9_init_580 rfl ?_
  refine zr_iconst (v := (0 : Int32)) d_9_init_581 rfl ?_
  refine zr_iconst (v := (0 : Int32)) d_9_init_582 rfl ?_
  refine zr_iconst (v := (0 : Int32)) d_9_init_583 rfl ?_
  refine zr_iconst (v := (0 : Int32)) d_9_init_584 rfl ?_
  refine zr_callSl (av := [zI (105 : Int32), zI (102 : Int32), zI (0 : Int32), zI (0 : Int32), zI (0 : Int32), zI (0 : Int32), zI (0 : Int32)]) (st := [zI (9 : Int32), zA 109 0]) d_9_init_585 mw_9_word ml_9_156 is_9_word rfl rfl (Nat.le_of_ble_eq_true rfl) fitM_2_7 (s9_word rfl) ?_
  obtain ⟨m33, hm34, h⟩ := z_lt h
  refine zr_last d_9_init_588 sa_109 rfl rfl hm34 ?_
  refine zr_aload_n (i := 0) d_9_init_589 rfl rfl ?_
  refine zr_gets (i' := 0) d_9_init_590 fw_9_34 rfl ?_
  refine zr_bipush (v := (10 : Int32)) d_9_init_593 rfl ?_
  refine zr_bipush (v := (116 : Int32)) d_9_init_595 rfl ?_
  refine zr_bipush (v := (104 : Int32)) d_9_init_597 rfl ?_
  refine zr_bipush (v := (101 : Int32)) d_9_init_599 rfl ?_
  refine zr_bipush (v := (110 : Int32)) d_9_init_601 rfl ?_
  refine zr_iconst (v := (0 : Int32)) d_9_init_603 rfl ?_
  refine zr_iconst (v := (0 : Int32)) d_9_init_604 rfl ?_
  refine zr_iconst (v := (0 : Int32)) d_9_init_605 rfl ?_
  refine zr_callSl (av := [zI (116 : Int32), zI (104 : Int32), zI (101 : Int32), zI (110 : Int32), zI (0 : Int32), zI (0 : Int32), zI (0 : Int32)]) (st := [zI (10 : Int32), zA 109 0]) d_9_init_606 mw_9_word ml_9_156 is_9_word rfl rfl (Nat.le_of_ble_eq_true rfl) fitM_2_7 (s9_word rfl) ?_
  obtain ⟨m36, hm37, h⟩ := z_lt h
  refine zr_last d_9_init_609 sa_109 rfl rfl hm37 ?_
  refine zr_aload_n (i := 0) d_9_init_610 rfl rfl ?_
  refine zr_gets (i' := 0) d_9_init_611 fw_9_34 rfl ?_
  refine zr_bipush (v := (11 : Int32)) d_9_init_614 rfl ?_
  refine zr_bipush (v := (101 : Int32)) d_9_init_616 rfl ?_
  refine zr_bipush (v := (108 : Int32)) d_9_init_618 rfl ?_
  refine zr_bipush (v := (115 : Int32)) d_9_init_620 rfl ?_
  refine zr_bipush (v := (101 : Int32)) d_9_init_622 rfl ?_
  refine zr_iconst (v := (0 : Int32)) d_9_init_624 rfl ?_
  refine zr_iconst (v := (0 : Int32)) d_9_init_625 rfl ?_
  refine zr_iconst (v := (0 : Int32)) d_9_init_626 rfl ?_
  refine zr_callSl (av := [zI (101 : Int32), zI (108 : Int32), zI (115 : Int32), zI (101 : Int32), zI (0 : Int32), zI (0 : Int32), zI (0 : Int32)]) (st := [zI (11 : Int32), zA 109 0]) d_9_init_627 mw_9_word ml_9_156 is_9_word rfl rfl (Nat.le_of_ble_eq_true rfl) fitM_2_7 (s9_word rfl) ?_
  obtain ⟨m39, hm40, h⟩ := z_lt h
  refine zr_last d_9_init_630 sa_109 rfl rfl hm40 ?_
  refine zr_aload_n (i := 0) d_9_init_631 rfl rfl ?_
  refine zr_gets (i' := 0) d_9_init_632 fw_9_34 rfl ?_
  refine zr_bipush (v := (12 : Int32)) d_9_init_635 rfl ?_
  refine zr_bipush (v := (114 : Int32)) d_9_init_637 rfl ?_
  refine zr_bipush (v := (101 : Int32)) d_9_init_639 rfl ?_
  refine zr_bipush (v := (110 : Int32)) d_9_init_641 rfl ?_
  refine zr_bipush (v := (116 : Int32)) d_9_init_643 rfl ?_
  refine zr_iconst (v := (0 : Int32)) d_9_init_645 rfl ?_
  refine zr_iconst (v := (0 : Int32)) d_9_init_646 rfl ?_
  refine zr_iconst (v := (0 : Int32)) d_9_init_647 rfl ?_
  refine zr_callSl (av := [zI (114 : Int32), zI (101 : Int32), zI (110 : Int32), zI (116 : Int32), zI (0 : Int32), zI (0 : Int32), zI (0 : Int32)]) (st := [zI (12 : Int32), zA 109 0]) d_9_init_648 mw_9_word ml_9_156 is_9_word rfl rfl (Nat.le_of_ble_eq_true rfl) fitM_2_7 (s9_word rfl) ?_
  obtain ⟨m42, hm43, h⟩ := z_lt h
  refine zr_last d_9_init_651 sa_109 rfl rfl hm43 ?_
  refine zr_aload_n (i := 0) d_9_init_652 rfl rfl ?_
  refine zr_gets (i' := 0) d_9_init_653 fw_9_34 rfl ?_
  refine zr_bipush (v := (13 : Int32)) d_9_init_656 rfl ?_
  refine zr_bipush (v := (97 : Int32)) d_9_init_658 rfl ?_
  refine zr_bipush (v := (103 : Int32)) d_9_init_660 rfl ?_
  refine zr_bipush (v := (101 : Int32)) d_9_init_662 rfl ?_
  refine zr_iconst (v := (0 : Int32)) d_9_init_664 rfl ?_
  refine zr_iconst (v := (0 : Int32)) d_9_init_665 rfl ?_
  refine zr_iconst (v := (0 : Int32)) d_9_init_666 rfl ?_
  refine zr_iconst (v := (0 : Int32)) d_9_init_667 rfl ?_
  refine zr_callSl (av := [zI (97 : Int32), zI (103 : Int32), zI (101 : Int32), zI (0 : Int32), zI (0 : Int32), zI (0 : Int32), zI (0 : Int32)]) (st := [zI (13 : Int32), zA 109 0]) d_9_init_668 mw_9_word ml_9_156 is_9_word rfl rfl (Nat.le_of_ble_eq_true rfl) fitM_2_7 (s9_word rfl) ?_
  obtain ⟨m45, hm46, h⟩ := z_lt h
  refine zr_last d_9_init_671 sa_109 rfl rfl hm46 ?_
  refine zr_aload_n (i := 0) d_9_init_672 rfl rfl ?_
  refine zr_gets (i' := 0) d_9_init_673 fw_9_34 rfl ?_
  refine zr_bipush (v := (14 : Int32)) d_9_init_676 rfl ?_
  refine zr_bipush (v := (103 : Int32)) d_9_init_678 rfl ?_
  refine zr_bipush (v := (111 : Int32)) d_9_init_680 rfl ?_
  refine zr_bipush (v := (110 : Int32)) d_9_init_682 rfl ?_
  refine zr_bipush (v := (101 : Int32)) d_9_init_684 rfl ?_
  refine zr_iconst (v := (0 : Int32)) d_9_init_686 rfl ?_
  refine zr_iconst (v := (0 : Int32)) d_9_init_687 rfl ?_
  refine zr_iconst (v := (0 : Int32)) d_9_init_688 rfl ?_
  refine zr_callSl (av := [zI (103 : Int32), zI (111 : Int32), zI (110 : Int32), zI (101 : Int32), zI (0 : Int32), zI (0 : Int32), zI (0 : Int32)]) (st := [zI (14 : Int32), zA 109 0]) d_9_init_689 mw_9_word ml_9_156 is_9_word rfl rfl (Nat.le_of_ble_eq_true rfl) fitM_2_7 (s9_word rfl) ?_
  obtain ⟨m48, hm49, h⟩ := z_lt h
  refine zr_last d_9_init_692 sa_109 rfl rfl hm49 ?_
  refine zr_aload_n (i := 0) d_9_init_693 rfl rfl ?_
  refine zr_gets (i' := 0) d_9_init_694 fw_9_34 rfl ?_
  refine zr_bipush (v := (15 : Int32)) d_9_init_697 rfl ?_
  refine zr_bipush (v := (103 : Int32)) d_9_init_699 rfl ?_
  refine zr_bipush (v := (111 : Int32)) d_9_init_701 rfl ?_
  refine zr_bipush (v := (116 : Int32)) d_9_init_703 rfl ?_
  refine zr_iconst (v := (0 : Int32)) d_9_init_705 rfl ?_
  refine zr_iconst (v := (0 : Int32)) d_9_init_706 rfl ?_
  refine zr_iconst (v := (0 : Int32)) d_9_init_707 rfl ?_
  refine zr_iconst (v := (0 : Int32)) d_9_init_708 rfl ?_
  refine zr_callSl (av := [zI (103 : Int32), zI (111 : Int32), zI (116 : Int32), zI (0 : Int32), zI (0 : Int32), zI (0 : Int32), zI (0 : Int32)]) (st := [zI (15 : Int32), zA 109 0]) d_9_init_709 mw_9_word ml_9_156 is_9_word rfl rfl (Nat.le_of_ble_eq_true rfl) fitM_2_7 (s9_word rfl) ?_
  obtain ⟨m51, hm52, h⟩ := z_lt h
  refine zr_last d_9_init_712 sa_109 rfl rfl hm52 ?_
  refine zr_aload_n (i := 0) d_9_init_713 rfl rfl ?_
  refine zr_gets (i' := 0) d_9_init_714 fw_9_34 rfl ?_
  refine zr_bipush (v := (16 : Int32)) d_9_init_717 rfl ?_
  refine zr_bipush (v := (121 : Int32)) d_9_init_719 rfl ?_
  refine zr_bipush (v := (101 : Int32)) d_9_init_721 rfl ?_
  refine zr_bipush (v := (97 : Int32)) d_9_init_723 rfl ?_
  refine zr_bipush (v := (114 : Int32)) d_9_init_725 rfl ?_
  refine zr_iconst (v := (0 : Int32)) d_9_init_727 rfl ?_
  refine zr_iconst (v := (0 : Int32)) d_9_init_728 rfl ?_
  refine zr_iconst (v := (0 : Int32)) d_9_init_729 rfl ?_
  refine zr_callSl (av := [zI (121 : Int32), zI (101 : Int32), zI (97 : Int32), zI (114 : Int32), zI (0 : Int32), zI (0 : Int32), zI (0 : Int32)]) (st := [zI (16 : Int32), zA 109 0]) d_9_init_730 mw_9_word ml_9_156 is_9_word rfl rfl (Nat.le_of_ble_eq_true rfl) fitM_2_7 (s9_word rfl) ?_
  obtain ⟨m54, hm55, h⟩ := z_lt h
  refine zr_last d_9_init_733 sa_109 rfl rfl hm55 ?_
  refine zr_aload_n (i := 0) d_9_init_734 rfl rfl ?_
  refine zr_gets (i' := 0) d_9_init_735 fw_9_34 rfl ?_
  refine zr_bipush (v := (17 : Int32)) d_9_init_738 rfl ?_
  refine zr_bipush (v := (114 : Int32)) d_9_init_740 rfl ?_
  refine zr_bipush (v := (105 : Int32)) d_9_init_742 rfl ?_
  refine zr_bipush (v := (103 : Int32)) d_9_init_744 rfl ?_
  refine zr_bipush (v := (104 : Int32)) d_9_init_746 rfl ?_
  refine zr_bipush (v := (116 : Int32)) d_9_init_748 rfl ?_
  refine zr_bipush (v := (115 : Int32)) d_9_init_750 rfl ?_
  refine zr_iconst (v := (0 : Int32)) d_9_init_752 rfl ?_
  refine zr_callSl (av := [zI (114 : Int32), zI (105 : Int32), zI (103 : Int32), zI (104 : Int32), zI (116 : Int32), zI (115 : Int32), zI (0 : Int32)]) (st := [zI (17 : Int32), zA 109 0]) d_9_init_753 mw_9_word ml_9_156 is_9_word rfl rfl (Nat.le_of_ble_eq_true rfl) fitM_2_7 (s9_word rfl) ?_
  obtain ⟨m57, hm58, h⟩ := z_lt h
  refine zr_last d_9_init_756 sa_109 rfl rfl hm58 ?_
  refine zr_aload_n (i := 0) d_9_init_757 rfl rfl ?_
  refine zr_gets (i' := 0) d_9_init_758 fw_9_34 rfl ?_
  refine zr_bipush (v := (18 : Int32)) d_9_init_761 rfl ?_
  refine zr_bipush (v := (108 : Int32)) d_9_init_763 rfl ?_
  refine zr_bipush (v := (111 : Int32)) d_9_init_765 rfl ?_
  refine zr_bipush (v := (114 : Int32)) d_9_init_767 rfl ?_
  refine zr_bipush (v := (100 : Int32)) d_9_init_769 rfl ?_
  refine zr_iconst (v := (0 : Int32)) d_9_init_771 rfl ?_
  refine zr_iconst (v := (0 : Int32)) d_9_init_772 rfl ?_
  refine zr_iconst (v := (0 : Int32)) d_9_init_773 rfl ?_
  refine zr_callSl (av := [zI (108 : Int32), zI (111 : Int32), zI (114 : Int32), zI (100 : Int32), zI (0 : Int32), zI (0 : Int32), zI (0 : Int32)]) (st := [zI (18 : Int32), zA 109 0]) d_9_init_774 mw_9_word ml_9_156 is_9_word rfl rfl (Nat.le_of_ble_eq_true rfl) fitM_2_7 (s9_word rfl) ?_
  obtain ⟨m60, hm61, h⟩ := z_lt h
  refine zr_last d_9_init_777 sa_109 rfl rfl hm61 ?_
  refine zr_aload_n (i := 0) d_9_init_778 rfl rfl ?_
  refine zr_gets (i' := 0) d_9_init_779 fw_9_34 rfl ?_
  refine zr_bipush (v := (19 : Int32)) d_9_init_782 rfl ?_
  refine zr_bipush (v := (119 : Int32)) d_9_init_784 rfl ?_
  refine zr_bipush (v := (104 : Int32)) d_9_init_786 rfl ?_
  refine zr_bipush (v := (105 : Int32)) d_9_init_788 rfl ?_
  refine zr_bipush (v := (99 : Int32)) d_9_init_790 rfl ?_
  refine zr_bipush (v := (104 : Int32)) d_9_init_792 rfl ?_
  refine zr_iconst (v := (0 : Int32)) d_9_init_794 rfl ?_
  refine zr_iconst (v := (0 : Int32)) d_9_init_795 rfl ?_
  refine zr_callSl (av := [zI (119 : Int32), zI (104 : Int32), zI (105 : Int32), zI (99 : Int32), zI (104 : Int32), zI (0 : Int32), zI (0 : Int32)]) (st := [zI (19 : Int32), zA 109 0]) d_9_init_796 mw_9_word ml_9_156 is_9_word rfl rfl (Nat.le_of_ble_eq_true rfl) fitM_2_7 (s9_word rfl) ?_
  obtain ⟨m63, hm64, h⟩ := z_lt h
  refine zr_last d_9_init_799 sa_109 rfl rfl hm64 ?_
  refine zr_aload_n (i := 0) d_9_init_800 rfl rfl ?_
  refine zr_gets (i' := 0) d_9_init_801 fw_9_34 rfl ?_
  refine zr_bipush (v := (20 : Int32)) d_9_init_804 rfl ?_
  refine zr_bipush (v := (104 : Int32)) d_9_init_806 rfl ?_
  refine zr_bipush (v := (111 : Int32)) d_9_init_808 rfl ?_
  refine zr_bipush (v := (109 : Int32)) d_9_init_810 rfl ?_
  refine zr_bipush (v := (101 : Int32)) d_9_init_812 rfl ?_
  refine zr_iconst (v := (0 : Int32)) d_9_init_814 rfl ?_
  refine zr_iconst (v := (0 : Int32)) d_9_init_815 rfl ?_
  refine zr_iconst (v := (0 : Int32)) d_9_init_816 rfl ?_
  refine zr_callSl (av := [zI (104 : Int32), zI (111 : Int32), zI (109 : Int32), zI (101 : Int32), zI (0 : Int32), zI (0 : Int32), zI (0 : Int32)]) (st := [zI (20 : Int32), zA 109 0]) d_9_init_817 mw_9_word ml_9_156 is_9_word rfl rfl (Nat.le_of_ble_eq_true rfl) fitM_2_7 (s9_word rfl) ?_
  obtain ⟨m66, hm67, h⟩ := z_lt h
  refine zr_last d_9_init_820 sa_109 rfl rfl hm67 ?_
  refine zr_aload_n (i := 0) d_9_init_821 rfl rfl ?_
  obtain ⟨qm68, hq69, h⟩ := z_bd h
  refine zr_callVv (av := []) (st := []) d_9_init_822 mw_9_begins ml_9_160 im_9_begins se_9_begins rfl rfl (Nat.le_of_ble_eq_true rfl) fitM_1_3 rfl rfl rfl (s9_begins hq69) ?_
  refine zr_aload_n (i := 0) d_9_init_825 rfl rfl ?_
  obtain ⟨qm70, hq71, h⟩ := z_bd h
  refine zr_callVv (av := []) (st := []) d_9_init_826 mw_9_keepsRow ml_9_163 im_9_keepsRow se_9_keepsRow rfl rfl (Nat.le_of_ble_eq_true rfl) fitM_1_2 rfl rfl rfl (s9_keepsRow hq71) ?_
  obtain rfl := Option.some.inj h
  exact zr_wk2 hret trivial
def zL9 : List (Nat × Nat) := [(9, 0), (101, 0), (103, 0), (105, 0), (106, 0), (107, 0), (108, 0), (109, 0), (121, 0), (122, 0), (123, 0), (124, 0), (125, 0), (126, 0), (127, 0), (128, 0), (129, 0), (130, 0), (131, 0), (132, 0), (133, 0), (135, 0), (136, 0), (137, 0), (138, 0), (139, 0), (141, 0), (142, 0), (143, 0), (145, 0), (146, 0), (148, 0), (149, 0), (152, 0), (153, 0), (154, 0), (156, 0), (157, 0), (159, 0), (160, 0), (161, 0), (162, 0), (163, 0), (164, 0), (165, 0)]
theorem zL9_ok : zl_ok zL9 = true := by decide +kernel
theorem zL9_nd : zL9.Nodup := by decide +kernel
/-- memory in which all is 0 but the two places of the Reader and the Model's place -/
def z_M1 (μ : zMem) : zMem := z_sI μ 9 0 17 (-1)
def zk_c9 (P : zP) (b : Nat) (μ : zMem) : List va_E := zL9.map fun q => z_enc (zl_P P b zL9) μ q.1 q.2
/-- a memory whose Model is as its rows and fields are made -/
def z_raw9 (μ : zMem) : Prop := (∀ k, k < 66 → μ.1 9 0 k = if k = 17 then -1 else 0) ∧ (∀ c, 100 ≤ c → μ.1 c 0 = fun _ => 0) ∧ ∀ c, 100 ≤ c → μ.2.1 c 0 = fun _ => 0
set_option maxRecDepth 20000 in
theorem z_c9eq (P : zP) (b : Nat) {μ : zMem} (hr : z_raw9 μ) : (.inr (9, [.int 0, .ref (b + 1), .int 0, .ref (b + 2), .int 0, .ref (b + 3), .ref (b + 4), .ref (b + 5), .ref (b + 6), .ref (b + 7), .int 0, .int 0, .int 0, .int 0, .int 0, .int 0, .int 0, .int (-1 : Int32), .int 0, .int 0, .int 0, .ref (b + 8), .ref (b + 9), .ref (b + 10), .ref (b + 11), .ref (b + 12), .ref (b + 13), .ref (b + 14), .ref (b + 15), .ref (b + 16), .ref (b + 17), .ref (b + 18), .ref (b + 19), .ref (b + 20), .int 0, .ref (b + 21), .ref (b + 22), .ref (b + 23), .ref (b + 24), .ref (b + 25), .int 0, .ref (b + 26), .ref (b + 27), .ref (b + 28), .int 0, .ref (b + 29), .ref (b + 30), .int 0, .ref (b + 31), .ref (b + 32), .int 0, .int 0, .ref (b + 33), .ref (b + 34), .ref (b + 35), .int 0, .ref (b + 36), .ref (b + 37), .int 0, .ref (b + 38), .ref (b + 39), .ref (b + 40), .ref (b + 41), .ref (b + 42), .ref (b + 43), .ref (b + 44)]) : va_E) :: [zk_z P 1 2000, zk_z P 1 2000, zk_z P 0 403, zk_z P 0 403, zk_z P 0 403, zk_z P 3 403, zk_z P 3 21, zk_z P 3 12, zk_z P 0 12, zk_z P 0 2, zk_z P 0 10, zk_z P 0 10, zk_z P 0 2, zk_z P 0 14, zk_z P 0 14, zk_z P 0 2, zk_z P 0 2, zk_z P 0 2, zk_z P 0 8, zk_z P 0 8, zk_z P 2 260, zk_z P 0 260, zk_z P 0 260, zk_z P 0 260, zk_z P 0 260, zk_z P 0 840, zk_z P 0 840, zk_z P 0 64, zk_z P 0 9, zk_z P 0 400, zk_z P 0 34, zk_z P 0 34, zk_z P 0 5, zk_z P 0 5, zk_z P 0 7, zk_z P 0 1360, zk_z P 0 768, zk_z P 0 20, zk_z P 0 20, zk_z P 0 7, zk_z P 0 128, zk_z P 0 128, zk_z P 2 3, zk_z P 0 102] = zk_c9 P b μ := by
  have e101 : z_enc (zl_P P b zL9) μ 101 0 = zk_z P 1 2000 := by
    rw [z_enc_arr (show z_obj 101 = none from rfl)]
    unfold z_arr zk_z
    rw [hr.2.1 101 (by decide)]
    rfl
  have e103 : z_enc (zl_P P b zL9) μ 103 0 = zk_z P 1 2000 := by
    rw [z_enc_arr (show z_obj 103 = none from rfl)]
    unfold z_arr zk_z
    rw [hr.2.1 103 (by decide)]
    rfl
  have e105 : z_enc (zl_P P b zL9) μ 105 0 = zk_z P 0 403 := by
    rw [z_enc_arr (show z_obj 105 = none from rfl)]
    unfold z_arr zk_z
    rw [hr.2.1 105 (by decide)]
    rfl
  have e106 : z_enc (zl_P P b zL9) μ 106 0 = zk_z P 0 403 := by
    rw [z_enc_arr (show z_obj 106 = none from rfl)]
    unfold z_arr zk_z
    rw [hr.2.1 106 (by decide)]
    rfl
  have e107 : z_enc (zl_P P b zL9) μ 107 0 = zk_z P 0 403 := by
    rw [z_enc_arr (show z_obj 107 = none from rfl)]
    unfold z_arr zk_z
    rw [hr.2.1 107 (by decide)]
    rfl
  have e108 : z_enc (zl_P P b zL9) μ 108 0 = zk_z P 3 403 := by
    rw [z_enc_arr (show z_obj 108 = none from rfl)]
    unfold z_arr zk_z
    rw [hr.2.2 108 (by decide)]
    rfl
  have e109 : z_enc (zl_P P b zL9) μ 109 0 = zk_z P 3 21 := by
    rw [z_enc_arr (show z_obj 109 = none from rfl)]
    unfold z_arr zk_z
    rw [hr.2.2 109 (by decide)]
    rfl
  have e121 : z_enc (zl_P P b zL9) μ 121 0 = zk_z P 3 12 := by
    rw [z_enc_arr (show z_obj 121 = none from rfl)]
    unfold z_arr zk_z
    rw [hr.2.2 121 (by decide)]
    rfl
  have e122 : z_enc (zl_P P b zL9) μ 122 0 = zk_z P 0 12 := by
    rw [z_enc_arr (show z_obj 122 = none from rfl)]
    unfold z_arr zk_z
    rw [hr.2.1 122 (by decide)]
    rfl
  have e123 : z_enc (zl_P P b zL9) μ 123 0 = zk_z P 0 2 := by
    rw [z_enc_arr (show z_obj 123 = none from rfl)]
    unfold z_arr zk_z
    rw [hr.2.1 123 (by decide)]
    rfl
  have e124 : z_enc (zl_P P b zL9) μ 124 0 = zk_z P 0 10 := by
    rw [z_enc_arr (show z_obj 124 = none from rfl)]
    unfold z_arr zk_z
    rw [hr.2.1 124 (by decide)]
    rfl
  have e125 : z_enc (zl_P P b zL9) μ 125 0 = zk_z P 0 10 := by
    rw [z_enc_arr (show z_obj 125 = none from rfl)]
    unfold z_arr zk_z
    rw [hr.2.1 125 (by decide)]
    rfl
  have e126 : z_enc (zl_P P b zL9) μ 126 0 = zk_z P 0 2 := by
    rw [z_enc_arr (show z_obj 126 = none from rfl)]
    unfold z_arr zk_z
    rw [hr.2.1 126 (by decide)]
    rfl
  have e127 : z_enc (zl_P P b zL9) μ 127 0 = zk_z P 0 14 := by
    rw [z_enc_arr (show z_obj 127 = none from rfl)]
    unfold z_arr zk_z
    rw [hr.2.1 127 (by decide)]
    rfl
  have e128 : z_enc (zl_P P b zL9) μ 128 0 = zk_z P 0 14 := by
    rw [z_enc_arr (show z_obj 128 = none from rfl)]
    unfold z_arr zk_z
    rw [hr.2.1 128 (by decide)]
    rfl
  have e129 : z_enc (zl_P P b zL9) μ 129 0 = zk_z P 0 2 := by
    rw [z_enc_arr (show z_obj 129 = none from rfl)]
    unfold z_arr zk_z
    rw [hr.2.1 129 (by decide)]
    rfl
  have e130 : z_enc (zl_P P b zL9) μ 130 0 = zk_z P 0 2 := by
    rw [z_enc_arr (show z_obj 130 = none from rfl)]
    unfold z_arr zk_z
    rw [hr.2.1 130 (by decide)]
    rfl
  have e131 : z_enc (zl_P P b zL9) μ 131 0 = zk_z P 0 2 := by
    rw [z_enc_arr (show z_obj 131 = none from rfl)]
    unfold z_arr zk_z
    rw [hr.2.1 131 (by decide)]
    rfl
  have e132 : z_enc (zl_P P b zL9) μ 132 0 = zk_z P 0 8 := by
    rw [z_enc_arr (show z_obj 132 = none from rfl)]
    unfold z_arr zk_z
    rw [hr.2.1 132 (by decide)]
    rfl
  have e133 : z_enc (zl_P P b zL9) μ 133 0 = zk_z P 0 8 := by
    rw [z_enc_arr (show z_obj 133 = none from rfl)]
    unfold z_arr zk_z
    rw [hr.2.1 133 (by decide)]
    rfl
  have e135 : z_enc (zl_P P b zL9) μ 135 0 = zk_z P 2 260 := by
    rw [z_enc_arr (show z_obj 135 = none from rfl)]
    unfold z_arr zk_z
    rw [hr.2.1 135 (by decide)]
    rfl
  have e136 : z_enc (zl_P P b zL9) μ 136 0 = zk_z P 0 260 := by
    rw [z_enc_arr (show z_obj 136 = none from rfl)]
    unfold z_arr zk_z
    rw [hr.2.1 136 (by decide)]
    rfl
  have e137 : z_enc (zl_P P b zL9) μ 137 0 = zk_z P 0 260 := by
    rw [z_enc_arr (show z_obj 137 = none from rfl)]
    unfold z_arr zk_z
    rw [hr.2.1 137 (by decide)]
    rfl
  have e138 : z_enc (zl_P P b zL9) μ 138 0 = zk_z P 0 260 := by
    rw [z_enc_arr (show z_obj 138 = none from rfl)]
    unfold z_arr zk_z
    rw [hr.2.1 138 (by decide)]
    rfl
  have e139 : z_enc (zl_P P b zL9) μ 139 0 = zk_z P 0 260 := by
    rw [z_enc_arr (show z_obj 139 = none from rfl)]
    unfold z_arr zk_z
    rw [hr.2.1 139 (by decide)]
    rfl
  have e141 : z_enc (zl_P P b zL9) μ 141 0 = zk_z P 0 840 := by
    rw [z_enc_arr (show z_obj 141 = none from rfl)]
    unfold z_arr zk_z
    rw [hr.2.1 141 (by decide)]
    rfl
  have e142 : z_enc (zl_P P b zL9) μ 142 0 = zk_z P 0 840 := by
    rw [z_enc_arr (show z_obj 142 = none from rfl)]
    unfold z_arr zk_z
    rw [hr.2.1 142 (by decide)]
    rfl
  have e143 : z_enc (zl_P P b zL9) μ 143 0 = zk_z P 0 64 := by
    rw [z_enc_arr (show z_obj 143 = none from rfl)]
    unfold z_arr zk_z
    rw [hr.2.1 143 (by decide)]
    rfl
  have e145 : z_enc (zl_P P b zL9) μ 145 0 = zk_z P 0 9 := by
    rw [z_enc_arr (show z_obj 145 = none from rfl)]
    unfold z_arr zk_z
    rw [hr.2.1 145 (by decide)]
    rfl
  have e146 : z_enc (zl_P P b zL9) μ 146 0 = zk_z P 0 400 := by
    rw [z_enc_arr (show z_obj 146 = none from rfl)]
    unfold z_arr zk_z
    rw [hr.2.1 146 (by decide)]
    rfl
  have e148 : z_enc (zl_P P b zL9) μ 148 0 = zk_z P 0 34 := by
    rw [z_enc_arr (show z_obj 148 = none from rfl)]
    unfold z_arr zk_z
    rw [hr.2.1 148 (by decide)]
    rfl
  have e149 : z_enc (zl_P P b zL9) μ 149 0 = zk_z P 0 34 := by
    rw [z_enc_arr (show z_obj 149 = none from rfl)]
    unfold z_arr zk_z
    rw [hr.2.1 149 (by decide)]
    rfl
  have e152 : z_enc (zl_P P b zL9) μ 152 0 = zk_z P 0 5 := by
    rw [z_enc_arr (show z_obj 152 = none from rfl)]
    unfold z_arr zk_z
    rw [hr.2.1 152 (by decide)]
    rfl
  have e153 : z_enc (zl_P P b zL9) μ 153 0 = zk_z P 0 5 := by
    rw [z_enc_arr (show z_obj 153 = none from rfl)]
    unfold z_arr zk_z
    rw [hr.2.1 153 (by decide)]
    rfl
  have e154 : z_enc (zl_P P b zL9) μ 154 0 = zk_z P 0 7 := by
    rw [z_enc_arr (show z_obj 154 = none from rfl)]
    unfold z_arr zk_z
    rw [hr.2.1 154 (by decide)]
    rfl
  have e156 : z_enc (zl_P P b zL9) μ 156 0 = zk_z P 0 1360 := by
    rw [z_enc_arr (show z_obj 156 = none from rfl)]
    unfold z_arr zk_z
    rw [hr.2.1 156 (by decide)]
    rfl
  have e157 : z_enc (zl_P P b zL9) μ 157 0 = zk_z P 0 768 := by
    rw [z_enc_arr (show z_obj 157 = none from rfl)]
    unfold z_arr zk_z
    rw [hr.2.1 157 (by decide)]
    rfl
  have e159 : z_enc (zl_P P b zL9) μ 159 0 = zk_z P 0 20 := by
    rw [z_enc_arr (show z_obj 159 = none from rfl)]
    unfold z_arr zk_z
    rw [hr.2.1 159 (by decide)]
    rfl
  have e160 : z_enc (zl_P P b zL9) μ 160 0 = zk_z P 0 20 := by
    rw [z_enc_arr (show z_obj 160 = none from rfl)]
    unfold z_arr zk_z
    rw [hr.2.1 160 (by decide)]
    rfl
  have e161 : z_enc (zl_P P b zL9) μ 161 0 = zk_z P 0 7 := by
    rw [z_enc_arr (show z_obj 161 = none from rfl)]
    unfold z_arr zk_z
    rw [hr.2.1 161 (by decide)]
    rfl
  have e162 : z_enc (zl_P P b zL9) μ 162 0 = zk_z P 0 128 := by
    rw [z_enc_arr (show z_obj 162 = none from rfl)]
    unfold z_arr zk_z
    rw [hr.2.1 162 (by decide)]
    rfl
  have e163 : z_enc (zl_P P b zL9) μ 163 0 = zk_z P 0 128 := by
    rw [z_enc_arr (show z_obj 163 = none from rfl)]
    unfold z_arr zk_z
    rw [hr.2.1 163 (by decide)]
    rfl
  have e164 : z_enc (zl_P P b zL9) μ 164 0 = zk_z P 2 3 := by
    rw [z_enc_arr (show z_obj 164 = none from rfl)]
    unfold z_arr zk_z
    rw [hr.2.1 164 (by decide)]
    rfl
  have e165 : z_enc (zl_P P b zL9) μ 165 0 = zk_z P 0 102 := by
    rw [z_enc_arr (show z_obj 165 = none from rfl)]
    unfold z_arr zk_z
    rw [hr.2.1 165 (by decide)]
    rfl
  have e9 : z_enc (zl_P P b zL9) μ 9 0 = .inr (9, [.int 0, .ref (b + 1), .int 0, .ref (b + 2), .int 0, .ref (b + 3), .ref (b + 4), .ref (b + 5), .ref (b + 6), .ref (b + 7), .int 0, .int 0, .int 0, .int 0, .int 0, .int 0, .int 0, .int (-1 : Int32), .int 0, .int 0, .int 0, .ref (b + 8), .ref (b + 9), .ref (b + 10), .ref (b + 11), .ref (b + 12), .ref (b + 13), .ref (b + 14), .ref (b + 15), .ref (b + 16), .ref (b + 17), .ref (b + 18), .ref (b + 19), .ref (b + 20), .int 0, .ref (b + 21), .ref (b + 22), .ref (b + 23), .ref (b + 24), .ref (b + 25), .int 0, .ref (b + 26), .ref (b + 27), .ref (b + 28), .int 0, .ref (b + 29), .ref (b + 30), .int 0, .ref (b + 31), .ref (b + 32), .int 0, .int 0, .ref (b + 33), .ref (b + 34), .ref (b + 35), .int 0, .ref (b + 36), .ref (b + 37), .int 0, .ref (b + 38), .ref (b + 39), .ref (b + 40), .ref (b + 41), .ref (b + 42), .ref (b + 43), .ref (b + 44)]) := by
    rw [z_enc_obj (show z_obj 9 = some _ from rfl)]
    have f0 : μ.1 9 0 0 = 0 := hr.1 0 (by decide)
    have f2 : μ.1 9 0 2 = 0 := hr.1 2 (by decide)
    have f4 : μ.1 9 0 4 = 0 := hr.1 4 (by decide)
    have f10 : μ.1 9 0 10 = 0 := hr.1 10 (by decide)
    have f11 : μ.1 9 0 11 = 0 := hr.1 11 (by decide)
    have f12 : μ.1 9 0 12 = 0 := hr.1 12 (by decide)
    have f13 : μ.1 9 0 13 = 0 := hr.1 13 (by decide)
    have f14 : μ.1 9 0 14 = 0 := hr.1 14 (by decide)
    have f15 : μ.1 9 0 15 = 0 := hr.1 15 (by decide)
    have f16 : μ.1 9 0 16 = 0 := hr.1 16 (by decide)
    have f17 : μ.1 9 0 17 = -1 := hr.1 17 (by decide)
    have f18 : μ.1 9 0 18 = 0 := hr.1 18 (by decide)
    have f19 : μ.1 9 0 19 = 0 := hr.1 19 (by decide)
    have f20 : μ.1 9 0 20 = 0 := hr.1 20 (by decide)
    have f34 : μ.1 9 0 34 = 0 := hr.1 34 (by decide)
    have f40 : μ.1 9 0 40 = 0 := hr.1 40 (by decide)
    have f44 : μ.1 9 0 44 = 0 := hr.1 44 (by decide)
    have f47 : μ.1 9 0 47 = 0 := hr.1 47 (by decide)
    have f50 : μ.1 9 0 50 = 0 := hr.1 50 (by decide)
    have f51 : μ.1 9 0 51 = 0 := hr.1 51 (by decide)
    have f55 : μ.1 9 0 55 = 0 := hr.1 55 (by decide)
    have f58 : μ.1 9 0 58 = 0 := hr.1 58 (by decide)
    simp only [List.mapIdx_cons, List.mapIdx_nil, z_fv]
    simp only [Nat.reduceAdd, f0, f2, f4, f10, f11, f12, f13, f14, f15, f16, f17, f18, f19, f20, f34, f40, f44, f47, f50, f51, f55, f58]
    rfl
  show _ = [z_enc (zl_P P b zL9) μ 9 0, z_enc (zl_P P b zL9) μ 101 0, z_enc (zl_P P b zL9) μ 103 0, z_enc (zl_P P b zL9) μ 105 0, z_enc (zl_P P b zL9) μ 106 0, z_enc (zl_P P b zL9) μ 107 0, z_enc (zl_P P b zL9) μ 108 0, z_enc (zl_P P b zL9) μ 109 0, z_enc (zl_P P b zL9) μ 121 0, z_enc (zl_P P b zL9) μ 122 0, z_enc (zl_P P b zL9) μ 123 0, z_enc (zl_P P b zL9) μ 124 0, z_enc (zl_P P b zL9) μ 125 0, z_enc (zl_P P b zL9) μ 126 0, z_enc (zl_P P b zL9) μ 127 0, z_enc (zl_P P b zL9) μ 128 0, z_enc (zl_P P b zL9) μ 129 0, z_enc (zl_P P b zL9) μ 130 0, z_enc (zl_P P b zL9) μ 131 0, z_enc (zl_P P b zL9) μ 132 0, z_enc (zl_P P b zL9) μ 133 0, z_enc (zl_P P b zL9) μ 135 0, z_enc (zl_P P b zL9) μ 136 0, z_enc (zl_P P b zL9) μ 137 0, z_enc (zl_P P b zL9) μ 138 0, z_enc (zl_P P b zL9) μ 139 0, z_enc (zl_P P b zL9) μ 141 0, z_enc (zl_P P b zL9) μ 142 0, z_enc (zl_P P b zL9) μ 143 0, z_enc (zl_P P b zL9) μ 145 0, z_enc (zl_P P b zL9) μ 146 0, z_enc (zl_P P b zL9) μ 148 0, z_enc (zl_P P b zL9) μ 149 0, z_enc (zl_P P b zL9) μ 152 0, z_enc (zl_P P b zL9) μ 153 0, z_enc (zl_P P b zL9) μ 154 0, z_enc (zl_P P b zL9) μ 156 0, z_enc (zl_P P b zL9) μ 157 0, z_enc (zl_P P b zL9) μ 159 0, z_enc (zl_P P b zL9) μ 160 0, z_enc (zl_P P b zL9) μ 161 0, z_enc (zl_P P b zL9) μ 162 0, z_enc (zl_P P b zL9) μ 163 0, z_enc (zl_P P b zL9) μ 164 0, z_enc (zl_P P b zL9) μ 165 0]
  rw [e9, e101, e103, e105, e106, e107, e108, e109, e121, e122, e123, e124, e125, e126, e127, e128, e129, e130, e131, e132, e133, e135, e136, e137, e138, e139, e141, e142, e143, e145, e146, e148, e149, e152, e153, e154, e156, e157, e159, e160, e161, e162, e163, e164, e165]
set_option maxHeartbeats 8000000 in
set_option maxRecDepth 20000 in
theorem k9 (P : zP) (b : Nat) {μ μ' : zMem} (hr : z_raw9 μ) (h : f9_irest μ = some μ') : z_Kt P b y_9_init M_9_init 6 44 11805 (.inr (9, [.int 0, .null, .int 0, .null, .int 0, .null, .null, .null, .null, .null, .int 0, .int 0, .int 0, .int 0, .int 0, .int 0, .int 0, .int 0, .int 0, .int 0, .int 0, .null, .null, .null, .null, .null, .null, .null, .null, .null, .null, .null, .null, .null, .int 0, .null, .null, .null, .null, .null, .int 0, .null, .null, .null, .int 0, .null, .null, .int 0, .null, .null, .int 0, .int 0, .null, .null, .null, .int 0, .null, .null, .int 0, .null, .null, .null, .null, .null, .null, .null])) (zk_c9 P b μ') := by
  refine z_Kt.of (plainFor_of_name (by decide)) rfl rfl (by decide) ?_
  have hr0 : ([] : List va_E).length + 1 = 1 := rfl
  have hf0 : ([.int 0, .null, .int 0, .null, .int 0, .null, .null, .null, .null, .null, .int 0, .int 0, .int 0, .int 0, .int 0, .int 0, .int 0, .int 0, .int 0, .int 0, .int 0, .null, .null, .null, .null, .null, .null, .null, .null, .null, .null, .null, .null, .null, .int 0, .null, .null, .null, .null, .null, .int 0, .null, .null, .null, .int 0, .null, .null, .int 0, .null, .null, .int 0, .int 0, .null, .null, .null, .int 0, .null, .null, .int 0, .null, .null, .null, .null, .null, .null, .null] : List Value).length = 66 := rfl
  refine zg_aload_n (i := 0) d_9_init_0 rfl rfl ?_
  refine zk_objInit d_9_init_1 ml_9_7 oi_inst oi_code (by decide) (by decide) ?_
  refine zg_aload_n (i := 0) d_9_init_4 rfl rfl ?_
  refine zg_sipush (v := (2000 : Int32)) d_9_init_5 rfl ?_
  refine zk_newaC (at_ := .byte) (t := 1) (N := 2000) (k := 1) d_9_init_8 ac_1 rfl (fun c h => by cases h) (z_hc1 2000) (by decide) rfl (by decide) hr0 (by decide) (by decide) (fun rs1 er1 hr1 => ?_)
  refine zk_putC (k := 1) (N := 66) (fun _ _ h => h.1) d_9_init_10 rfl (by decide) fl_9_13 rfl (z_ty9 1 (by decide)) rfl rfl hf0 (fun fs1 ef1 hf1 => ?_)
  refine zg_aload_n (i := 0) d_9_init_13 rfl rfl ?_
  refine zg_sipush (v := (2000 : Int32)) d_9_init_14 rfl ?_
  refine zk_newaC (at_ := .byte) (t := 1) (N := 2000) (k := 2) d_9_init_17 ac_1 rfl (fun c h => by cases h) (z_hc1 2000) (by decide) rfl (by decide) hr1 (by decide) (by decide) (fun rs2 er2 hr2 => ?_)
  refine zk_putC (k := 3) (N := 66) (fun _ _ h => h.1) d_9_init_19 rfl (by decide) fl_9_17 rfl (z_ty9 3 (by decide)) rfl rfl hf1 (fun fs2 ef2 hf2 => ?_)
  refine zg_aload_n (i := 0) d_9_init_22 rfl rfl ?_
  refine zg_sipush (v := (403 : Int32)) d_9_init_23 rfl ?_
  refine zk_newaC (at_ := .int) (t := 0) (N := 403) (k := 3) d_9_init_26 ac_0 rfl (fun c h => by cases h) (z_hc0 403) (by decide) rfl (by decide) hr2 (by decide) (by decide) (fun rs3 er3 hr3 => ?_)
  refine zk_putC (k := 5) (N := 66) (fun _ _ h => h.1) d_9_init_28 rfl (by decide) fl_9_20 rfl (z_ty9 5 (by decide)) rfl rfl hf2 (fun fs3 ef3 hf3 => ?_)
  refine zg_aload_n (i := 0) d_9_init_31 rfl rfl ?_
  refine zg_sipush (v := (403 : Int32)) d_9_init_32 rfl ?_
  refine zk_newaC (at_ := .int) (t := 0) (N := 403) (k := 4) d_9_init_35 ac_0 rfl (fun c h => by cases h) (z_hc0 403) (by decide) rfl (by decide) hr3 (by decide) (by decide) (fun rs4 er4 hr4 => ?_)
  refine zk_putC (k := 6) (N := 66) (fun _ _ h => h.1) d_9_init_37 rfl (by decide) fl_9_24 rfl (z_ty9 6 (by decide)) rfl rfl hf3 (fun fs4 ef4 hf4 => ?_)
  refine zg_aload_n (i := 0) d_9_init_40 rfl rfl ?_
  refine zg_sipush (v := (403 : Int32)) d_9_init_41 rfl ?_
  refine zk_newaC (at_ := .int) (t := 0) (N := 403) (k := 5) d_9_init_44 ac_0 rfl (fun c h => by cases h) (z_hc0 403) (by decide) rfl (by decide) hr4 (by decide) (by decide) (fun rs5 er5 hr5 => ?_)
  refine zk_putC (k := 7) (N := 66) (fun _ _ h => h.1) d_9_init_46 rfl (by decide) fl_9_27 rfl (z_ty9 7 (by decide)) rfl rfl hf4 (fun fs5 ef5 hf5 => ?_)
  refine zg_aload_n (i := 0) d_9_init_49 rfl rfl ?_
  refine zg_sipush (v := (403 : Int32)) d_9_init_50 rfl ?_
  refine zk_newaC (at_ := .long) (t := 3) (N := 403) (k := 6) d_9_init_53 ac_3 rfl (fun c h => by cases h) (z_hc3 403) (by decide) rfl (by decide) hr5 (by decide) (by decide) (fun rs6 er6 hr6 => ?_)
  refine zk_putC (k := 8) (N := 66) (fun _ _ h => h.1) d_9_init_55 rfl (by decide) fl_9_30 rfl (z_ty9 8 (by decide)) rfl rfl hf5 (fun fs6 ef6 hf6 => ?_)
  refine zg_aload_n (i := 0) d_9_init_58 rfl rfl ?_
  refine zg_bipush (v := (21 : Int32)) d_9_init_59 rfl ?_
  refine zk_newaC (at_ := .long) (t := 3) (N := 21) (k := 7) d_9_init_61 ac_3 rfl (fun c h => by cases h) (z_hc3 21) (by decide) rfl (by decide) hr6 (by decide) (by decide) (fun rs7 er7 hr7 => ?_)
  refine zk_putC (k := 9) (N := 66) (fun _ _ h => h.1) d_9_init_63 rfl (by decide) fl_9_34 rfl (z_ty9 9 (by decide)) rfl rfl hf6 (fun fs7 ef7 hf7 => ?_)
  refine zg_aload_n (i := 0) d_9_init_66 rfl rfl ?_
  refine zg_iconst (v := (-1 : Int32)) d_9_init_67 rfl ?_
  refine zk_putC (k := 17) (N := 66) (fun _ _ h => h.1) d_9_init_68 rfl (by decide) fl_9_37 rfl (z_ty9 17 (by decide)) rfl rfl hf7 (fun fs8 ef8 hf8 => ?_)
  refine zg_aload_n (i := 0) d_9_init_71 rfl rfl ?_
  refine zg_bipush (v := (12 : Int32)) d_9_init_72 rfl ?_
  refine zk_newaC (at_ := .long) (t := 3) (N := 12) (k := 8) d_9_init_74 ac_3 rfl (fun c h => by cases h) (z_hc3 12) (by decide) rfl (by decide) hr7 (by decide) (by decide) (fun rs8 er8 hr8 => ?_)
  refine zk_putC (k := 21) (N := 66) (fun _ _ h => h.1) d_9_init_76 rfl (by decide) fl_9_40 rfl (z_ty9 21 (by decide)) rfl rfl hf8 (fun fs9 ef9 hf9 => ?_)
  refine zg_aload_n (i := 0) d_9_init_79 rfl rfl ?_
  refine zg_bipush (v := (12 : Int32)) d_9_init_80 rfl ?_
  refine zk_newaC (at_ := .int) (t := 0) (N := 12) (k := 9) d_9_init_82 ac_0 rfl (fun c h => by cases h) (z_hc0 12) (by decide) rfl (by decide) hr8 (by decide) (by decide) (fun rs9 er9 hr9 => ?_)
  refine zk_putC (k := 22) (N := 66) (fun _ _ h => h.1) d_9_init_84 rfl (by decide) fl_9_43 rfl (z_ty9 22 (by decide)) rfl rfl hf9 (fun fs10 ef10 hf10 => ?_)
  refine zg_aload_n (i := 0) d_9_init_87 rfl rfl ?_
  refine zg_iconst (v := (2 : Int32)) d_9_init_88 rfl ?_
  refine zk_newaC (at_ := .int) (t := 0) (N := 2) (k := 10) d_9_init_89 ac_0 rfl (fun c h => by cases h) (z_hc0 2) (by decide) rfl (by decide) hr9 (by decide) (by decide) (fun rs10 er10 hr10 => ?_)
  refine zk_putC (k := 23) (N := 66) (fun _ _ h => h.1) d_9_init_91 rfl (by decide) fl_9_46 rfl (z_ty9 23 (by decide)) rfl rfl hf10 (fun fs11 ef11 hf11 => ?_)
  refine zg_aload_n (i := 0) d_9_init_94 rfl rfl ?_
  refine zg_bipush (v := (10 : Int32)) d_9_init_95 rfl ?_
  refine zk_newaC (at_ := .int) (t := 0) (N := 10) (k := 11) d_9_init_97 ac_0 rfl (fun c h => by cases h) (z_hc0 10) (by decide) rfl (by decide) hr10 (by decide) (by decide) (fun rs11 er11 hr11 => ?_)
  refine zk_putC (k := 24) (N := 66) (fun _ _ h => h.1) d_9_init_99 rfl (by decide) fl_9_49 rfl (z_ty9 24 (by decide)) rfl rfl hf11 (fun fs12 ef12 hf12 => ?_)
  refine zg_aload_n (i := 0) d_9_init_102 rfl rfl ?_
  refine zg_bipush (v := (10 : Int32)) d_9_init_103 rfl ?_
  refine zk_newaC (at_ := .int) (t := 0) (N := 10) (k := 12) d_9_init_105 ac_0 rfl (fun c h => by cases h) (z_hc0 10) (by decide) rfl (by decide) hr11 (by decide) (by decide) (fun rs12 er12 hr12 => ?_)
  refine zk_putC (k := 25) (N := 66) (fun _ _ h => h.1) d_9_init_107 rfl (by decide) fl_9_52 rfl (z_ty9 25 (by decide)) rfl rfl hf12 (fun fs13 ef13 hf13 => ?_)
  refine zg_aload_n (i := 0) d_9_init_110 rfl rfl ?_
  refine zg_iconst (v := (2 : Int32)) d_9_init_111 rfl ?_
  refine zk_newaC (at_ := .int) (t := 0) (N := 2) (k := 13) d_9_init_112 ac_0 rfl (fun c h => by cases h) (z_hc0 2) (by decide) rfl (by decide) hr12 (by decide) (by decide) (fun rs13 er13 hr13 => ?_)
  refine zk_putC (k := 26) (N := 66) (fun _ _ h => h.1) d_9_init_114 rfl (by decide) fl_9_55 rfl (z_ty9 26 (by decide)) rfl rfl hf13 (fun fs14 ef14 hf14 => ?_)
  refine zg_aload_n (i := 0) d_9_init_117 rfl rfl ?_
  refine zg_bipush (v := (14 : Int32)) d_9_init_118 rfl ?_
  refine zk_newaC (at_ := .int) (t := 0) (N := 14) (k := 14) d_9_init_120 ac_0 rfl (fun c h => by cases h) (z_hc0 14) (by decide) rfl (by decide) hr13 (by decide) (by decide) (fun rs14 er14 hr14 => ?_)
  refine zk_putC (k := 27) (N := 66) (fun _ _ h => h.1) d_9_init_122 rfl (by decide) fl_9_58 rfl (z_ty9 27 (by decide)) rfl rfl hf14 (fun fs15 ef15 hf15 => ?_)
  refine zg_aload_n (i := 0) d_9_init_125 rfl rfl ?_
  refine zg_bipush (v := (14 : Int32)) d_9_init_126 rfl ?_
  refine zk_newaC (at_ := .int) (t := 0) (N := 14) (k := 15) d_9_init_128 ac_0 rfl (fun c h => by cases h) (z_hc0 14) (by decide) rfl (by decide) hr14 (by decide) (by decide) (fun rs15 er15 hr15 => ?_)
  refine zk_putC (k := 28) (N := 66) (fun _ _ h => h.1) d_9_init_130 rfl (by decide) fl_9_61 rfl (z_ty9 28 (by decide)) rfl rfl hf15 (fun fs16 ef16 hf16 => ?_)
  refine zg_aload_n (i := 0) d_9_init_133 rfl rfl ?_
  refine zg_iconst (v := (2 : Int32)) d_9_init_134 rfl ?_
  refine zk_newaC (at_ := .int) (t := 0) (N := 2) (k := 16) d_9_init_135 ac_0 rfl (fun c h => by cases h) (z_hc0 2) (by decide) rfl (by decide) hr15 (by decide) (by decide) (fun rs16 er16 hr16 => ?_)
  refine zk_putC (k := 29) (N := 66) (fun _ _ h => h.1) d_9_init_137 rfl (by decide) fl_9_64 rfl (z_ty9 29 (by decide)) rfl rfl hf16 (fun fs17 ef17 hf17 => ?_)
  refine zg_aload_n (i := 0) d_9_init_140 rfl rfl ?_
  refine zg_iconst (v := (2 : Int32)) d_9_init_141 rfl ?_
  refine zk_newaC (at_ := .int) (t := 0) (N := 2) (k := 17) d_9_init_142 ac_0 rfl (fun c h => by cases h) (z_hc0 2) (by decide) rfl (by decide) hr16 (by decide) (by decide) (fun rs17 er17 hr17 => ?_)
  refine zk_putC (k := 30) (N := 66) (fun _ _ h => h.1) d_9_init_144 rfl (by decide) fl_9_67 rfl (z_ty9 30 (by decide)) rfl rfl hf17 (fun fs18 ef18 hf18 => ?_)
  refine zg_aload_n (i := 0) d_9_init_147 rfl rfl ?_
  refine zg_iconst (v := (2 : Int32)) d_9_init_148 rfl ?_
  refine zk_newaC (at_ := .int) (t := 0) (N := 2) (k := 18) d_9_init_149 ac_0 rfl (fun c h => by cases h) (z_hc0 2) (by decide) rfl (by decide) hr17 (by decide) (by decide) (fun rs18 er18 hr18 => ?_)
  refine zk_putC (k := 31) (N := 66) (fun _ _ h => h.1) d_9_init_151 rfl (by decide) fl_9_70 rfl (z_ty9 31 (by decide)) rfl rfl hf18 (fun fs19 ef19 hf19 => ?_)
  refine zg_aload_n (i := 0) d_9_init_154 rfl rfl ?_
  refine zg_bipush (v := (8 : Int32)) d_9_init_155 rfl ?_
  refine zk_newaC (at_ := .int) (t := 0) (N := 8) (k := 19) d_9_init_157 ac_0 rfl (fun c h => by cases h) (z_hc0 8) (by decide) rfl (by decide) hr18 (by decide) (by decide) (fun rs19 er19 hr19 => ?_)
  refine zk_putC (k := 32) (N := 66) (fun _ _ h => h.1) d_9_init_159 rfl (by decide) fl_9_73 rfl (z_ty9 32 (by decide)) rfl rfl hf19 (fun fs20 ef20 hf20 => ?_)
  refine zg_aload_n (i := 0) d_9_init_162 rfl rfl ?_
  refine zg_bipush (v := (8 : Int32)) d_9_init_163 rfl ?_
  refine zk_newaC (at_ := .int) (t := 0) (N := 8) (k := 20) d_9_init_165 ac_0 rfl (fun c h => by cases h) (z_hc0 8) (by decide) rfl (by decide) hr19 (by decide) (by decide) (fun rs20 er20 hr20 => ?_)
  refine zk_putC (k := 33) (N := 66) (fun _ _ h => h.1) d_9_init_167 rfl (by decide) fl_9_76 rfl (z_ty9 33 (by decide)) rfl rfl hf20 (fun fs21 ef21 hf21 => ?_)
  refine zg_aload_n (i := 0) d_9_init_170 rfl rfl ?_
  refine zg_sipush (v := (260 : Int32)) d_9_init_171 rfl ?_
  refine zk_newaC (at_ := .boolean) (t := 2) (N := 260) (k := 21) d_9_init_174 ac_2 rfl (fun c h => by cases h) (z_hc2 260) (by decide) rfl (by decide) hr20 (by decide) (by decide) (fun rs21 er21 hr21 => ?_)
  refine zk_putC (k := 35) (N := 66) (fun _ _ h => h.1) d_9_init_176 rfl (by decide) fl_9_79 rfl (z_ty9 35 (by decide)) rfl rfl hf21 (fun fs22 ef22 hf22 => ?_)
  refine zg_aload_n (i := 0) d_9_init_179 rfl rfl ?_
  refine zg_sipush (v := (260 : Int32)) d_9_init_180 rfl ?_
  refine zk_newaC (at_ := .int) (t := 0) (N := 260) (k := 22) d_9_init_183 ac_0 rfl (fun c h => by cases h) (z_hc0 260) (by decide) rfl (by decide) hr21 (by decide) (by decide) (fun rs22 er22 hr22 => ?_)
  refine zk_putC (k := 36) (N := 66) (fun _ _ h => h.1) d_9_init_185 rfl (by decide) fl_9_83 rfl (z_ty9 36 (by decide)) rfl rfl hf22 (fun fs23 ef23 hf23 => ?_)
  refine zg_aload_n (i := 0) d_9_init_188 rfl rfl ?_
  refine zg_sipush (v := (260 : Int32)) d_9_init_189 rfl ?_
  refine zk_newaC (at_ := .int) (t := 0) (N := 260) (k := 23) d_9_init_192 ac_0 rfl (fun c h => by cases h) (z_hc0 260) (by decide) rfl (by decide) hr22 (by decide) (by decide) (fun rs23 er23 hr23 => ?_)
  refine zk_putC (k := 37) (N := 66) (fun _ _ h => h.1) d_9_init_194 rfl (by decide) fl_9_86 rfl (z_ty9 37 (by decide)) rfl rfl hf23 (fun fs24 ef24 hf24 => ?_)
  refine zg_aload_n (i := 0) d_9_init_197 rfl rfl ?_
  refine zg_sipush (v := (260 : Int32)) d_9_init_198 rfl ?_
  refine zk_newaC (at_ := .int) (t := 0) (N := 260) (k := 24) d_9_init_201 ac_0 rfl (fun c h => by cases h) (z_hc0 260) (by decide) rfl (by decide) hr23 (by decide) (by decide) (fun rs24 er24 hr24 => ?_)
  refine zk_putC (k := 38) (N := 66) (fun _ _ h => h.1) d_9_init_203 rfl (by decide) fl_9_89 rfl (z_ty9 38 (by decide)) rfl rfl hf24 (fun fs25 ef25 hf25 => ?_)
  refine zg_aload_n (i := 0) d_9_init_206 rfl rfl ?_
  refine zg_sipush (v := (260 : Int32)) d_9_init_207 rfl ?_
  refine zk_newaC (at_ := .int) (t := 0) (N := 260) (k := 25) d_9_init_210 ac_0 rfl (fun c h => by cases h) (z_hc0 260) (by decide) rfl (by decide) hr24 (by decide) (by decide) (fun rs25 er25 hr25 => ?_)
  refine zk_putC (k := 39) (N := 66) (fun _ _ h => h.1) d_9_init_212 rfl (by decide) fl_9_92 rfl (z_ty9 39 (by decide)) rfl rfl hf25 (fun fs26 ef26 hf26 => ?_)
  refine zg_aload_n (i := 0) d_9_init_215 rfl rfl ?_
  refine zg_sipush (v := (840 : Int32)) d_9_init_216 rfl ?_
  refine zk_newaC (at_ := .int) (t := 0) (N := 840) (k := 26) d_9_init_219 ac_0 rfl (fun c h => by cases h) (z_hc0 840) (by decide) rfl (by decide) hr25 (by decide) (by decide) (fun rs26 er26 hr26 => ?_)
  refine zk_putC (k := 41) (N := 66) (fun _ _ h => h.1) d_9_init_221 rfl (by decide) fl_9_95 rfl (z_ty9 41 (by decide)) rfl rfl hf26 (fun fs27 ef27 hf27 => ?_)
  refine zg_aload_n (i := 0) d_9_init_224 rfl rfl ?_
  refine zg_sipush (v := (840 : Int32)) d_9_init_225 rfl ?_
  refine zk_newaC (at_ := .int) (t := 0) (N := 840) (k := 27) d_9_init_228 ac_0 rfl (fun c h => by cases h) (z_hc0 840) (by decide) rfl (by decide) hr26 (by decide) (by decide) (fun rs27 er27 hr27 => ?_)
  refine zk_putC (k := 42) (N := 66) (fun _ _ h => h.1) d_9_init_230 rfl (by decide) fl_9_98 rfl (z_ty9 42 (by decide)) rfl rfl hf27 (fun fs28 ef28 hf28 => ?_)
  refine zg_aload_n (i := 0) d_9_init_233 rfl rfl ?_
  refine zg_bipush (v := (64 : Int32)) d_9_init_234 rfl ?_
  refine zk_newaC (at_ := .int) (t := 0) (N := 64) (k := 28) d_9_init_236 ac_0 rfl (fun c h => by cases h) (z_hc0 64) (by decide) rfl (by decide) hr27 (by decide) (by decide) (fun rs28 er28 hr28 => ?_)
  refine zk_putC (k := 43) (N := 66) (fun _ _ h => h.1) d_9_init_238 rfl (by decide) fl_9_101 rfl (z_ty9 43 (by decide)) rfl rfl hf28 (fun fs29 ef29 hf29 => ?_)
  refine zg_aload_n (i := 0) d_9_init_241 rfl rfl ?_
  refine zg_bipush (v := (9 : Int32)) d_9_init_242 rfl ?_
  refine zk_newaC (at_ := .int) (t := 0) (N := 9) (k := 29) d_9_init_244 ac_0 rfl (fun c h => by cases h) (z_hc0 9) (by decide) rfl (by decide) hr28 (by decide) (by decide) (fun rs29 er29 hr29 => ?_)
  refine zk_putC (k := 45) (N := 66) (fun _ _ h => h.1) d_9_init_246 rfl (by decide) fl_9_104 rfl (z_ty9 45 (by decide)) rfl rfl hf29 (fun fs30 ef30 hf30 => ?_)
  refine zg_aload_n (i := 0) d_9_init_249 rfl rfl ?_
  refine zg_sipush (v := (400 : Int32)) d_9_init_250 rfl ?_
  refine zk_newaC (at_ := .int) (t := 0) (N := 400) (k := 30) d_9_init_253 ac_0 rfl (fun c h => by cases h) (z_hc0 400) (by decide) rfl (by decide) hr29 (by decide) (by decide) (fun rs30 er30 hr30 => ?_)
  refine zk_putC (k := 46) (N := 66) (fun _ _ h => h.1) d_9_init_255 rfl (by decide) fl_9_107 rfl (z_ty9 46 (by decide)) rfl rfl hf30 (fun fs31 ef31 hf31 => ?_)
  refine zg_aload_n (i := 0) d_9_init_258 rfl rfl ?_
  refine zg_bipush (v := (34 : Int32)) d_9_init_259 rfl ?_
  refine zk_newaC (at_ := .int) (t := 0) (N := 34) (k := 31) d_9_init_261 ac_0 rfl (fun c h => by cases h) (z_hc0 34) (by decide) rfl (by decide) hr30 (by decide) (by decide) (fun rs31 er31 hr31 => ?_)
  refine zk_putC (k := 48) (N := 66) (fun _ _ h => h.1) d_9_init_263 rfl (by decide) fl_9_110 rfl (z_ty9 48 (by decide)) rfl rfl hf31 (fun fs32 ef32 hf32 => ?_)
  refine zg_aload_n (i := 0) d_9_init_266 rfl rfl ?_
  refine zg_bipush (v := (34 : Int32)) d_9_init_267 rfl ?_
  refine zk_newaC (at_ := .int) (t := 0) (N := 34) (k := 32) d_9_init_269 ac_0 rfl (fun c h => by cases h) (z_hc0 34) (by decide) rfl (by decide) hr31 (by decide) (by decide) (fun rs32 er32 hr32 => ?_)
  refine zk_putC (k := 49) (N := 66) (fun _ _ h => h.1) d_9_init_271 rfl (by decide) fl_9_113 rfl (z_ty9 49 (by decide)) rfl rfl hf32 (fun fs33 ef33 hf33 => ?_)
  refine zg_aload_n (i := 0) d_9_init_274 rfl rfl ?_
  refine zg_iconst (v := (5 : Int32)) d_9_init_275 rfl ?_
  refine zk_newaC (at_ := .int) (t := 0) (N := 5) (k := 33) d_9_init_276 ac_0 rfl (fun c h => by cases h) (z_hc0 5) (by decide) rfl (by decide) hr32 (by decide) (by decide) (fun rs33 er33 hr33 => ?_)
  refine zk_putC (k := 52) (N := 66) (fun _ _ h => h.1) d_9_init_278 rfl (by decide) fl_9_116 rfl (z_ty9 52 (by decide)) rfl rfl hf33 (fun fs34 ef34 hf34 => ?_)
  refine zg_aload_n (i := 0) d_9_init_281 rfl rfl ?_
  refine zg_iconst (v := (5 : Int32)) d_9_init_282 rfl ?_
  refine zk_newaC (at_ := .int) (t := 0) (N := 5) (k := 34) d_9_init_283 ac_0 rfl (fun c h => by cases h) (z_hc0 5) (by decide) rfl (by decide) hr33 (by decide) (by decide) (fun rs34 er34 hr34 => ?_)
  refine zk_putC (k := 53) (N := 66) (fun _ _ h => h.1) d_9_init_285 rfl (by decide) fl_9_119 rfl (z_ty9 53 (by decide)) rfl rfl hf34 (fun fs35 ef35 hf35 => ?_)
  refine zg_aload_n (i := 0) d_9_init_288 rfl rfl ?_
  refine zg_bipush (v := (7 : Int32)) d_9_init_289 rfl ?_
  refine zk_newaC (at_ := .int) (t := 0) (N := 7) (k := 35) d_9_init_291 ac_0 rfl (fun c h => by cases h) (z_hc0 7) (by decide) rfl (by decide) hr34 (by decide) (by decide) (fun rs35 er35 hr35 => ?_)
  refine zk_putC (k := 54) (N := 66) (fun _ _ h => h.1) d_9_init_293 rfl (by decide) fl_9_122 rfl (z_ty9 54 (by decide)) rfl rfl hf35 (fun fs36 ef36 hf36 => ?_)
  refine zg_aload_n (i := 0) d_9_init_296 rfl rfl ?_
  refine zg_sipush (v := (1360 : Int32)) d_9_init_297 rfl ?_
  refine zk_newaC (at_ := .int) (t := 0) (N := 1360) (k := 36) d_9_init_300 ac_0 rfl (fun c h => by cases h) (z_hc0 1360) (by decide) rfl (by decide) hr35 (by decide) (by decide) (fun rs36 er36 hr36 => ?_)
  refine zk_putC (k := 56) (N := 66) (fun _ _ h => h.1) d_9_init_302 rfl (by decide) fl_9_125 rfl (z_ty9 56 (by decide)) rfl rfl hf36 (fun fs37 ef37 hf37 => ?_)
  refine zg_aload_n (i := 0) d_9_init_305 rfl rfl ?_
  refine zg_sipush (v := (768 : Int32)) d_9_init_306 rfl ?_
  refine zk_newaC (at_ := .int) (t := 0) (N := 768) (k := 37) d_9_init_309 ac_0 rfl (fun c h => by cases h) (z_hc0 768) (by decide) rfl (by decide) hr36 (by decide) (by decide) (fun rs37 er37 hr37 => ?_)
  refine zk_putC (k := 57) (N := 66) (fun _ _ h => h.1) d_9_init_311 rfl (by decide) fl_9_128 rfl (z_ty9 57 (by decide)) rfl rfl hf37 (fun fs38 ef38 hf38 => ?_)
  refine zg_aload_n (i := 0) d_9_init_314 rfl rfl ?_
  refine zg_bipush (v := (20 : Int32)) d_9_init_315 rfl ?_
  refine zk_newaC (at_ := .int) (t := 0) (N := 20) (k := 38) d_9_init_317 ac_0 rfl (fun c h => by cases h) (z_hc0 20) (by decide) rfl (by decide) hr37 (by decide) (by decide) (fun rs38 er38 hr38 => ?_)
  refine zk_putC (k := 59) (N := 66) (fun _ _ h => h.1) d_9_init_319 rfl (by decide) fl_9_131 rfl (z_ty9 59 (by decide)) rfl rfl hf38 (fun fs39 ef39 hf39 => ?_)
  refine zg_aload_n (i := 0) d_9_init_322 rfl rfl ?_
  refine zg_bipush (v := (20 : Int32)) d_9_init_323 rfl ?_
  refine zk_newaC (at_ := .int) (t := 0) (N := 20) (k := 39) d_9_init_325 ac_0 rfl (fun c h => by cases h) (z_hc0 20) (by decide) rfl (by decide) hr38 (by decide) (by decide) (fun rs39 er39 hr39 => ?_)
  refine zk_putC (k := 60) (N := 66) (fun _ _ h => h.1) d_9_init_327 rfl (by decide) fl_9_134 rfl (z_ty9 60 (by decide)) rfl rfl hf39 (fun fs40 ef40 hf40 => ?_)
  refine zg_aload_n (i := 0) d_9_init_330 rfl rfl ?_
  refine zg_bipush (v := (7 : Int32)) d_9_init_331 rfl ?_
  refine zk_newaC (at_ := .int) (t := 0) (N := 7) (k := 40) d_9_init_333 ac_0 rfl (fun c h => by cases h) (z_hc0 7) (by decide) rfl (by decide) hr39 (by decide) (by decide) (fun rs40 er40 hr40 => ?_)
  refine zk_putC (k := 61) (N := 66) (fun _ _ h => h.1) d_9_init_335 rfl (by decide) fl_9_137 rfl (z_ty9 61 (by decide)) rfl rfl hf40 (fun fs41 ef41 hf41 => ?_)
  refine zg_aload_n (i := 0) d_9_init_338 rfl rfl ?_
  refine zg_sipush (v := (128 : Int32)) d_9_init_339 rfl ?_
  refine zk_newaC (at_ := .int) (t := 0) (N := 128) (k := 41) d_9_init_342 ac_0 rfl (fun c h => by cases h) (z_hc0 128) (by decide) rfl (by decide) hr40 (by decide) (by decide) (fun rs41 er41 hr41 => ?_)
  refine zk_putC (k := 62) (N := 66) (fun _ _ h => h.1) d_9_init_344 rfl (by decide) fl_9_140 rfl (z_ty9 62 (by decide)) rfl rfl hf41 (fun fs42 ef42 hf42 => ?_)
  refine zg_aload_n (i := 0) d_9_init_347 rfl rfl ?_
  refine zg_sipush (v := (128 : Int32)) d_9_init_348 rfl ?_
  refine zk_newaC (at_ := .int) (t := 0) (N := 128) (k := 42) d_9_init_351 ac_0 rfl (fun c h => by cases h) (z_hc0 128) (by decide) rfl (by decide) hr41 (by decide) (by decide) (fun rs42 er42 hr42 => ?_)
  refine zk_putC (k := 63) (N := 66) (fun _ _ h => h.1) d_9_init_353 rfl (by decide) fl_9_143 rfl (z_ty9 63 (by decide)) rfl rfl hf42 (fun fs43 ef43 hf43 => ?_)
  refine zg_aload_n (i := 0) d_9_init_356 rfl rfl ?_
  refine zg_iconst (v := (3 : Int32)) d_9_init_357 rfl ?_
  refine zk_newaC (at_ := .boolean) (t := 2) (N := 3) (k := 43) d_9_init_358 ac_2 rfl (fun c h => by cases h) (z_hc2 3) (by decide) rfl (by decide) hr42 (by decide) (by decide) (fun rs43 er43 hr43 => ?_)
  refine zk_putC (k := 64) (N := 66) (fun _ _ h => h.1) d_9_init_360 rfl (by decide) fl_9_146 rfl (z_ty9 64 (by decide)) rfl rfl hf43 (fun fs44 ef44 hf44 => ?_)
  refine zg_aload_n (i := 0) d_9_init_363 rfl rfl ?_
  refine zg_bipush (v := (102 : Int32)) d_9_init_364 rfl ?_
  refine zk_newaC (at_ := .int) (t := 0) (N := 102) (k := 44) d_9_init_366 ac_0 rfl (fun c h => by cases h) (z_hc0 102) (by decide) rfl (by decide) hr43 (by decide) (by decide) (fun rs44 er44 hr44 => ?_)
  refine zk_putC (k := 65) (N := 66) (fun _ _ h => h.1) d_9_init_368 rfl (by decide) fl_9_149 rfl (z_ty9 65 (by decide)) rfl rfl hf44 (fun fs45 ef45 hf45 => ?_)
  refine zk_toRQ (L := zL9) (μ := μ) (c0 := 9) zL9_ok (zl_dyn0 (by decide +kernel)) ?_ rfl rfl ?_
  · refine Eq.trans ?_ (z_c9eq P b hr)
    subst ef45 ef44 ef43 ef42 ef41 ef40 ef39 ef38 ef37 ef36 ef35 ef34 ef33 ef32 ef31 ef30 ef29 ef28 ef27 ef26 ef25 ef24 ef23 ef22 ef21 ef20 ef19 ef18 ef17 ef16 ef15 ef14 ef13 ef12 ef11 ef10 ef9 ef8 ef7 ef6 ef5 ef4 ef3 ef2 ef1
    subst er44 er43 er42 er41 er40 er39 er38 er37 er36 er35 er34 er33 er32 er31 er30 er29 er28 er27 er26 er25 er24 er23 er22 er21 er20 er19 er18 er17 er16 er15 er14 er13 er12 er11 er10 er9 er8 er7 er6 er5 er4 er3 er2 er1
    simp only [List.set_cons_succ, List.set_cons_zero, List.nil_append, List.append_assoc, List.cons_append]
    rfl
  · exact s9_irest h (zk_retQ zL9_ok zL9_nd d_9_init_829 rfl)
