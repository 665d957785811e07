/-! what is read only: the lots, the two texts, the script -/
def z_b2 (o : Nat) : Bool := decide (o < 2)
theorem z_b2_lt {o : Nat} (h : z_b2 o = true) : o < 2 := of_decide_eq_true h
def z_sn (o : Nat) : Nat := ([147, 9] : List Nat).getD o 0
def z_sb (o j : Nat) : Int32 := ([z_by 0, z_by 1].getD o []).getD j 0
section ZRO
variable {P : zP} {M : zM} {R : Room} {F : zF} {n1 n2 pc pc' : Nat} {l : List (Option zV)} {st sk : List zV} {μ : zMem}
theorem z_okRO {c i : Nat} (h1 : 90 ≤ c) (h2 : c < 100) : z_ok P (zA c i) := fun h => by
  have h : c < 90 ∨ 100 ≤ c := h
  omega
theorem zr_lots {idx : Nat} (hd : zD M.2.1 pc (.getstatic idx) 3 pc') (hw : Cond.fieldLink M.1 idx "AbsentLords$Course" "LOTS" "[I" ∈ lw_gd) (kk : z_RQ P M R F n1 n2 pc' l (zA 90 0 :: st) μ) : z_RQ P M R F n1 n2 pc l st μ := by
  obtain ⟨hd, rfl⟩ := hd
  intro p e s m args below meth c C H locs ls h1 h2 h3 h4
  exact va_gets C.1 C.2.1 C.2.2.2.2.2.2.2.2.1.1.1 h2 C.2.2.2.2.1 (C.2.2.2.2.2.1 _ hw) (fun _ h => h) hd (kk p e s m args below meth c C H locs ls h1 h2 h3 (z_o (z_okRO (by decide) (by decide)) h4))
theorem zr_cs {idx : Nat} (hd : zD M.2.1 pc (.getstatic idx) 3 pc') (hw : Cond.fieldLink M.1 idx "java/lang/String" "COMPACT_STRINGS" "Z" ∈ lw_gd) (kk : z_RQ P M R F n1 n2 pc' l (zI 1 :: st) μ) : z_RQ P M R F n1 n2 pc l st μ := by
  obtain ⟨hd, rfl⟩ := hd
  intro p e s m args below meth c C H locs ls h1 h2 h3 h4
  exact va_gets C.1 C.2.1 C.2.2.2.2.2.2.2.2.1.2.2.1.1 h2 C.2.2.2.2.1 (C.2.2.2.2.2.1 _ hw) (fun _ h => h) hd (kk p e s m args below meth c C H locs ls h1 h2 h3 (z_o trivial h4))
/-- what Preconditions.checkIndex promises, whatever its third argument is -/
def z_SpF (P : zP) (y : MethodName) (M : zM) (d : Nat) (a0 a1 : Int32) (μ : zMem) (r : Int32) : Prop := ∀ v : Value, v.category = 1 → Met (z_l P) y (z_ws y M) (z_rm d) (va_Pc [.int a0, .int a1, v] (fun U => z_WH P μ U.heap ∧ z_KS P U)) (z_Qc P (some (zI r)) μ) 0 0 (z_A P)
theorem z_blindF {av : List Value} : FrameBlind (va_Pc av (fun U => z_WH P μ U.heap ∧ z_KS P U)) := by
  intro a U g mk q
  obtain ⟨q0, q1, q2⟩ := q
  exact ⟨q0, q1, ⟨va_K.moved (u := U) (U := U.calling g mk a) (Vm.Alike.refl U.vm) q2.1, q2.2.1.same (U' := U.calling g mk a) rfl rfl, q2.2.2⟩⟩
theorem z_SpF.of {y : MethodName} {d : Nat} {a0 a1 r : Int32} (hy : plainFor y = true) (hown : y.cls = M.1) (hn : M.2.2.1 = 3) (h : z_RQ P M (z_rm d) (z_mq P (some (zI r)) μ) 0 0 0 [some (zI a0), some (zI a1), none] [] μ) : z_SpF P y M d a0 a1 μ r := by
  intro v hvc
  refine va_MetF (cc := M.2.1) (maxL := M.2.2.1) (ret := M.2.2.2) hy rfl ?_
  intro p e s m args below meth c s₁ B hml hv
  obtain ⟨rfl, hWH, hKS⟩ := hv
  have hts := atoms_spec (ws := z_ws y M) B.pre
  have hf : s.vm.findClass y.cls = some m.cls := findClass_of_methodNamed B.named
  have hlen : (lg_sl [Value.int a0, Value.int a1, v]).length = 3 := by
    rw [show lg_sl [Value.int a0, Value.int a1, v] = [.val (.int a0), .val (.int a1), .val v] from by simp [lg_sl, List.flatMap_cons, hvc, show (Value.int a0).category = 1 from rfl, show (Value.int a1).category = 1 from rfl]]
    rfl
  rw [lg_entry_eq]
  refine h p e s m _ below meth c ⟨B.exec, B.bytes, B.returns, hml, by rw [← hown]; exact hf, fun w hw => hts w (List.mem_cons_of_mem _ hw), B.notSynchronized, hKS⟩ s.heap [] _ hWH va_S.rf ?_ (fun _ h => by cases h)
  have hl' := lv_entry [Value.int a0, Value.int a1, v] (n := M.2.2.1) (by rw [hlen, hn]; exact Nat.le_refl 3)
  refine ⟨hl'.1, hl'.2.1, fun i w hi => ?_⟩
  match i, hi with
  | 0, hi =>
    cases hi
    exact ⟨hl'.2.2 (0, .int a0) List.mem_cons_self, trivial⟩
  | 1, hi =>
    cases hi
    exact ⟨hl'.2.2 (1, .int a1) (List.mem_cons_of_mem _ List.mem_cons_self), trivial⟩
  | 2, hi => cases hi
  | i + 3, hi => cases hi
theorem zr_fmcall {idx1 idx2 pc1 d : Nat} {y : MethodName} {M' : zM} {a0 a1 r : Int32} (hd1 : zD M.2.1 pc (.getstatic idx1) 3 pc1) (hw : Cond.fieldLink M.1 idx1 "jdk/internal/util/Preconditions" "SIOOBE_FORMATTER" "Ljava/util/function/BiFunction;" ∈ lw_gd) (hd2 : zD M.2.1 pc1 (.invokestatic idx2) 3 pc') (hM : z_MW y M' 3) (hl : Cond.methodLink M.1 idx2 y ∈ lw_gd) (hi : Cond.static y ∈ lw_gd) (hw8 : z_w st ≤ 8) (hR : z_fit R n1 n2 d M'.2.2.1) (hsp : z_SpF P y M' d a0 a1 μ r) (kk : z_RQ P M R F n1 n2 pc' l (zI r :: st) μ) : z_RQ P M R F n1 n2 pc l (zI a1 :: zI a0 :: st) μ := by
  obtain ⟨hd1, rfl⟩ := hd1
  obtain ⟨hd2, rfl⟩ := hd2
  intro p e s m args below meth c C H locs ls h1 h2 h3 h4
  have hts := C.2.2.2.2.2.1
  have key : ∀ v : Value, v.category = 1 → W p (z_l P) e R s m args below meth c H locs n1 n2 (F s m args below) (F0 m (pc + 3) ls (v :: .int a1 :: .int a0 :: st.map (z_cv P))) := by
    intro v hv
    refine z_cont (r := some (zI r)) (va_runS (As := [.int a0, .int a1, v]) (rest := st.map (z_cv P)) ⟨C.1, C.2.1, C.2.2.2.1, C.2.2.2.2.1, hts⟩ (hsp v hv) ⟨callB_of 3 hts (z_gin hM) rfl rfl rfl (hts _ hM.1) (hts _ hl) hM.2.2 ⟨hR.1, hR.2.1⟩, hts _ hi⟩ ⟨z_blindF, fun U hU hW => ⟨rfl, by rw [hU]; exact h1, C.2.2.2.2.2.2.2.to hW h2 hU⟩⟩ rfl rfl h3.1 rfl (by rw [z_w_ok]; show 2 * 0 + _ ≤ _; omega) hd2 ⟨hR.2.2.1, hR.2.2.2⟩) h2 ?_
    intro H1 locs1 g1 g2 g3
    exact kk p e s m args below meth c C H1 locs1 ls g1 g2 h3 (z_o trivial (z_t (z_t h4)))
  rcases C.2.2.2.2.2.2.2.2.1.2.2.1.2 with hz | ⟨t, hz⟩
  · exact va_gets C.1 C.2.1 hz h2 C.2.2.2.2.1 (hts _ hw) (fun _ h => h) hd1 (key .null rfl)
  · exact va_gets C.1 C.2.1 hz h2 C.2.2.2.2.1 (hts _ hw) (fun _ h => h) hd1 (key (.ref t) rfl)
theorem zr_ld90 {j : Int32} (hd : zD M.2.1 pc (.iaload) 1 pc') (hin : z_in j 3 = true) (kk : z_RQ P M R F n1 n2 pc' l (zI (z_lots j.toNatClampNeg) :: st) μ) : z_RQ P M R F n1 n2 pc l (zI j :: zA 90 0 :: st) μ := by
  obtain ⟨hd, rfl⟩ := hd
  intro p e s m args below meth c C H locs ls h1 h2 h3 h4
  exact va_ti C.1 C.2.1 C.2.2.2.2.2.2.2.2.1.1.2 h2 (z_in_vp hin) rfl hd (kk p e s m args below meth c C H locs ls h1 h2 h3 (z_o trivial (z_t (z_t h4))))
theorem zr_gco {idx o : Nat} (hd : zD M.2.1 pc (.getfield idx) 3 pc') (hw : Cond.fieldLink M.1 idx "java/lang/String" "coder" "B" ∈ lw_gd) (ho : z_b2 o = true) (kk : z_RQ P M R F n1 n2 pc' l (zI 0 :: st) μ) : z_RQ P M R F n1 n2 pc l (zA 91 o :: st) μ := by
  obtain ⟨hd, rfl⟩ := hd
  intro p e s m args below meth c C H locs ls h1 h2 h3 h4
  exact vk_getf C.1 C.2.1 (C.2.2.2.2.2.2.2.2.1.2.1.1.1 o (z_b2_lt ho)).2.1 h2 C.2.2.2.2.1 (C.2.2.2.2.2.1 _ hw) (fun _ h => h) hd (kk p e s m args below meth c C H locs ls h1 h2 h3 (z_o trivial (z_t h4)))
theorem zr_gva {idx o : Nat} (hd : zD M.2.1 pc (.getfield idx) 3 pc') (hw : Cond.fieldLink M.1 idx "java/lang/String" "value" "[B" ∈ lw_gd) (ho : z_b2 o = true) (kk : z_RQ P M R F n1 n2 pc' l (zA 92 o :: st) μ) : z_RQ P M R F n1 n2 pc l (zA 91 o :: st) μ := by
  obtain ⟨hd, rfl⟩ := hd
  intro p e s m args below meth c C H locs ls h1 h2 h3 h4
  exact vk_getf C.1 C.2.1 (C.2.2.2.2.2.2.2.2.1.2.1.1.1 o (z_b2_lt ho)).2.2.1 h2 C.2.2.2.2.1 (C.2.2.2.2.2.1 _ hw) (fun _ h => h) hd (kk p e s m args below meth c C H locs ls h1 h2 h3 (z_o (z_okRO (by decide) (by decide)) (z_t h4)))
theorem zr_ld92 {o : Nat} {j : Int32} (hd : zD M.2.1 pc (.baload) 1 pc') (ho : z_b2 o = true) (hin : z_in j (z_sn o) = true) (kk : z_RQ P M R F n1 n2 pc' l (zI (z_sb o j.toNatClampNeg) :: st) μ) : z_RQ P M R F n1 n2 pc l (zI j :: zA 92 o :: st) μ := by
  obtain ⟨hd, rfl⟩ := hd
  intro p e s m args below meth c C H locs ls h1 h2 h3 h4
  exact va_tb C.1 C.2.1 (C.2.2.2.2.2.2.2.2.1.2.1.1.1 o (z_b2_lt ho)).2.2.2 h2 (z_in_vp hin) rfl hd (kk p e s m args below meth c C H locs ls h1 h2 h3 (z_o trivial (z_t (z_t h4))))
theorem zr_al92 {o : Nat} (hd : zD M.2.1 pc (.arraylength) 1 pc') (ho : z_b2 o = true) (kk : z_RQ P M R F n1 n2 pc' l (zI (Int32.ofNat (z_sn o)) :: st) μ) : z_RQ P M R F n1 n2 pc l (zA 92 o :: st) μ := by
  obtain ⟨hd, rfl⟩ := hd
  intro p e s m args below meth c C H locs ls h1 h2 h3 h4
  exact va_tlen C.1 C.2.1 (C.2.2.2.2.2.2.2.2.1.2.1.1.1 o (z_b2_lt ho)).2.2.2 h2 rfl hd (kk p e s m args below meth c C H locs ls h1 h2 h3 (z_o trivial (z_t h4)))
theorem zr_ldcW (hd : zD M.2.1 pc (.ldc 74) 2 pc') (hM : M.1 = "AbsentLords$Tokens") (kk : z_RQ P M R F n1 n2 pc' l (zA 91 0 :: st) μ) : z_RQ P M R F n1 n2 pc l st μ := by
  obtain ⟨hd, rfl⟩ := hd
  intro p e s m args below meth c C H locs ls h1 h2 h3 h4
  exact va_ldcS C.1 C.2.1 (by rw [← hM]; exact C.2.2.2.2.1) C.2.2.2.2.2.2.2.2.1.2.1.2.1 hd (kk p e s m args below meth c C H locs ls h1 h2 h3 (z_o (z_okRO (by decide) (by decide)) h4))
theorem zr_ldcG (hd : zD M.2.1 pc (.ldc 60) 2 pc') (hM : M.1 = "AbsentLords$Tokens") (kk : z_RQ P M R F n1 n2 pc' l (zA 91 1 :: st) μ) : z_RQ P M R F n1 n2 pc l st μ := by
  obtain ⟨hd, rfl⟩ := hd
  intro p e s m args below meth c C H locs ls h1 h2 h3 h4
  exact va_ldcS C.1 C.2.1 (by rw [← hM]; exact C.2.2.2.2.1) C.2.2.2.2.2.2.2.2.1.2.1.2.2 hd (kk p e s m args below meth c C H locs ls h1 h2 h3 (z_o (z_okRO (by decide) (by decide)) h4))
theorem zr_ld94 {j : Int32} {n : Nat} (hn : z_sl P = n) (hd : zD M.2.1 pc (.iaload) 1 pc') (hin : z_in j n = true) (kk : z_RQ P M R F n1 n2 pc' l (zI (z_xs P j.toNatClampNeg) :: st) μ) : z_RQ P M R F n1 n2 pc l (zI j :: zA 94 0 :: st) μ := by
  subst hn
  obtain ⟨hd, rfl⟩ := hd
  intro p e s m args below meth c C H locs ls h1 h2 h3 h4
  obtain ⟨a1, a2, a3⟩ := C.2.2.2.2.2.2.2.2.1.2.2.2.1
  exact va_sld C.1 C.2.1 a1 a2 a3 h2 (z_in_vp hin) hd (kk p e s m args below meth c C H locs ls h1 h2 h3 (z_o trivial (z_t (z_t h4))))
theorem zr_al94 {n : Nat} (hn : z_sl P = n) (hd : zD M.2.1 pc (.arraylength) 1 pc') (kk : z_RQ P M R F n1 n2 pc' l (zI (Int32.ofNat n) :: st) μ) : z_RQ P M R F n1 n2 pc l (zA 94 0 :: st) μ := by
  subst hn
  obtain ⟨hd, rfl⟩ := hd
  intro p e s m args below meth c C H locs ls h1 h2 h3 h4
  obtain ⟨a1, a2, a3⟩ := C.2.2.2.2.2.2.2.2.1.2.2.2.1
  exact va_slen C.1 C.2.1 a1 a2 a3 h2 hd (kk p e s m args below meth c C H locs ls h1 h2 h3 (z_o trivial (z_t h4)))
/-- a virtual call on a text -/
theorem zr_callR {idx d n i : Nat} {y : MethodName} {M' : zM} {av : List zV} {r : Option zV} {μ' : zMem} (hd : zD M.2.1 pc (.invokevirtual idx) 3 pc') (hM : z_MW y M' n) (hl : Cond.methodLink M.1 idx y ∈ lw_gd) (hi : Cond.instanceMethod y ∈ lw_gd) (hs : Cond.selects y.cls y y ∈ lw_gd) (hn : av.length = n) (hsk : sk = av.reverse ++ zA 91 i :: st) (hw : z_w st ≤ 8) (hR : z_fit R n1 n2 d M'.2.2.1) (hqc : "java/lang/String" = y.cls) (ho : z_b2 i = true)
    (hsp : z_Sp P y M' d (zA 91 i :: av) μ r μ') (kk : z_RQ P M R F n1 n2 pc' l (r.toList ++ st) μ') : z_RQ P M R F n1 n2 pc l sk μ := by
  obtain ⟨hd, rfl⟩ := hd
  intro p e s m args below meth c0 C H locs ls h1 h2 h3 h4
  subst hsk
  have hts := C.2.2.2.2.2.1
  have hoks : ∀ v ∈ zA 91 i :: av, z_ok P v := fun v hv => by
    rcases List.mem_cons.mp hv with e | e
    · exact h4 v (List.mem_append_right _ (by rw [e]; exact List.mem_cons_self))
    · exact h4 v (List.mem_append_left _ (List.mem_reverse.mpr e))
  have hrec := vk_recv C.2.2.2.2.2.2.2.2.1.2.1.1 (z_b2_lt ho) h2
  have gin : GoodIn lw_gd (wsV M.1 idx y.cls y (z_ws y M')) := by
    intro w hw
    unfold wsV at hw
    rcases List.mem_append.mp hw with h | h
    · have hm : w ∈ lw_gd := by
        rcases List.mem_cons.mp h with e | h
        · rw [e]; exact hl
        rcases List.mem_cons.mp h with e | h
        · rw [e]; exact hi
        rcases List.mem_cons.mp h with e | h
        · rw [e]; exact hs
        rcases List.mem_cons.mp h with e | h
        · rw [e]; exact hM.1
        · cases h
      exact ⟨hm, good_of_word (z_good hm)⟩
    · exact z_gin hM w h
  rw [List.map_append, List.map_reverse, List.map_cons]
  refine z_cont (va_runV (As := av.map (z_cv P)) (rest := st.map (z_cv P)) ⟨C.1, C.2.1, C.2.2.2.1, C.2.2.2.2.1, hts⟩ hsp (cwV n hts gin rfl rfl rfl ⟨rfl, hM.2.2⟩ ⟨hR.1, hR.2.1⟩) ⟨z_blind, by rw [← hqc]; exact hrec, fun U hU hW => ⟨rfl, by rw [hU]; exact h1, C.2.2.2.2.2.2.2.to hW h2 hU, hoks⟩⟩ rfl (by rw [List.length_map]; exact hn) h3.1 rfl (by rw [z_w_ok]; show 2 * 0 + _ ≤ _; omega) hd ⟨hR.2.2.1, hR.2.2.2⟩) h2 ?_
  intro H1 locs1 g1 g2 g3
  rw [← z_mapr]
  exact kk p e s m args below meth c0 C H1 locs1 ls g1 g2 h3 (z_okr g3 (fun w hw => h4 w (List.mem_append_right _ (List.mem_cons_of_mem _ hw))))
theorem zr_callRi {idx d n i : Nat} {y : MethodName} {M' : zM} {av : List zV} {x : Int32} {μ' : zMem} (hd : zD M.2.1 pc (.invokevirtual idx) 3 pc') (hM : z_MW y M' n) (hl : Cond.methodLink M.1 idx y ∈ lw_gd) (hi : Cond.instanceMethod y ∈ lw_gd) (hs : Cond.selects y.cls y y ∈ lw_gd) (hn : av.length = n) (hsk : sk = av.reverse ++ zA 91 i :: st) (hw : z_w st ≤ 8) (hR : z_fit R n1 n2 d M'.2.2.1) (hqc : "java/lang/String" = y.cls) (ho : z_b2 i = true)
    (hsp : z_Sp P y M' d (zA 91 i :: av) μ (some (zI x)) μ') (kk : z_RQ P M R F n1 n2 pc' l (zI x :: st) μ') : z_RQ P M R F n1 n2 pc l sk μ := zr_callR hd hM hl hi hs hn hsk hw hR hqc ho hsp kk
end ZRO
def z_ch (x : Int32) : Bool := decide ((x.toUInt32 % 65536).toInt32 = x)
theorem z_ch_ok {x : Int32} (h : z_ch x = true) : narrow .char (.int x) = .int x := by
  have e := of_decide_eq_true h
  have h2 := pk_nc x
  rw [e] at h2
  exact h2
