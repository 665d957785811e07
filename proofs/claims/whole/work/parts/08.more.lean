def zRJ0 : String := "java/lang/String"
def zRJ1 : String := "java/lang/StringLatin1"
def zRJ3 : String := "jdk/internal/util/Preconditions"
def zRJ4 : String := "java/lang/Math"
def zRJ5 : String := "java/lang/Integer"
/-! booleans, calls by what they return, copies of rows -/
def z_b (x : Int32) : Bool := decide (x = 0) || decide (x = 1)
theorem z_b_ok {x : Int32} (h : z_b x = true) : narrow .boolean (.int x) = .int x := by
  unfold z_b at h
  rw [Bool.or_eq_true, decide_eq_true_iff, decide_eq_true_iff] at h
  rcases h with h | h
  · subst h; rfl
  · subst h; rfl
section ZD2
variable {P : zP} {M : zM} {R : Room} {F : zF} {n1 n2 pc : Nat} {l : List (Option zV)} {st sk : List zV} {μ : zMem}
theorem zr_callVv {pc' : Nat} {idx d n c i : Nat} {y : MethodName} {M' : zM} {av : List zV} {μ' : zMem} {q : vw_C} {o : Nat × List zFK} (hd : zD M.2.1 pc (.invokevirtual idx) 3 pc') (hM : z_MW y M' n) (hl : Cond.methodLink M.1 idx y ∈ lw_gd) (hi : Cond.instanceMethod y ∈ lw_gd) (hs : Cond.selects y.cls y y ∈ lw_gd) (hn : av.length = n) (hsk : sk = av.reverse ++ zA c i :: st) (hw : z_w st ≤ 8) (hR : z_fit R n1 n2 d M'.2.2.1) (ho : z_obj c = some o) (hq : classes[o.1]? = some q) (hqc : q.1 = y.cls) (hsp : z_Sp P y M' d (zA c i :: av) μ none μ') (kk : z_RQ P M R F n1 n2 pc' l (st) μ') : z_RQ P M R F n1 n2 pc l sk μ := zr_callV hd hM hl hi hs hn hsk hw hR ho hq hqc hsp kk
theorem zr_callSv {pc' : Nat} {idx d n : Nat} {y : MethodName} {M' : zM} {av : List zV} {μ' : zMem} (hd : zD M.2.1 pc (.invokestatic idx) 3 pc') (hM : z_MW y M' n) (hl : Cond.methodLink M.1 idx y ∈ lw_gd) (hi : Cond.static y ∈ lw_gd) (hn : av.length = n) (hsk : sk = av.reverse ++ st) (hw : z_w st ≤ 8) (hR : z_fit R n1 n2 d M'.2.2.1) (hsp : z_Sp P y M' d av μ none μ') (kk : z_RQ P M R F n1 n2 pc' l (st) μ') : z_RQ P M R F n1 n2 pc l sk μ := zr_callS hd hM hl hi hn hsk hw hR hsp kk
theorem zr_callSNv {pc' : Nat} {idx d n : Nat} {y : MethodName} {M' : zM} {host : String} {av : List zV} {μ' : zMem} (hd : zD M.2.1 pc (.invokestatic idx) 3 pc') (hM : z_MW y M' n) (hl : (M.1, idx, y, host) ∈ z_nest) (hi : Cond.static y ∈ lw_gd) (hn : av.length = n) (hsk : sk = av.reverse ++ st) (hw : z_w st ≤ 8) (hR : z_fit R n1 n2 d M'.2.2.1) (hsp : z_Sp P y M' d av μ none μ') (kk : z_RQ P M R F n1 n2 pc' l (st) μ') : z_RQ P M R F n1 n2 pc l sk μ := zr_callSN hd hM hl hi hn hsk hw hR hsp kk
theorem zr_callVi {pc' : Nat} {idx d n c i : Nat} {y : MethodName} {M' : zM} {av : List zV} {x : Int32} {μ' : zMem} {q : vw_C} {o : Nat × List zFK} (hd : zD M.2.1 pc (.invokevirtual idx) 3 pc') (hM : z_MW y M' n) (hl : Cond.methodLink M.1 idx y ∈ lw_gd) (hi : Cond.instanceMethod y ∈ lw_gd) (hs : Cond.selects y.cls y y ∈ lw_gd) (hn : av.length = n) (hsk : sk = av.reverse ++ zA c i :: st) (hw : z_w st ≤ 8) (hR : z_fit R n1 n2 d M'.2.2.1) (ho : z_obj c = some o) (hq : classes[o.1]? = some q) (hqc : q.1 = y.cls) (hsp : z_Sp P y M' d (zA c i :: av) μ (some (zI x)) μ') (kk : z_RQ P M R F n1 n2 pc' l (zI x :: st) μ') : z_RQ P M R F n1 n2 pc l sk μ := zr_callV hd hM hl hi hs hn hsk hw hR ho hq hqc hsp kk
theorem zr_callSi {pc' : Nat} {idx d n : Nat} {y : MethodName} {M' : zM} {av : List zV} {x : Int32} {μ' : zMem} (hd : zD M.2.1 pc (.invokestatic idx) 3 pc') (hM : z_MW y M' n) (hl : Cond.methodLink M.1 idx y ∈ lw_gd) (hi : Cond.static y ∈ lw_gd) (hn : av.length = n) (hsk : sk = av.reverse ++ st) (hw : z_w st ≤ 8) (hR : z_fit R n1 n2 d M'.2.2.1) (hsp : z_Sp P y M' d av μ (some (zI x)) μ') (kk : z_RQ P M R F n1 n2 pc' l (zI x :: st) μ') : z_RQ P M R F n1 n2 pc l sk μ := zr_callS hd hM hl hi hn hsk hw hR hsp kk
theorem zr_callSNi {pc' : Nat} {idx d n : Nat} {y : MethodName} {M' : zM} {host : String} {av : List zV} {x : Int32} {μ' : zMem} (hd : zD M.2.1 pc (.invokestatic idx) 3 pc') (hM : z_MW y M' n) (hl : (M.1, idx, y, host) ∈ z_nest) (hi : Cond.static y ∈ lw_gd) (hn : av.length = n) (hsk : sk = av.reverse ++ st) (hw : z_w st ≤ 8) (hR : z_fit R n1 n2 d M'.2.2.1) (hsp : z_Sp P y M' d av μ (some (zI x)) μ') (kk : z_RQ P M R F n1 n2 pc' l (zI x :: st) μ') : z_RQ P M R F n1 n2 pc l sk μ := zr_callSN hd hM hl hi hn hsk hw hR hsp kk
theorem zr_callVl {pc' : Nat} {idx d n c i : Nat} {y : MethodName} {M' : zM} {av : List zV} {x : Int64} {μ' : zMem} {q : vw_C} {o : Nat × List zFK} (hd : zD M.2.1 pc (.invokevirtual idx) 3 pc') (hM : z_MW y M' n) (hl : Cond.methodLink M.1 idx y ∈ lw_gd) (hi : Cond.instanceMethod y ∈ lw_gd) (hs : Cond.selects y.cls y y ∈ lw_gd) (hn : av.length = n) (hsk : sk = av.reverse ++ zA c i :: st) (hw : z_w st ≤ 8) (hR : z_fit R n1 n2 d M'.2.2.1) (ho : z_obj c = some o) (hq : classes[o.1]? = some q) (hqc : q.1 = y.cls) (hsp : z_Sp P y M' d (zA c i :: av) μ (some (zL x)) μ') (kk : z_RQ P M R F n1 n2 pc' l (zL x :: st) μ') : z_RQ P M R F n1 n2 pc l sk μ := zr_callV hd hM hl hi hs hn hsk hw hR ho hq hqc hsp kk
theorem zr_callSl {pc' : Nat} {idx d n : Nat} {y : MethodName} {M' : zM} {av : List zV} {x : Int64} {μ' : zMem} (hd : zD M.2.1 pc (.invokestatic idx) 3 pc') (hM : z_MW y M' n) (hl : Cond.methodLink M.1 idx y ∈ lw_gd) (hi : Cond.static y ∈ lw_gd) (hn : av.length = n) (hsk : sk = av.reverse ++ st) (hw : z_w st ≤ 8) (hR : z_fit R n1 n2 d M'.2.2.1) (hsp : z_Sp P y M' d av μ (some (zL x)) μ') (kk : z_RQ P M R F n1 n2 pc' l (zL x :: st) μ') : z_RQ P M R F n1 n2 pc l sk μ := zr_callS hd hM hl hi hn hsk hw hR hsp kk
theorem zr_callSNl {pc' : Nat} {idx d n : Nat} {y : MethodName} {M' : zM} {host : String} {av : List zV} {x : Int64} {μ' : zMem} (hd : zD M.2.1 pc (.invokestatic idx) 3 pc') (hM : z_MW y M' n) (hl : (M.1, idx, y, host) ∈ z_nest) (hi : Cond.static y ∈ lw_gd) (hn : av.length = n) (hsk : sk = av.reverse ++ st) (hw : z_w st ≤ 8) (hR : z_fit R n1 n2 d M'.2.2.1) (hsp : z_Sp P y M' d av μ (some (zL x)) μ') (kk : z_RQ P M R F n1 n2 pc' l (zL x :: st) μ') : z_RQ P M R F n1 n2 pc l sk μ := zr_callSN hd hM hl hi hn hsk hw hR hsp kk
theorem zr_callVa {pc' : Nat} {idx d n c i : Nat} {y : MethodName} {M' : zM} {av : List zV} {qc qi : Nat} {μ' : zMem} {q : vw_C} {o : Nat × List zFK} (hd : zD M.2.1 pc (.invokevirtual idx) 3 pc') (hM : z_MW y M' n) (hl : Cond.methodLink M.1 idx y ∈ lw_gd) (hi : Cond.instanceMethod y ∈ lw_gd) (hs : Cond.selects y.cls y y ∈ lw_gd) (hn : av.length = n) (hsk : sk = av.reverse ++ zA c i :: st) (hw : z_w st ≤ 8) (hR : z_fit R n1 n2 d M'.2.2.1) (ho : z_obj c = some o) (hq : classes[o.1]? = some q) (hqc : q.1 = y.cls) (hsp : z_Sp P y M' d (zA c i :: av) μ (some (zA qc qi)) μ') (kk : z_RQ P M R F n1 n2 pc' l (zA qc qi :: st) μ') : z_RQ P M R F n1 n2 pc l sk μ := zr_callV hd hM hl hi hs hn hsk hw hR ho hq hqc hsp kk
theorem zr_callSa {pc' : Nat} {idx d n : Nat} {y : MethodName} {M' : zM} {av : List zV} {qc qi : Nat} {μ' : zMem} (hd : zD M.2.1 pc (.invokestatic idx) 3 pc') (hM : z_MW y M' n) (hl : Cond.methodLink M.1 idx y ∈ lw_gd) (hi : Cond.static y ∈ lw_gd) (hn : av.length = n) (hsk : sk = av.reverse ++ st) (hw : z_w st ≤ 8) (hR : z_fit R n1 n2 d M'.2.2.1) (hsp : z_Sp P y M' d av μ (some (zA qc qi)) μ') (kk : z_RQ P M R F n1 n2 pc' l (zA qc qi :: st) μ') : z_RQ P M R F n1 n2 pc l sk μ := zr_callS hd hM hl hi hn hsk hw hR hsp kk
theorem zr_callSNa {pc' : Nat} {idx d n : Nat} {y : MethodName} {M' : zM} {host : String} {av : List zV} {qc qi : Nat} {μ' : zMem} (hd : zD M.2.1 pc (.invokestatic idx) 3 pc') (hM : z_MW y M' n) (hl : (M.1, idx, y, host) ∈ z_nest) (hi : Cond.static y ∈ lw_gd) (hn : av.length = n) (hsk : sk = av.reverse ++ st) (hw : z_w st ≤ 8) (hR : z_fit R n1 n2 d M'.2.2.1) (hsp : z_Sp P y M' d av μ (some (zA qc qi)) μ') (kk : z_RQ P M R F n1 n2 pc' l (zA qc qi :: st) μ') : z_RQ P M R F n1 n2 pc l sk μ := zr_callSN hd hM hl hi hn hsk hw hR hsp kk
theorem zr_wk2 {l' : List (Option zV)} (k : z_RQ P M R F n1 n2 pc l' st μ) (h : z_le l' l) : z_RQ P M R F n1 n2 pc l st μ := z_RQ.weak (z_le_get h) k
/-- System.arraycopy of a whole row of N ints onto another of its shape -/
theorem zr_acopy {pc' : Nat} {idx c i j N : Nat} {n : Int32} {μ' : zMem} (hd : zD M.2.1 pc (.invokestatic idx) 3 pc') (hs : z_SA c 0) (hl : Cond.methodLink M.1 idx arraycopyName ∈ lw_gd) (hw : Cond.native arraycopyName ∈ lw_gd ∧ Cond.static arraycopyName ∈ lw_gd ∧ Cond.initialized "java/lang/System" ∈ lw_gd) (hn : ¬ n < 0 ∧ n.toNatClampNeg = N) (hi : z_len c i = N) (hj : z_len c j = N) (hf : 1 ≤ R.frames) (hlo : z_w st + (nativeFrameWords "java/lang/System" "arraycopy" 5 + 11) ≤ R.locals) (hm : μ' = z_uI μ c j (va_cpy (μ.1 c i) (μ.1 c j) 0 0 N))
    (kk : z_RQ P M R F n1 n2 pc' l st μ') : z_RQ P M R F n1 n2 pc l (zI n :: zI 0 :: zA c j :: zI 0 :: zA c i :: st) μ := by
  subst hm
  obtain ⟨hd, rfl⟩ := hd
  intro p e s m args below meth c0 C H locs ls g1 g2 g3 g4
  have hei : z_ex P c i := z_h (z_t (z_t (z_t (z_t g4)))) hs.2.2
  have hej : z_ex P c j := z_h (z_t (z_t g4)) hs.2.2
  have hts := C.2.2.2.2.2.1
  have ei : ∀ k, vp_cell (z_cA P (z_el c)) (z_arr P μ c k) = vp_cell (z_cA P 0) (z_len c k, .inl (μ.1 c k)) := fun k => by unfold z_arr; rw [hs.2.1]; rfl
  have hc0 : H[z_ad P c i]? = some (vp_cell (z_cA P 0) (N, .inl (μ.1 c i))) := by have := z_at_arr g1 hei hs.1; rw [ei, hi] at this; exact this
  have hc1 : H[z_ad P c j]? = some (vp_cell (z_cA P 0) (N, .inl (μ.1 c j))) := by have := z_at_arr g1 hej hs.1; rw [ei, hj] at this; exact this
  obtain ⟨-, k0, hk0, cm0, hkk0⟩ := ((C.2.2.2.2.2.2.2.1).2 0 _ rfl).1 N (fun q => .int (μ.1 c i q))
  obtain ⟨-, k1, hk1, cm1, hkk1⟩ := ((C.2.2.2.2.2.2.2.1).2 0 _ rfl).1 N (fun q => .int (μ.1 c j q))
  have z0 : (0 : Int32).toInt = 0 := rfl
  have nn : n.toInt = (N : Int) := by
    have h0 : (0 : Int) ≤ n.toInt := by
      have := Int32.not_lt.mp hn.1
      simpa using Int32.le_iff_toInt_le.mp this
    have h1 := hn.2
    have h2 : n.toInt.toNat = N := h1
    omega
  intro T hT X
  obtain ⟨vm', X', step⟩ := X.arraycopy C.1 C.2.2.2.2.1 (hts _ hl) (hts _ hw.1) (hts _ hw.2.1) (hts _ hw.2.2) (src := z_ad P c i) (dst := z_ad P c j) (cs := vp_cell (z_cA P 0) (N, .inl (μ.1 c i))) (cd := vp_cell (z_cA P 0) (N, .inl (μ.1 c j))) (srcPos := 0) (destPos := 0) (n := n) (by rw [hT]; exact hc0) (by rw [hT]; exact hc1)
    (fun _ h => by cases h) (fun _ h => by cases h) (fun h => by cases h) (fun h => by cases h) hk0 hk1 hkk0 hkk1 (by simp [refKind]) (by decide) (by decide) hn.1
    (by rw [z0, nn]; show ¬ _ > ((arrV (z_cA P 0) N (fun q => .int (μ.1 c i q))).slots.size : Int); rw [arrV_size]; omega)
    (by rw [z0, nn]; show ¬ _ > ((arrV (z_cA P 0) N (fun q => .int (μ.1 c j q))).slots.size : Int); rw [arrV_size]; omega)
    (fun vm₁ _ q hq => by
      have e : (vp_cell (z_cA P 0) (N, .inl (μ.1 c i))).slots.getD ((0 : Int32).toNatClampNeg + q) .null = .int (μ.1 c i ((0 : Int32).toNatClampNeg + q)) := by
        show (arrV (z_cA P 0) N (fun q => .int (μ.1 c i q))).slots.getD _ _ = _
        rw [Array.getD_eq_getD_getElem?, arrV_read _ _ (by rw [hn.2] at hq; show 0 + q < N; omega)]
        rfl
      refine ⟨?_, ?_⟩
      · rw [e]
        rfl
      · rw [e]
        exact trivial)
    (g := F0 m pc ls (.int n :: .int 0 :: .ref (z_ad P c j) :: .int 0 :: .ref (z_ad P c i) :: st.map (z_cv P))) rfl (by rw [C.2.2.2.1]; exact g3.1) (rest := st.map (z_cv P)) rfl (by rw [C.2.1]; exact hd) hf (by rw [z_w_ok]; show 2 * 0 + _ + _ ≤ _; omega)
  have e1 : copied (vp_cell (z_cA P 0) (N, .inl (μ.1 c i))) (vp_cell (z_cA P 0) (N, .inl (μ.1 c j))) 0 0 n = vp_cell (z_cA P 0) (N, .inl (va_cpy (μ.1 c i) (μ.1 c j) 0 0 N)) := by
    have h := va_copied (sp := 0) (dp := 0) (n := N) (fun z => Value.int z) (z_cA P 0) (z_cA P 0) (μ.1 c i) (μ.1 c j) (n0 := N) (n1 := N) (by omega)
    rw [← hn.2] at h ⊢
    exact h
  rw [e1] at X' step
  have hlt : z_ad P c j < H.size := (Array.getElem?_eq_some_iff.mp hc1).1
  have hheap : ((T.setVm vm').setCell (z_ad P c j) (vp_cell (z_cA P 0) (N, .inl (va_cpy (μ.1 c i) (μ.1 c j) 0 0 N)))).heap = H.setIfInBounds (z_ad P c j) (vp_cell (z_cA P 0) (N, .inl (va_cpy (μ.1 c i) (μ.1 c j) 0 0 N))) := by rw [← hT]; rfl
  have oq : ∀ q : Nat, q ≠ z_ad P c j → (H.setIfInBounds (z_ad P c j) (vp_cell (z_cA P 0) (N, .inl (va_cpy (μ.1 c i) (μ.1 c j) 0 0 N))))[q]? = H[q]? := fun q hq => by simp [Array.getElem?_setIfInBounds, Ne.symm hq]
  have hA : z_A P (z_ad P c j) := C.2.2.2.2.2.2.2.2.2.2.1 c j hej
  have hwh : z_WH P (z_uI μ c j (va_cpy (μ.1 c i) (μ.1 c j) 0 0 N)) (H.setIfInBounds (z_ad P c j) (vp_cell (z_cA P 0) (N, .inl (va_cpy (μ.1 c i) (μ.1 c j) 0 0 N)))) := by
    refine g1.upd C.2.2.2.2.2.2.2.2.2 hej ?_ oq (fun a b h => z_enc_uI h) g1.2
    rw [z_enc_arr hs.1]
    show (H.setIfInBounds _ _)[z_ad P c j]? = some (vp_cell _ _)
    have e2 : vp_cell (z_cA P (z_el c)) (z_arr P (z_uI μ c j (va_cpy (μ.1 c i) (μ.1 c j) 0 0 N)) c j) = vp_cell (z_cA P 0) (N, .inl (va_cpy (μ.1 c i) (μ.1 c j) 0 0 N)) := by unfold z_arr; rw [hs.2.1, z_uI_at, hj]; rfl
    rw [e2]
    simp [Array.getElem?_setIfInBounds, hlt]
  obtain ⟨t, a1, b1⟩ := kk p e s m args below meth c0 C _ _ ls hwh ⟨by simp; exact g2.1, fun q h1 h2 => by
      rw [oq q (fun e => h2 (by rw [e]; exact hA))]
      exact g2.2.1 q h1 h2, fun q hq => by
      rcases List.mem_append.mp hq with h | h
      · exact g2.2.2 q h
      · obtain ⟨z, -, hz⟩ := List.mem_map.mp h
        rw [← hz]
        exact hA⟩ g3 (z_t (z_t (z_t (z_t (z_t g4))))) _ hheap X'
  exact ⟨t, step t a1, b1⟩
end ZD2
