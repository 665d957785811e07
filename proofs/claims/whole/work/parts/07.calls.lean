/-! contracts, calls, returns -/
theorem z_good {w : Cond} (h : w ∈ lw_gd) : goodWord w = true := (List.mem_filter.mp h).2
def z_rm (d : Nat) : Room := { frames := d, cells := 0, slots := 0, locals := 64 * d }
def z_ws (y : MethodName) (M : zM) : List Cond := Cond.code y M.2.1 M.2.2.1 M.2.2.2 :: lw_gd
def z_Qc (P : zP) (r : Option zV) (μ' : zMem) : Array Value → State → Outcome → State → Prop := fun _ st oc t => (oc = .returned (r.map (z_cv P)) ∧ (∀ v, r = some v → z_ok P v) ∧ z_WH P μ' t.heap) ∧ va_F (z_A P) st t
/-- method y, with these values and this memory, returns r and leaves μ' -/
def z_Sp (P : zP) (y : MethodName) (M : zM) (d : Nat) (av : List zV) (μ : zMem) (r : Option zV) (μ' : zMem) : Prop :=
  Met (z_l P) y (z_ws y M) (z_rm d) (va_Pc (av.map (z_cv P)) (fun U => z_WH P μ U.heap ∧ z_KS P U ∧ ∀ v ∈ av, z_ok P v)) (z_Qc P r μ') 0 0 (z_A P)
def z_mq (P : zP) (r : Option zV) (μ' : zMem) : zF := fun s _ args below => MQ below (z_Qc P r μ') args s 0 0 (z_A P)
theorem z_RO.to {P : zP} {s U : State} {H : Heap} {locs : List Loc} (h : z_RO P s) (hW : s.WarmedH U.vm) (hS : va_S (z_A P) s.heap H locs) (hU : U.heap = H) : z_RO P U := by
  have hk : ∀ a : Nat, a < s.heap.size → ¬ z_A P a → U.heap[a]? = s.heap[a]? := fun a h1 h2 => by rw [hU]; exact hS.2.1 a h1 h2
  obtain ⟨⟨a1, a2⟩, ⟨b1, b2, b3⟩, ⟨c1, c2⟩, ⟨d1, d2, d3⟩, n1⟩ := h
  exact ⟨⟨(a1.kept hk).moved hW.alike, (a2.kept hk).moved hW.alike⟩, ⟨(b1.kept hk).moved hW.alike, b2.warm hW, b3.warm hW⟩, ⟨(c1.kept hk).moved hW.alike, (c2.kept hk).moved hW.alike⟩, ⟨(d1.kept (hk _ d2 d3)).moved hW.alike, by rw [hU]; exact Nat.lt_of_lt_of_le d2 hS.1, d3⟩, fun q hq => va_Nw.warmM hW (n1 q hq)⟩
theorem z_RO.same {P : zP} {U U' : State} (h : z_RO P U) (hv : U'.vm = U.vm) (hh : U'.heap = U.heap) : z_RO P U' := by
  have al : U.vm.Alike U'.vm := by rw [hv]; exact Vm.Alike.refl U.vm
  obtain ⟨⟨a1, a2⟩, ⟨b1, b2, b3⟩, ⟨c1, c2⟩, ⟨d1, d2, d3⟩, n1⟩ := h
  unfold z_RO
  rw [hh]
  exact ⟨⟨a1.moved al, a2.moved al⟩, ⟨b1.moved al, b2.same hv, b3.same hv⟩, ⟨c1.moved al, c2.moved al⟩, ⟨d1.moved al, d2, d3⟩, fun q hq => va_Nw.same rfl hv.symm (n1 q hq)⟩
theorem z_KS.to {P : zP} {s U : State} {H : Heap} {locs : List Loc} (h : z_KS P s) (hW : s.WarmedH U.vm) (hS : va_S (z_A P) s.heap H locs) (hU : U.heap = H) : z_KS P U := ⟨va_K.moved hW.alike h.1, h.2.1.to hW hS hU, h.2.2⟩
theorem z_blind {P : zP} {av : List zV} {μ : zMem} : FrameBlind (va_Pc (av.map (z_cv P)) (fun U => z_WH P μ U.heap ∧ z_KS P U ∧ ∀ v ∈ av, z_ok P v)) := by
  intro a U g mk q
  obtain ⟨q0, q1, q2, q3⟩ := q
  exact ⟨q0, q1, ⟨va_K.moved (u := U) (U := U.calling g mk a) (Vm.Alike.refl U.vm) q2.1, q2.2.1.same (U' := U.calling g mk a) rfl rfl, q2.2.2⟩, q3⟩
/-! entry -/
def z_la : List zV → List (Option zV)
  | [] => []
  | .inr (.inl x) :: vs => some (.inr (.inl x)) :: none :: z_la vs
  | v :: vs => some v :: z_la vs
theorem z_la_spec {P : zP} : ∀ (av : List zV) (off i : Nat) (v : zV), (z_la av)[i]? = some (some v) → (i + off, z_cv P v) ∈ lv_args off (av.map (z_cv P)) ∧ v ∈ av
  | [], off, i, v, h => by cases h
  | .inl x :: vs, off, i, v, h => by
    match i, h with
    | 0, h =>
      have h : some (some (Sum.inl x)) = some (some v) := h
      cases h
      exact ⟨by rw [Nat.zero_add]; exact List.mem_cons_self, List.mem_cons_self⟩
    | i + 1, h =>
      obtain ⟨a, b⟩ := z_la_spec vs (off + 1) i v h
      refine ⟨List.mem_cons_of_mem _ ?_, List.mem_cons_of_mem _ b⟩
      rw [show i + 1 + off = i + (off + 1) by omega]
      exact a
  | .inr (.inr x) :: vs, off, i, v, h => by
    match i, h with
    | 0, h =>
      have h : some (some (Sum.inr (Sum.inr x))) = some (some v) := h
      cases h
      exact ⟨by rw [Nat.zero_add]; exact List.mem_cons_self, List.mem_cons_self⟩
    | i + 1, h =>
      obtain ⟨a, b⟩ := z_la_spec vs (off + 1) i v h
      refine ⟨List.mem_cons_of_mem _ ?_, List.mem_cons_of_mem _ b⟩
      rw [show i + 1 + off = i + (off + 1) by omega]
      exact a
  | .inr (.inl x) :: vs, off, i, v, h => by
    match i, h with
    | 0, h =>
      have h : some (some (Sum.inr (Sum.inl x))) = some (some v) := h
      cases h
      exact ⟨by rw [Nat.zero_add]; exact List.mem_cons_self, List.mem_cons_self⟩
    | 1, h => cases h
    | i + 2, h =>
      obtain ⟨a, b⟩ := z_la_spec vs (off + 2) i v h
      refine ⟨List.mem_cons_of_mem _ ?_, List.mem_cons_of_mem _ b⟩
      rw [show i + 2 + off = i + (off + 2) by omega]
      exact a
theorem z_la_len {P : zP} : ∀ (av : List zV), (lg_sl (av.map (z_cv P))).length = (z_la av).length
  | [] => rfl
  | .inl x :: vs => congrArg (· + 1) (z_la_len vs)
  | .inr (.inr x) :: vs => congrArg (· + 1) (z_la_len vs)
  | .inr (.inl x) :: vs => congrArg (· + 2) (z_la_len vs)
theorem z_Sp.of {P : zP} {y : MethodName} {M : zM} {d : Nat} {av : List zV} {μ : zMem} {r : Option zV} {μ' : zMem} {l0 : List (Option zV)} (hy : plainFor y = true) (hown : y.cls = M.1) (hl : z_la av ++ List.replicate (M.2.2.1 - (z_la av).length) none = l0) (hn : (z_la av).length ≤ M.2.2.1) (h : z_RQ P M (z_rm d) (z_mq P r μ') 0 0 0 l0 [] μ) : z_Sp P y M d av μ r μ' := by
  refine va_MetF (cc := M.2.1) (maxL := M.2.2.1) (ret := M.2.2.2) hy rfl ?_
  intro p e s m args below meth c s₁ B hml hv
  obtain ⟨rfl, hWH, hKS, hok⟩ := hv
  have hts := atoms_spec (ws := z_ws y M) B.pre
  have hf : s.vm.findClass y.cls = some m.cls := findClass_of_methodNamed B.named
  rw [lg_entry_eq]
  refine h p e s m _ below meth c ⟨B.exec, B.bytes, B.returns, hml, by rw [← hown]; exact hf, fun w hw => hts w (List.mem_cons_of_mem _ hw), B.notSynchronized, hKS⟩ s.heap [] _ hWH va_S.rf ?_ (fun _ h => by cases h)
  have hl' := lv_entry (av.map (z_cv P)) (n := M.2.2.1) (by rw [z_la_len]; exact hn)
  refine ⟨hl'.1, hl'.2.1, fun i v hi => ?_⟩
  subst hl
  have hi' : (z_la av)[i]? = some (some v) := by
    by_cases hlt : i < (z_la av).length
    · rw [List.getElem?_append_left hlt] at hi
      exact hi
    · rw [List.getElem?_append_right (by omega), List.getElem?_replicate] at hi
      split at hi
      · cases hi
      · cases hi
  obtain ⟨a, b⟩ := z_la_spec (P := P) av 0 i v hi'
  exact ⟨hl'.2.2 (i, z_cv P v) a, hok v b⟩
/-! returns -/
section ZE
variable {P : zP} {M : zM} {R : Room} {pc : Nat} {l : List (Option zV)} {μ : zMem}
theorem ze_i {pc' : Nat} {x : Int32} (hd : zD M.2.1 pc (.ireturn) 1 pc') (hr : M.2.2.2 = some .int) : z_RQ P M R (z_mq P (some (zI x)) μ) 0 0 pc l [zI x] μ := by
  obtain ⟨hd, rfl⟩ := hd
  intro p e s m args below meth c C H locs ls h1 h2 h3 h4
  exact W.iret C.1 C.2.1 (C.2.2.1.trans hr) (fun t ht hW => ⟨⟨rfl, fun v hv => by cases hv; trivial, by rw [ht]; exact h1⟩, h2.F ht⟩) h2.2.2 hd C.2.2.2.2.2.2.1
theorem ze_z {pc' : Nat} {x : Int32} {ty : FieldType} (hd : zD M.2.1 pc (.ireturn) 1 pc') (hr : M.2.2.2 = some ty) (hn : narrow ty (.int x) = .int x) : z_RQ P M R (z_mq P (some (zI x)) μ) 0 0 pc l [zI x] μ := by
  obtain ⟨hd, rfl⟩ := hd
  intro p e s m args below meth c C H locs ls h1 h2 h3 h4
  exact W.zret C.1 C.2.1 (C.2.2.1.trans hr) hn (fun t ht hW => ⟨⟨rfl, fun v hv => by cases hv; trivial, by rw [ht]; exact h1⟩, h2.F ht⟩) h2.2.2 hd C.2.2.2.2.2.2.1
theorem ze_l {pc' : Nat} {x : Int64} (hd : zD M.2.1 pc (.lreturn) 1 pc') (hr : M.2.2.2 = some .long) : z_RQ P M R (z_mq P (some (zL x)) μ) 0 0 pc l [zL x] μ := by
  obtain ⟨hd, rfl⟩ := hd
  intro p e s m args below meth c C H locs ls h1 h2 h3 h4
  exact W.lret C.1 C.2.1 (C.2.2.1.trans hr) (fun t ht hW => ⟨⟨rfl, fun v hv => by cases hv; trivial, by rw [ht]; exact h1⟩, h2.F ht⟩) h2.2.2 hd C.2.2.2.2.2.2.1
theorem ze_v {pc' : Nat} (hd : zD M.2.1 pc (.return_) 1 pc') (hr : M.2.2.2 = none) : z_RQ P M R (z_mq P none μ) 0 0 pc l [] μ := by
  obtain ⟨hd, rfl⟩ := hd
  intro p e s m args below meth c C H locs ls h1 h2 h3 h4
  exact W.vret C.1 C.2.1 (C.2.2.1.trans hr) (fun t ht hW => ⟨⟨rfl, (fun v hv => by cases hv), by rw [ht]; exact h1⟩, h2.F ht⟩) h2.2.2 hd C.2.2.2.2.2.2.1
theorem ze_a {pc' : Nat} {q i : Nat} {n : String} (hd : zD M.2.1 pc (.areturn) 1 pc') (hr : M.2.2.2 = some (.object n)) : z_RQ P M R (z_mq P (some (zA q i)) μ) 0 0 pc l [zA q i] μ := by
  obtain ⟨hd, rfl⟩ := hd
  intro p e s m args below meth c C H locs ls h1 h2 h3 h4
  exact W.aret C.1 C.2.1 (C.2.2.1.trans hr) (Or.inl ⟨n, rfl⟩) (Or.inr ⟨_, rfl⟩) (fun t ht hW => ⟨⟨rfl, fun v hv => by cases hv; exact z_h h4, by rw [ht]; exact h1⟩, h2.F ht⟩) h2.2.2 hd C.2.2.2.2.2.2.1
end ZE
/-! calls -/
def z_w : List zV → Nat
  | [] => 0
  | .inr (.inl _) :: vs => 2 + z_w vs
  | _ :: vs => 1 + z_w vs
theorem z_w_ok {P : zP} : ∀ (st : List zV), ((st.map (z_cv P)).map fun v => v.category).sum = z_w st
  | [] => rfl
  | .inl x :: vs => congrArg (1 + ·) (z_w_ok vs)
  | .inr (.inr x) :: vs => congrArg (1 + ·) (z_w_ok vs)
  | .inr (.inl x) :: vs => congrArg (2 + ·) (z_w_ok vs)
/-- what is known of a method that is called -/
def z_MW (y : MethodName) (M : zM) (n : Nat) : Prop := Cond.initialized y.cls ∈ lw_gd ∧ Cond.code y M.2.1 M.2.2.1 M.2.2.2 ∈ lw_gd ∧ (y.cls ≠ "java/lang/invoke/MethodHandle" ∧ y.cls ≠ "java/lang/invoke/VarHandle" ∧ (parseMethodDescriptor y.desc).map (fun d => d.parameters.length) = some n)
def z_fit (R : Room) (n1 n2 d nL : Nat) : Prop := d + 1 ≤ R.frames ∧ 8 + (nL + 11) + 64 * d ≤ R.locals ∧ n1 ≤ R.cells ∧ n2 ≤ R.slots
theorem z_gin {y : MethodName} {M : zM} {n : Nat} (h : z_MW y M n) : GoodIn lw_gd (z_ws y M) := by
  intro w hw
  have hw' : w ∈ lw_gd := by
    rcases List.mem_cons.mp hw with e | e
    · rw [e]; exact h.2.1
    · exact e
  exact ⟨hw', good_of_word (z_good hw')⟩
section ZC
variable {P : zP} {M : zM} {R : Room} {F : zF} {n1 n2 pc : Nat} {l : List (Option zV)} {st sk : List zV} {μ : zMem}
theorem z_cont {p : Program} {e : Env} {s : State} {m : MethodId} {args a : Array Value} {below : List Frame} {meth : Method} {c : Code} {H : Heap} {locs : List Loc} {ls : Array Slot} {st0 rest : List Value} {r : Option zV} {μ' : zMem} {Q : State → Prop}
    (hr : va_Run p (z_l P) e R s m args below meth c H locs n1 n2 0 0 (F0 m pc ls st0) rest (z_Qc P r μ' a) (z_A P)) (hS : va_S (z_A P) s.heap H locs)
    (kk : ∀ (H1 : Heap) (locs1 : List Loc), z_WH P μ' H1 → va_S (z_A P) s.heap H1 locs1 → (∀ v, r = some v → z_ok P v) → W p (z_l P) e R s m args below meth c H1 locs1 n1 n2 Q (F0 m (pc + 3) ls ((r.map (z_cv P)).toList ++ rest))) : W p (z_l P) e R s m args below meth c H locs n1 n2 Q (F0 m pc ls st0) := by
  intro T hT X
  obtain ⟨v, st₀, t, T', L, h0, X', hL, e1, e2, ⟨⟨hv, hok, hwh⟩, hz, hk⟩, stp⟩ := hr T hT X
  cases hv
  rw [h0] at hz hk
  obtain ⟨t2, a1, b1⟩ := kk T'.heap (locs ++ L) (by rw [e1]; exact hwh)
    ⟨Nat.le_trans hS.1 (by rw [e1]; exact hz), fun q h1 h2 => by rw [e1, hk q (Nat.lt_of_lt_of_le h1 hS.1) h2]; exact hS.2.1 q h1 h2, fun q hq => by
      rcases List.mem_append.mp hq with h | h
      · exact hS.2.2 q h
      · exact hL q h⟩ hok T' rfl X'
  exact ⟨t2, stp t2 a1, b1⟩
theorem z_okr {r : Option zV} (h : ∀ v, r = some v → z_ok P v) (h2 : ∀ w ∈ st, z_ok P w) : ∀ w ∈ r.toList ++ st, z_ok P w := by
  intro w hw
  rcases List.mem_append.mp hw with q | q
  · cases r with
    | none => cases q
    | some v =>
      have := List.mem_singleton.mp q
      subst this
      exact h _ rfl
  · exact h2 w q
theorem z_mapr {r : Option zV} : (r.toList ++ st).map (z_cv P) = (r.map (z_cv P)).toList ++ st.map (z_cv P) := by
  cases r <;> simp
/-- a virtual call on an own object -/
theorem zr_callV {pc' : Nat} {idx d n c i : Nat} {y : MethodName} {M' : zM} {av : List zV} {r : Option zV} {μ' : zMem} {q : vw_C} {o : Nat × List zFK} (hd : zD M.2.1 pc (.invokevirtual idx) 3 pc') (hM : z_MW y M' n) (hl : Cond.methodLink M.1 idx y ∈ lw_gd) (hi : Cond.instanceMethod y ∈ lw_gd) (hs : Cond.selects y.cls y y ∈ lw_gd) (hn : av.length = n) (hsk : sk = av.reverse ++ zA c i :: st) (hw : z_w st ≤ 8) (hR : z_fit R n1 n2 d M'.2.2.1) (ho : z_obj c = some o) (hq : classes[o.1]? = some q) (hqc : q.1 = y.cls)
    (hsp : z_Sp P y M' d (zA c i :: av) μ r μ') (kk : z_RQ P M R F n1 n2 pc' l (r.toList ++ st) μ') : z_RQ P M R F n1 n2 pc l sk μ := by
  obtain ⟨hd, rfl⟩ := hd
  intro p e s m args below meth c0 C H locs ls h1 h2 h3 h4
  subst hsk
  have hts := C.2.2.2.2.2.1
  have hoks : ∀ v ∈ zA c i :: av, z_ok P v := fun v hv => by
    rcases List.mem_cons.mp hv with e | e
    · exact h4 v (List.mem_append_right _ (by rw [e]; exact List.mem_cons_self))
    · exact h4 v (List.mem_append_left _ (List.mem_reverse.mpr e))
  have he : z_ex P c i := z_exO (hoks _ List.mem_cons_self) (z_obj_lt ho)
  have hrec := va_recv (q0 := 0) C.2.2.2.2.2.2.2.1 (z_one (h1.1 c i he)) hq (fs := o.2.mapIdx fun k f => z_fv P μ c i k f) (by rw [z_enc_obj ho]; rfl)
  have gin : GoodIn lw_gd (wsV M.1 idx y.cls y (z_ws y M')) := by
    intro w hw
    unfold wsV at hw
    rcases List.mem_append.mp hw with h | h
    · have hm : w ∈ lw_gd := by
        rcases List.mem_cons.mp h with e | h
        · rw [e]; exact hl
        rcases List.mem_cons.mp h with e | h
        · rw [e]; exact hi
        rcases List.mem_cons.mp h with e | h
        · rw [e]; exact hs
        rcases List.mem_cons.mp h with e | h
        · rw [e]; exact hM.1
        · cases h
      exact ⟨hm, good_of_word (z_good hm)⟩
    · exact z_gin hM w h
  rw [List.map_append, List.map_reverse, List.map_cons]
  refine z_cont (va_runV (As := av.map (z_cv P)) (rest := st.map (z_cv P)) ⟨C.1, C.2.1, C.2.2.2.1, C.2.2.2.2.1, hts⟩ hsp (cwV n hts gin rfl rfl rfl ⟨rfl, hM.2.2⟩ ⟨hR.1, hR.2.1⟩) ⟨z_blind, by rw [← hqc]; exact hrec, fun U hU hW => ⟨rfl, by rw [hU]; exact h1, C.2.2.2.2.2.2.2.to hW h2 hU, hoks⟩⟩ rfl (by rw [List.length_map]; exact hn) h3.1 rfl (by rw [z_w_ok]; show 2 * 0 + _ ≤ _; omega) hd ⟨hR.2.2.1, hR.2.2.2⟩) h2 ?_
  intro H1 locs1 g1 g2 g3
  rw [← z_mapr]
  exact kk p e s m args below meth c0 C H1 locs1 ls g1 g2 h3 (z_okr g3 (fun w hw => h4 w (List.mem_append_right _ (List.mem_cons_of_mem _ hw))))
/-- a static call -/
theorem zr_callS {pc' : Nat} {idx d n : Nat} {y : MethodName} {M' : zM} {av : List zV} {r : Option zV} {μ' : zMem} (hd : zD M.2.1 pc (.invokestatic idx) 3 pc') (hM : z_MW y M' n) (hl : Cond.methodLink M.1 idx y ∈ lw_gd) (hi : Cond.static y ∈ lw_gd) (hn : av.length = n) (hsk : sk = av.reverse ++ st) (hw : z_w st ≤ 8) (hR : z_fit R n1 n2 d M'.2.2.1)
    (hsp : z_Sp P y M' d av μ r μ') (kk : z_RQ P M R F n1 n2 pc' l (r.toList ++ st) μ') : z_RQ P M R F n1 n2 pc l sk μ := by
  obtain ⟨hd, rfl⟩ := hd
  intro p e s m args below meth c0 C H locs ls h1 h2 h3 h4
  subst hsk
  have hts := C.2.2.2.2.2.1
  have hoks : ∀ v ∈ av, z_ok P v := fun v hv => h4 v (List.mem_append_left _ (List.mem_reverse.mpr hv))
  rw [List.map_append, List.map_reverse]
  refine z_cont (va_runS (As := av.map (z_cv P)) (rest := st.map (z_cv P)) ⟨C.1, C.2.1, C.2.2.2.1, C.2.2.2.2.1, hts⟩ hsp ⟨callB_of n hts (z_gin hM) rfl rfl rfl (hts _ hM.1) (hts _ hl) hM.2.2 ⟨hR.1, hR.2.1⟩, hts _ hi⟩ ⟨z_blind, fun U hU hW => ⟨rfl, by rw [hU]; exact h1, C.2.2.2.2.2.2.2.to hW h2 hU, hoks⟩⟩ rfl (by rw [List.length_map]; exact hn) h3.1 rfl (by rw [z_w_ok]; show 2 * 0 + _ ≤ _; omega) hd ⟨hR.2.2.1, hR.2.2.2⟩) h2 ?_
  intro H1 locs1 g1 g2 g3
  rw [← z_mapr]
  exact kk p e s m args below meth c0 C H1 locs1 ls g1 g2 h3 (z_okr g3 (fun w hw => h4 w (List.mem_append_right _ hw)))
/-- a static call of a nest mate's private method -/
theorem zr_callSN {pc' : Nat} {idx d n : Nat} {y : MethodName} {M' : zM} {host : String} {av : List zV} {r : Option zV} {μ' : zMem} (hd : zD M.2.1 pc (.invokestatic idx) 3 pc') (hM : z_MW y M' n) (hl : (M.1, idx, y, host) ∈ z_nest) (hi : Cond.static y ∈ lw_gd) (hn : av.length = n) (hsk : sk = av.reverse ++ st) (hw : z_w st ≤ 8) (hR : z_fit R n1 n2 d M'.2.2.1)
    (hsp : z_Sp P y M' d av μ r μ') (kk : z_RQ P M R F n1 n2 pc' l (r.toList ++ st) μ') : z_RQ P M R F n1 n2 pc l sk μ := by
  obtain ⟨hd, rfl⟩ := hd
  intro p e s m args below meth c0 C H locs ls h1 h2 h3 h4
  subst hsk
  have hts := C.2.2.2.2.2.1
  have hoks : ∀ v ∈ av, z_ok P v := fun v hv => h4 v (List.mem_append_left _ (List.mem_reverse.mpr hv))
  rw [List.map_append, List.map_reverse]
  refine z_cont (va_runSN (As := av.map (z_cv P)) (rest := st.map (z_cv P)) ⟨C.1, C.2.1, C.2.2.2.1, C.2.2.2.2.1, hts⟩ hsp ⟨va_cnB n hts (z_gin hM) rfl rfl rfl (C.2.2.2.2.2.2.2.2.1.2.2.2.2 _ hl) (hts _ hM.1) hM.2.2 ⟨hR.1, hR.2.1⟩, hts _ hi, trivial⟩ ⟨z_blind, fun U hU hW => ⟨rfl, by rw [hU]; exact h1, C.2.2.2.2.2.2.2.to hW h2 hU, hoks⟩⟩ rfl (by rw [List.length_map]; exact hn) h3.1 rfl (by rw [z_w_ok]; show 2 * 0 + _ ≤ _; omega) hd ⟨hR.2.2.1, hR.2.2.2⟩) h2 ?_
  intro H1 locs1 g1 g2 g3
  rw [← z_mapr]
  exact kk p e s m args below meth c0 C H1 locs1 ls g1 g2 h3 (z_okr g3 (fun w hw => h4 w (List.mem_append_right _ hw)))
theorem z_RQ.weak {l' : List (Option zV)} (h : ∀ (i : Nat) (v : zV), l'[i]? = some (some v) → l[i]? = some (some v)) (k : z_RQ P M R F n1 n2 pc l' st μ) : z_RQ P M R F n1 n2 pc l st μ := by
  intro p e s m args below meth c0 C H locs ls h1 h2 h3 h4
  exact k p e s m args below meth c0 C H locs ls h1 h2 ⟨h3.1, h3.2.1, fun i v hi => h3.2.2 i v (h i v hi)⟩ h4
def z_le : List (Option zV) → List (Option zV) → Prop
  | [], _ => True
  | none :: a, [] => z_le a []
  | none :: a, _ :: b => z_le a b
  | some _ :: _, [] => False
  | some v :: a, w :: b => w = some v ∧ z_le a b
theorem z_le_get : ∀ {a b : List (Option zV)}, z_le a b → ∀ (i : Nat) (v : zV), a[i]? = some (some v) → b[i]? = some (some v)
  | [], _, _, i, v, h => by cases h
  | none :: a, [], h0, i, v, h => by
    match i, h with
    | 0, h => cases h
    | i + 1, h =>
      have := z_le_get (a := a) (b := []) h0 i v h
      cases this
  | none :: a, _ :: b, h0, i, v, h => by
    match i, h with
    | 0, h => cases h
    | i + 1, h => exact z_le_get (a := a) (b := b) h0 i v h
  | some _ :: _, [], h0, i, v, h => False.elim h0
  | some w :: a, x :: b, h0, i, v, h => by
    match i, h with
    | 0, h => rw [← h]; exact congrArg some h0.1
    | i + 1, h => exact z_le_get (a := a) (b := b) h0.2 i v h
theorem zr_wk {l' : List (Option zV)} (h : z_le l' l) (k : z_RQ P M R F n1 n2 pc l' st μ) : z_RQ P M R F n1 n2 pc l st μ := z_RQ.weak (z_le_get h) k
theorem zr_nm {x v : Int32} (h : v = x) (k : z_RQ P M R F n1 n2 pc l (zI v :: st) μ) : z_RQ P M R F n1 n2 pc l (zI x :: st) μ := h ▸ k
theorem zr_nmL {x v : Int64} (h : v = x) (k : z_RQ P M R F n1 n2 pc l (zL v :: st) μ) : z_RQ P M R F n1 n2 pc l (zL x :: st) μ := h ▸ k
theorem zr_tbl {pc' len : Nat} {dflt lo hi : Int} {offs : Array Int} {x k : Int32} {off : Int} {tgt : Nat} (hx : x = k) (hd : zD M.2.1 pc (.tableswitch dflt lo hi offs) len pc') (g1 : ¬ k.toInt < lo) (g2 : ¬ hi < k.toInt) (ho : offs[(k.toInt - lo).toNat]? = some off) (ht : (pc : Int) + off = (tgt : Int)) (kk : z_RQ P M R F n1 n2 tgt l st μ) : z_RQ P M R F n1 n2 pc l (zI x :: st) μ := by
  subst hx
  exact zr_tableIn hd g1 g2 ho ht kk
theorem zr_lkp {pc' len : Nat} {dflt : Int} {ps : Array (Int × Int)} {x k : Int32} {off : Int} {tgt : Nat} (hx : x = k) (hd : zD M.2.1 pc (.lookupswitch dflt ps) len pc') (hp : (ps.toList.zip (ps.toList.drop 1)).all (fun (a, next) => a.1 < next.1) = true) (ho : Op.lookupswitch.offset ps.toList dflt k.toInt = off) (ht : (pc : Int) + off = (tgt : Int)) (kk : z_RQ P M R F n1 n2 tgt l st μ) : z_RQ P M R F n1 n2 pc l (zI x :: st) μ := by
  subst hx
  exact zr_lookup hd hp ho ht kk
end ZC
theorem z_ti {x k : Int32} (h : ¬ x = k) : x.toInt ≠ k.toInt := fun e => h (Int32.toInt_inj.mp e)
/-! words of the functions that the methods are turned into -/
theorem z_ip {α : Type} {c : Prop} [Decidable c] {a b x : α} (h : (if c then a else b) = x) (hc : c) : a = x := (if_pos hc).symm.trans h
theorem z_im {α : Type} {c : Prop} [Decidable c] {a b x : α} (h : (if c then a else b) = x) (hc : ¬ c) : b = x := (if_neg hc).symm.trans h
theorem z_gd {α : Type} {b : Bool} {a : Option α} {x : α} (h : (if b = true then a else none) = some x) : b = true ∧ a = some x := by
  by_cases hb : b = true
  · exact ⟨hb, z_ip h hb⟩
  · have := z_im h hb
    cases this
theorem z_nz {α : Type} {y : Int32} {a : Option α} {x : α} (h : (if y = 0 then none else a) = some x) : ¬ y = 0 ∧ a = some x := by
  by_cases hb : y = 0
  · have := z_ip h hb
    cases this
  · exact ⟨hb, z_im h hb⟩
theorem z_bd {α β : Type} {o : Option α} {f : α → Option β} {x : β} (h : o.bind f = some x) : ∃ a, o = some a ∧ f a = some x := by
  cases o with
  | none => cases h
  | some a => exact ⟨a, rfl, h⟩
def z_let {α β : Type} (a : α) (f : α → β) : β := f a
theorem z_lt {α β : Type} {a : α} {f : α → β} {x : β} (h : z_let a f = x) : ∃ b, b = a ∧ f b = x := ⟨a, rfl, h⟩
def z_it {σ ρ : Type} (body : σ → Option (σ ⊕ ρ)) : Nat → σ → Option ρ
  | 0, _ => none
  | n + 1, s => match body s with
    | none => none
    | some (.inl s') => z_it body n s'
    | some (.inr e) => some e
theorem z_loop {σ ρ : Type} {body : σ → Option (σ ⊕ ρ)} {Hd : σ → Prop} {Ex : ρ → Prop} (hb : ∀ s K, body s = some K → (∀ s', K = .inl s' → Hd s') → (∀ e, K = .inr e → Ex e) → Hd s) : ∀ n s e, z_it body n s = some e → Ex e → Hd s
  | 0, s, e, h, _ => by cases h
  | n + 1, s, e, h, he => by
    unfold z_it at h
    split at h
    · cases h
    · rename_i s' hs
      exact hb s _ hs (fun s2 h2 => by cases h2; exact z_loop hb n s' e h he) (fun e2 h2 => by cases h2)
    · rename_i e' hs
      cases h
      exact hb s _ hs (fun s2 h2 => by cases h2) (fun e2 h2 => by cases h2; exact he)
def z_fu : Nat := 5000
