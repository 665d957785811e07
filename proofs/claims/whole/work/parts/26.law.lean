/-! THE CLAIM OUT OF ONE WALK OF THE LAW'S BODY. Your part is whole_start (and what it stands on); all else here is the same for every law, but numbers. -/
def R_law : String := "AbsentLordsLaw"
def lw_P (b : Addr) (xs : List Int32) (args : Array Value) (s : State) : Prop := args = #[.ref b] ∧ s.IntsAt b xs ∧ xs.length ≤ 3072 ∧ (Jvm.Cond.and given_1 narrow_1).before args s = true
def lw_Q (_ : Array Value) (s : State) (o : Outcome) (t : State) : Prop := o = .returned (some (.int 1)) ∧ Framed s o t [] 600000 7302250
def lw_Z (below : List Frame) (a : Array Value) (s : State) : State → Prop := fun t => ∃ o, t.status = .running ∧ Ended t below o ∧ lw_Q a s o t
/-- the law's own end, with 1 on the stack, nothing written that was there before, its room as the claim has it -/
theorem lw_ret {p : Program} {l : Launch} {e : Env} {s : State} {m : MethodId} {below : List Frame} {meth : Method} {c : Code} {b : Nat} (hx : p.tables.exec = Jvm.exec) (hb : c.code = code) (hr : meth.sig.returnType = ret) (hlocks : meth.locks = false) {pc : Nat} {H : Heap} {ls : Array Slot} (hdg : decode code pc = .ok (.ireturn, 1)) : W p l e room_1 s m #[Value.ref b] below meth c H [] 600000 7302250 (lw_Z below #[Value.ref b] s) (F0 m pc ls [.int 1]) := by
  intro T hT X
  obtain ⟨fs, hret, hrun, hended, hW, hframe⟩ := X.leave (v := some (.int 1)) (hlocks := hlocks) (fun h => by rw [hr] at h; cases h)
  have hmeth' : T.vm.method? m = some meth := X.method'
  refine ⟨T.setFrames fs, ?_, .returned (some (.int 1)), hrun, hended, rfl, ⟨_, rfl⟩, hW, hframe⟩
  jvm_step X.here [X.here.top, hx, hb, hdg, hmeth', hr, ret, narrow_b1]
  (try refine ⟨rfl, ?_⟩); (try refine ⟨rfl, ?_⟩)
  first | (intro acts; rw [hret _ acts rfl rfl rfl]) | rw [hret _ _ rfl rfl rfl]
  exact Steps.refl _
/-- what holds at the law's entry: the machine, the code, the tables' words (any of lw_tbl by 'hts w (by decide +kernel)'), the script of L ints xs at the cell b, what the Statement gives of the start (any of its parts by flat_of_before) -/
def lw_At (p : Program) (s : State) (m : MethodId) (meth : Method) (c : Code) (b L : Nat) (xs : Nat → Int32) : Prop :=
  p.tables.exec = Jvm.exec ∧ c.code = code ∧ meth.sig.returnType = ret ∧ c.maxLocals = 4 ∧ s.vm.findClass R_law = some m.cls ∧ (∀ w ∈ lw_tbl, w.before #[Value.ref b] s = true) ∧ va_X b L xs s s.heap ∧ b < s.heap.size ∧ meth.locks = false ∧ (Jvm.Cond.and given_1 narrow_1).before #[Value.ref b] s = true
abbrev M_law : zM := (R_law, code, 4, ret)
def lw_F (P : zP) : zF := fun s _ args below t => z_B P = s.heap.size → lw_Z below args s t
theorem lw_retG {p : Program} {l : Launch} {e : Env} {s : State} {m : MethodId} {args : Array Value} {below : List Frame} {meth : Method} {c : Code} (hx : p.tables.exec = Jvm.exec) (hb : c.code = code) (hr : meth.sig.returnType = ret) (hlocks : meth.locks = false) {pc : Nat} {H : Heap} {ls : Array Slot} (hdg : decode code pc = .ok (.ireturn, 1)) : W p l e room_1 s m args below meth c H [] 600000 7302250 (lw_Z below args s) (F0 m pc ls [.int 1]) := by
  intro T hT X
  obtain ⟨fs, hret, hrun, hended, hW, hframe⟩ := X.leave (v := some (.int 1)) (hlocks := hlocks) (fun h => by rw [hr] at h; cases h)
  have hmeth' : T.vm.method? m = some meth := X.method'
  refine ⟨T.setFrames fs, ?_, .returned (some (.int 1)), hrun, hended, rfl, ⟨_, rfl⟩, hW, hframe⟩
  jvm_step X.here [X.here.top, hx, hb, hdg, hmeth', hr, ret, narrow_b1]
  (try refine ⟨rfl, ?_⟩); (try refine ⟨rfl, ?_⟩)
  first | (intro acts; rw [hret _ acts rfl rfl rfl]) | rw [hret _ _ rfl rfl rfl]
  exact Steps.refl _
theorem ze_law {P : zP} {pc pc' : Nat} {l : List (Option zV)} {μ : zMem} (hd : zD M_law.2.1 pc (.ireturn) 1 pc') : z_RQ P M_law room_1 (lw_F P) 322 17971 pc l [zI 1] μ := by
  obtain ⟨hd, rfl⟩ := hd
  intro p e s m args below meth c C H locs ls h1 h2 h3 h4
  by_cases hB : z_B P = s.heap.size
  · have key : W p (z_l P) e room_1 s m args below meth c H locs 322 17971 (lw_Z below args s) (F0 m pc ls [.int 1]) := by
      refine W.widen (k := 600000) (n := 7302250) (by decide) (by decide) ?_
      refine va_forget (fun q hq => ?_) (lw_retG C.1 C.2.1 C.2.2.1 C.2.2.2.2.2.2.1 hd)
      have := h2.2.2 q hq
      rw [← hB]
      exact this
    intro T hT X
    obtain ⟨t, a, b⟩ := key T hT X
    exact ⟨t, a, fun _ => b⟩
  · intro T hT X
    exact ⟨_, Steps.refl _, fun h => absurd h hB⟩
theorem zr_ld94x {P : zP} {R : Room} {M : zM} {F : zF} {n1 n2 pc pc' : Nat} {l : List (Option zV)} {st : List zV} {μ : zMem} {j : Int32} {n : Nat} {xs : Nat → Int32} (hx : z_xs P = xs) (hn : z_sl P = n) (hd : zD M.2.1 pc (.iaload) 1 pc') (hin : z_in j n = true) (kk : z_RQ P M R F n1 n2 pc' l (zI (xs j.toNatClampNeg) :: st) μ) : z_RQ P M R F n1 n2 pc l (zI j :: zA 94 0 :: st) μ := by
  subst hx
  exact zr_ld94 hn hd hin kk
theorem mw_8_feed : z_MW y_8_feed M_8_feed 5 := ⟨z_m1 (List.mem_of_getElem? (i := 1) rfl) rfl, z_m2 (List.mem_of_getElem? (i := 109) rfl) rfl, by decide, by decide, by decide +kernel⟩
theorem ml_L_13 : Cond.methodLink R_law 13 y_8_feed ∈ lw_gd := z_m2 (List.mem_of_getElem? (i := 106) rfl) rfl
theorem im_8_feed : Cond.instanceMethod y_8_feed ∈ lw_gd := z_m2 (List.mem_of_getElem? (i := 107) rfl) rfl
theorem se_8_feed : Cond.selects y_8_feed.cls y_8_feed y_8_feed ∈ lw_gd := z_m2 (List.mem_of_getElem? (i := 108) rfl) rfl
theorem mw_9_feed : z_MW y_9_feed M_9_feed 5 := ⟨z_m1 (List.mem_of_getElem? (i := 10) rfl) rfl, z_m6 (List.mem_of_getElem? (i := 111) rfl) rfl, by decide, by decide, by decide +kernel⟩
theorem ml_L_17 : Cond.methodLink R_law 17 y_9_feed ∈ lw_gd := z_m6 (List.mem_of_getElem? (i := 108) rfl) rfl
theorem im_9_feed : Cond.instanceMethod y_9_feed ∈ lw_gd := z_m6 (List.mem_of_getElem? (i := 109) rfl) rfl
theorem se_9_feed : Cond.selects y_9_feed.cls y_9_feed y_9_feed ∈ lw_gd := z_m6 (List.mem_of_getElem? (i := 110) rfl) rfl
theorem mw_8_back : z_MW y_8_back M_8_back 1 := ⟨z_m1 (List.mem_of_getElem? (i := 1) rfl) rfl, z_m2 (List.mem_of_getElem? (i := 117) rfl) rfl, by decide, by decide, by decide +kernel⟩
theorem ml_L_18 : Cond.methodLink R_law 18 y_8_back ∈ lw_gd := z_m2 (List.mem_of_getElem? (i := 114) rfl) rfl
theorem im_8_back : Cond.instanceMethod y_8_back ∈ lw_gd := z_m2 (List.mem_of_getElem? (i := 115) rfl) rfl
theorem se_8_back : Cond.selects y_8_back.cls y_8_back y_8_back ∈ lw_gd := z_m2 (List.mem_of_getElem? (i := 116) rfl) rfl
theorem mw_9_back : z_MW y_9_back M_9_back 1 := ⟨z_m1 (List.mem_of_getElem? (i := 10) rfl) rfl, z_m6 (List.mem_of_getElem? (i := 119) rfl) rfl, by decide, by decide, by decide +kernel⟩
theorem ml_L_22 : Cond.methodLink R_law 22 y_9_back ∈ lw_gd := z_m6 (List.mem_of_getElem? (i := 116) rfl) rfl
theorem im_9_back : Cond.instanceMethod y_9_back ∈ lw_gd := z_m6 (List.mem_of_getElem? (i := 117) rfl) rfl
theorem se_9_back : Cond.selects y_9_back.cls y_9_back y_9_back ∈ lw_gd := z_m6 (List.mem_of_getElem? (i := 118) rfl) rfl
theorem mw_8_read : z_MW y_8_read M_8_read 0 := ⟨z_m1 (List.mem_of_getElem? (i := 1) rfl) rfl, z_m2 (List.mem_of_getElem? (i := 121) rfl) rfl, by decide, by decide, by decide +kernel⟩
theorem ml_L_23 : Cond.methodLink R_law 23 y_8_read ∈ lw_gd := z_m2 (List.mem_of_getElem? (i := 118) rfl) rfl
theorem im_8_read : Cond.instanceMethod y_8_read ∈ lw_gd := z_m2 (List.mem_of_getElem? (i := 119) rfl) rfl
theorem se_8_read : Cond.selects y_8_read.cls y_8_read y_8_read ∈ lw_gd := z_m2 (List.mem_of_getElem? (i := 120) rfl) rfl
theorem mw_9_read : z_MW y_9_read M_9_read 0 := ⟨z_m1 (List.mem_of_getElem? (i := 10) rfl) rfl, z_m6 (List.mem_of_getElem? (i := 123) rfl) rfl, by decide, by decide, by decide +kernel⟩
theorem ml_L_27 : Cond.methodLink R_law 27 y_9_read ∈ lw_gd := z_m6 (List.mem_of_getElem? (i := 120) rfl) rfl
theorem im_9_read : Cond.instanceMethod y_9_read ∈ lw_gd := z_m6 (List.mem_of_getElem? (i := 121) rfl) rfl
theorem se_9_read : Cond.selects y_9_read.cls y_9_read y_9_read ∈ lw_gd := z_m6 (List.mem_of_getElem? (i := 122) rfl) rfl
theorem mw_8_place : z_MW y_8_place M_8_place 0 := ⟨z_m1 (List.mem_of_getElem? (i := 1) rfl) rfl, z_m3 (List.mem_of_getElem? (i := 159) rfl) rfl, by decide, by decide, by decide +kernel⟩
theorem ml_L_28 : Cond.methodLink R_law 28 y_8_place ∈ lw_gd := z_m3 (List.mem_of_getElem? (i := 156) rfl) rfl
theorem im_8_place : Cond.instanceMethod y_8_place ∈ lw_gd := z_m3 (List.mem_of_getElem? (i := 157) rfl) rfl
theorem se_8_place : Cond.selects y_8_place.cls y_8_place y_8_place ∈ lw_gd := z_m3 (List.mem_of_getElem? (i := 158) rfl) rfl
theorem mw_9_place : z_MW y_9_place M_9_place 0 := ⟨z_m1 (List.mem_of_getElem? (i := 10) rfl) rfl, z_m6 (List.mem_of_getElem? (i := 225) rfl) rfl, by decide, by decide, by decide +kernel⟩
theorem ml_L_31 : Cond.methodLink R_law 31 y_9_place ∈ lw_gd := z_m6 (List.mem_of_getElem? (i := 222) rfl) rfl
theorem im_9_place : Cond.instanceMethod y_9_place ∈ lw_gd := z_m6 (List.mem_of_getElem? (i := 223) rfl) rfl
theorem se_9_place : Cond.selects y_9_place.cls y_9_place y_9_place ∈ lw_gd := z_m6 (List.mem_of_getElem? (i := 224) rfl) rfl
theorem mw_8_house : z_MW y_8_house M_8_house 2 := ⟨z_m1 (List.mem_of_getElem? (i := 1) rfl) rfl, z_m3 (List.mem_of_getElem? (i := 163) rfl) rfl, by decide, by decide, by decide +kernel⟩
theorem ml_L_32 : Cond.methodLink R_law 32 y_8_house ∈ lw_gd := z_m3 (List.mem_of_getElem? (i := 160) rfl) rfl
theorem im_8_house : Cond.instanceMethod y_8_house ∈ lw_gd := z_m3 (List.mem_of_getElem? (i := 161) rfl) rfl
theorem se_8_house : Cond.selects y_8_house.cls y_8_house y_8_house ∈ lw_gd := z_m3 (List.mem_of_getElem? (i := 162) rfl) rfl
theorem mw_9_house : z_MW y_9_house M_9_house 2 := ⟨z_m1 (List.mem_of_getElem? (i := 10) rfl) rfl, z_m6 (List.mem_of_getElem? (i := 229) rfl) rfl, by decide, by decide, by decide +kernel⟩
theorem ml_L_36 : Cond.methodLink R_law 36 y_9_house ∈ lw_gd := z_m6 (List.mem_of_getElem? (i := 226) rfl) rfl
theorem im_9_house : Cond.instanceMethod y_9_house ∈ lw_gd := z_m6 (List.mem_of_getElem? (i := 227) rfl) rfl
theorem se_9_house : Cond.selects y_9_house.cls y_9_house y_9_house ∈ lw_gd := z_m6 (List.mem_of_getElem? (i := 228) rfl) rfl
theorem mw_8_person : z_MW y_8_person M_8_person 2 := ⟨z_m1 (List.mem_of_getElem? (i := 1) rfl) rfl, z_m3 (List.mem_of_getElem? (i := 212) rfl) rfl, by decide, by decide, by decide +kernel⟩
theorem ml_L_37 : Cond.methodLink R_law 37 y_8_person ∈ lw_gd := z_m3 (List.mem_of_getElem? (i := 209) rfl) rfl
theorem im_8_person : Cond.instanceMethod y_8_person ∈ lw_gd := z_m3 (List.mem_of_getElem? (i := 210) rfl) rfl
theorem se_8_person : Cond.selects y_8_person.cls y_8_person y_8_person ∈ lw_gd := z_m3 (List.mem_of_getElem? (i := 211) rfl) rfl
theorem mw_9_person : z_MW y_9_person M_9_person 2 := ⟨z_m1 (List.mem_of_getElem? (i := 10) rfl) rfl, z_m7 (List.mem_of_getElem? (i := 54) rfl) rfl, by decide, by decide, by decide +kernel⟩
theorem ml_L_40 : Cond.methodLink R_law 40 y_9_person ∈ lw_gd := z_m7 (List.mem_of_getElem? (i := 51) rfl) rfl
theorem im_9_person : Cond.instanceMethod y_9_person ∈ lw_gd := z_m7 (List.mem_of_getElem? (i := 52) rfl) rfl
theorem se_9_person : Cond.selects y_9_person.cls y_9_person y_9_person ∈ lw_gd := z_m7 (List.mem_of_getElem? (i := 53) rfl) rfl
theorem mw_8_send : z_MW y_8_send M_8_send 1 := ⟨z_m1 (List.mem_of_getElem? (i := 1) rfl) rfl, z_m4 (List.mem_of_getElem? (i := 1) rfl) rfl, by decide, by decide, by decide +kernel⟩
theorem ml_L_41 : Cond.methodLink R_law 41 y_8_send ∈ lw_gd := z_m3 (List.mem_of_getElem? (i := 238) rfl) rfl
theorem im_8_send : Cond.instanceMethod y_8_send ∈ lw_gd := z_m3 (List.mem_of_getElem? (i := 239) rfl) rfl
theorem se_8_send : Cond.selects y_8_send.cls y_8_send y_8_send ∈ lw_gd := z_m4 (List.mem_of_getElem? (i := 0) rfl) rfl
theorem mw_9_send : z_MW y_9_send M_9_send 1 := ⟨z_m1 (List.mem_of_getElem? (i := 10) rfl) rfl, z_m7 (List.mem_of_getElem? (i := 66) rfl) rfl, by decide, by decide, by decide +kernel⟩
theorem ml_L_45 : Cond.methodLink R_law 45 y_9_send ∈ lw_gd := z_m7 (List.mem_of_getElem? (i := 63) rfl) rfl
theorem im_9_send : Cond.instanceMethod y_9_send ∈ lw_gd := z_m7 (List.mem_of_getElem? (i := 64) rfl) rfl
theorem se_9_send : Cond.selects y_9_send.cls y_9_send y_9_send ∈ lw_gd := z_m7 (List.mem_of_getElem? (i := 65) rfl) rfl
theorem mw_8_call : z_MW y_8_call M_8_call 1 := ⟨z_m1 (List.mem_of_getElem? (i := 1) rfl) rfl, z_m4 (List.mem_of_getElem? (i := 18) rfl) rfl, by decide, by decide, by decide +kernel⟩
theorem ml_L_46 : Cond.methodLink R_law 46 y_8_call ∈ lw_gd := z_m4 (List.mem_of_getElem? (i := 15) rfl) rfl
theorem im_8_call : Cond.instanceMethod y_8_call ∈ lw_gd := z_m4 (List.mem_of_getElem? (i := 16) rfl) rfl
theorem se_8_call : Cond.selects y_8_call.cls y_8_call y_8_call ∈ lw_gd := z_m4 (List.mem_of_getElem? (i := 17) rfl) rfl
theorem mw_9_call : z_MW y_9_call M_9_call 1 := ⟨z_m1 (List.mem_of_getElem? (i := 10) rfl) rfl, z_m7 (List.mem_of_getElem? (i := 86) rfl) rfl, by decide, by decide, by decide +kernel⟩
theorem ml_L_49 : Cond.methodLink R_law 49 y_9_call ∈ lw_gd := z_m7 (List.mem_of_getElem? (i := 83) rfl) rfl
theorem im_9_call : Cond.instanceMethod y_9_call ∈ lw_gd := z_m7 (List.mem_of_getElem? (i := 84) rfl) rfl
theorem se_9_call : Cond.selects y_9_call.cls y_9_call y_9_call ∈ lw_gd := z_m7 (List.mem_of_getElem? (i := 85) rfl) rfl
theorem mw_8_bury : z_MW y_8_bury M_8_bury 1 := ⟨z_m1 (List.mem_of_getElem? (i := 1) rfl) rfl, z_m4 (List.mem_of_getElem? (i := 26) rfl) rfl, by decide, by decide, by decide +kernel⟩
theorem ml_L_50 : Cond.methodLink R_law 50 y_8_bury ∈ lw_gd := z_m4 (List.mem_of_getElem? (i := 23) rfl) rfl
theorem im_8_bury : Cond.instanceMethod y_8_bury ∈ lw_gd := z_m4 (List.mem_of_getElem? (i := 24) rfl) rfl
theorem se_8_bury : Cond.selects y_8_bury.cls y_8_bury y_8_bury ∈ lw_gd := z_m4 (List.mem_of_getElem? (i := 25) rfl) rfl
theorem mw_9_bury : z_MW y_9_bury M_9_bury 1 := ⟨z_m1 (List.mem_of_getElem? (i := 10) rfl) rfl, z_m7 (List.mem_of_getElem? (i := 90) rfl) rfl, by decide, by decide, by decide +kernel⟩
theorem ml_L_53 : Cond.methodLink R_law 53 y_9_bury ∈ lw_gd := z_m7 (List.mem_of_getElem? (i := 87) rfl) rfl
theorem im_9_bury : Cond.instanceMethod y_9_bury ∈ lw_gd := z_m7 (List.mem_of_getElem? (i := 88) rfl) rfl
theorem se_9_bury : Cond.selects y_9_bury.cls y_9_bury y_9_bury ∈ lw_gd := z_m7 (List.mem_of_getElem? (i := 89) rfl) rfl
theorem mw_8_give : z_MW y_8_give M_8_give 3 := ⟨z_m1 (List.mem_of_getElem? (i := 1) rfl) rfl, z_m4 (List.mem_of_getElem? (i := 38) rfl) rfl, by decide, by decide, by decide +kernel⟩
theorem ml_L_54 : Cond.methodLink R_law 54 y_8_give ∈ lw_gd := z_m4 (List.mem_of_getElem? (i := 35) rfl) rfl
theorem im_8_give : Cond.instanceMethod y_8_give ∈ lw_gd := z_m4 (List.mem_of_getElem? (i := 36) rfl) rfl
theorem se_8_give : Cond.selects y_8_give.cls y_8_give y_8_give ∈ lw_gd := z_m4 (List.mem_of_getElem? (i := 37) rfl) rfl
theorem mw_9_give : z_MW y_9_give M_9_give 3 := ⟨z_m1 (List.mem_of_getElem? (i := 10) rfl) rfl, z_m7 (List.mem_of_getElem? (i := 94) rfl) rfl, by decide, by decide, by decide +kernel⟩
theorem ml_L_58 : Cond.methodLink R_law 58 y_9_give ∈ lw_gd := z_m7 (List.mem_of_getElem? (i := 91) rfl) rfl
theorem im_9_give : Cond.instanceMethod y_9_give ∈ lw_gd := z_m7 (List.mem_of_getElem? (i := 92) rfl) rfl
theorem se_9_give : Cond.selects y_9_give.cls y_9_give y_9_give ∈ lw_gd := z_m7 (List.mem_of_getElem? (i := 93) rfl) rfl
theorem mw_8_years : z_MW y_8_years M_8_years 1 := ⟨z_m1 (List.mem_of_getElem? (i := 1) rfl) rfl, z_m4 (List.mem_of_getElem? (i := 42) rfl) rfl, by decide, by decide, by decide +kernel⟩
theorem ml_L_59 : Cond.methodLink R_law 59 y_8_years ∈ lw_gd := z_m4 (List.mem_of_getElem? (i := 39) rfl) rfl
theorem im_8_years : Cond.instanceMethod y_8_years ∈ lw_gd := z_m4 (List.mem_of_getElem? (i := 40) rfl) rfl
theorem se_8_years : Cond.selects y_8_years.cls y_8_years y_8_years ∈ lw_gd := z_m4 (List.mem_of_getElem? (i := 41) rfl) rfl
theorem mw_9_years : z_MW y_9_years M_9_years 1 := ⟨z_m1 (List.mem_of_getElem? (i := 10) rfl) rfl, z_m7 (List.mem_of_getElem? (i := 98) rfl) rfl, by decide, by decide, by decide +kernel⟩
theorem ml_L_62 : Cond.methodLink R_law 62 y_9_years ∈ lw_gd := z_m7 (List.mem_of_getElem? (i := 95) rfl) rfl
theorem im_9_years : Cond.instanceMethod y_9_years ∈ lw_gd := z_m7 (List.mem_of_getElem? (i := 96) rfl) rfl
theorem se_9_years : Cond.selects y_9_years.cls y_9_years y_9_years ∈ lw_gd := z_m7 (List.mem_of_getElem? (i := 97) rfl) rfl
theorem mw_8_undo : z_MW y_8_undo M_8_undo 0 := ⟨z_m1 (List.mem_of_getElem? (i := 1) rfl) rfl, z_m4 (List.mem_of_getElem? (i := 86) rfl) rfl, by decide, by decide, by decide +kernel⟩
theorem ml_L_63 : Cond.methodLink R_law 63 y_8_undo ∈ lw_gd := z_m4 (List.mem_of_getElem? (i := 83) rfl) rfl
theorem im_8_undo : Cond.instanceMethod y_8_undo ∈ lw_gd := z_m4 (List.mem_of_getElem? (i := 84) rfl) rfl
theorem se_8_undo : Cond.selects y_8_undo.cls y_8_undo y_8_undo ∈ lw_gd := z_m4 (List.mem_of_getElem? (i := 85) rfl) rfl
theorem mw_9_undo : z_MW y_9_undo M_9_undo 0 := ⟨z_m1 (List.mem_of_getElem? (i := 10) rfl) rfl, z_m7 (List.mem_of_getElem? (i := 129) rfl) rfl, by decide, by decide, by decide +kernel⟩
theorem ml_L_67 : Cond.methodLink R_law 67 y_9_undo ∈ lw_gd := z_m7 (List.mem_of_getElem? (i := 126) rfl) rfl
theorem im_9_undo : Cond.instanceMethod y_9_undo ∈ lw_gd := z_m7 (List.mem_of_getElem? (i := 127) rfl) rfl
theorem se_9_undo : Cond.selects y_9_undo.cls y_9_undo y_9_undo ∈ lw_gd := z_m7 (List.mem_of_getElem? (i := 128) rfl) rfl
theorem mw_8_heir : z_MW y_8_heir M_8_heir 1 := ⟨z_m1 (List.mem_of_getElem? (i := 1) rfl) rfl, z_m4 (List.mem_of_getElem? (i := 94) rfl) rfl, by decide, by decide, by decide +kernel⟩
theorem ml_L_68 : Cond.methodLink R_law 68 y_8_heir ∈ lw_gd := z_m4 (List.mem_of_getElem? (i := 91) rfl) rfl
theorem im_8_heir : Cond.instanceMethod y_8_heir ∈ lw_gd := z_m4 (List.mem_of_getElem? (i := 92) rfl) rfl
theorem se_8_heir : Cond.selects y_8_heir.cls y_8_heir y_8_heir ∈ lw_gd := z_m4 (List.mem_of_getElem? (i := 93) rfl) rfl
theorem mw_9_heir : z_MW y_9_heir M_9_heir 1 := ⟨z_m1 (List.mem_of_getElem? (i := 10) rfl) rfl, z_m7 (List.mem_of_getElem? (i := 133) rfl) rfl, by decide, by decide, by decide +kernel⟩
theorem ml_L_71 : Cond.methodLink R_law 71 y_9_heir ∈ lw_gd := z_m7 (List.mem_of_getElem? (i := 130) rfl) rfl
theorem im_9_heir : Cond.instanceMethod y_9_heir ∈ lw_gd := z_m7 (List.mem_of_getElem? (i := 131) rfl) rfl
theorem se_9_heir : Cond.selects y_9_heir.cls y_9_heir y_9_heir ∈ lw_gd := z_m7 (List.mem_of_getElem? (i := 132) rfl) rfl
theorem mw_8_gain : z_MW y_8_gain M_8_gain 2 := ⟨z_m1 (List.mem_of_getElem? (i := 1) rfl) rfl, z_m4 (List.mem_of_getElem? (i := 107) rfl) rfl, by decide, by decide, by decide +kernel⟩
theorem ml_L_72 : Cond.methodLink R_law 72 y_8_gain ∈ lw_gd := z_m4 (List.mem_of_getElem? (i := 104) rfl) rfl
theorem im_8_gain : Cond.instanceMethod y_8_gain ∈ lw_gd := z_m4 (List.mem_of_getElem? (i := 105) rfl) rfl
theorem se_8_gain : Cond.selects y_8_gain.cls y_8_gain y_8_gain ∈ lw_gd := z_m4 (List.mem_of_getElem? (i := 106) rfl) rfl
theorem mw_9_gain : z_MW y_9_gain M_9_gain 2 := ⟨z_m1 (List.mem_of_getElem? (i := 10) rfl) rfl, z_m7 (List.mem_of_getElem? (i := 145) rfl) rfl, by decide, by decide, by decide +kernel⟩
theorem ml_L_75 : Cond.methodLink R_law 75 y_9_gain ∈ lw_gd := z_m7 (List.mem_of_getElem? (i := 142) rfl) rfl
theorem im_9_gain : Cond.instanceMethod y_9_gain ∈ lw_gd := z_m7 (List.mem_of_getElem? (i := 143) rfl) rfl
theorem se_9_gain : Cond.selects y_9_gain.cls y_9_gain y_9_gain ∈ lw_gd := z_m7 (List.mem_of_getElem? (i := 144) rfl) rfl
theorem mw_8_best : z_MW y_8_best M_8_best 3 := ⟨z_m1 (List.mem_of_getElem? (i := 1) rfl) rfl, z_m4 (List.mem_of_getElem? (i := 120) rfl) rfl, by decide, by decide, by decide +kernel⟩
theorem ml_L_76 : Cond.methodLink R_law 76 y_8_best ∈ lw_gd := z_m4 (List.mem_of_getElem? (i := 117) rfl) rfl
theorem im_8_best : Cond.instanceMethod y_8_best ∈ lw_gd := z_m4 (List.mem_of_getElem? (i := 118) rfl) rfl
theorem se_8_best : Cond.selects y_8_best.cls y_8_best y_8_best ∈ lw_gd := z_m4 (List.mem_of_getElem? (i := 119) rfl) rfl
theorem mw_9_best : z_MW y_9_best M_9_best 3 := ⟨z_m1 (List.mem_of_getElem? (i := 10) rfl) rfl, z_m7 (List.mem_of_getElem? (i := 153) rfl) rfl, by decide, by decide, by decide +kernel⟩
theorem ml_L_80 : Cond.methodLink R_law 80 y_9_best ∈ lw_gd := z_m7 (List.mem_of_getElem? (i := 150) rfl) rfl
theorem im_9_best : Cond.instanceMethod y_9_best ∈ lw_gd := z_m7 (List.mem_of_getElem? (i := 151) rfl) rfl
theorem se_9_best : Cond.selects y_9_best.cls y_9_best y_9_best ∈ lw_gd := z_m7 (List.mem_of_getElem? (i := 152) rfl) rfl
theorem mw_8_loss : z_MW y_8_loss M_8_loss 2 := ⟨z_m1 (List.mem_of_getElem? (i := 1) rfl) rfl, z_m4 (List.mem_of_getElem? (i := 124) rfl) rfl, by decide, by decide, by decide +kernel⟩
theorem ml_L_81 : Cond.methodLink R_law 81 y_8_loss ∈ lw_gd := z_m4 (List.mem_of_getElem? (i := 121) rfl) rfl
theorem im_8_loss : Cond.instanceMethod y_8_loss ∈ lw_gd := z_m4 (List.mem_of_getElem? (i := 122) rfl) rfl
theorem se_8_loss : Cond.selects y_8_loss.cls y_8_loss y_8_loss ∈ lw_gd := z_m4 (List.mem_of_getElem? (i := 123) rfl) rfl
theorem mw_9_loss : z_MW y_9_loss M_9_loss 2 := ⟨z_m1 (List.mem_of_getElem? (i := 10) rfl) rfl, z_m7 (List.mem_of_getElem? (i := 164) rfl) rfl, by decide, by decide, by decide +kernel⟩
theorem ml_L_84 : Cond.methodLink R_law 84 y_9_loss ∈ lw_gd := z_m7 (List.mem_of_getElem? (i := 161) rfl) rfl
theorem im_9_loss : Cond.instanceMethod y_9_loss ∈ lw_gd := z_m7 (List.mem_of_getElem? (i := 162) rfl) rfl
theorem se_9_loss : Cond.selects y_9_loss.cls y_9_loss y_9_loss ∈ lw_gd := z_m7 (List.mem_of_getElem? (i := 163) rfl) rfl
theorem mw_8_race : z_MW y_8_race M_8_race 1 := ⟨z_m1 (List.mem_of_getElem? (i := 1) rfl) rfl, z_m4 (List.mem_of_getElem? (i := 103) rfl) rfl, by decide, by decide, by decide +kernel⟩
theorem ml_L_85 : Cond.methodLink R_law 85 y_8_race ∈ lw_gd := z_m4 (List.mem_of_getElem? (i := 100) rfl) rfl
theorem im_8_race : Cond.instanceMethod y_8_race ∈ lw_gd := z_m4 (List.mem_of_getElem? (i := 101) rfl) rfl
theorem se_8_race : Cond.selects y_8_race.cls y_8_race y_8_race ∈ lw_gd := z_m4 (List.mem_of_getElem? (i := 102) rfl) rfl
theorem mw_9_race : z_MW y_9_race M_9_race 1 := ⟨z_m1 (List.mem_of_getElem? (i := 10) rfl) rfl, z_m7 (List.mem_of_getElem? (i := 141) rfl) rfl, by decide, by decide, by decide +kernel⟩
theorem ml_L_88 : Cond.methodLink R_law 88 y_9_race ∈ lw_gd := z_m7 (List.mem_of_getElem? (i := 138) rfl) rfl
theorem im_9_race : Cond.instanceMethod y_9_race ∈ lw_gd := z_m7 (List.mem_of_getElem? (i := 139) rfl) rfl
theorem se_9_race : Cond.selects y_9_race.cls y_9_race y_9_race ∈ lw_gd := z_m7 (List.mem_of_getElem? (i := 140) rfl) rfl
theorem mw_8_duel : z_MW y_8_duel M_8_duel 5 := ⟨z_m1 (List.mem_of_getElem? (i := 1) rfl) rfl, z_m4 (List.mem_of_getElem? (i := 133) rfl) rfl, by decide, by decide, by decide +kernel⟩
theorem ml_L_89 : Cond.methodLink R_law 89 y_8_duel ∈ lw_gd := z_m4 (List.mem_of_getElem? (i := 130) rfl) rfl
theorem im_8_duel : Cond.instanceMethod y_8_duel ∈ lw_gd := z_m4 (List.mem_of_getElem? (i := 131) rfl) rfl
theorem se_8_duel : Cond.selects y_8_duel.cls y_8_duel y_8_duel ∈ lw_gd := z_m4 (List.mem_of_getElem? (i := 132) rfl) rfl
theorem mw_9_duel : z_MW y_9_duel M_9_duel 5 := ⟨z_m1 (List.mem_of_getElem? (i := 10) rfl) rfl, z_m7 (List.mem_of_getElem? (i := 173) rfl) rfl, by decide, by decide, by decide +kernel⟩
theorem ml_L_92 : Cond.methodLink R_law 92 y_9_duel ∈ lw_gd := z_m7 (List.mem_of_getElem? (i := 170) rfl) rfl
theorem im_9_duel : Cond.instanceMethod y_9_duel ∈ lw_gd := z_m7 (List.mem_of_getElem? (i := 171) rfl) rfl
theorem se_9_duel : Cond.selects y_9_duel.cls y_9_duel y_9_duel ∈ lw_gd := z_m7 (List.mem_of_getElem? (i := 172) rfl) rfl
theorem mw_8_rest : z_MW y_8_rest M_8_rest 3 := ⟨z_m1 (List.mem_of_getElem? (i := 1) rfl) rfl, z_m4 (List.mem_of_getElem? (i := 145) rfl) rfl, by decide, by decide, by decide +kernel⟩
theorem ml_L_93 : Cond.methodLink R_law 93 y_8_rest ∈ lw_gd := z_m4 (List.mem_of_getElem? (i := 142) rfl) rfl
theorem im_8_rest : Cond.instanceMethod y_8_rest ∈ lw_gd := z_m4 (List.mem_of_getElem? (i := 143) rfl) rfl
theorem se_8_rest : Cond.selects y_8_rest.cls y_8_rest y_8_rest ∈ lw_gd := z_m4 (List.mem_of_getElem? (i := 144) rfl) rfl
theorem mw_9_rest : z_MW y_9_rest M_9_rest 3 := ⟨z_m1 (List.mem_of_getElem? (i := 10) rfl) rfl, z_m7 (List.mem_of_getElem? (i := 185) rfl) rfl, by decide, by decide, by decide +kernel⟩
theorem ml_L_96 : Cond.methodLink R_law 96 y_9_rest ∈ lw_gd := z_m7 (List.mem_of_getElem? (i := 182) rfl) rfl
theorem im_9_rest : Cond.instanceMethod y_9_rest ∈ lw_gd := z_m7 (List.mem_of_getElem? (i := 183) rfl) rfl
theorem se_9_rest : Cond.selects y_9_rest.cls y_9_rest y_9_rest ∈ lw_gd := z_m7 (List.mem_of_getElem? (i := 184) rfl) rfl
theorem mw_8_fill : z_MW y_8_fill M_8_fill 1 := ⟨z_m1 (List.mem_of_getElem? (i := 1) rfl) rfl, z_m4 (List.mem_of_getElem? (i := 149) rfl) rfl, by decide, by decide, by decide +kernel⟩
theorem ml_L_97 : Cond.methodLink R_law 97 y_8_fill ∈ lw_gd := z_m4 (List.mem_of_getElem? (i := 146) rfl) rfl
theorem im_8_fill : Cond.instanceMethod y_8_fill ∈ lw_gd := z_m4 (List.mem_of_getElem? (i := 147) rfl) rfl
theorem se_8_fill : Cond.selects y_8_fill.cls y_8_fill y_8_fill ∈ lw_gd := z_m4 (List.mem_of_getElem? (i := 148) rfl) rfl
theorem mw_9_fill : z_MW y_9_fill M_9_fill 1 := ⟨z_m1 (List.mem_of_getElem? (i := 10) rfl) rfl, z_m7 (List.mem_of_getElem? (i := 189) rfl) rfl, by decide, by decide, by decide +kernel⟩
theorem ml_L_100 : Cond.methodLink R_law 100 y_9_fill ∈ lw_gd := z_m7 (List.mem_of_getElem? (i := 186) rfl) rfl
theorem im_9_fill : Cond.instanceMethod y_9_fill ∈ lw_gd := z_m7 (List.mem_of_getElem? (i := 187) rfl) rfl
theorem se_9_fill : Cond.selects y_9_fill.cls y_9_fill y_9_fill ∈ lw_gd := z_m7 (List.mem_of_getElem? (i := 188) rfl) rfl
theorem mw_8_richest : z_MW y_8_richest M_8_richest 1 := ⟨z_m1 (List.mem_of_getElem? (i := 1) rfl) rfl, z_m4 (List.mem_of_getElem? (i := 169) rfl) rfl, by decide, by decide, by decide +kernel⟩
theorem ml_L_101 : Cond.methodLink R_law 101 y_8_richest ∈ lw_gd := z_m4 (List.mem_of_getElem? (i := 166) rfl) rfl
theorem im_8_richest : Cond.instanceMethod y_8_richest ∈ lw_gd := z_m4 (List.mem_of_getElem? (i := 167) rfl) rfl
theorem se_8_richest : Cond.selects y_8_richest.cls y_8_richest y_8_richest ∈ lw_gd := z_m4 (List.mem_of_getElem? (i := 168) rfl) rfl
theorem mw_9_richest : z_MW y_9_richest M_9_richest 1 := ⟨z_m1 (List.mem_of_getElem? (i := 10) rfl) rfl, z_m7 (List.mem_of_getElem? (i := 209) rfl) rfl, by decide, by decide, by decide +kernel⟩
theorem ml_L_104 : Cond.methodLink R_law 104 y_9_richest ∈ lw_gd := z_m7 (List.mem_of_getElem? (i := 206) rfl) rfl
theorem im_9_richest : Cond.instanceMethod y_9_richest ∈ lw_gd := z_m7 (List.mem_of_getElem? (i := 207) rfl) rfl
theorem se_9_richest : Cond.selects y_9_richest.cls y_9_richest y_9_richest ∈ lw_gd := z_m7 (List.mem_of_getElem? (i := 208) rfl) rfl
theorem mw_8_eldest : z_MW y_8_eldest M_8_eldest 1 := ⟨z_m1 (List.mem_of_getElem? (i := 1) rfl) rfl, z_m4 (List.mem_of_getElem? (i := 173) rfl) rfl, by decide, by decide, by decide +kernel⟩
theorem ml_L_105 : Cond.methodLink R_law 105 y_8_eldest ∈ lw_gd := z_m4 (List.mem_of_getElem? (i := 170) rfl) rfl
theorem im_8_eldest : Cond.instanceMethod y_8_eldest ∈ lw_gd := z_m4 (List.mem_of_getElem? (i := 171) rfl) rfl
theorem se_8_eldest : Cond.selects y_8_eldest.cls y_8_eldest y_8_eldest ∈ lw_gd := z_m4 (List.mem_of_getElem? (i := 172) rfl) rfl
theorem mw_9_eldest : z_MW y_9_eldest M_9_eldest 1 := ⟨z_m1 (List.mem_of_getElem? (i := 10) rfl) rfl, z_m7 (List.mem_of_getElem? (i := 213) rfl) rfl, by decide, by decide, by decide +kernel⟩
theorem ml_L_108 : Cond.methodLink R_law 108 y_9_eldest ∈ lw_gd := z_m7 (List.mem_of_getElem? (i := 210) rfl) rfl
theorem im_9_eldest : Cond.instanceMethod y_9_eldest ∈ lw_gd := z_m7 (List.mem_of_getElem? (i := 211) rfl) rfl
theorem se_9_eldest : Cond.selects y_9_eldest.cls y_9_eldest y_9_eldest ∈ lw_gd := z_m7 (List.mem_of_getElem? (i := 212) rfl) rfl
theorem mw_8_agents : z_MW y_8_agents M_8_agents 1 := ⟨z_m1 (List.mem_of_getElem? (i := 1) rfl) rfl, z_m4 (List.mem_of_getElem? (i := 165) rfl) rfl, by decide, by decide, by decide +kernel⟩
theorem ml_L_109 : Cond.methodLink R_law 109 y_8_agents ∈ lw_gd := z_m4 (List.mem_of_getElem? (i := 162) rfl) rfl
theorem im_8_agents : Cond.instanceMethod y_8_agents ∈ lw_gd := z_m4 (List.mem_of_getElem? (i := 163) rfl) rfl
theorem se_8_agents : Cond.selects y_8_agents.cls y_8_agents y_8_agents ∈ lw_gd := z_m4 (List.mem_of_getElem? (i := 164) rfl) rfl
theorem mw_9_agents : z_MW y_9_agents M_9_agents 1 := ⟨z_m1 (List.mem_of_getElem? (i := 10) rfl) rfl, z_m7 (List.mem_of_getElem? (i := 205) rfl) rfl, by decide, by decide, by decide +kernel⟩
theorem ml_L_112 : Cond.methodLink R_law 112 y_9_agents ∈ lw_gd := z_m7 (List.mem_of_getElem? (i := 202) rfl) rfl
theorem im_9_agents : Cond.instanceMethod y_9_agents ∈ lw_gd := z_m7 (List.mem_of_getElem? (i := 203) rfl) rfl
theorem se_9_agents : Cond.selects y_9_agents.cls y_9_agents y_9_agents ∈ lw_gd := z_m7 (List.mem_of_getElem? (i := 204) rfl) rfl
theorem mw_8_lords : z_MW y_8_lords M_8_lords 1 := ⟨z_m1 (List.mem_of_getElem? (i := 1) rfl) rfl, z_m4 (List.mem_of_getElem? (i := 177) rfl) rfl, by decide, by decide, by decide +kernel⟩
theorem ml_L_113 : Cond.methodLink R_law 113 y_8_lords ∈ lw_gd := z_m4 (List.mem_of_getElem? (i := 174) rfl) rfl
theorem im_8_lords : Cond.instanceMethod y_8_lords ∈ lw_gd := z_m4 (List.mem_of_getElem? (i := 175) rfl) rfl
theorem se_8_lords : Cond.selects y_8_lords.cls y_8_lords y_8_lords ∈ lw_gd := z_m4 (List.mem_of_getElem? (i := 176) rfl) rfl
theorem mw_9_lords : z_MW y_9_lords M_9_lords 1 := ⟨z_m1 (List.mem_of_getElem? (i := 10) rfl) rfl, z_m7 (List.mem_of_getElem? (i := 217) rfl) rfl, by decide, by decide, by decide +kernel⟩
theorem ml_L_116 : Cond.methodLink R_law 116 y_9_lords ∈ lw_gd := z_m7 (List.mem_of_getElem? (i := 214) rfl) rfl
theorem im_9_lords : Cond.instanceMethod y_9_lords ∈ lw_gd := z_m7 (List.mem_of_getElem? (i := 215) rfl) rfl
theorem se_9_lords : Cond.selects y_9_lords.cls y_9_lords y_9_lords ∈ lw_gd := z_m7 (List.mem_of_getElem? (i := 216) rfl) rfl
theorem mw_8_bound : z_MW y_8_bound M_8_bound 1 := ⟨z_m1 (List.mem_of_getElem? (i := 1) rfl) rfl, z_m4 (List.mem_of_getElem? (i := 194) rfl) rfl, by decide, by decide, by decide +kernel⟩
theorem ml_L_117 : Cond.methodLink R_law 117 y_8_bound ∈ lw_gd := z_m4 (List.mem_of_getElem? (i := 191) rfl) rfl
theorem im_8_bound : Cond.instanceMethod y_8_bound ∈ lw_gd := z_m4 (List.mem_of_getElem? (i := 192) rfl) rfl
theorem se_8_bound : Cond.selects y_8_bound.cls y_8_bound y_8_bound ∈ lw_gd := z_m4 (List.mem_of_getElem? (i := 193) rfl) rfl
theorem mw_9_bound : z_MW y_9_bound M_9_bound 1 := ⟨z_m1 (List.mem_of_getElem? (i := 10) rfl) rfl, z_m7 (List.mem_of_getElem? (i := 237) rfl) rfl, by decide, by decide, by decide +kernel⟩
theorem ml_L_120 : Cond.methodLink R_law 120 y_9_bound ∈ lw_gd := z_m7 (List.mem_of_getElem? (i := 234) rfl) rfl
theorem im_9_bound : Cond.instanceMethod y_9_bound ∈ lw_gd := z_m7 (List.mem_of_getElem? (i := 235) rfl) rfl
theorem se_9_bound : Cond.selects y_9_bound.cls y_9_bound y_9_bound ∈ lw_gd := z_m7 (List.mem_of_getElem? (i := 236) rfl) rfl
theorem mw_8_idle : z_MW y_8_idle M_8_idle 0 := ⟨z_m1 (List.mem_of_getElem? (i := 1) rfl) rfl, z_m4 (List.mem_of_getElem? (i := 198) rfl) rfl, by decide, by decide, by decide +kernel⟩
theorem ml_L_121 : Cond.methodLink R_law 121 y_8_idle ∈ lw_gd := z_m4 (List.mem_of_getElem? (i := 195) rfl) rfl
theorem im_8_idle : Cond.instanceMethod y_8_idle ∈ lw_gd := z_m4 (List.mem_of_getElem? (i := 196) rfl) rfl
theorem se_8_idle : Cond.selects y_8_idle.cls y_8_idle y_8_idle ∈ lw_gd := z_m4 (List.mem_of_getElem? (i := 197) rfl) rfl
theorem mw_9_idle : z_MW y_9_idle M_9_idle 0 := ⟨z_m1 (List.mem_of_getElem? (i := 10) rfl) rfl, z_m8 (List.mem_of_getElem? (i := 1) rfl) rfl, by decide, by decide, by decide +kernel⟩
theorem ml_L_124 : Cond.methodLink R_law 124 y_9_idle ∈ lw_gd := z_m7 (List.mem_of_getElem? (i := 238) rfl) rfl
theorem im_9_idle : Cond.instanceMethod y_9_idle ∈ lw_gd := z_m7 (List.mem_of_getElem? (i := 239) rfl) rfl
theorem se_9_idle : Cond.selects y_9_idle.cls y_9_idle y_9_idle ∈ lw_gd := z_m8 (List.mem_of_getElem? (i := 0) rfl) rfl
theorem mw_8_share : z_MW y_8_share M_8_share 1 := ⟨z_m1 (List.mem_of_getElem? (i := 1) rfl) rfl, z_m4 (List.mem_of_getElem? (i := 202) rfl) rfl, by decide, by decide, by decide +kernel⟩
theorem ml_L_125 : Cond.methodLink R_law 125 y_8_share ∈ lw_gd := z_m4 (List.mem_of_getElem? (i := 199) rfl) rfl
theorem im_8_share : Cond.instanceMethod y_8_share ∈ lw_gd := z_m4 (List.mem_of_getElem? (i := 200) rfl) rfl
theorem se_8_share : Cond.selects y_8_share.cls y_8_share y_8_share ∈ lw_gd := z_m4 (List.mem_of_getElem? (i := 201) rfl) rfl
theorem mw_9_share : z_MW y_9_share M_9_share 1 := ⟨z_m1 (List.mem_of_getElem? (i := 10) rfl) rfl, z_m8 (List.mem_of_getElem? (i := 5) rfl) rfl, by decide, by decide, by decide +kernel⟩
theorem ml_L_128 : Cond.methodLink R_law 128 y_9_share ∈ lw_gd := z_m8 (List.mem_of_getElem? (i := 2) rfl) rfl
theorem im_9_share : Cond.instanceMethod y_9_share ∈ lw_gd := z_m8 (List.mem_of_getElem? (i := 3) rfl) rfl
theorem se_9_share : Cond.selects y_9_share.cls y_9_share y_9_share ∈ lw_gd := z_m8 (List.mem_of_getElem? (i := 4) rfl) rfl
theorem mw_8_lordIn : z_MW y_8_lordIn M_8_lordIn 2 := ⟨z_m1 (List.mem_of_getElem? (i := 1) rfl) rfl, z_m4 (List.mem_of_getElem? (i := 210) rfl) rfl, by decide, by decide, by decide +kernel⟩
theorem ml_L_129 : Cond.methodLink R_law 129 y_8_lordIn ∈ lw_gd := z_m4 (List.mem_of_getElem? (i := 207) rfl) rfl
theorem im_8_lordIn : Cond.instanceMethod y_8_lordIn ∈ lw_gd := z_m4 (List.mem_of_getElem? (i := 208) rfl) rfl
theorem se_8_lordIn : Cond.selects y_8_lordIn.cls y_8_lordIn y_8_lordIn ∈ lw_gd := z_m4 (List.mem_of_getElem? (i := 209) rfl) rfl
theorem mw_9_lordIn : z_MW y_9_lordIn M_9_lordIn 2 := ⟨z_m1 (List.mem_of_getElem? (i := 10) rfl) rfl, z_m8 (List.mem_of_getElem? (i := 13) rfl) rfl, by decide, by decide, by decide +kernel⟩
theorem ml_L_132 : Cond.methodLink R_law 132 y_9_lordIn ∈ lw_gd := z_m8 (List.mem_of_getElem? (i := 10) rfl) rfl
theorem im_9_lordIn : Cond.instanceMethod y_9_lordIn ∈ lw_gd := z_m8 (List.mem_of_getElem? (i := 11) rfl) rfl
theorem se_9_lordIn : Cond.selects y_9_lordIn.cls y_9_lordIn y_9_lordIn ∈ lw_gd := z_m8 (List.mem_of_getElem? (i := 12) rfl) rfl
theorem mw_8_then : z_MW y_8_then M_8_then 2 := ⟨z_m1 (List.mem_of_getElem? (i := 1) rfl) rfl, z_m4 (List.mem_of_getElem? (i := 218) rfl) rfl, by decide, by decide, by decide +kernel⟩
theorem ml_L_133 : Cond.methodLink R_law 133 y_8_then ∈ lw_gd := z_m4 (List.mem_of_getElem? (i := 215) rfl) rfl
theorem im_8_then : Cond.instanceMethod y_8_then ∈ lw_gd := z_m4 (List.mem_of_getElem? (i := 216) rfl) rfl
theorem se_8_then : Cond.selects y_8_then.cls y_8_then y_8_then ∈ lw_gd := z_m4 (List.mem_of_getElem? (i := 217) rfl) rfl
theorem mw_9_then : z_MW y_9_then M_9_then 2 := ⟨z_m1 (List.mem_of_getElem? (i := 10) rfl) rfl, z_m8 (List.mem_of_getElem? (i := 17) rfl) rfl, by decide, by decide, by decide +kernel⟩
theorem ml_L_136 : Cond.methodLink R_law 136 y_9_then ∈ lw_gd := z_m8 (List.mem_of_getElem? (i := 14) rfl) rfl
theorem im_9_then : Cond.instanceMethod y_9_then ∈ lw_gd := z_m8 (List.mem_of_getElem? (i := 15) rfl) rfl
theorem se_9_then : Cond.selects y_9_then.cls y_9_then y_9_then ∈ lw_gd := z_m8 (List.mem_of_getElem? (i := 16) rfl) rfl
theorem mw_8_gotIn : z_MW y_8_gotIn M_8_gotIn 2 := ⟨z_m1 (List.mem_of_getElem? (i := 1) rfl) rfl, z_m4 (List.mem_of_getElem? (i := 227) rfl) rfl, by decide, by decide, by decide +kernel⟩
theorem ml_L_137 : Cond.methodLink R_law 137 y_8_gotIn ∈ lw_gd := z_m4 (List.mem_of_getElem? (i := 224) rfl) rfl
theorem im_8_gotIn : Cond.instanceMethod y_8_gotIn ∈ lw_gd := z_m4 (List.mem_of_getElem? (i := 225) rfl) rfl
theorem se_8_gotIn : Cond.selects y_8_gotIn.cls y_8_gotIn y_8_gotIn ∈ lw_gd := z_m4 (List.mem_of_getElem? (i := 226) rfl) rfl
theorem mw_9_gotIn : z_MW y_9_gotIn M_9_gotIn 2 := ⟨z_m1 (List.mem_of_getElem? (i := 10) rfl) rfl, z_m8 (List.mem_of_getElem? (i := 21) rfl) rfl, by decide, by decide, by decide +kernel⟩
theorem ml_L_140 : Cond.methodLink R_law 140 y_9_gotIn ∈ lw_gd := z_m8 (List.mem_of_getElem? (i := 18) rfl) rfl
theorem im_9_gotIn : Cond.instanceMethod y_9_gotIn ∈ lw_gd := z_m8 (List.mem_of_getElem? (i := 19) rfl) rfl
theorem se_9_gotIn : Cond.selects y_9_gotIn.cls y_9_gotIn y_9_gotIn ∈ lw_gd := z_m8 (List.mem_of_getElem? (i := 20) rfl) rfl
theorem mw_8_year : z_MW y_8_year M_8_year 3 := ⟨z_m1 (List.mem_of_getElem? (i := 1) rfl) rfl, z_m4 (List.mem_of_getElem? (i := 231) rfl) rfl, by decide, by decide, by decide +kernel⟩
theorem ml_L_141 : Cond.methodLink R_law 141 y_8_year ∈ lw_gd := z_m4 (List.mem_of_getElem? (i := 228) rfl) rfl
theorem im_8_year : Cond.instanceMethod y_8_year ∈ lw_gd := z_m4 (List.mem_of_getElem? (i := 229) rfl) rfl
theorem se_8_year : Cond.selects y_8_year.cls y_8_year y_8_year ∈ lw_gd := z_m4 (List.mem_of_getElem? (i := 230) rfl) rfl
theorem mw_9_year : z_MW y_9_year M_9_year 3 := ⟨z_m1 (List.mem_of_getElem? (i := 10) rfl) rfl, z_m8 (List.mem_of_getElem? (i := 25) rfl) rfl, by decide, by decide, by decide +kernel⟩
theorem ml_L_144 : Cond.methodLink R_law 144 y_9_year ∈ lw_gd := z_m8 (List.mem_of_getElem? (i := 22) rfl) rfl
theorem im_9_year : Cond.instanceMethod y_9_year ∈ lw_gd := z_m8 (List.mem_of_getElem? (i := 23) rfl) rfl
theorem se_9_year : Cond.selects y_9_year.cls y_9_year y_9_year ∈ lw_gd := z_m8 (List.mem_of_getElem? (i := 24) rfl) rfl
theorem mw_8_tell : z_MW y_8_tell M_8_tell 2 := ⟨z_m1 (List.mem_of_getElem? (i := 1) rfl) rfl, z_m4 (List.mem_of_getElem? (i := 239) rfl) rfl, by decide, by decide, by decide +kernel⟩
theorem ml_L_145 : Cond.methodLink R_law 145 y_8_tell ∈ lw_gd := z_m4 (List.mem_of_getElem? (i := 236) rfl) rfl
theorem im_8_tell : Cond.instanceMethod y_8_tell ∈ lw_gd := z_m4 (List.mem_of_getElem? (i := 237) rfl) rfl
theorem se_8_tell : Cond.selects y_8_tell.cls y_8_tell y_8_tell ∈ lw_gd := z_m4 (List.mem_of_getElem? (i := 238) rfl) rfl
theorem mw_9_tell : z_MW y_9_tell M_9_tell 2 := ⟨z_m1 (List.mem_of_getElem? (i := 10) rfl) rfl, z_m8 (List.mem_of_getElem? (i := 29) rfl) rfl, by decide, by decide, by decide +kernel⟩
theorem ml_L_148 : Cond.methodLink R_law 148 y_9_tell ∈ lw_gd := z_m8 (List.mem_of_getElem? (i := 26) rfl) rfl
theorem im_9_tell : Cond.instanceMethod y_9_tell ∈ lw_gd := z_m8 (List.mem_of_getElem? (i := 27) rfl) rfl
theorem se_9_tell : Cond.selects y_9_tell.cls y_9_tell y_9_tell ∈ lw_gd := z_m8 (List.mem_of_getElem? (i := 28) rfl) rfl
theorem mw_8_forget : z_MW y_8_forget M_8_forget 0 := ⟨z_m1 (List.mem_of_getElem? (i := 1) rfl) rfl, z_m5 (List.mem_of_getElem? (i := 7) rfl) rfl, by decide, by decide, by decide +kernel⟩
theorem ml_L_149 : Cond.methodLink R_law 149 y_8_forget ∈ lw_gd := z_m5 (List.mem_of_getElem? (i := 4) rfl) rfl
theorem im_8_forget : Cond.instanceMethod y_8_forget ∈ lw_gd := z_m5 (List.mem_of_getElem? (i := 5) rfl) rfl
theorem se_8_forget : Cond.selects y_8_forget.cls y_8_forget y_8_forget ∈ lw_gd := z_m5 (List.mem_of_getElem? (i := 6) rfl) rfl
theorem mw_9_forget : z_MW y_9_forget M_9_forget 0 := ⟨z_m1 (List.mem_of_getElem? (i := 10) rfl) rfl, z_m8 (List.mem_of_getElem? (i := 33) rfl) rfl, by decide, by decide, by decide +kernel⟩
theorem ml_L_152 : Cond.methodLink R_law 152 y_9_forget ∈ lw_gd := z_m8 (List.mem_of_getElem? (i := 30) rfl) rfl
theorem im_9_forget : Cond.instanceMethod y_9_forget ∈ lw_gd := z_m8 (List.mem_of_getElem? (i := 31) rfl) rfl
theorem se_9_forget : Cond.selects y_9_forget.cls y_9_forget y_9_forget ∈ lw_gd := z_m8 (List.mem_of_getElem? (i := 32) rfl) rfl
theorem mw_8_orders : z_MW y_8_orders M_8_orders 1 := ⟨z_m1 (List.mem_of_getElem? (i := 1) rfl) rfl, z_m5 (List.mem_of_getElem? (i := 11) rfl) rfl, by decide, by decide, by decide +kernel⟩
theorem ml_L_153 : Cond.methodLink R_law 153 y_8_orders ∈ lw_gd := z_m5 (List.mem_of_getElem? (i := 8) rfl) rfl
theorem im_8_orders : Cond.instanceMethod y_8_orders ∈ lw_gd := z_m5 (List.mem_of_getElem? (i := 9) rfl) rfl
theorem se_8_orders : Cond.selects y_8_orders.cls y_8_orders y_8_orders ∈ lw_gd := z_m5 (List.mem_of_getElem? (i := 10) rfl) rfl
theorem mw_9_orders : z_MW y_9_orders M_9_orders 1 := ⟨z_m1 (List.mem_of_getElem? (i := 10) rfl) rfl, z_m8 (List.mem_of_getElem? (i := 37) rfl) rfl, by decide, by decide, by decide +kernel⟩
theorem ml_L_156 : Cond.methodLink R_law 156 y_9_orders ∈ lw_gd := z_m8 (List.mem_of_getElem? (i := 34) rfl) rfl
theorem im_9_orders : Cond.instanceMethod y_9_orders ∈ lw_gd := z_m8 (List.mem_of_getElem? (i := 35) rfl) rfl
theorem se_9_orders : Cond.selects y_9_orders.cls y_9_orders y_9_orders ∈ lw_gd := z_m8 (List.mem_of_getElem? (i := 36) rfl) rfl
theorem mw_8_first : z_MW y_8_first M_8_first 2 := ⟨z_m1 (List.mem_of_getElem? (i := 1) rfl) rfl, z_m5 (List.mem_of_getElem? (i := 41) rfl) rfl, by decide, by decide, by decide +kernel⟩
theorem ml_L_157 : Cond.methodLink R_law 157 y_8_first ∈ lw_gd := z_m5 (List.mem_of_getElem? (i := 38) rfl) rfl
theorem im_8_first : Cond.instanceMethod y_8_first ∈ lw_gd := z_m5 (List.mem_of_getElem? (i := 39) rfl) rfl
theorem se_8_first : Cond.selects y_8_first.cls y_8_first y_8_first ∈ lw_gd := z_m5 (List.mem_of_getElem? (i := 40) rfl) rfl
theorem mw_9_first : z_MW y_9_first M_9_first 2 := ⟨z_m1 (List.mem_of_getElem? (i := 10) rfl) rfl, z_m8 (List.mem_of_getElem? (i := 65) rfl) rfl, by decide, by decide, by decide +kernel⟩
theorem ml_L_160 : Cond.methodLink R_law 160 y_9_first ∈ lw_gd := z_m8 (List.mem_of_getElem? (i := 62) rfl) rfl
theorem im_9_first : Cond.instanceMethod y_9_first ∈ lw_gd := z_m8 (List.mem_of_getElem? (i := 63) rfl) rfl
theorem se_9_first : Cond.selects y_9_first.cls y_9_first y_9_first ∈ lw_gd := z_m8 (List.mem_of_getElem? (i := 64) rfl) rfl
theorem mw_8_last : z_MW y_8_last M_8_last 2 := ⟨z_m1 (List.mem_of_getElem? (i := 1) rfl) rfl, z_m5 (List.mem_of_getElem? (i := 54) rfl) rfl, by decide, by decide, by decide +kernel⟩
theorem ml_L_161 : Cond.methodLink R_law 161 y_8_last ∈ lw_gd := z_m5 (List.mem_of_getElem? (i := 51) rfl) rfl
theorem im_8_last : Cond.instanceMethod y_8_last ∈ lw_gd := z_m5 (List.mem_of_getElem? (i := 52) rfl) rfl
theorem se_8_last : Cond.selects y_8_last.cls y_8_last y_8_last ∈ lw_gd := z_m5 (List.mem_of_getElem? (i := 53) rfl) rfl
theorem mw_9_last : z_MW y_9_last M_9_last 2 := ⟨z_m1 (List.mem_of_getElem? (i := 10) rfl) rfl, z_m8 (List.mem_of_getElem? (i := 73) rfl) rfl, by decide, by decide, by decide +kernel⟩
theorem ml_L_164 : Cond.methodLink R_law 164 y_9_last ∈ lw_gd := z_m8 (List.mem_of_getElem? (i := 70) rfl) rfl
theorem im_9_last : Cond.instanceMethod y_9_last ∈ lw_gd := z_m8 (List.mem_of_getElem? (i := 71) rfl) rfl
theorem se_9_last : Cond.selects y_9_last.cls y_9_last y_9_last ∈ lw_gd := z_m8 (List.mem_of_getElem? (i := 72) rfl) rfl
theorem mw_8_placed : z_MW y_8_placed M_8_placed 3 := ⟨z_m1 (List.mem_of_getElem? (i := 1) rfl) rfl, z_m5 (List.mem_of_getElem? (i := 58) rfl) rfl, by decide, by decide, by decide +kernel⟩
theorem ml_L_165 : Cond.methodLink R_law 165 y_8_placed ∈ lw_gd := z_m5 (List.mem_of_getElem? (i := 55) rfl) rfl
theorem im_8_placed : Cond.instanceMethod y_8_placed ∈ lw_gd := z_m5 (List.mem_of_getElem? (i := 56) rfl) rfl
theorem se_8_placed : Cond.selects y_8_placed.cls y_8_placed y_8_placed ∈ lw_gd := z_m5 (List.mem_of_getElem? (i := 57) rfl) rfl
theorem mw_9_placed : z_MW y_9_placed M_9_placed 3 := ⟨z_m1 (List.mem_of_getElem? (i := 10) rfl) rfl, z_m8 (List.mem_of_getElem? (i := 77) rfl) rfl, by decide, by decide, by decide +kernel⟩
theorem ml_L_168 : Cond.methodLink R_law 168 y_9_placed ∈ lw_gd := z_m8 (List.mem_of_getElem? (i := 74) rfl) rfl
theorem im_9_placed : Cond.instanceMethod y_9_placed ∈ lw_gd := z_m8 (List.mem_of_getElem? (i := 75) rfl) rfl
theorem se_9_placed : Cond.selects y_9_placed.cls y_9_placed y_9_placed ∈ lw_gd := z_m8 (List.mem_of_getElem? (i := 76) rfl) rfl
theorem mw_8_before : z_MW y_8_before M_8_before 3 := ⟨z_m1 (List.mem_of_getElem? (i := 1) rfl) rfl, z_m5 (List.mem_of_getElem? (i := 62) rfl) rfl, by decide, by decide, by decide +kernel⟩
theorem ml_L_169 : Cond.methodLink R_law 169 y_8_before ∈ lw_gd := z_m5 (List.mem_of_getElem? (i := 59) rfl) rfl
theorem im_8_before : Cond.instanceMethod y_8_before ∈ lw_gd := z_m5 (List.mem_of_getElem? (i := 60) rfl) rfl
theorem se_8_before : Cond.selects y_8_before.cls y_8_before y_8_before ∈ lw_gd := z_m5 (List.mem_of_getElem? (i := 61) rfl) rfl
theorem mw_9_before : z_MW y_9_before M_9_before 3 := ⟨z_m1 (List.mem_of_getElem? (i := 10) rfl) rfl, z_m8 (List.mem_of_getElem? (i := 81) rfl) rfl, by decide, by decide, by decide +kernel⟩
theorem ml_L_172 : Cond.methodLink R_law 172 y_9_before ∈ lw_gd := z_m8 (List.mem_of_getElem? (i := 78) rfl) rfl
theorem im_9_before : Cond.instanceMethod y_9_before ∈ lw_gd := z_m8 (List.mem_of_getElem? (i := 79) rfl) rfl
theorem se_9_before : Cond.selects y_9_before.cls y_9_before y_9_before ∈ lw_gd := z_m8 (List.mem_of_getElem? (i := 80) rfl) rfl
theorem mw_8_sum : z_MW y_8_sum M_8_sum 2 := ⟨z_m1 (List.mem_of_getElem? (i := 1) rfl) rfl, z_m5 (List.mem_of_getElem? (i := 70) rfl) rfl, by decide, by decide, by decide +kernel⟩
theorem ml_L_173 : Cond.methodLink R_law 173 y_8_sum ∈ lw_gd := z_m5 (List.mem_of_getElem? (i := 67) rfl) rfl
theorem im_8_sum : Cond.instanceMethod y_8_sum ∈ lw_gd := z_m5 (List.mem_of_getElem? (i := 68) rfl) rfl
theorem se_8_sum : Cond.selects y_8_sum.cls y_8_sum y_8_sum ∈ lw_gd := z_m5 (List.mem_of_getElem? (i := 69) rfl) rfl
theorem mw_9_sum : z_MW y_9_sum M_9_sum 2 := ⟨z_m1 (List.mem_of_getElem? (i := 10) rfl) rfl, z_m8 (List.mem_of_getElem? (i := 89) rfl) rfl, by decide, by decide, by decide +kernel⟩
theorem ml_L_176 : Cond.methodLink R_law 176 y_9_sum ∈ lw_gd := z_m8 (List.mem_of_getElem? (i := 86) rfl) rfl
theorem im_9_sum : Cond.instanceMethod y_9_sum ∈ lw_gd := z_m8 (List.mem_of_getElem? (i := 87) rfl) rfl
theorem se_9_sum : Cond.selects y_9_sum.cls y_9_sum y_9_sum ∈ lw_gd := z_m8 (List.mem_of_getElem? (i := 88) rfl) rfl
theorem mw_8_ahead : z_MW y_8_ahead M_8_ahead 2 := ⟨z_m1 (List.mem_of_getElem? (i := 1) rfl) rfl, z_m5 (List.mem_of_getElem? (i := 74) rfl) rfl, by decide, by decide, by decide +kernel⟩
theorem ml_L_177 : Cond.methodLink R_law 177 y_8_ahead ∈ lw_gd := z_m5 (List.mem_of_getElem? (i := 71) rfl) rfl
theorem im_8_ahead : Cond.instanceMethod y_8_ahead ∈ lw_gd := z_m5 (List.mem_of_getElem? (i := 72) rfl) rfl
theorem se_8_ahead : Cond.selects y_8_ahead.cls y_8_ahead y_8_ahead ∈ lw_gd := z_m5 (List.mem_of_getElem? (i := 73) rfl) rfl
theorem mw_9_ahead : z_MW y_9_ahead M_9_ahead 2 := ⟨z_m1 (List.mem_of_getElem? (i := 10) rfl) rfl, z_m8 (List.mem_of_getElem? (i := 93) rfl) rfl, by decide, by decide, by decide +kernel⟩
theorem ml_L_180 : Cond.methodLink R_law 180 y_9_ahead ∈ lw_gd := z_m8 (List.mem_of_getElem? (i := 90) rfl) rfl
theorem im_9_ahead : Cond.instanceMethod y_9_ahead ∈ lw_gd := z_m8 (List.mem_of_getElem? (i := 91) rfl) rfl
theorem se_9_ahead : Cond.selects y_9_ahead.cls y_9_ahead y_9_ahead ∈ lw_gd := z_m8 (List.mem_of_getElem? (i := 92) rfl) rfl
theorem mw_8_foremost : z_MW y_8_foremost M_8_foremost 1 := ⟨z_m1 (List.mem_of_getElem? (i := 1) rfl) rfl, z_m5 (List.mem_of_getElem? (i := 78) rfl) rfl, by decide, by decide, by decide +kernel⟩
theorem ml_L_181 : Cond.methodLink R_law 181 y_8_foremost ∈ lw_gd := z_m5 (List.mem_of_getElem? (i := 75) rfl) rfl
theorem im_8_foremost : Cond.instanceMethod y_8_foremost ∈ lw_gd := z_m5 (List.mem_of_getElem? (i := 76) rfl) rfl
theorem se_8_foremost : Cond.selects y_8_foremost.cls y_8_foremost y_8_foremost ∈ lw_gd := z_m5 (List.mem_of_getElem? (i := 77) rfl) rfl
theorem mw_9_foremost : z_MW y_9_foremost M_9_foremost 1 := ⟨z_m1 (List.mem_of_getElem? (i := 10) rfl) rfl, z_m8 (List.mem_of_getElem? (i := 97) rfl) rfl, by decide, by decide, by decide +kernel⟩
theorem ml_L_184 : Cond.methodLink R_law 184 y_9_foremost ∈ lw_gd := z_m8 (List.mem_of_getElem? (i := 94) rfl) rfl
theorem im_9_foremost : Cond.instanceMethod y_9_foremost ∈ lw_gd := z_m8 (List.mem_of_getElem? (i := 95) rfl) rfl
theorem se_9_foremost : Cond.selects y_9_foremost.cls y_9_foremost y_9_foremost ∈ lw_gd := z_m8 (List.mem_of_getElem? (i := 96) rfl) rfl
theorem mw_8_ask : z_MW y_8_ask M_8_ask 1 := ⟨z_m1 (List.mem_of_getElem? (i := 1) rfl) rfl, z_m5 (List.mem_of_getElem? (i := 82) rfl) rfl, by decide, by decide, by decide +kernel⟩
theorem ml_L_185 : Cond.methodLink R_law 185 y_8_ask ∈ lw_gd := z_m5 (List.mem_of_getElem? (i := 79) rfl) rfl
theorem im_8_ask : Cond.instanceMethod y_8_ask ∈ lw_gd := z_m5 (List.mem_of_getElem? (i := 80) rfl) rfl
theorem se_8_ask : Cond.selects y_8_ask.cls y_8_ask y_8_ask ∈ lw_gd := z_m5 (List.mem_of_getElem? (i := 81) rfl) rfl
theorem mw_9_ask : z_MW y_9_ask M_9_ask 1 := ⟨z_m1 (List.mem_of_getElem? (i := 10) rfl) rfl, z_m8 (List.mem_of_getElem? (i := 101) rfl) rfl, by decide, by decide, by decide +kernel⟩
theorem ml_L_188 : Cond.methodLink R_law 188 y_9_ask ∈ lw_gd := z_m8 (List.mem_of_getElem? (i := 98) rfl) rfl
theorem im_9_ask : Cond.instanceMethod y_9_ask ∈ lw_gd := z_m8 (List.mem_of_getElem? (i := 99) rfl) rfl
theorem se_9_ask : Cond.selects y_9_ask.cls y_9_ask y_9_ask ∈ lw_gd := z_m8 (List.mem_of_getElem? (i := 100) rfl) rfl
theorem mw_8_order : z_MW y_8_order M_8_order 3 := ⟨z_m1 (List.mem_of_getElem? (i := 1) rfl) rfl, z_m5 (List.mem_of_getElem? (i := 86) rfl) rfl, by decide, by decide, by decide +kernel⟩
theorem ml_L_189 : Cond.methodLink R_law 189 y_8_order ∈ lw_gd := z_m5 (List.mem_of_getElem? (i := 83) rfl) rfl
theorem im_8_order : Cond.instanceMethod y_8_order ∈ lw_gd := z_m5 (List.mem_of_getElem? (i := 84) rfl) rfl
theorem se_8_order : Cond.selects y_8_order.cls y_8_order y_8_order ∈ lw_gd := z_m5 (List.mem_of_getElem? (i := 85) rfl) rfl
theorem mw_9_order : z_MW y_9_order M_9_order 3 := ⟨z_m1 (List.mem_of_getElem? (i := 10) rfl) rfl, z_m8 (List.mem_of_getElem? (i := 105) rfl) rfl, by decide, by decide, by decide +kernel⟩
theorem ml_L_192 : Cond.methodLink R_law 192 y_9_order ∈ lw_gd := z_m8 (List.mem_of_getElem? (i := 102) rfl) rfl
theorem im_9_order : Cond.instanceMethod y_9_order ∈ lw_gd := z_m8 (List.mem_of_getElem? (i := 103) rfl) rfl
theorem se_9_order : Cond.selects y_9_order.cls y_9_order y_9_order ∈ lw_gd := z_m8 (List.mem_of_getElem? (i := 104) rfl) rfl
theorem mw_8_hold : z_MW y_8_hold M_8_hold 1 := ⟨z_m1 (List.mem_of_getElem? (i := 1) rfl) rfl, z_m5 (List.mem_of_getElem? (i := 94) rfl) rfl, by decide, by decide, by decide +kernel⟩
theorem ml_L_193 : Cond.methodLink R_law 193 y_8_hold ∈ lw_gd := z_m5 (List.mem_of_getElem? (i := 91) rfl) rfl
theorem im_8_hold : Cond.instanceMethod y_8_hold ∈ lw_gd := z_m5 (List.mem_of_getElem? (i := 92) rfl) rfl
theorem se_8_hold : Cond.selects y_8_hold.cls y_8_hold y_8_hold ∈ lw_gd := z_m5 (List.mem_of_getElem? (i := 93) rfl) rfl
theorem mw_9_hold : z_MW y_9_hold M_9_hold 1 := ⟨z_m1 (List.mem_of_getElem? (i := 10) rfl) rfl, z_m8 (List.mem_of_getElem? (i := 109) rfl) rfl, by decide, by decide, by decide +kernel⟩
theorem ml_L_196 : Cond.methodLink R_law 196 y_9_hold ∈ lw_gd := z_m8 (List.mem_of_getElem? (i := 106) rfl) rfl
theorem im_9_hold : Cond.instanceMethod y_9_hold ∈ lw_gd := z_m8 (List.mem_of_getElem? (i := 107) rfl) rfl
theorem se_9_hold : Cond.selects y_9_hold.cls y_9_hold y_9_hold ∈ lw_gd := z_m8 (List.mem_of_getElem? (i := 108) rfl) rfl
theorem mw_8_restore : z_MW y_8_restore M_8_restore 1 := ⟨z_m1 (List.mem_of_getElem? (i := 1) rfl) rfl, z_m5 (List.mem_of_getElem? (i := 98) rfl) rfl, by decide, by decide, by decide +kernel⟩
theorem ml_L_197 : Cond.methodLink R_law 197 y_8_restore ∈ lw_gd := z_m5 (List.mem_of_getElem? (i := 95) rfl) rfl
theorem im_8_restore : Cond.instanceMethod y_8_restore ∈ lw_gd := z_m5 (List.mem_of_getElem? (i := 96) rfl) rfl
theorem se_8_restore : Cond.selects y_8_restore.cls y_8_restore y_8_restore ∈ lw_gd := z_m5 (List.mem_of_getElem? (i := 97) rfl) rfl
theorem mw_9_restore : z_MW y_9_restore M_9_restore 1 := ⟨z_m1 (List.mem_of_getElem? (i := 10) rfl) rfl, z_m8 (List.mem_of_getElem? (i := 113) rfl) rfl, by decide, by decide, by decide +kernel⟩
theorem ml_L_200 : Cond.methodLink R_law 200 y_9_restore ∈ lw_gd := z_m8 (List.mem_of_getElem? (i := 110) rfl) rfl
theorem im_9_restore : Cond.instanceMethod y_9_restore ∈ lw_gd := z_m8 (List.mem_of_getElem? (i := 111) rfl) rfl
theorem se_9_restore : Cond.selects y_9_restore.cls y_9_restore y_9_restore ∈ lw_gd := z_m8 (List.mem_of_getElem? (i := 112) rfl) rfl
theorem mw_8_count : z_MW y_8_count M_8_count 1 := ⟨z_m1 (List.mem_of_getElem? (i := 1) rfl) rfl, z_m5 (List.mem_of_getElem? (i := 102) rfl) rfl, by decide, by decide, by decide +kernel⟩
theorem ml_L_201 : Cond.methodLink R_law 201 y_8_count ∈ lw_gd := z_m5 (List.mem_of_getElem? (i := 99) rfl) rfl
theorem im_8_count : Cond.instanceMethod y_8_count ∈ lw_gd := z_m5 (List.mem_of_getElem? (i := 100) rfl) rfl
theorem se_8_count : Cond.selects y_8_count.cls y_8_count y_8_count ∈ lw_gd := z_m5 (List.mem_of_getElem? (i := 101) rfl) rfl
theorem mw_9_count : z_MW y_9_count M_9_count 1 := ⟨z_m1 (List.mem_of_getElem? (i := 10) rfl) rfl, z_m8 (List.mem_of_getElem? (i := 117) rfl) rfl, by decide, by decide, by decide +kernel⟩
theorem ml_L_204 : Cond.methodLink R_law 204 y_9_count ∈ lw_gd := z_m8 (List.mem_of_getElem? (i := 114) rfl) rfl
theorem im_9_count : Cond.instanceMethod y_9_count ∈ lw_gd := z_m8 (List.mem_of_getElem? (i := 115) rfl) rfl
theorem se_9_count : Cond.selects y_9_count.cls y_9_count y_9_count ∈ lw_gd := z_m8 (List.mem_of_getElem? (i := 116) rfl) rfl
theorem fitL_2_6 : z_fit room_1 322 17971 2 6 := ⟨by decide, by decide, by decide, by decide⟩
theorem fitL_1_2 : z_fit room_1 322 17971 1 2 := ⟨by decide, by decide, by decide, by decide⟩
theorem fitL_34_2 : z_fit room_1 322 17971 34 2 := ⟨by decide, by decide, by decide, by decide⟩
theorem fitL_8_2 : z_fit room_1 322 17971 8 2 := ⟨by decide, by decide, by decide, by decide⟩
theorem fitL_1_1 : z_fit room_1 322 17971 1 1 := ⟨by decide, by decide, by decide, by decide⟩
theorem fitL_5_3 : z_fit room_1 322 17971 5 3 := ⟨by decide, by decide, by decide, by decide⟩
theorem fitL_7_3 : z_fit room_1 322 17971 7 3 := ⟨by decide, by decide, by decide, by decide⟩
theorem fitL_6_3 : z_fit room_1 322 17971 6 3 := ⟨by decide, by decide, by decide, by decide⟩
theorem fitL_3_2 : z_fit room_1 322 17971 3 2 := ⟨by decide, by decide, by decide, by decide⟩
theorem fitL_4_2 : z_fit room_1 322 17971 4 2 := ⟨by decide, by decide, by decide, by decide⟩
theorem fitL_3_4 : z_fit room_1 322 17971 3 4 := ⟨by decide, by decide, by decide, by decide⟩
theorem fitL_7_2 : z_fit room_1 322 17971 7 2 := ⟨by decide, by decide, by decide, by decide⟩
theorem fitL_10_2 : z_fit room_1 322 17971 10 2 := ⟨by decide, by decide, by decide, by decide⟩
theorem fitL_3_1 : z_fit room_1 322 17971 3 1 := ⟨by decide, by decide, by decide, by decide⟩
theorem fitL_5_2 : z_fit room_1 322 17971 5 2 := ⟨by decide, by decide, by decide, by decide⟩
theorem fitL_8_3 : z_fit room_1 322 17971 8 3 := ⟨by decide, by decide, by decide, by decide⟩
theorem fitL_10_3 : z_fit room_1 322 17971 10 3 := ⟨by decide, by decide, by decide, by decide⟩
theorem fitL_8_8 : z_fit room_1 322 17971 8 8 := ⟨by decide, by decide, by decide, by decide⟩
theorem fitL_11_6 : z_fit room_1 322 17971 11 6 := ⟨by decide, by decide, by decide, by decide⟩
theorem fitL_8_4 : z_fit room_1 322 17971 8 4 := ⟨by decide, by decide, by decide, by decide⟩
theorem fitL_11_4 : z_fit room_1 322 17971 11 4 := ⟨by decide, by decide, by decide, by decide⟩
theorem fitL_5_4 : z_fit room_1 322 17971 5 4 := ⟨by decide, by decide, by decide, by decide⟩
theorem fitL_8_6 : z_fit room_1 322 17971 8 6 := ⟨by decide, by decide, by decide, by decide⟩
theorem fitL_11_7 : z_fit room_1 322 17971 11 7 := ⟨by decide, by decide, by decide, by decide⟩
theorem fitL_1_4 : z_fit room_1 322 17971 1 4 := ⟨by decide, by decide, by decide, by decide⟩
theorem fitL_2_4 : z_fit room_1 322 17971 2 4 := ⟨by decide, by decide, by decide, by decide⟩
theorem fitL_5_5 : z_fit room_1 322 17971 5 5 := ⟨by decide, by decide, by decide, by decide⟩
theorem fitL_4_5 : z_fit room_1 322 17971 4 5 := ⟨by decide, by decide, by decide, by decide⟩
theorem fitL_3_6 : z_fit room_1 322 17971 3 6 := ⟨by decide, by decide, by decide, by decide⟩
theorem fitL_4_3 : z_fit room_1 322 17971 4 3 := ⟨by decide, by decide, by decide, by decide⟩
theorem fitL_5_1 : z_fit room_1 322 17971 5 1 := ⟨by decide, by decide, by decide, by decide⟩
theorem fitL_3_3 : z_fit room_1 322 17971 3 3 := ⟨by decide, by decide, by decide, by decide⟩
theorem fitL_10_6 : z_fit room_1 322 17971 10 6 := ⟨by decide, by decide, by decide, by decide⟩
theorem fitL_2_3 : z_fit room_1 322 17971 2 3 := ⟨by decide, by decide, by decide, by decide⟩
theorem fitL_2_2 : z_fit room_1 322 17971 2 2 := ⟨by decide, by decide, by decide, by decide⟩
theorem fitL_4_4 : z_fit room_1 322 17971 4 4 := ⟨by decide, by decide, by decide, by decide⟩
theorem fitL_4_6 : z_fit room_1 322 17971 4 6 := ⟨by decide, by decide, by decide, by decide⟩
theorem fitL_5_6 : z_fit room_1 322 17971 5 6 := ⟨by decide, by decide, by decide, by decide⟩
theorem fitL_5_9 : z_fit room_1 322 17971 5 9 := ⟨by decide, by decide, by decide, by decide⟩
theorem fitL_4_9 : z_fit room_1 322 17971 4 9 := ⟨by decide, by decide, by decide, by decide⟩
theorem fitL_4_8 : z_fit room_1 322 17971 4 8 := ⟨by decide, by decide, by decide, by decide⟩
theorem fitL_6_2 : z_fit room_1 322 17971 6 2 := ⟨by decide, by decide, by decide, by decide⟩
theorem fitL_7_4 : z_fit room_1 322 17971 7 4 := ⟨by decide, by decide, by decide, by decide⟩
theorem d_law_18 : zD code 18 (.iload_n 3) 1 19 := ⟨by decide +kernel, rfl⟩
theorem d_law_19 : zD code 19 (.aload_n 0) 1 20 := ⟨by decide +kernel, rfl⟩
theorem d_law_20 : zD code 20 (.arraylength) 1 21 := ⟨by decide +kernel, rfl⟩
theorem d_law_21 : zD code 21 (.bipush 6) 2 23 := ⟨by decide +kernel, rfl⟩
theorem d_law_23 : zD code 23 (.isub) 1 24 := ⟨by decide +kernel, rfl⟩
theorem d_law_24 : zD code 24 (.if_icmp .gt 1578) 3 27 := ⟨by decide +kernel, rfl⟩
theorem d_law_27 : zD code 27 (.aload_n 0) 1 28 := ⟨by decide +kernel, rfl⟩
theorem d_law_28 : zD code 28 (.iload_n 3) 1 29 := ⟨by decide +kernel, rfl⟩
theorem d_law_29 : zD code 29 (.iaload) 1 30 := ⟨by decide +kernel, rfl⟩
theorem d_law_30 : zD code 30 (.bipush 63) 2 32 := ⟨by decide +kernel, rfl⟩
theorem d_law_32 : zD code 32 (.iand) 1 33 := ⟨by decide +kernel, rfl⟩
theorem d_law_33 : zD code 33 (.tableswitch 1563 0 45 #[199, 262, 285, 298, 311, 344, 377, 400, 423, 446, 505, 528, 541, 564, 597, 640, 673, 696, 759, 802, 825, 848, 871, 894, 917, 940, 953, 976, 1009, 1042, 1075, 1118, 1151, 1164, 1187, 1220, 1253, 1296, 1339, 1372, 1405, 1428, 1451, 1494, 1517, 1540]) 199 232 := ⟨by decide +kernel, rfl⟩
theorem d_law_232 : zD code 232 (.aload_n 1) 1 233 := ⟨by decide +kernel, rfl⟩
theorem d_law_233 : zD code 233 (.aload_n 0) 1 234 := ⟨by decide +kernel, rfl⟩
theorem d_law_234 : zD code 234 (.iload_n 3) 1 235 := ⟨by decide +kernel, rfl⟩
theorem d_law_235 : zD code 235 (.iconst 1) 1 236 := ⟨by decide +kernel, rfl⟩
theorem d_law_236 : zD code 236 (.iadd) 1 237 := ⟨by decide +kernel, rfl⟩
theorem d_law_237 : zD code 237 (.iaload) 1 238 := ⟨by decide +kernel, rfl⟩
theorem d_law_238 : zD code 238 (.aload_n 0) 1 239 := ⟨by decide +kernel, rfl⟩
theorem d_law_239 : zD code 239 (.iload_n 3) 1 240 := ⟨by decide +kernel, rfl⟩
theorem d_law_240 : zD code 240 (.iconst 2) 1 241 := ⟨by decide +kernel, rfl⟩
theorem d_law_241 : zD code 241 (.iadd) 1 242 := ⟨by decide +kernel, rfl⟩
theorem d_law_242 : zD code 242 (.iaload) 1 243 := ⟨by decide +kernel, rfl⟩
theorem d_law_243 : zD code 243 (.aload_n 0) 1 244 := ⟨by decide +kernel, rfl⟩
theorem d_law_244 : zD code 244 (.iload_n 3) 1 245 := ⟨by decide +kernel, rfl⟩
theorem d_law_245 : zD code 245 (.iconst 3) 1 246 := ⟨by decide +kernel, rfl⟩
theorem d_law_246 : zD code 246 (.iadd) 1 247 := ⟨by decide +kernel, rfl⟩
theorem d_law_247 : zD code 247 (.iaload) 1 248 := ⟨by decide +kernel, rfl⟩
theorem d_law_248 : zD code 248 (.aload_n 0) 1 249 := ⟨by decide +kernel, rfl⟩
theorem d_law_249 : zD code 249 (.iload_n 3) 1 250 := ⟨by decide +kernel, rfl⟩
theorem d_law_250 : zD code 250 (.iconst 4) 1 251 := ⟨by decide +kernel, rfl⟩
theorem d_law_251 : zD code 251 (.iadd) 1 252 := ⟨by decide +kernel, rfl⟩
theorem d_law_252 : zD code 252 (.iaload) 1 253 := ⟨by decide +kernel, rfl⟩
theorem d_law_253 : zD code 253 (.aload_n 0) 1 254 := ⟨by decide +kernel, rfl⟩
theorem d_law_254 : zD code 254 (.iload_n 3) 1 255 := ⟨by decide +kernel, rfl⟩
theorem d_law_255 : zD code 255 (.iconst 5) 1 256 := ⟨by decide +kernel, rfl⟩
theorem d_law_256 : zD code 256 (.iadd) 1 257 := ⟨by decide +kernel, rfl⟩
theorem d_law_257 : zD code 257 (.iaload) 1 258 := ⟨by decide +kernel, rfl⟩
theorem d_law_258 : zD code 258 (.invokevirtual 13) 3 261 := ⟨by decide +kernel, rfl⟩
theorem d_law_261 : zD code 261 (.aload_n 2) 1 262 := ⟨by decide +kernel, rfl⟩
theorem d_law_262 : zD code 262 (.aload_n 0) 1 263 := ⟨by decide +kernel, rfl⟩
theorem d_law_263 : zD code 263 (.iload_n 3) 1 264 := ⟨by decide +kernel, rfl⟩
theorem d_law_264 : zD code 264 (.iconst 1) 1 265 := ⟨by decide +kernel, rfl⟩
theorem d_law_265 : zD code 265 (.iadd) 1 266 := ⟨by decide +kernel, rfl⟩
theorem d_law_266 : zD code 266 (.iaload) 1 267 := ⟨by decide +kernel, rfl⟩
theorem d_law_267 : zD code 267 (.aload_n 0) 1 268 := ⟨by decide +kernel, rfl⟩
theorem d_law_268 : zD code 268 (.iload_n 3) 1 269 := ⟨by decide +kernel, rfl⟩
theorem d_law_269 : zD code 269 (.iconst 2) 1 270 := ⟨by decide +kernel, rfl⟩
theorem d_law_270 : zD code 270 (.iadd) 1 271 := ⟨by decide +kernel, rfl⟩
theorem d_law_271 : zD code 271 (.iaload) 1 272 := ⟨by decide +kernel, rfl⟩
theorem d_law_272 : zD code 272 (.aload_n 0) 1 273 := ⟨by decide +kernel, rfl⟩
theorem d_law_273 : zD code 273 (.iload_n 3) 1 274 := ⟨by decide +kernel, rfl⟩
theorem d_law_274 : zD code 274 (.iconst 3) 1 275 := ⟨by decide +kernel, rfl⟩
theorem d_law_275 : zD code 275 (.iadd) 1 276 := ⟨by decide +kernel, rfl⟩
theorem d_law_276 : zD code 276 (.iaload) 1 277 := ⟨by decide +kernel, rfl⟩
theorem d_law_277 : zD code 277 (.aload_n 0) 1 278 := ⟨by decide +kernel, rfl⟩
theorem d_law_278 : zD code 278 (.iload_n 3) 1 279 := ⟨by decide +kernel, rfl⟩
theorem d_law_279 : zD code 279 (.iconst 4) 1 280 := ⟨by decide +kernel, rfl⟩
theorem d_law_280 : zD code 280 (.iadd) 1 281 := ⟨by decide +kernel, rfl⟩
theorem d_law_281 : zD code 281 (.iaload) 1 282 := ⟨by decide +kernel, rfl⟩
theorem d_law_282 : zD code 282 (.aload_n 0) 1 283 := ⟨by decide +kernel, rfl⟩
theorem d_law_283 : zD code 283 (.iload_n 3) 1 284 := ⟨by decide +kernel, rfl⟩
theorem d_law_284 : zD code 284 (.iconst 5) 1 285 := ⟨by decide +kernel, rfl⟩
theorem d_law_285 : zD code 285 (.iadd) 1 286 := ⟨by decide +kernel, rfl⟩
theorem d_law_286 : zD code 286 (.iaload) 1 287 := ⟨by decide +kernel, rfl⟩
theorem d_law_287 : zD code 287 (.invokevirtual 17) 3 290 := ⟨by decide +kernel, rfl⟩
theorem d_law_290 : zD code 290 (.if_icmp .eq 1306) 3 293 := ⟨by decide +kernel, rfl⟩
theorem d_law_293 : zD code 293 (.iconst 0) 1 294 := ⟨by decide +kernel, rfl⟩
theorem d_law_294 : zD code 294 (.ireturn) 1 295 := ⟨by decide +kernel, rfl⟩
theorem d_law_295 : zD code 295 (.aload_n 1) 1 296 := ⟨by decide +kernel, rfl⟩
theorem d_law_296 : zD code 296 (.aload_n 0) 1 297 := ⟨by decide +kernel, rfl⟩
theorem d_law_297 : zD code 297 (.iload_n 3) 1 298 := ⟨by decide +kernel, rfl⟩
theorem d_law_298 : zD code 298 (.iconst 1) 1 299 := ⟨by decide +kernel, rfl⟩
theorem d_law_299 : zD code 299 (.iadd) 1 300 := ⟨by decide +kernel, rfl⟩
theorem d_law_300 : zD code 300 (.iaload) 1 301 := ⟨by decide +kernel, rfl⟩
theorem d_law_301 : zD code 301 (.invokevirtual 18) 3 304 := ⟨by decide +kernel, rfl⟩
theorem d_law_304 : zD code 304 (.aload_n 2) 1 305 := ⟨by decide +kernel, rfl⟩
theorem d_law_305 : zD code 305 (.aload_n 0) 1 306 := ⟨by decide +kernel, rfl⟩
theorem d_law_306 : zD code 306 (.iload_n 3) 1 307 := ⟨by decide +kernel, rfl⟩
theorem d_law_307 : zD code 307 (.iconst 1) 1 308 := ⟨by decide +kernel, rfl⟩
theorem d_law_308 : zD code 308 (.iadd) 1 309 := ⟨by decide +kernel, rfl⟩
theorem d_law_309 : zD code 309 (.iaload) 1 310 := ⟨by decide +kernel, rfl⟩
theorem d_law_310 : zD code 310 (.invokevirtual 22) 3 313 := ⟨by decide +kernel, rfl⟩
theorem d_law_313 : zD code 313 (.if_icmp .eq 1283) 3 316 := ⟨by decide +kernel, rfl⟩
theorem d_law_316 : zD code 316 (.iconst 0) 1 317 := ⟨by decide +kernel, rfl⟩
theorem d_law_317 : zD code 317 (.ireturn) 1 318 := ⟨by decide +kernel, rfl⟩
theorem d_law_318 : zD code 318 (.aload_n 1) 1 319 := ⟨by decide +kernel, rfl⟩
theorem d_law_319 : zD code 319 (.invokevirtual 23) 3 322 := ⟨by decide +kernel, rfl⟩
theorem d_law_322 : zD code 322 (.aload_n 2) 1 323 := ⟨by decide +kernel, rfl⟩
theorem d_law_323 : zD code 323 (.invokevirtual 27) 3 326 := ⟨by decide +kernel, rfl⟩
theorem d_law_326 : zD code 326 (.if_icmp .eq 1270) 3 329 := ⟨by decide +kernel, rfl⟩
theorem d_law_329 : zD code 329 (.iconst 0) 1 330 := ⟨by decide +kernel, rfl⟩
theorem d_law_330 : zD code 330 (.ireturn) 1 331 := ⟨by decide +kernel, rfl⟩
theorem d_law_331 : zD code 331 (.aload_n 1) 1 332 := ⟨by decide +kernel, rfl⟩
theorem d_law_332 : zD code 332 (.invokevirtual 28) 3 335 := ⟨by decide +kernel, rfl⟩
theorem d_law_335 : zD code 335 (.aload_n 2) 1 336 := ⟨by decide +kernel, rfl⟩
theorem d_law_336 : zD code 336 (.invokevirtual 31) 3 339 := ⟨by decide +kernel, rfl⟩
theorem d_law_339 : zD code 339 (.if_icmp .eq 1257) 3 342 := ⟨by decide +kernel, rfl⟩
theorem d_law_342 : zD code 342 (.iconst 0) 1 343 := ⟨by decide +kernel, rfl⟩
theorem d_law_343 : zD code 343 (.ireturn) 1 344 := ⟨by decide +kernel, rfl⟩
theorem d_law_344 : zD code 344 (.aload_n 1) 1 345 := ⟨by decide +kernel, rfl⟩
theorem d_law_345 : zD code 345 (.aload_n 0) 1 346 := ⟨by decide +kernel, rfl⟩
theorem d_law_346 : zD code 346 (.iload_n 3) 1 347 := ⟨by decide +kernel, rfl⟩
theorem d_law_347 : zD code 347 (.iconst 1) 1 348 := ⟨by decide +kernel, rfl⟩
theorem d_law_348 : zD code 348 (.iadd) 1 349 := ⟨by decide +kernel, rfl⟩
theorem d_law_349 : zD code 349 (.iaload) 1 350 := ⟨by decide +kernel, rfl⟩
theorem d_law_350 : zD code 350 (.aload_n 0) 1 351 := ⟨by decide +kernel, rfl⟩
theorem d_law_351 : zD code 351 (.iload_n 3) 1 352 := ⟨by decide +kernel, rfl⟩
theorem d_law_352 : zD code 352 (.iconst 2) 1 353 := ⟨by decide +kernel, rfl⟩
theorem d_law_353 : zD code 353 (.iadd) 1 354 := ⟨by decide +kernel, rfl⟩
theorem d_law_354 : zD code 354 (.iaload) 1 355 := ⟨by decide +kernel, rfl⟩
theorem d_law_355 : zD code 355 (.invokevirtual 32) 3 358 := ⟨by decide +kernel, rfl⟩
theorem d_law_358 : zD code 358 (.aload_n 2) 1 359 := ⟨by decide +kernel, rfl⟩
theorem d_law_359 : zD code 359 (.aload_n 0) 1 360 := ⟨by decide +kernel, rfl⟩
theorem d_law_360 : zD code 360 (.iload_n 3) 1 361 := ⟨by decide +kernel, rfl⟩
theorem d_law_361 : zD code 361 (.iconst 1) 1 362 := ⟨by decide +kernel, rfl⟩
theorem d_law_362 : zD code 362 (.iadd) 1 363 := ⟨by decide +kernel, rfl⟩
theorem d_law_363 : zD code 363 (.iaload) 1 364 := ⟨by decide +kernel, rfl⟩
theorem d_law_364 : zD code 364 (.aload_n 0) 1 365 := ⟨by decide +kernel, rfl⟩
theorem d_law_365 : zD code 365 (.iload_n 3) 1 366 := ⟨by decide +kernel, rfl⟩
theorem d_law_366 : zD code 366 (.iconst 2) 1 367 := ⟨by decide +kernel, rfl⟩
theorem d_law_367 : zD code 367 (.iadd) 1 368 := ⟨by decide +kernel, rfl⟩
theorem d_law_368 : zD code 368 (.iaload) 1 369 := ⟨by decide +kernel, rfl⟩
theorem d_law_369 : zD code 369 (.invokevirtual 36) 3 372 := ⟨by decide +kernel, rfl⟩
theorem d_law_372 : zD code 372 (.if_icmp .eq 1224) 3 375 := ⟨by decide +kernel, rfl⟩
theorem d_law_375 : zD code 375 (.iconst 0) 1 376 := ⟨by decide +kernel, rfl⟩
theorem d_law_376 : zD code 376 (.ireturn) 1 377 := ⟨by decide +kernel, rfl⟩
theorem d_law_377 : zD code 377 (.aload_n 1) 1 378 := ⟨by decide +kernel, rfl⟩
theorem d_law_378 : zD code 378 (.aload_n 0) 1 379 := ⟨by decide +kernel, rfl⟩
theorem d_law_379 : zD code 379 (.iload_n 3) 1 380 := ⟨by decide +kernel, rfl⟩
theorem d_law_380 : zD code 380 (.iconst 1) 1 381 := ⟨by decide +kernel, rfl⟩
theorem d_law_381 : zD code 381 (.iadd) 1 382 := ⟨by decide +kernel, rfl⟩
theorem d_law_382 : zD code 382 (.iaload) 1 383 := ⟨by decide +kernel, rfl⟩
theorem d_law_383 : zD code 383 (.aload_n 0) 1 384 := ⟨by decide +kernel, rfl⟩
theorem d_law_384 : zD code 384 (.iload_n 3) 1 385 := ⟨by decide +kernel, rfl⟩
theorem d_law_385 : zD code 385 (.iconst 2) 1 386 := ⟨by decide +kernel, rfl⟩
theorem d_law_386 : zD code 386 (.iadd) 1 387 := ⟨by decide +kernel, rfl⟩
theorem d_law_387 : zD code 387 (.iaload) 1 388 := ⟨by decide +kernel, rfl⟩
theorem d_law_388 : zD code 388 (.invokevirtual 37) 3 391 := ⟨by decide +kernel, rfl⟩
theorem d_law_391 : zD code 391 (.aload_n 2) 1 392 := ⟨by decide +kernel, rfl⟩
theorem d_law_392 : zD code 392 (.aload_n 0) 1 393 := ⟨by decide +kernel, rfl⟩
theorem d_law_393 : zD code 393 (.iload_n 3) 1 394 := ⟨by decide +kernel, rfl⟩
theorem d_law_394 : zD code 394 (.iconst 1) 1 395 := ⟨by decide +kernel, rfl⟩
theorem d_law_395 : zD code 395 (.iadd) 1 396 := ⟨by decide +kernel, rfl⟩
theorem d_law_396 : zD code 396 (.iaload) 1 397 := ⟨by decide +kernel, rfl⟩
theorem d_law_397 : zD code 397 (.aload_n 0) 1 398 := ⟨by decide +kernel, rfl⟩
theorem d_law_398 : zD code 398 (.iload_n 3) 1 399 := ⟨by decide +kernel, rfl⟩
theorem d_law_399 : zD code 399 (.iconst 2) 1 400 := ⟨by decide +kernel, rfl⟩
theorem d_law_400 : zD code 400 (.iadd) 1 401 := ⟨by decide +kernel, rfl⟩
theorem d_law_401 : zD code 401 (.iaload) 1 402 := ⟨by decide +kernel, rfl⟩
theorem d_law_402 : zD code 402 (.invokevirtual 40) 3 405 := ⟨by decide +kernel, rfl⟩
theorem d_law_405 : zD code 405 (.if_icmp .eq 1191) 3 408 := ⟨by decide +kernel, rfl⟩
theorem d_law_408 : zD code 408 (.iconst 0) 1 409 := ⟨by decide +kernel, rfl⟩
theorem d_law_409 : zD code 409 (.ireturn) 1 410 := ⟨by decide +kernel, rfl⟩
theorem d_law_410 : zD code 410 (.aload_n 1) 1 411 := ⟨by decide +kernel, rfl⟩
theorem d_law_411 : zD code 411 (.aload_n 0) 1 412 := ⟨by decide +kernel, rfl⟩
theorem d_law_412 : zD code 412 (.iload_n 3) 1 413 := ⟨by decide +kernel, rfl⟩
theorem d_law_413 : zD code 413 (.iconst 1) 1 414 := ⟨by decide +kernel, rfl⟩
theorem d_law_414 : zD code 414 (.iadd) 1 415 := ⟨by decide +kernel, rfl⟩
theorem d_law_415 : zD code 415 (.iaload) 1 416 := ⟨by decide +kernel, rfl⟩
theorem d_law_416 : zD code 416 (.invokevirtual 41) 3 419 := ⟨by decide +kernel, rfl⟩
theorem d_law_419 : zD code 419 (.aload_n 2) 1 420 := ⟨by decide +kernel, rfl⟩
theorem d_law_420 : zD code 420 (.aload_n 0) 1 421 := ⟨by decide +kernel, rfl⟩
theorem d_law_421 : zD code 421 (.iload_n 3) 1 422 := ⟨by decide +kernel, rfl⟩
theorem d_law_422 : zD code 422 (.iconst 1) 1 423 := ⟨by decide +kernel, rfl⟩
theorem d_law_423 : zD code 423 (.iadd) 1 424 := ⟨by decide +kernel, rfl⟩
theorem d_law_424 : zD code 424 (.iaload) 1 425 := ⟨by decide +kernel, rfl⟩
theorem d_law_425 : zD code 425 (.invokevirtual 45) 3 428 := ⟨by decide +kernel, rfl⟩
theorem d_law_428 : zD code 428 (.if_icmp .eq 1168) 3 431 := ⟨by decide +kernel, rfl⟩
theorem d_law_431 : zD code 431 (.iconst 0) 1 432 := ⟨by decide +kernel, rfl⟩
theorem d_law_432 : zD code 432 (.ireturn) 1 433 := ⟨by decide +kernel, rfl⟩
theorem d_law_433 : zD code 433 (.aload_n 1) 1 434 := ⟨by decide +kernel, rfl⟩
theorem d_law_434 : zD code 434 (.aload_n 0) 1 435 := ⟨by decide +kernel, rfl⟩
theorem d_law_435 : zD code 435 (.iload_n 3) 1 436 := ⟨by decide +kernel, rfl⟩
theorem d_law_436 : zD code 436 (.iconst 1) 1 437 := ⟨by decide +kernel, rfl⟩
theorem d_law_437 : zD code 437 (.iadd) 1 438 := ⟨by decide +kernel, rfl⟩
theorem d_law_438 : zD code 438 (.iaload) 1 439 := ⟨by decide +kernel, rfl⟩
theorem d_law_439 : zD code 439 (.invokevirtual 46) 3 442 := ⟨by decide +kernel, rfl⟩
theorem d_law_442 : zD code 442 (.aload_n 2) 1 443 := ⟨by decide +kernel, rfl⟩
theorem d_law_443 : zD code 443 (.aload_n 0) 1 444 := ⟨by decide +kernel, rfl⟩
theorem d_law_444 : zD code 444 (.iload_n 3) 1 445 := ⟨by decide +kernel, rfl⟩
theorem d_law_445 : zD code 445 (.iconst 1) 1 446 := ⟨by decide +kernel, rfl⟩
theorem d_law_446 : zD code 446 (.iadd) 1 447 := ⟨by decide +kernel, rfl⟩
theorem d_law_447 : zD code 447 (.iaload) 1 448 := ⟨by decide +kernel, rfl⟩
theorem d_law_448 : zD code 448 (.invokevirtual 49) 3 451 := ⟨by decide +kernel, rfl⟩
theorem d_law_451 : zD code 451 (.if_icmp .eq 1145) 3 454 := ⟨by decide +kernel, rfl⟩
theorem d_law_454 : zD code 454 (.iconst 0) 1 455 := ⟨by decide +kernel, rfl⟩
theorem d_law_455 : zD code 455 (.ireturn) 1 456 := ⟨by decide +kernel, rfl⟩
theorem d_law_456 : zD code 456 (.aload_n 1) 1 457 := ⟨by decide +kernel, rfl⟩
theorem d_law_457 : zD code 457 (.aload_n 0) 1 458 := ⟨by decide +kernel, rfl⟩
theorem d_law_458 : zD code 458 (.iload_n 3) 1 459 := ⟨by decide +kernel, rfl⟩
theorem d_law_459 : zD code 459 (.iconst 1) 1 460 := ⟨by decide +kernel, rfl⟩
theorem d_law_460 : zD code 460 (.iadd) 1 461 := ⟨by decide +kernel, rfl⟩
theorem d_law_461 : zD code 461 (.iaload) 1 462 := ⟨by decide +kernel, rfl⟩
theorem d_law_462 : zD code 462 (.invokevirtual 50) 3 465 := ⟨by decide +kernel, rfl⟩
theorem d_law_465 : zD code 465 (.aload_n 2) 1 466 := ⟨by decide +kernel, rfl⟩
theorem d_law_466 : zD code 466 (.aload_n 0) 1 467 := ⟨by decide +kernel, rfl⟩
theorem d_law_467 : zD code 467 (.iload_n 3) 1 468 := ⟨by decide +kernel, rfl⟩
theorem d_law_468 : zD code 468 (.iconst 1) 1 469 := ⟨by decide +kernel, rfl⟩
theorem d_law_469 : zD code 469 (.iadd) 1 470 := ⟨by decide +kernel, rfl⟩
theorem d_law_470 : zD code 470 (.iaload) 1 471 := ⟨by decide +kernel, rfl⟩
theorem d_law_471 : zD code 471 (.invokevirtual 53) 3 474 := ⟨by decide +kernel, rfl⟩
theorem d_law_474 : zD code 474 (.if_icmp .eq 1122) 3 477 := ⟨by decide +kernel, rfl⟩
theorem d_law_477 : zD code 477 (.iconst 0) 1 478 := ⟨by decide +kernel, rfl⟩
theorem d_law_478 : zD code 478 (.ireturn) 1 479 := ⟨by decide +kernel, rfl⟩
theorem d_law_479 : zD code 479 (.aload_n 1) 1 480 := ⟨by decide +kernel, rfl⟩
theorem d_law_480 : zD code 480 (.aload_n 0) 1 481 := ⟨by decide +kernel, rfl⟩
theorem d_law_481 : zD code 481 (.iload_n 3) 1 482 := ⟨by decide +kernel, rfl⟩
theorem d_law_482 : zD code 482 (.iconst 1) 1 483 := ⟨by decide +kernel, rfl⟩
theorem d_law_483 : zD code 483 (.iadd) 1 484 := ⟨by decide +kernel, rfl⟩
theorem d_law_484 : zD code 484 (.iaload) 1 485 := ⟨by decide +kernel, rfl⟩
theorem d_law_485 : zD code 485 (.aload_n 0) 1 486 := ⟨by decide +kernel, rfl⟩
theorem d_law_486 : zD code 486 (.iload_n 3) 1 487 := ⟨by decide +kernel, rfl⟩
theorem d_law_487 : zD code 487 (.iconst 2) 1 488 := ⟨by decide +kernel, rfl⟩
theorem d_law_488 : zD code 488 (.iadd) 1 489 := ⟨by decide +kernel, rfl⟩
theorem d_law_489 : zD code 489 (.iaload) 1 490 := ⟨by decide +kernel, rfl⟩
theorem d_law_490 : zD code 490 (.aload_n 0) 1 491 := ⟨by decide +kernel, rfl⟩
theorem d_law_491 : zD code 491 (.iload_n 3) 1 492 := ⟨by decide +kernel, rfl⟩
theorem d_law_492 : zD code 492 (.iconst 3) 1 493 := ⟨by decide +kernel, rfl⟩
theorem d_law_493 : zD code 493 (.iadd) 1 494 := ⟨by decide +kernel, rfl⟩
theorem d_law_494 : zD code 494 (.iaload) 1 495 := ⟨by decide +kernel, rfl⟩
theorem d_law_495 : zD code 495 (.ifCond .eq 7) 3 498 := ⟨by decide +kernel, rfl⟩
theorem d_law_498 : zD code 498 (.iconst 1) 1 499 := ⟨by decide +kernel, rfl⟩
theorem d_law_499 : zD code 499 (.goto 4) 3 502 := ⟨by decide +kernel, rfl⟩
theorem d_law_502 : zD code 502 (.iconst 0) 1 503 := ⟨by decide +kernel, rfl⟩
theorem d_law_503 : zD code 503 (.invokevirtual 54) 3 506 := ⟨by decide +kernel, rfl⟩
theorem d_law_506 : zD code 506 (.aload_n 2) 1 507 := ⟨by decide +kernel, rfl⟩
theorem d_law_507 : zD code 507 (.aload_n 0) 1 508 := ⟨by decide +kernel, rfl⟩
theorem d_law_508 : zD code 508 (.iload_n 3) 1 509 := ⟨by decide +kernel, rfl⟩
theorem d_law_509 : zD code 509 (.iconst 1) 1 510 := ⟨by decide +kernel, rfl⟩
theorem d_law_510 : zD code 510 (.iadd) 1 511 := ⟨by decide +kernel, rfl⟩
theorem d_law_511 : zD code 511 (.iaload) 1 512 := ⟨by decide +kernel, rfl⟩
theorem d_law_512 : zD code 512 (.aload_n 0) 1 513 := ⟨by decide +kernel, rfl⟩
theorem d_law_513 : zD code 513 (.iload_n 3) 1 514 := ⟨by decide +kernel, rfl⟩
theorem d_law_514 : zD code 514 (.iconst 2) 1 515 := ⟨by decide +kernel, rfl⟩
theorem d_law_515 : zD code 515 (.iadd) 1 516 := ⟨by decide +kernel, rfl⟩
theorem d_law_516 : zD code 516 (.iaload) 1 517 := ⟨by decide +kernel, rfl⟩
theorem d_law_517 : zD code 517 (.aload_n 0) 1 518 := ⟨by decide +kernel, rfl⟩
theorem d_law_518 : zD code 518 (.iload_n 3) 1 519 := ⟨by decide +kernel, rfl⟩
theorem d_law_519 : zD code 519 (.iconst 3) 1 520 := ⟨by decide +kernel, rfl⟩
theorem d_law_520 : zD code 520 (.iadd) 1 521 := ⟨by decide +kernel, rfl⟩
theorem d_law_521 : zD code 521 (.iaload) 1 522 := ⟨by decide +kernel, rfl⟩
theorem d_law_522 : zD code 522 (.ifCond .eq 7) 3 525 := ⟨by decide +kernel, rfl⟩
theorem d_law_525 : zD code 525 (.iconst 1) 1 526 := ⟨by decide +kernel, rfl⟩
theorem d_law_526 : zD code 526 (.goto 4) 3 529 := ⟨by decide +kernel, rfl⟩
theorem d_law_529 : zD code 529 (.iconst 0) 1 530 := ⟨by decide +kernel, rfl⟩
theorem d_law_530 : zD code 530 (.invokevirtual 58) 3 533 := ⟨by decide +kernel, rfl⟩
theorem d_law_533 : zD code 533 (.if_icmp .eq 1063) 3 536 := ⟨by decide +kernel, rfl⟩
theorem d_law_536 : zD code 536 (.iconst 0) 1 537 := ⟨by decide +kernel, rfl⟩
theorem d_law_537 : zD code 537 (.ireturn) 1 538 := ⟨by decide +kernel, rfl⟩
theorem d_law_538 : zD code 538 (.aload_n 1) 1 539 := ⟨by decide +kernel, rfl⟩
theorem d_law_539 : zD code 539 (.aload_n 0) 1 540 := ⟨by decide +kernel, rfl⟩
theorem d_law_540 : zD code 540 (.iload_n 3) 1 541 := ⟨by decide +kernel, rfl⟩
theorem d_law_541 : zD code 541 (.iconst 1) 1 542 := ⟨by decide +kernel, rfl⟩
theorem d_law_542 : zD code 542 (.iadd) 1 543 := ⟨by decide +kernel, rfl⟩
theorem d_law_543 : zD code 543 (.iaload) 1 544 := ⟨by decide +kernel, rfl⟩
theorem d_law_544 : zD code 544 (.invokevirtual 59) 3 547 := ⟨by decide +kernel, rfl⟩
theorem d_law_547 : zD code 547 (.aload_n 2) 1 548 := ⟨by decide +kernel, rfl⟩
theorem d_law_548 : zD code 548 (.aload_n 0) 1 549 := ⟨by decide +kernel, rfl⟩
theorem d_law_549 : zD code 549 (.iload_n 3) 1 550 := ⟨by decide +kernel, rfl⟩
theorem d_law_550 : zD code 550 (.iconst 1) 1 551 := ⟨by decide +kernel, rfl⟩
theorem d_law_551 : zD code 551 (.iadd) 1 552 := ⟨by decide +kernel, rfl⟩
theorem d_law_552 : zD code 552 (.iaload) 1 553 := ⟨by decide +kernel, rfl⟩
theorem d_law_553 : zD code 553 (.invokevirtual 62) 3 556 := ⟨by decide +kernel, rfl⟩
theorem d_law_556 : zD code 556 (.if_icmp .eq 1040) 3 559 := ⟨by decide +kernel, rfl⟩
theorem d_law_559 : zD code 559 (.iconst 0) 1 560 := ⟨by decide +kernel, rfl⟩
theorem d_law_560 : zD code 560 (.ireturn) 1 561 := ⟨by decide +kernel, rfl⟩
theorem d_law_561 : zD code 561 (.aload_n 1) 1 562 := ⟨by decide +kernel, rfl⟩
theorem d_law_562 : zD code 562 (.invokevirtual 63) 3 565 := ⟨by decide +kernel, rfl⟩
theorem d_law_565 : zD code 565 (.aload_n 2) 1 566 := ⟨by decide +kernel, rfl⟩
theorem d_law_566 : zD code 566 (.invokevirtual 67) 3 569 := ⟨by decide +kernel, rfl⟩
theorem d_law_569 : zD code 569 (.if_icmp .eq 1027) 3 572 := ⟨by decide +kernel, rfl⟩
theorem d_law_572 : zD code 572 (.iconst 0) 1 573 := ⟨by decide +kernel, rfl⟩
theorem d_law_573 : zD code 573 (.ireturn) 1 574 := ⟨by decide +kernel, rfl⟩
theorem d_law_574 : zD code 574 (.aload_n 1) 1 575 := ⟨by decide +kernel, rfl⟩
theorem d_law_575 : zD code 575 (.aload_n 0) 1 576 := ⟨by decide +kernel, rfl⟩
theorem d_law_576 : zD code 576 (.iload_n 3) 1 577 := ⟨by decide +kernel, rfl⟩
theorem d_law_577 : zD code 577 (.iconst 1) 1 578 := ⟨by decide +kernel, rfl⟩
theorem d_law_578 : zD code 578 (.iadd) 1 579 := ⟨by decide +kernel, rfl⟩
theorem d_law_579 : zD code 579 (.iaload) 1 580 := ⟨by decide +kernel, rfl⟩
theorem d_law_580 : zD code 580 (.invokevirtual 68) 3 583 := ⟨by decide +kernel, rfl⟩
theorem d_law_583 : zD code 583 (.aload_n 2) 1 584 := ⟨by decide +kernel, rfl⟩
theorem d_law_584 : zD code 584 (.aload_n 0) 1 585 := ⟨by decide +kernel, rfl⟩
theorem d_law_585 : zD code 585 (.iload_n 3) 1 586 := ⟨by decide +kernel, rfl⟩
theorem d_law_586 : zD code 586 (.iconst 1) 1 587 := ⟨by decide +kernel, rfl⟩
theorem d_law_587 : zD code 587 (.iadd) 1 588 := ⟨by decide +kernel, rfl⟩
theorem d_law_588 : zD code 588 (.iaload) 1 589 := ⟨by decide +kernel, rfl⟩
theorem d_law_589 : zD code 589 (.invokevirtual 71) 3 592 := ⟨by decide +kernel, rfl⟩
theorem d_law_592 : zD code 592 (.if_icmp .eq 1004) 3 595 := ⟨by decide +kernel, rfl⟩
theorem d_law_595 : zD code 595 (.iconst 0) 1 596 := ⟨by decide +kernel, rfl⟩
theorem d_law_596 : zD code 596 (.ireturn) 1 597 := ⟨by decide +kernel, rfl⟩
theorem d_law_597 : zD code 597 (.aload_n 1) 1 598 := ⟨by decide +kernel, rfl⟩
theorem d_law_598 : zD code 598 (.aload_n 0) 1 599 := ⟨by decide +kernel, rfl⟩
theorem d_law_599 : zD code 599 (.iload_n 3) 1 600 := ⟨by decide +kernel, rfl⟩
theorem d_law_600 : zD code 600 (.iconst 1) 1 601 := ⟨by decide +kernel, rfl⟩
theorem d_law_601 : zD code 601 (.iadd) 1 602 := ⟨by decide +kernel, rfl⟩
theorem d_law_602 : zD code 602 (.iaload) 1 603 := ⟨by decide +kernel, rfl⟩
theorem d_law_603 : zD code 603 (.aload_n 0) 1 604 := ⟨by decide +kernel, rfl⟩
theorem d_law_604 : zD code 604 (.iload_n 3) 1 605 := ⟨by decide +kernel, rfl⟩
theorem d_law_605 : zD code 605 (.iconst 2) 1 606 := ⟨by decide +kernel, rfl⟩
theorem d_law_606 : zD code 606 (.iadd) 1 607 := ⟨by decide +kernel, rfl⟩
theorem d_law_607 : zD code 607 (.iaload) 1 608 := ⟨by decide +kernel, rfl⟩
theorem d_law_608 : zD code 608 (.invokevirtual 72) 3 611 := ⟨by decide +kernel, rfl⟩
theorem d_law_611 : zD code 611 (.aload_n 2) 1 612 := ⟨by decide +kernel, rfl⟩
theorem d_law_612 : zD code 612 (.aload_n 0) 1 613 := ⟨by decide +kernel, rfl⟩
theorem d_law_613 : zD code 613 (.iload_n 3) 1 614 := ⟨by decide +kernel, rfl⟩
theorem d_law_614 : zD code 614 (.iconst 1) 1 615 := ⟨by decide +kernel, rfl⟩
theorem d_law_615 : zD code 615 (.iadd) 1 616 := ⟨by decide +kernel, rfl⟩
theorem d_law_616 : zD code 616 (.iaload) 1 617 := ⟨by decide +kernel, rfl⟩
theorem d_law_617 : zD code 617 (.aload_n 0) 1 618 := ⟨by decide +kernel, rfl⟩
theorem d_law_618 : zD code 618 (.iload_n 3) 1 619 := ⟨by decide +kernel, rfl⟩
theorem d_law_619 : zD code 619 (.iconst 2) 1 620 := ⟨by decide +kernel, rfl⟩
theorem d_law_620 : zD code 620 (.iadd) 1 621 := ⟨by decide +kernel, rfl⟩
theorem d_law_621 : zD code 621 (.iaload) 1 622 := ⟨by decide +kernel, rfl⟩
theorem d_law_622 : zD code 622 (.invokevirtual 75) 3 625 := ⟨by decide +kernel, rfl⟩
theorem d_law_625 : zD code 625 (.if_icmp .eq 971) 3 628 := ⟨by decide +kernel, rfl⟩
theorem d_law_628 : zD code 628 (.iconst 0) 1 629 := ⟨by decide +kernel, rfl⟩
theorem d_law_629 : zD code 629 (.ireturn) 1 630 := ⟨by decide +kernel, rfl⟩
theorem d_law_630 : zD code 630 (.aload_n 1) 1 631 := ⟨by decide +kernel, rfl⟩
theorem d_law_631 : zD code 631 (.aload_n 0) 1 632 := ⟨by decide +kernel, rfl⟩
theorem d_law_632 : zD code 632 (.iload_n 3) 1 633 := ⟨by decide +kernel, rfl⟩
theorem d_law_633 : zD code 633 (.iconst 1) 1 634 := ⟨by decide +kernel, rfl⟩
theorem d_law_634 : zD code 634 (.iadd) 1 635 := ⟨by decide +kernel, rfl⟩
theorem d_law_635 : zD code 635 (.iaload) 1 636 := ⟨by decide +kernel, rfl⟩
theorem d_law_636 : zD code 636 (.aload_n 0) 1 637 := ⟨by decide +kernel, rfl⟩
theorem d_law_637 : zD code 637 (.iload_n 3) 1 638 := ⟨by decide +kernel, rfl⟩
theorem d_law_638 : zD code 638 (.iconst 2) 1 639 := ⟨by decide +kernel, rfl⟩
theorem d_law_639 : zD code 639 (.iadd) 1 640 := ⟨by decide +kernel, rfl⟩
theorem d_law_640 : zD code 640 (.iaload) 1 641 := ⟨by decide +kernel, rfl⟩
theorem d_law_641 : zD code 641 (.aload_n 0) 1 642 := ⟨by decide +kernel, rfl⟩
theorem d_law_642 : zD code 642 (.iload_n 3) 1 643 := ⟨by decide +kernel, rfl⟩
theorem d_law_643 : zD code 643 (.iconst 3) 1 644 := ⟨by decide +kernel, rfl⟩
theorem d_law_644 : zD code 644 (.iadd) 1 645 := ⟨by decide +kernel, rfl⟩
theorem d_law_645 : zD code 645 (.iaload) 1 646 := ⟨by decide +kernel, rfl⟩
theorem d_law_646 : zD code 646 (.invokevirtual 76) 3 649 := ⟨by decide +kernel, rfl⟩
theorem d_law_649 : zD code 649 (.aload_n 2) 1 650 := ⟨by decide +kernel, rfl⟩
theorem d_law_650 : zD code 650 (.aload_n 0) 1 651 := ⟨by decide +kernel, rfl⟩
theorem d_law_651 : zD code 651 (.iload_n 3) 1 652 := ⟨by decide +kernel, rfl⟩
theorem d_law_652 : zD code 652 (.iconst 1) 1 653 := ⟨by decide +kernel, rfl⟩
theorem d_law_653 : zD code 653 (.iadd) 1 654 := ⟨by decide +kernel, rfl⟩
theorem d_law_654 : zD code 654 (.iaload) 1 655 := ⟨by decide +kernel, rfl⟩
theorem d_law_655 : zD code 655 (.aload_n 0) 1 656 := ⟨by decide +kernel, rfl⟩
theorem d_law_656 : zD code 656 (.iload_n 3) 1 657 := ⟨by decide +kernel, rfl⟩
theorem d_law_657 : zD code 657 (.iconst 2) 1 658 := ⟨by decide +kernel, rfl⟩
theorem d_law_658 : zD code 658 (.iadd) 1 659 := ⟨by decide +kernel, rfl⟩
theorem d_law_659 : zD code 659 (.iaload) 1 660 := ⟨by decide +kernel, rfl⟩
theorem d_law_660 : zD code 660 (.aload_n 0) 1 661 := ⟨by decide +kernel, rfl⟩
theorem d_law_661 : zD code 661 (.iload_n 3) 1 662 := ⟨by decide +kernel, rfl⟩
theorem d_law_662 : zD code 662 (.iconst 3) 1 663 := ⟨by decide +kernel, rfl⟩
theorem d_law_663 : zD code 663 (.iadd) 1 664 := ⟨by decide +kernel, rfl⟩
theorem d_law_664 : zD code 664 (.iaload) 1 665 := ⟨by decide +kernel, rfl⟩
theorem d_law_665 : zD code 665 (.invokevirtual 80) 3 668 := ⟨by decide +kernel, rfl⟩
theorem d_law_668 : zD code 668 (.if_icmp .eq 928) 3 671 := ⟨by decide +kernel, rfl⟩
theorem d_law_671 : zD code 671 (.iconst 0) 1 672 := ⟨by decide +kernel, rfl⟩
theorem d_law_672 : zD code 672 (.ireturn) 1 673 := ⟨by decide +kernel, rfl⟩
theorem d_law_673 : zD code 673 (.aload_n 1) 1 674 := ⟨by decide +kernel, rfl⟩
theorem d_law_674 : zD code 674 (.aload_n 0) 1 675 := ⟨by decide +kernel, rfl⟩
theorem d_law_675 : zD code 675 (.iload_n 3) 1 676 := ⟨by decide +kernel, rfl⟩
theorem d_law_676 : zD code 676 (.iconst 1) 1 677 := ⟨by decide +kernel, rfl⟩
theorem d_law_677 : zD code 677 (.iadd) 1 678 := ⟨by decide +kernel, rfl⟩
theorem d_law_678 : zD code 678 (.iaload) 1 679 := ⟨by decide +kernel, rfl⟩
theorem d_law_679 : zD code 679 (.aload_n 0) 1 680 := ⟨by decide +kernel, rfl⟩
theorem d_law_680 : zD code 680 (.iload_n 3) 1 681 := ⟨by decide +kernel, rfl⟩
theorem d_law_681 : zD code 681 (.iconst 2) 1 682 := ⟨by decide +kernel, rfl⟩
theorem d_law_682 : zD code 682 (.iadd) 1 683 := ⟨by decide +kernel, rfl⟩
theorem d_law_683 : zD code 683 (.iaload) 1 684 := ⟨by decide +kernel, rfl⟩
theorem d_law_684 : zD code 684 (.invokevirtual 81) 3 687 := ⟨by decide +kernel, rfl⟩
theorem d_law_687 : zD code 687 (.aload_n 2) 1 688 := ⟨by decide +kernel, rfl⟩
theorem d_law_688 : zD code 688 (.aload_n 0) 1 689 := ⟨by decide +kernel, rfl⟩
theorem d_law_689 : zD code 689 (.iload_n 3) 1 690 := ⟨by decide +kernel, rfl⟩
theorem d_law_690 : zD code 690 (.iconst 1) 1 691 := ⟨by decide +kernel, rfl⟩
theorem d_law_691 : zD code 691 (.iadd) 1 692 := ⟨by decide +kernel, rfl⟩
theorem d_law_692 : zD code 692 (.iaload) 1 693 := ⟨by decide +kernel, rfl⟩
theorem d_law_693 : zD code 693 (.aload_n 0) 1 694 := ⟨by decide +kernel, rfl⟩
theorem d_law_694 : zD code 694 (.iload_n 3) 1 695 := ⟨by decide +kernel, rfl⟩
theorem d_law_695 : zD code 695 (.iconst 2) 1 696 := ⟨by decide +kernel, rfl⟩
theorem d_law_696 : zD code 696 (.iadd) 1 697 := ⟨by decide +kernel, rfl⟩
theorem d_law_697 : zD code 697 (.iaload) 1 698 := ⟨by decide +kernel, rfl⟩
theorem d_law_698 : zD code 698 (.invokevirtual 84) 3 701 := ⟨by decide +kernel, rfl⟩
theorem d_law_701 : zD code 701 (.if_icmp .eq 895) 3 704 := ⟨by decide +kernel, rfl⟩
theorem d_law_704 : zD code 704 (.iconst 0) 1 705 := ⟨by decide +kernel, rfl⟩
theorem d_law_705 : zD code 705 (.ireturn) 1 706 := ⟨by decide +kernel, rfl⟩
theorem d_law_706 : zD code 706 (.aload_n 1) 1 707 := ⟨by decide +kernel, rfl⟩
theorem d_law_707 : zD code 707 (.aload_n 0) 1 708 := ⟨by decide +kernel, rfl⟩
theorem d_law_708 : zD code 708 (.iload_n 3) 1 709 := ⟨by decide +kernel, rfl⟩
theorem d_law_709 : zD code 709 (.iconst 1) 1 710 := ⟨by decide +kernel, rfl⟩
theorem d_law_710 : zD code 710 (.iadd) 1 711 := ⟨by decide +kernel, rfl⟩
theorem d_law_711 : zD code 711 (.iaload) 1 712 := ⟨by decide +kernel, rfl⟩
theorem d_law_712 : zD code 712 (.invokevirtual 85) 3 715 := ⟨by decide +kernel, rfl⟩
theorem d_law_715 : zD code 715 (.aload_n 2) 1 716 := ⟨by decide +kernel, rfl⟩
theorem d_law_716 : zD code 716 (.aload_n 0) 1 717 := ⟨by decide +kernel, rfl⟩
theorem d_law_717 : zD code 717 (.iload_n 3) 1 718 := ⟨by decide +kernel, rfl⟩
theorem d_law_718 : zD code 718 (.iconst 1) 1 719 := ⟨by decide +kernel, rfl⟩
theorem d_law_719 : zD code 719 (.iadd) 1 720 := ⟨by decide +kernel, rfl⟩
theorem d_law_720 : zD code 720 (.iaload) 1 721 := ⟨by decide +kernel, rfl⟩
theorem d_law_721 : zD code 721 (.invokevirtual 88) 3 724 := ⟨by decide +kernel, rfl⟩
theorem d_law_724 : zD code 724 (.if_icmp .eq 872) 3 727 := ⟨by decide +kernel, rfl⟩
theorem d_law_727 : zD code 727 (.iconst 0) 1 728 := ⟨by decide +kernel, rfl⟩
theorem d_law_728 : zD code 728 (.ireturn) 1 729 := ⟨by decide +kernel, rfl⟩
theorem d_law_729 : zD code 729 (.aload_n 1) 1 730 := ⟨by decide +kernel, rfl⟩
theorem d_law_730 : zD code 730 (.aload_n 0) 1 731 := ⟨by decide +kernel, rfl⟩
theorem d_law_731 : zD code 731 (.iload_n 3) 1 732 := ⟨by decide +kernel, rfl⟩
theorem d_law_732 : zD code 732 (.iconst 1) 1 733 := ⟨by decide +kernel, rfl⟩
theorem d_law_733 : zD code 733 (.iadd) 1 734 := ⟨by decide +kernel, rfl⟩
theorem d_law_734 : zD code 734 (.iaload) 1 735 := ⟨by decide +kernel, rfl⟩
theorem d_law_735 : zD code 735 (.aload_n 0) 1 736 := ⟨by decide +kernel, rfl⟩
theorem d_law_736 : zD code 736 (.iload_n 3) 1 737 := ⟨by decide +kernel, rfl⟩
theorem d_law_737 : zD code 737 (.iconst 2) 1 738 := ⟨by decide +kernel, rfl⟩
theorem d_law_738 : zD code 738 (.iadd) 1 739 := ⟨by decide +kernel, rfl⟩
theorem d_law_739 : zD code 739 (.iaload) 1 740 := ⟨by decide +kernel, rfl⟩
theorem d_law_740 : zD code 740 (.aload_n 0) 1 741 := ⟨by decide +kernel, rfl⟩
theorem d_law_741 : zD code 741 (.iload_n 3) 1 742 := ⟨by decide +kernel, rfl⟩
theorem d_law_742 : zD code 742 (.iconst 3) 1 743 := ⟨by decide +kernel, rfl⟩
theorem d_law_743 : zD code 743 (.iadd) 1 744 := ⟨by decide +kernel, rfl⟩
theorem d_law_744 : zD code 744 (.iaload) 1 745 := ⟨by decide +kernel, rfl⟩
theorem d_law_745 : zD code 745 (.aload_n 0) 1 746 := ⟨by decide +kernel, rfl⟩
theorem d_law_746 : zD code 746 (.iload_n 3) 1 747 := ⟨by decide +kernel, rfl⟩
theorem d_law_747 : zD code 747 (.iconst 4) 1 748 := ⟨by decide +kernel, rfl⟩
theorem d_law_748 : zD code 748 (.iadd) 1 749 := ⟨by decide +kernel, rfl⟩
theorem d_law_749 : zD code 749 (.iaload) 1 750 := ⟨by decide +kernel, rfl⟩
theorem d_law_750 : zD code 750 (.aload_n 0) 1 751 := ⟨by decide +kernel, rfl⟩
theorem d_law_751 : zD code 751 (.iload_n 3) 1 752 := ⟨by decide +kernel, rfl⟩
theorem d_law_752 : zD code 752 (.iconst 5) 1 753 := ⟨by decide +kernel, rfl⟩
theorem d_law_753 : zD code 753 (.iadd) 1 754 := ⟨by decide +kernel, rfl⟩
theorem d_law_754 : zD code 754 (.iaload) 1 755 := ⟨by decide +kernel, rfl⟩
theorem d_law_755 : zD code 755 (.invokevirtual 89) 3 758 := ⟨by decide +kernel, rfl⟩
theorem d_law_758 : zD code 758 (.aload_n 2) 1 759 := ⟨by decide +kernel, rfl⟩
theorem d_law_759 : zD code 759 (.aload_n 0) 1 760 := ⟨by decide +kernel, rfl⟩
theorem d_law_760 : zD code 760 (.iload_n 3) 1 761 := ⟨by decide +kernel, rfl⟩
theorem d_law_761 : zD code 761 (.iconst 1) 1 762 := ⟨by decide +kernel, rfl⟩
theorem d_law_762 : zD code 762 (.iadd) 1 763 := ⟨by decide +kernel, rfl⟩
theorem d_law_763 : zD code 763 (.iaload) 1 764 := ⟨by decide +kernel, rfl⟩
theorem d_law_764 : zD code 764 (.aload_n 0) 1 765 := ⟨by decide +kernel, rfl⟩
theorem d_law_765 : zD code 765 (.iload_n 3) 1 766 := ⟨by decide +kernel, rfl⟩
theorem d_law_766 : zD code 766 (.iconst 2) 1 767 := ⟨by decide +kernel, rfl⟩
theorem d_law_767 : zD code 767 (.iadd) 1 768 := ⟨by decide +kernel, rfl⟩
theorem d_law_768 : zD code 768 (.iaload) 1 769 := ⟨by decide +kernel, rfl⟩
theorem d_law_769 : zD code 769 (.aload_n 0) 1 770 := ⟨by decide +kernel, rfl⟩
theorem d_law_770 : zD code 770 (.iload_n 3) 1 771 := ⟨by decide +kernel, rfl⟩
theorem d_law_771 : zD code 771 (.iconst 3) 1 772 := ⟨by decide +kernel, rfl⟩
theorem d_law_772 : zD code 772 (.iadd) 1 773 := ⟨by decide +kernel, rfl⟩
theorem d_law_773 : zD code 773 (.iaload) 1 774 := ⟨by decide +kernel, rfl⟩
theorem d_law_774 : zD code 774 (.aload_n 0) 1 775 := ⟨by decide +kernel, rfl⟩
theorem d_law_775 : zD code 775 (.iload_n 3) 1 776 := ⟨by decide +kernel, rfl⟩
theorem d_law_776 : zD code 776 (.iconst 4) 1 777 := ⟨by decide +kernel, rfl⟩
theorem d_law_777 : zD code 777 (.iadd) 1 778 := ⟨by decide +kernel, rfl⟩
theorem d_law_778 : zD code 778 (.iaload) 1 779 := ⟨by decide +kernel, rfl⟩
theorem d_law_779 : zD code 779 (.aload_n 0) 1 780 := ⟨by decide +kernel, rfl⟩
theorem d_law_780 : zD code 780 (.iload_n 3) 1 781 := ⟨by decide +kernel, rfl⟩
theorem d_law_781 : zD code 781 (.iconst 5) 1 782 := ⟨by decide +kernel, rfl⟩
theorem d_law_782 : zD code 782 (.iadd) 1 783 := ⟨by decide +kernel, rfl⟩
theorem d_law_783 : zD code 783 (.iaload) 1 784 := ⟨by decide +kernel, rfl⟩
theorem d_law_784 : zD code 784 (.invokevirtual 92) 3 787 := ⟨by decide +kernel, rfl⟩
theorem d_law_787 : zD code 787 (.if_icmp .eq 809) 3 790 := ⟨by decide +kernel, rfl⟩
theorem d_law_790 : zD code 790 (.iconst 0) 1 791 := ⟨by decide +kernel, rfl⟩
theorem d_law_791 : zD code 791 (.ireturn) 1 792 := ⟨by decide +kernel, rfl⟩
theorem d_law_792 : zD code 792 (.aload_n 1) 1 793 := ⟨by decide +kernel, rfl⟩
theorem d_law_793 : zD code 793 (.aload_n 0) 1 794 := ⟨by decide +kernel, rfl⟩
theorem d_law_794 : zD code 794 (.iload_n 3) 1 795 := ⟨by decide +kernel, rfl⟩
theorem d_law_795 : zD code 795 (.iconst 1) 1 796 := ⟨by decide +kernel, rfl⟩
theorem d_law_796 : zD code 796 (.iadd) 1 797 := ⟨by decide +kernel, rfl⟩
theorem d_law_797 : zD code 797 (.iaload) 1 798 := ⟨by decide +kernel, rfl⟩
theorem d_law_798 : zD code 798 (.aload_n 0) 1 799 := ⟨by decide +kernel, rfl⟩
theorem d_law_799 : zD code 799 (.iload_n 3) 1 800 := ⟨by decide +kernel, rfl⟩
theorem d_law_800 : zD code 800 (.iconst 2) 1 801 := ⟨by decide +kernel, rfl⟩
theorem d_law_801 : zD code 801 (.iadd) 1 802 := ⟨by decide +kernel, rfl⟩
theorem d_law_802 : zD code 802 (.iaload) 1 803 := ⟨by decide +kernel, rfl⟩
theorem d_law_803 : zD code 803 (.aload_n 0) 1 804 := ⟨by decide +kernel, rfl⟩
theorem d_law_804 : zD code 804 (.iload_n 3) 1 805 := ⟨by decide +kernel, rfl⟩
theorem d_law_805 : zD code 805 (.iconst 3) 1 806 := ⟨by decide +kernel, rfl⟩
theorem d_law_806 : zD code 806 (.iadd) 1 807 := ⟨by decide +kernel, rfl⟩
theorem d_law_807 : zD code 807 (.iaload) 1 808 := ⟨by decide +kernel, rfl⟩
theorem d_law_808 : zD code 808 (.invokevirtual 93) 3 811 := ⟨by decide +kernel, rfl⟩
theorem d_law_811 : zD code 811 (.aload_n 2) 1 812 := ⟨by decide +kernel, rfl⟩
theorem d_law_812 : zD code 812 (.aload_n 0) 1 813 := ⟨by decide +kernel, rfl⟩
theorem d_law_813 : zD code 813 (.iload_n 3) 1 814 := ⟨by decide +kernel, rfl⟩
theorem d_law_814 : zD code 814 (.iconst 1) 1 815 := ⟨by decide +kernel, rfl⟩
theorem d_law_815 : zD code 815 (.iadd) 1 816 := ⟨by decide +kernel, rfl⟩
theorem d_law_816 : zD code 816 (.iaload) 1 817 := ⟨by decide +kernel, rfl⟩
theorem d_law_817 : zD code 817 (.aload_n 0) 1 818 := ⟨by decide +kernel, rfl⟩
theorem d_law_818 : zD code 818 (.iload_n 3) 1 819 := ⟨by decide +kernel, rfl⟩
theorem d_law_819 : zD code 819 (.iconst 2) 1 820 := ⟨by decide +kernel, rfl⟩
theorem d_law_820 : zD code 820 (.iadd) 1 821 := ⟨by decide +kernel, rfl⟩
theorem d_law_821 : zD code 821 (.iaload) 1 822 := ⟨by decide +kernel, rfl⟩
theorem d_law_822 : zD code 822 (.aload_n 0) 1 823 := ⟨by decide +kernel, rfl⟩
theorem d_law_823 : zD code 823 (.iload_n 3) 1 824 := ⟨by decide +kernel, rfl⟩
theorem d_law_824 : zD code 824 (.iconst 3) 1 825 := ⟨by decide +kernel, rfl⟩
theorem d_law_825 : zD code 825 (.iadd) 1 826 := ⟨by decide +kernel, rfl⟩
theorem d_law_826 : zD code 826 (.iaload) 1 827 := ⟨by decide +kernel, rfl⟩
theorem d_law_827 : zD code 827 (.invokevirtual 96) 3 830 := ⟨by decide +kernel, rfl⟩
theorem d_law_830 : zD code 830 (.if_icmp .eq 766) 3 833 := ⟨by decide +kernel, rfl⟩
theorem d_law_833 : zD code 833 (.iconst 0) 1 834 := ⟨by decide +kernel, rfl⟩
theorem d_law_834 : zD code 834 (.ireturn) 1 835 := ⟨by decide +kernel, rfl⟩
theorem d_law_835 : zD code 835 (.aload_n 1) 1 836 := ⟨by decide +kernel, rfl⟩
theorem d_law_836 : zD code 836 (.aload_n 0) 1 837 := ⟨by decide +kernel, rfl⟩
theorem d_law_837 : zD code 837 (.iload_n 3) 1 838 := ⟨by decide +kernel, rfl⟩
theorem d_law_838 : zD code 838 (.iconst 1) 1 839 := ⟨by decide +kernel, rfl⟩
theorem d_law_839 : zD code 839 (.iadd) 1 840 := ⟨by decide +kernel, rfl⟩
theorem d_law_840 : zD code 840 (.iaload) 1 841 := ⟨by decide +kernel, rfl⟩
theorem d_law_841 : zD code 841 (.invokevirtual 97) 3 844 := ⟨by decide +kernel, rfl⟩
theorem d_law_844 : zD code 844 (.aload_n 2) 1 845 := ⟨by decide +kernel, rfl⟩
theorem d_law_845 : zD code 845 (.aload_n 0) 1 846 := ⟨by decide +kernel, rfl⟩
theorem d_law_846 : zD code 846 (.iload_n 3) 1 847 := ⟨by decide +kernel, rfl⟩
theorem d_law_847 : zD code 847 (.iconst 1) 1 848 := ⟨by decide +kernel, rfl⟩
theorem d_law_848 : zD code 848 (.iadd) 1 849 := ⟨by decide +kernel, rfl⟩
theorem d_law_849 : zD code 849 (.iaload) 1 850 := ⟨by decide +kernel, rfl⟩
theorem d_law_850 : zD code 850 (.invokevirtual 100) 3 853 := ⟨by decide +kernel, rfl⟩
theorem d_law_853 : zD code 853 (.if_icmp .eq 743) 3 856 := ⟨by decide +kernel, rfl⟩
theorem d_law_856 : zD code 856 (.iconst 0) 1 857 := ⟨by decide +kernel, rfl⟩
theorem d_law_857 : zD code 857 (.ireturn) 1 858 := ⟨by decide +kernel, rfl⟩
theorem d_law_858 : zD code 858 (.aload_n 1) 1 859 := ⟨by decide +kernel, rfl⟩
theorem d_law_859 : zD code 859 (.aload_n 0) 1 860 := ⟨by decide +kernel, rfl⟩
theorem d_law_860 : zD code 860 (.iload_n 3) 1 861 := ⟨by decide +kernel, rfl⟩
theorem d_law_861 : zD code 861 (.iconst 1) 1 862 := ⟨by decide +kernel, rfl⟩
theorem d_law_862 : zD code 862 (.iadd) 1 863 := ⟨by decide +kernel, rfl⟩
theorem d_law_863 : zD code 863 (.iaload) 1 864 := ⟨by decide +kernel, rfl⟩
theorem d_law_864 : zD code 864 (.invokevirtual 101) 3 867 := ⟨by decide +kernel, rfl⟩
theorem d_law_867 : zD code 867 (.aload_n 2) 1 868 := ⟨by decide +kernel, rfl⟩
theorem d_law_868 : zD code 868 (.aload_n 0) 1 869 := ⟨by decide +kernel, rfl⟩
theorem d_law_869 : zD code 869 (.iload_n 3) 1 870 := ⟨by decide +kernel, rfl⟩
theorem d_law_870 : zD code 870 (.iconst 1) 1 871 := ⟨by decide +kernel, rfl⟩
theorem d_law_871 : zD code 871 (.iadd) 1 872 := ⟨by decide +kernel, rfl⟩
theorem d_law_872 : zD code 872 (.iaload) 1 873 := ⟨by decide +kernel, rfl⟩
theorem d_law_873 : zD code 873 (.invokevirtual 104) 3 876 := ⟨by decide +kernel, rfl⟩
theorem d_law_876 : zD code 876 (.if_icmp .eq 720) 3 879 := ⟨by decide +kernel, rfl⟩
theorem d_law_879 : zD code 879 (.iconst 0) 1 880 := ⟨by decide +kernel, rfl⟩
theorem d_law_880 : zD code 880 (.ireturn) 1 881 := ⟨by decide +kernel, rfl⟩
theorem d_law_881 : zD code 881 (.aload_n 1) 1 882 := ⟨by decide +kernel, rfl⟩
theorem d_law_882 : zD code 882 (.aload_n 0) 1 883 := ⟨by decide +kernel, rfl⟩
theorem d_law_883 : zD code 883 (.iload_n 3) 1 884 := ⟨by decide +kernel, rfl⟩
theorem d_law_884 : zD code 884 (.iconst 1) 1 885 := ⟨by decide +kernel, rfl⟩
theorem d_law_885 : zD code 885 (.iadd) 1 886 := ⟨by decide +kernel, rfl⟩
theorem d_law_886 : zD code 886 (.iaload) 1 887 := ⟨by decide +kernel, rfl⟩
theorem d_law_887 : zD code 887 (.invokevirtual 105) 3 890 := ⟨by decide +kernel, rfl⟩
theorem d_law_890 : zD code 890 (.aload_n 2) 1 891 := ⟨by decide +kernel, rfl⟩
theorem d_law_891 : zD code 891 (.aload_n 0) 1 892 := ⟨by decide +kernel, rfl⟩
theorem d_law_892 : zD code 892 (.iload_n 3) 1 893 := ⟨by decide +kernel, rfl⟩
theorem d_law_893 : zD code 893 (.iconst 1) 1 894 := ⟨by decide +kernel, rfl⟩
theorem d_law_894 : zD code 894 (.iadd) 1 895 := ⟨by decide +kernel, rfl⟩
theorem d_law_895 : zD code 895 (.iaload) 1 896 := ⟨by decide +kernel, rfl⟩
theorem d_law_896 : zD code 896 (.invokevirtual 108) 3 899 := ⟨by decide +kernel, rfl⟩
theorem d_law_899 : zD code 899 (.if_icmp .eq 697) 3 902 := ⟨by decide +kernel, rfl⟩
theorem d_law_902 : zD code 902 (.iconst 0) 1 903 := ⟨by decide +kernel, rfl⟩
theorem d_law_903 : zD code 903 (.ireturn) 1 904 := ⟨by decide +kernel, rfl⟩
theorem d_law_904 : zD code 904 (.aload_n 1) 1 905 := ⟨by decide +kernel, rfl⟩
theorem d_law_905 : zD code 905 (.aload_n 0) 1 906 := ⟨by decide +kernel, rfl⟩
theorem d_law_906 : zD code 906 (.iload_n 3) 1 907 := ⟨by decide +kernel, rfl⟩
theorem d_law_907 : zD code 907 (.iconst 1) 1 908 := ⟨by decide +kernel, rfl⟩
theorem d_law_908 : zD code 908 (.iadd) 1 909 := ⟨by decide +kernel, rfl⟩
theorem d_law_909 : zD code 909 (.iaload) 1 910 := ⟨by decide +kernel, rfl⟩
theorem d_law_910 : zD code 910 (.invokevirtual 109) 3 913 := ⟨by decide +kernel, rfl⟩
theorem d_law_913 : zD code 913 (.aload_n 2) 1 914 := ⟨by decide +kernel, rfl⟩
theorem d_law_914 : zD code 914 (.aload_n 0) 1 915 := ⟨by decide +kernel, rfl⟩
theorem d_law_915 : zD code 915 (.iload_n 3) 1 916 := ⟨by decide +kernel, rfl⟩
theorem d_law_916 : zD code 916 (.iconst 1) 1 917 := ⟨by decide +kernel, rfl⟩
theorem d_law_917 : zD code 917 (.iadd) 1 918 := ⟨by decide +kernel, rfl⟩
theorem d_law_918 : zD code 918 (.iaload) 1 919 := ⟨by decide +kernel, rfl⟩
theorem d_law_919 : zD code 919 (.invokevirtual 112) 3 922 := ⟨by decide +kernel, rfl⟩
theorem d_law_922 : zD code 922 (.if_icmp .eq 674) 3 925 := ⟨by decide +kernel, rfl⟩
theorem d_law_925 : zD code 925 (.iconst 0) 1 926 := ⟨by decide +kernel, rfl⟩
theorem d_law_926 : zD code 926 (.ireturn) 1 927 := ⟨by decide +kernel, rfl⟩
theorem d_law_927 : zD code 927 (.aload_n 1) 1 928 := ⟨by decide +kernel, rfl⟩
theorem d_law_928 : zD code 928 (.aload_n 0) 1 929 := ⟨by decide +kernel, rfl⟩
theorem d_law_929 : zD code 929 (.iload_n 3) 1 930 := ⟨by decide +kernel, rfl⟩
theorem d_law_930 : zD code 930 (.iconst 1) 1 931 := ⟨by decide +kernel, rfl⟩
theorem d_law_931 : zD code 931 (.iadd) 1 932 := ⟨by decide +kernel, rfl⟩
theorem d_law_932 : zD code 932 (.iaload) 1 933 := ⟨by decide +kernel, rfl⟩
theorem d_law_933 : zD code 933 (.invokevirtual 113) 3 936 := ⟨by decide +kernel, rfl⟩
theorem d_law_936 : zD code 936 (.aload_n 2) 1 937 := ⟨by decide +kernel, rfl⟩
theorem d_law_937 : zD code 937 (.aload_n 0) 1 938 := ⟨by decide +kernel, rfl⟩
theorem d_law_938 : zD code 938 (.iload_n 3) 1 939 := ⟨by decide +kernel, rfl⟩
theorem d_law_939 : zD code 939 (.iconst 1) 1 940 := ⟨by decide +kernel, rfl⟩
theorem d_law_940 : zD code 940 (.iadd) 1 941 := ⟨by decide +kernel, rfl⟩
theorem d_law_941 : zD code 941 (.iaload) 1 942 := ⟨by decide +kernel, rfl⟩
theorem d_law_942 : zD code 942 (.invokevirtual 116) 3 945 := ⟨by decide +kernel, rfl⟩
theorem d_law_945 : zD code 945 (.if_icmp .eq 651) 3 948 := ⟨by decide +kernel, rfl⟩
theorem d_law_948 : zD code 948 (.iconst 0) 1 949 := ⟨by decide +kernel, rfl⟩
theorem d_law_949 : zD code 949 (.ireturn) 1 950 := ⟨by decide +kernel, rfl⟩
theorem d_law_950 : zD code 950 (.aload_n 1) 1 951 := ⟨by decide +kernel, rfl⟩
theorem d_law_951 : zD code 951 (.aload_n 0) 1 952 := ⟨by decide +kernel, rfl⟩
theorem d_law_952 : zD code 952 (.iload_n 3) 1 953 := ⟨by decide +kernel, rfl⟩
theorem d_law_953 : zD code 953 (.iconst 1) 1 954 := ⟨by decide +kernel, rfl⟩
theorem d_law_954 : zD code 954 (.iadd) 1 955 := ⟨by decide +kernel, rfl⟩
theorem d_law_955 : zD code 955 (.iaload) 1 956 := ⟨by decide +kernel, rfl⟩
theorem d_law_956 : zD code 956 (.invokevirtual 117) 3 959 := ⟨by decide +kernel, rfl⟩
theorem d_law_959 : zD code 959 (.aload_n 2) 1 960 := ⟨by decide +kernel, rfl⟩
theorem d_law_960 : zD code 960 (.aload_n 0) 1 961 := ⟨by decide +kernel, rfl⟩
theorem d_law_961 : zD code 961 (.iload_n 3) 1 962 := ⟨by decide +kernel, rfl⟩
theorem d_law_962 : zD code 962 (.iconst 1) 1 963 := ⟨by decide +kernel, rfl⟩
theorem d_law_963 : zD code 963 (.iadd) 1 964 := ⟨by decide +kernel, rfl⟩
theorem d_law_964 : zD code 964 (.iaload) 1 965 := ⟨by decide +kernel, rfl⟩
theorem d_law_965 : zD code 965 (.invokevirtual 120) 3 968 := ⟨by decide +kernel, rfl⟩
theorem d_law_968 : zD code 968 (.if_icmp .eq 628) 3 971 := ⟨by decide +kernel, rfl⟩
theorem d_law_971 : zD code 971 (.iconst 0) 1 972 := ⟨by decide +kernel, rfl⟩
theorem d_law_972 : zD code 972 (.ireturn) 1 973 := ⟨by decide +kernel, rfl⟩
theorem d_law_973 : zD code 973 (.aload_n 1) 1 974 := ⟨by decide +kernel, rfl⟩
theorem d_law_974 : zD code 974 (.invokevirtual 121) 3 977 := ⟨by decide +kernel, rfl⟩
theorem d_law_977 : zD code 977 (.aload_n 2) 1 978 := ⟨by decide +kernel, rfl⟩
theorem d_law_978 : zD code 978 (.invokevirtual 124) 3 981 := ⟨by decide +kernel, rfl⟩
theorem d_law_981 : zD code 981 (.if_icmp .eq 615) 3 984 := ⟨by decide +kernel, rfl⟩
theorem d_law_984 : zD code 984 (.iconst 0) 1 985 := ⟨by decide +kernel, rfl⟩
theorem d_law_985 : zD code 985 (.ireturn) 1 986 := ⟨by decide +kernel, rfl⟩
theorem d_law_986 : zD code 986 (.aload_n 1) 1 987 := ⟨by decide +kernel, rfl⟩
theorem d_law_987 : zD code 987 (.aload_n 0) 1 988 := ⟨by decide +kernel, rfl⟩
theorem d_law_988 : zD code 988 (.iload_n 3) 1 989 := ⟨by decide +kernel, rfl⟩
theorem d_law_989 : zD code 989 (.iconst 1) 1 990 := ⟨by decide +kernel, rfl⟩
theorem d_law_990 : zD code 990 (.iadd) 1 991 := ⟨by decide +kernel, rfl⟩
theorem d_law_991 : zD code 991 (.iaload) 1 992 := ⟨by decide +kernel, rfl⟩
theorem d_law_992 : zD code 992 (.invokevirtual 125) 3 995 := ⟨by decide +kernel, rfl⟩
theorem d_law_995 : zD code 995 (.aload_n 2) 1 996 := ⟨by decide +kernel, rfl⟩
theorem d_law_996 : zD code 996 (.aload_n 0) 1 997 := ⟨by decide +kernel, rfl⟩
theorem d_law_997 : zD code 997 (.iload_n 3) 1 998 := ⟨by decide +kernel, rfl⟩
theorem d_law_998 : zD code 998 (.iconst 1) 1 999 := ⟨by decide +kernel, rfl⟩
theorem d_law_999 : zD code 999 (.iadd) 1 1000 := ⟨by decide +kernel, rfl⟩
theorem d_law_1000 : zD code 1000 (.iaload) 1 1001 := ⟨by decide +kernel, rfl⟩
theorem d_law_1001 : zD code 1001 (.invokevirtual 128) 3 1004 := ⟨by decide +kernel, rfl⟩
theorem d_law_1004 : zD code 1004 (.if_icmp .eq 592) 3 1007 := ⟨by decide +kernel, rfl⟩
theorem d_law_1007 : zD code 1007 (.iconst 0) 1 1008 := ⟨by decide +kernel, rfl⟩
theorem d_law_1008 : zD code 1008 (.ireturn) 1 1009 := ⟨by decide +kernel, rfl⟩
theorem d_law_1009 : zD code 1009 (.aload_n 1) 1 1010 := ⟨by decide +kernel, rfl⟩
theorem d_law_1010 : zD code 1010 (.aload_n 0) 1 1011 := ⟨by decide +kernel, rfl⟩
theorem d_law_1011 : zD code 1011 (.iload_n 3) 1 1012 := ⟨by decide +kernel, rfl⟩
theorem d_law_1012 : zD code 1012 (.iconst 1) 1 1013 := ⟨by decide +kernel, rfl⟩
theorem d_law_1013 : zD code 1013 (.iadd) 1 1014 := ⟨by decide +kernel, rfl⟩
theorem d_law_1014 : zD code 1014 (.iaload) 1 1015 := ⟨by decide +kernel, rfl⟩
theorem d_law_1015 : zD code 1015 (.aload_n 0) 1 1016 := ⟨by decide +kernel, rfl⟩
theorem d_law_1016 : zD code 1016 (.iload_n 3) 1 1017 := ⟨by decide +kernel, rfl⟩
theorem d_law_1017 : zD code 1017 (.iconst 2) 1 1018 := ⟨by decide +kernel, rfl⟩
theorem d_law_1018 : zD code 1018 (.iadd) 1 1019 := ⟨by decide +kernel, rfl⟩
theorem d_law_1019 : zD code 1019 (.iaload) 1 1020 := ⟨by decide +kernel, rfl⟩
theorem d_law_1020 : zD code 1020 (.invokevirtual 129) 3 1023 := ⟨by decide +kernel, rfl⟩
theorem d_law_1023 : zD code 1023 (.aload_n 2) 1 1024 := ⟨by decide +kernel, rfl⟩
theorem d_law_1024 : zD code 1024 (.aload_n 0) 1 1025 := ⟨by decide +kernel, rfl⟩
theorem d_law_1025 : zD code 1025 (.iload_n 3) 1 1026 := ⟨by decide +kernel, rfl⟩
theorem d_law_1026 : zD code 1026 (.iconst 1) 1 1027 := ⟨by decide +kernel, rfl⟩
theorem d_law_1027 : zD code 1027 (.iadd) 1 1028 := ⟨by decide +kernel, rfl⟩
theorem d_law_1028 : zD code 1028 (.iaload) 1 1029 := ⟨by decide +kernel, rfl⟩
theorem d_law_1029 : zD code 1029 (.aload_n 0) 1 1030 := ⟨by decide +kernel, rfl⟩
theorem d_law_1030 : zD code 1030 (.iload_n 3) 1 1031 := ⟨by decide +kernel, rfl⟩
theorem d_law_1031 : zD code 1031 (.iconst 2) 1 1032 := ⟨by decide +kernel, rfl⟩
theorem d_law_1032 : zD code 1032 (.iadd) 1 1033 := ⟨by decide +kernel, rfl⟩
theorem d_law_1033 : zD code 1033 (.iaload) 1 1034 := ⟨by decide +kernel, rfl⟩
theorem d_law_1034 : zD code 1034 (.invokevirtual 132) 3 1037 := ⟨by decide +kernel, rfl⟩
theorem d_law_1037 : zD code 1037 (.if_icmp .eq 559) 3 1040 := ⟨by decide +kernel, rfl⟩
theorem d_law_1040 : zD code 1040 (.iconst 0) 1 1041 := ⟨by decide +kernel, rfl⟩
theorem d_law_1041 : zD code 1041 (.ireturn) 1 1042 := ⟨by decide +kernel, rfl⟩
theorem d_law_1042 : zD code 1042 (.aload_n 1) 1 1043 := ⟨by decide +kernel, rfl⟩
theorem d_law_1043 : zD code 1043 (.aload_n 0) 1 1044 := ⟨by decide +kernel, rfl⟩
theorem d_law_1044 : zD code 1044 (.iload_n 3) 1 1045 := ⟨by decide +kernel, rfl⟩
theorem d_law_1045 : zD code 1045 (.iconst 1) 1 1046 := ⟨by decide +kernel, rfl⟩
theorem d_law_1046 : zD code 1046 (.iadd) 1 1047 := ⟨by decide +kernel, rfl⟩
theorem d_law_1047 : zD code 1047 (.iaload) 1 1048 := ⟨by decide +kernel, rfl⟩
theorem d_law_1048 : zD code 1048 (.aload_n 0) 1 1049 := ⟨by decide +kernel, rfl⟩
theorem d_law_1049 : zD code 1049 (.iload_n 3) 1 1050 := ⟨by decide +kernel, rfl⟩
theorem d_law_1050 : zD code 1050 (.iconst 2) 1 1051 := ⟨by decide +kernel, rfl⟩
theorem d_law_1051 : zD code 1051 (.iadd) 1 1052 := ⟨by decide +kernel, rfl⟩
theorem d_law_1052 : zD code 1052 (.iaload) 1 1053 := ⟨by decide +kernel, rfl⟩
theorem d_law_1053 : zD code 1053 (.invokevirtual 133) 3 1056 := ⟨by decide +kernel, rfl⟩
theorem d_law_1056 : zD code 1056 (.aload_n 2) 1 1057 := ⟨by decide +kernel, rfl⟩
theorem d_law_1057 : zD code 1057 (.aload_n 0) 1 1058 := ⟨by decide +kernel, rfl⟩
theorem d_law_1058 : zD code 1058 (.iload_n 3) 1 1059 := ⟨by decide +kernel, rfl⟩
theorem d_law_1059 : zD code 1059 (.iconst 1) 1 1060 := ⟨by decide +kernel, rfl⟩
theorem d_law_1060 : zD code 1060 (.iadd) 1 1061 := ⟨by decide +kernel, rfl⟩
theorem d_law_1061 : zD code 1061 (.iaload) 1 1062 := ⟨by decide +kernel, rfl⟩
theorem d_law_1062 : zD code 1062 (.aload_n 0) 1 1063 := ⟨by decide +kernel, rfl⟩
theorem d_law_1063 : zD code 1063 (.iload_n 3) 1 1064 := ⟨by decide +kernel, rfl⟩
theorem d_law_1064 : zD code 1064 (.iconst 2) 1 1065 := ⟨by decide +kernel, rfl⟩
theorem d_law_1065 : zD code 1065 (.iadd) 1 1066 := ⟨by decide +kernel, rfl⟩
theorem d_law_1066 : zD code 1066 (.iaload) 1 1067 := ⟨by decide +kernel, rfl⟩
theorem d_law_1067 : zD code 1067 (.invokevirtual 136) 3 1070 := ⟨by decide +kernel, rfl⟩
theorem d_law_1070 : zD code 1070 (.if_icmp .eq 526) 3 1073 := ⟨by decide +kernel, rfl⟩
theorem d_law_1073 : zD code 1073 (.iconst 0) 1 1074 := ⟨by decide +kernel, rfl⟩
theorem d_law_1074 : zD code 1074 (.ireturn) 1 1075 := ⟨by decide +kernel, rfl⟩
theorem d_law_1075 : zD code 1075 (.aload_n 1) 1 1076 := ⟨by decide +kernel, rfl⟩
theorem d_law_1076 : zD code 1076 (.aload_n 0) 1 1077 := ⟨by decide +kernel, rfl⟩
theorem d_law_1077 : zD code 1077 (.iload_n 3) 1 1078 := ⟨by decide +kernel, rfl⟩
theorem d_law_1078 : zD code 1078 (.iconst 1) 1 1079 := ⟨by decide +kernel, rfl⟩
theorem d_law_1079 : zD code 1079 (.iadd) 1 1080 := ⟨by decide +kernel, rfl⟩
theorem d_law_1080 : zD code 1080 (.iaload) 1 1081 := ⟨by decide +kernel, rfl⟩
theorem d_law_1081 : zD code 1081 (.aload_n 0) 1 1082 := ⟨by decide +kernel, rfl⟩
theorem d_law_1082 : zD code 1082 (.iload_n 3) 1 1083 := ⟨by decide +kernel, rfl⟩
theorem d_law_1083 : zD code 1083 (.iconst 2) 1 1084 := ⟨by decide +kernel, rfl⟩
theorem d_law_1084 : zD code 1084 (.iadd) 1 1085 := ⟨by decide +kernel, rfl⟩
theorem d_law_1085 : zD code 1085 (.iaload) 1 1086 := ⟨by decide +kernel, rfl⟩
theorem d_law_1086 : zD code 1086 (.invokevirtual 137) 3 1089 := ⟨by decide +kernel, rfl⟩
theorem d_law_1089 : zD code 1089 (.aload_n 2) 1 1090 := ⟨by decide +kernel, rfl⟩
theorem d_law_1090 : zD code 1090 (.aload_n 0) 1 1091 := ⟨by decide +kernel, rfl⟩
theorem d_law_1091 : zD code 1091 (.iload_n 3) 1 1092 := ⟨by decide +kernel, rfl⟩
theorem d_law_1092 : zD code 1092 (.iconst 1) 1 1093 := ⟨by decide +kernel, rfl⟩
theorem d_law_1093 : zD code 1093 (.iadd) 1 1094 := ⟨by decide +kernel, rfl⟩
theorem d_law_1094 : zD code 1094 (.iaload) 1 1095 := ⟨by decide +kernel, rfl⟩
theorem d_law_1095 : zD code 1095 (.aload_n 0) 1 1096 := ⟨by decide +kernel, rfl⟩
theorem d_law_1096 : zD code 1096 (.iload_n 3) 1 1097 := ⟨by decide +kernel, rfl⟩
theorem d_law_1097 : zD code 1097 (.iconst 2) 1 1098 := ⟨by decide +kernel, rfl⟩
theorem d_law_1098 : zD code 1098 (.iadd) 1 1099 := ⟨by decide +kernel, rfl⟩
theorem d_law_1099 : zD code 1099 (.iaload) 1 1100 := ⟨by decide +kernel, rfl⟩
theorem d_law_1100 : zD code 1100 (.invokevirtual 140) 3 1103 := ⟨by decide +kernel, rfl⟩
theorem d_law_1103 : zD code 1103 (.if_icmp .eq 493) 3 1106 := ⟨by decide +kernel, rfl⟩
theorem d_law_1106 : zD code 1106 (.iconst 0) 1 1107 := ⟨by decide +kernel, rfl⟩
theorem d_law_1107 : zD code 1107 (.ireturn) 1 1108 := ⟨by decide +kernel, rfl⟩
theorem d_law_1108 : zD code 1108 (.aload_n 1) 1 1109 := ⟨by decide +kernel, rfl⟩
theorem d_law_1109 : zD code 1109 (.aload_n 0) 1 1110 := ⟨by decide +kernel, rfl⟩
theorem d_law_1110 : zD code 1110 (.iload_n 3) 1 1111 := ⟨by decide +kernel, rfl⟩
theorem d_law_1111 : zD code 1111 (.iconst 1) 1 1112 := ⟨by decide +kernel, rfl⟩
theorem d_law_1112 : zD code 1112 (.iadd) 1 1113 := ⟨by decide +kernel, rfl⟩
theorem d_law_1113 : zD code 1113 (.iaload) 1 1114 := ⟨by decide +kernel, rfl⟩
theorem d_law_1114 : zD code 1114 (.aload_n 0) 1 1115 := ⟨by decide +kernel, rfl⟩
theorem d_law_1115 : zD code 1115 (.iload_n 3) 1 1116 := ⟨by decide +kernel, rfl⟩
theorem d_law_1116 : zD code 1116 (.iconst 2) 1 1117 := ⟨by decide +kernel, rfl⟩
theorem d_law_1117 : zD code 1117 (.iadd) 1 1118 := ⟨by decide +kernel, rfl⟩
theorem d_law_1118 : zD code 1118 (.iaload) 1 1119 := ⟨by decide +kernel, rfl⟩
theorem d_law_1119 : zD code 1119 (.aload_n 0) 1 1120 := ⟨by decide +kernel, rfl⟩
theorem d_law_1120 : zD code 1120 (.iload_n 3) 1 1121 := ⟨by decide +kernel, rfl⟩
theorem d_law_1121 : zD code 1121 (.iconst 3) 1 1122 := ⟨by decide +kernel, rfl⟩
theorem d_law_1122 : zD code 1122 (.iadd) 1 1123 := ⟨by decide +kernel, rfl⟩
theorem d_law_1123 : zD code 1123 (.iaload) 1 1124 := ⟨by decide +kernel, rfl⟩
theorem d_law_1124 : zD code 1124 (.invokevirtual 141) 3 1127 := ⟨by decide +kernel, rfl⟩
theorem d_law_1127 : zD code 1127 (.aload_n 2) 1 1128 := ⟨by decide +kernel, rfl⟩
theorem d_law_1128 : zD code 1128 (.aload_n 0) 1 1129 := ⟨by decide +kernel, rfl⟩
theorem d_law_1129 : zD code 1129 (.iload_n 3) 1 1130 := ⟨by decide +kernel, rfl⟩
theorem d_law_1130 : zD code 1130 (.iconst 1) 1 1131 := ⟨by decide +kernel, rfl⟩
theorem d_law_1131 : zD code 1131 (.iadd) 1 1132 := ⟨by decide +kernel, rfl⟩
theorem d_law_1132 : zD code 1132 (.iaload) 1 1133 := ⟨by decide +kernel, rfl⟩
theorem d_law_1133 : zD code 1133 (.aload_n 0) 1 1134 := ⟨by decide +kernel, rfl⟩
theorem d_law_1134 : zD code 1134 (.iload_n 3) 1 1135 := ⟨by decide +kernel, rfl⟩
theorem d_law_1135 : zD code 1135 (.iconst 2) 1 1136 := ⟨by decide +kernel, rfl⟩
theorem d_law_1136 : zD code 1136 (.iadd) 1 1137 := ⟨by decide +kernel, rfl⟩
theorem d_law_1137 : zD code 1137 (.iaload) 1 1138 := ⟨by decide +kernel, rfl⟩
theorem d_law_1138 : zD code 1138 (.aload_n 0) 1 1139 := ⟨by decide +kernel, rfl⟩
theorem d_law_1139 : zD code 1139 (.iload_n 3) 1 1140 := ⟨by decide +kernel, rfl⟩
theorem d_law_1140 : zD code 1140 (.iconst 3) 1 1141 := ⟨by decide +kernel, rfl⟩
theorem d_law_1141 : zD code 1141 (.iadd) 1 1142 := ⟨by decide +kernel, rfl⟩
theorem d_law_1142 : zD code 1142 (.iaload) 1 1143 := ⟨by decide +kernel, rfl⟩
theorem d_law_1143 : zD code 1143 (.invokevirtual 144) 3 1146 := ⟨by decide +kernel, rfl⟩
theorem d_law_1146 : zD code 1146 (.if_icmp .eq 450) 3 1149 := ⟨by decide +kernel, rfl⟩
theorem d_law_1149 : zD code 1149 (.iconst 0) 1 1150 := ⟨by decide +kernel, rfl⟩
theorem d_law_1150 : zD code 1150 (.ireturn) 1 1151 := ⟨by decide +kernel, rfl⟩
theorem d_law_1151 : zD code 1151 (.aload_n 1) 1 1152 := ⟨by decide +kernel, rfl⟩
theorem d_law_1152 : zD code 1152 (.aload_n 0) 1 1153 := ⟨by decide +kernel, rfl⟩
theorem d_law_1153 : zD code 1153 (.iload_n 3) 1 1154 := ⟨by decide +kernel, rfl⟩
theorem d_law_1154 : zD code 1154 (.iconst 1) 1 1155 := ⟨by decide +kernel, rfl⟩
theorem d_law_1155 : zD code 1155 (.iadd) 1 1156 := ⟨by decide +kernel, rfl⟩
theorem d_law_1156 : zD code 1156 (.iaload) 1 1157 := ⟨by decide +kernel, rfl⟩
theorem d_law_1157 : zD code 1157 (.aload_n 0) 1 1158 := ⟨by decide +kernel, rfl⟩
theorem d_law_1158 : zD code 1158 (.iload_n 3) 1 1159 := ⟨by decide +kernel, rfl⟩
theorem d_law_1159 : zD code 1159 (.iconst 2) 1 1160 := ⟨by decide +kernel, rfl⟩
theorem d_law_1160 : zD code 1160 (.iadd) 1 1161 := ⟨by decide +kernel, rfl⟩
theorem d_law_1161 : zD code 1161 (.iaload) 1 1162 := ⟨by decide +kernel, rfl⟩
theorem d_law_1162 : zD code 1162 (.invokevirtual 145) 3 1165 := ⟨by decide +kernel, rfl⟩
theorem d_law_1165 : zD code 1165 (.aload_n 2) 1 1166 := ⟨by decide +kernel, rfl⟩
theorem d_law_1166 : zD code 1166 (.aload_n 0) 1 1167 := ⟨by decide +kernel, rfl⟩
theorem d_law_1167 : zD code 1167 (.iload_n 3) 1 1168 := ⟨by decide +kernel, rfl⟩
theorem d_law_1168 : zD code 1168 (.iconst 1) 1 1169 := ⟨by decide +kernel, rfl⟩
theorem d_law_1169 : zD code 1169 (.iadd) 1 1170 := ⟨by decide +kernel, rfl⟩
theorem d_law_1170 : zD code 1170 (.iaload) 1 1171 := ⟨by decide +kernel, rfl⟩
theorem d_law_1171 : zD code 1171 (.aload_n 0) 1 1172 := ⟨by decide +kernel, rfl⟩
theorem d_law_1172 : zD code 1172 (.iload_n 3) 1 1173 := ⟨by decide +kernel, rfl⟩
theorem d_law_1173 : zD code 1173 (.iconst 2) 1 1174 := ⟨by decide +kernel, rfl⟩
theorem d_law_1174 : zD code 1174 (.iadd) 1 1175 := ⟨by decide +kernel, rfl⟩
theorem d_law_1175 : zD code 1175 (.iaload) 1 1176 := ⟨by decide +kernel, rfl⟩
theorem d_law_1176 : zD code 1176 (.invokevirtual 148) 3 1179 := ⟨by decide +kernel, rfl⟩
theorem d_law_1179 : zD code 1179 (.if_icmp .eq 417) 3 1182 := ⟨by decide +kernel, rfl⟩
theorem d_law_1182 : zD code 1182 (.iconst 0) 1 1183 := ⟨by decide +kernel, rfl⟩
theorem d_law_1183 : zD code 1183 (.ireturn) 1 1184 := ⟨by decide +kernel, rfl⟩
theorem d_law_1184 : zD code 1184 (.aload_n 1) 1 1185 := ⟨by decide +kernel, rfl⟩
theorem d_law_1185 : zD code 1185 (.invokevirtual 149) 3 1188 := ⟨by decide +kernel, rfl⟩
theorem d_law_1188 : zD code 1188 (.aload_n 2) 1 1189 := ⟨by decide +kernel, rfl⟩
theorem d_law_1189 : zD code 1189 (.invokevirtual 152) 3 1192 := ⟨by decide +kernel, rfl⟩
theorem d_law_1192 : zD code 1192 (.if_icmp .eq 404) 3 1195 := ⟨by decide +kernel, rfl⟩
theorem d_law_1195 : zD code 1195 (.iconst 0) 1 1196 := ⟨by decide +kernel, rfl⟩
theorem d_law_1196 : zD code 1196 (.ireturn) 1 1197 := ⟨by decide +kernel, rfl⟩
theorem d_law_1197 : zD code 1197 (.aload_n 1) 1 1198 := ⟨by decide +kernel, rfl⟩
theorem d_law_1198 : zD code 1198 (.aload_n 0) 1 1199 := ⟨by decide +kernel, rfl⟩
theorem d_law_1199 : zD code 1199 (.iload_n 3) 1 1200 := ⟨by decide +kernel, rfl⟩
theorem d_law_1200 : zD code 1200 (.iconst 1) 1 1201 := ⟨by decide +kernel, rfl⟩
theorem d_law_1201 : zD code 1201 (.iadd) 1 1202 := ⟨by decide +kernel, rfl⟩
theorem d_law_1202 : zD code 1202 (.iaload) 1 1203 := ⟨by decide +kernel, rfl⟩
theorem d_law_1203 : zD code 1203 (.invokevirtual 153) 3 1206 := ⟨by decide +kernel, rfl⟩
theorem d_law_1206 : zD code 1206 (.aload_n 2) 1 1207 := ⟨by decide +kernel, rfl⟩
theorem d_law_1207 : zD code 1207 (.aload_n 0) 1 1208 := ⟨by decide +kernel, rfl⟩
theorem d_law_1208 : zD code 1208 (.iload_n 3) 1 1209 := ⟨by decide +kernel, rfl⟩
theorem d_law_1209 : zD code 1209 (.iconst 1) 1 1210 := ⟨by decide +kernel, rfl⟩
theorem d_law_1210 : zD code 1210 (.iadd) 1 1211 := ⟨by decide +kernel, rfl⟩
theorem d_law_1211 : zD code 1211 (.iaload) 1 1212 := ⟨by decide +kernel, rfl⟩
theorem d_law_1212 : zD code 1212 (.invokevirtual 156) 3 1215 := ⟨by decide +kernel, rfl⟩
theorem d_law_1215 : zD code 1215 (.if_icmp .eq 381) 3 1218 := ⟨by decide +kernel, rfl⟩
theorem d_law_1218 : zD code 1218 (.iconst 0) 1 1219 := ⟨by decide +kernel, rfl⟩
theorem d_law_1219 : zD code 1219 (.ireturn) 1 1220 := ⟨by decide +kernel, rfl⟩
theorem d_law_1220 : zD code 1220 (.aload_n 1) 1 1221 := ⟨by decide +kernel, rfl⟩
theorem d_law_1221 : zD code 1221 (.aload_n 0) 1 1222 := ⟨by decide +kernel, rfl⟩
theorem d_law_1222 : zD code 1222 (.iload_n 3) 1 1223 := ⟨by decide +kernel, rfl⟩
theorem d_law_1223 : zD code 1223 (.iconst 1) 1 1224 := ⟨by decide +kernel, rfl⟩
theorem d_law_1224 : zD code 1224 (.iadd) 1 1225 := ⟨by decide +kernel, rfl⟩
theorem d_law_1225 : zD code 1225 (.iaload) 1 1226 := ⟨by decide +kernel, rfl⟩
theorem d_law_1226 : zD code 1226 (.aload_n 0) 1 1227 := ⟨by decide +kernel, rfl⟩
theorem d_law_1227 : zD code 1227 (.iload_n 3) 1 1228 := ⟨by decide +kernel, rfl⟩
theorem d_law_1228 : zD code 1228 (.iconst 2) 1 1229 := ⟨by decide +kernel, rfl⟩
theorem d_law_1229 : zD code 1229 (.iadd) 1 1230 := ⟨by decide +kernel, rfl⟩
theorem d_law_1230 : zD code 1230 (.iaload) 1 1231 := ⟨by decide +kernel, rfl⟩
theorem d_law_1231 : zD code 1231 (.invokevirtual 157) 3 1234 := ⟨by decide +kernel, rfl⟩
theorem d_law_1234 : zD code 1234 (.aload_n 2) 1 1235 := ⟨by decide +kernel, rfl⟩
theorem d_law_1235 : zD code 1235 (.aload_n 0) 1 1236 := ⟨by decide +kernel, rfl⟩
theorem d_law_1236 : zD code 1236 (.iload_n 3) 1 1237 := ⟨by decide +kernel, rfl⟩
theorem d_law_1237 : zD code 1237 (.iconst 1) 1 1238 := ⟨by decide +kernel, rfl⟩
theorem d_law_1238 : zD code 1238 (.iadd) 1 1239 := ⟨by decide +kernel, rfl⟩
theorem d_law_1239 : zD code 1239 (.iaload) 1 1240 := ⟨by decide +kernel, rfl⟩
theorem d_law_1240 : zD code 1240 (.aload_n 0) 1 1241 := ⟨by decide +kernel, rfl⟩
theorem d_law_1241 : zD code 1241 (.iload_n 3) 1 1242 := ⟨by decide +kernel, rfl⟩
theorem d_law_1242 : zD code 1242 (.iconst 2) 1 1243 := ⟨by decide +kernel, rfl⟩
theorem d_law_1243 : zD code 1243 (.iadd) 1 1244 := ⟨by decide +kernel, rfl⟩
theorem d_law_1244 : zD code 1244 (.iaload) 1 1245 := ⟨by decide +kernel, rfl⟩
theorem d_law_1245 : zD code 1245 (.invokevirtual 160) 3 1248 := ⟨by decide +kernel, rfl⟩
theorem d_law_1248 : zD code 1248 (.if_icmp .eq 348) 3 1251 := ⟨by decide +kernel, rfl⟩
theorem d_law_1251 : zD code 1251 (.iconst 0) 1 1252 := ⟨by decide +kernel, rfl⟩
theorem d_law_1252 : zD code 1252 (.ireturn) 1 1253 := ⟨by decide +kernel, rfl⟩
theorem d_law_1253 : zD code 1253 (.aload_n 1) 1 1254 := ⟨by decide +kernel, rfl⟩
theorem d_law_1254 : zD code 1254 (.aload_n 0) 1 1255 := ⟨by decide +kernel, rfl⟩
theorem d_law_1255 : zD code 1255 (.iload_n 3) 1 1256 := ⟨by decide +kernel, rfl⟩
theorem d_law_1256 : zD code 1256 (.iconst 1) 1 1257 := ⟨by decide +kernel, rfl⟩
theorem d_law_1257 : zD code 1257 (.iadd) 1 1258 := ⟨by decide +kernel, rfl⟩
theorem d_law_1258 : zD code 1258 (.iaload) 1 1259 := ⟨by decide +kernel, rfl⟩
theorem d_law_1259 : zD code 1259 (.aload_n 0) 1 1260 := ⟨by decide +kernel, rfl⟩
theorem d_law_1260 : zD code 1260 (.iload_n 3) 1 1261 := ⟨by decide +kernel, rfl⟩
theorem d_law_1261 : zD code 1261 (.iconst 2) 1 1262 := ⟨by decide +kernel, rfl⟩
theorem d_law_1262 : zD code 1262 (.iadd) 1 1263 := ⟨by decide +kernel, rfl⟩
theorem d_law_1263 : zD code 1263 (.iaload) 1 1264 := ⟨by decide +kernel, rfl⟩
theorem d_law_1264 : zD code 1264 (.invokevirtual 161) 3 1267 := ⟨by decide +kernel, rfl⟩
theorem d_law_1267 : zD code 1267 (.aload_n 2) 1 1268 := ⟨by decide +kernel, rfl⟩
theorem d_law_1268 : zD code 1268 (.aload_n 0) 1 1269 := ⟨by decide +kernel, rfl⟩
theorem d_law_1269 : zD code 1269 (.iload_n 3) 1 1270 := ⟨by decide +kernel, rfl⟩
theorem d_law_1270 : zD code 1270 (.iconst 1) 1 1271 := ⟨by decide +kernel, rfl⟩
theorem d_law_1271 : zD code 1271 (.iadd) 1 1272 := ⟨by decide +kernel, rfl⟩
theorem d_law_1272 : zD code 1272 (.iaload) 1 1273 := ⟨by decide +kernel, rfl⟩
theorem d_law_1273 : zD code 1273 (.aload_n 0) 1 1274 := ⟨by decide +kernel, rfl⟩
theorem d_law_1274 : zD code 1274 (.iload_n 3) 1 1275 := ⟨by decide +kernel, rfl⟩
theorem d_law_1275 : zD code 1275 (.iconst 2) 1 1276 := ⟨by decide +kernel, rfl⟩
theorem d_law_1276 : zD code 1276 (.iadd) 1 1277 := ⟨by decide +kernel, rfl⟩
theorem d_law_1277 : zD code 1277 (.iaload) 1 1278 := ⟨by decide +kernel, rfl⟩
theorem d_law_1278 : zD code 1278 (.invokevirtual 164) 3 1281 := ⟨by decide +kernel, rfl⟩
theorem d_law_1281 : zD code 1281 (.if_icmp .eq 315) 3 1284 := ⟨by decide +kernel, rfl⟩
theorem d_law_1284 : zD code 1284 (.iconst 0) 1 1285 := ⟨by decide +kernel, rfl⟩
theorem d_law_1285 : zD code 1285 (.ireturn) 1 1286 := ⟨by decide +kernel, rfl⟩
theorem d_law_1286 : zD code 1286 (.aload_n 1) 1 1287 := ⟨by decide +kernel, rfl⟩
theorem d_law_1287 : zD code 1287 (.aload_n 0) 1 1288 := ⟨by decide +kernel, rfl⟩
theorem d_law_1288 : zD code 1288 (.iload_n 3) 1 1289 := ⟨by decide +kernel, rfl⟩
theorem d_law_1289 : zD code 1289 (.iconst 1) 1 1290 := ⟨by decide +kernel, rfl⟩
theorem d_law_1290 : zD code 1290 (.iadd) 1 1291 := ⟨by decide +kernel, rfl⟩
theorem d_law_1291 : zD code 1291 (.iaload) 1 1292 := ⟨by decide +kernel, rfl⟩
theorem d_law_1292 : zD code 1292 (.aload_n 0) 1 1293 := ⟨by decide +kernel, rfl⟩
theorem d_law_1293 : zD code 1293 (.iload_n 3) 1 1294 := ⟨by decide +kernel, rfl⟩
theorem d_law_1294 : zD code 1294 (.iconst 2) 1 1295 := ⟨by decide +kernel, rfl⟩
theorem d_law_1295 : zD code 1295 (.iadd) 1 1296 := ⟨by decide +kernel, rfl⟩
theorem d_law_1296 : zD code 1296 (.iaload) 1 1297 := ⟨by decide +kernel, rfl⟩
theorem d_law_1297 : zD code 1297 (.aload_n 0) 1 1298 := ⟨by decide +kernel, rfl⟩
theorem d_law_1298 : zD code 1298 (.iload_n 3) 1 1299 := ⟨by decide +kernel, rfl⟩
theorem d_law_1299 : zD code 1299 (.iconst 3) 1 1300 := ⟨by decide +kernel, rfl⟩
theorem d_law_1300 : zD code 1300 (.iadd) 1 1301 := ⟨by decide +kernel, rfl⟩
theorem d_law_1301 : zD code 1301 (.iaload) 1 1302 := ⟨by decide +kernel, rfl⟩
theorem d_law_1302 : zD code 1302 (.invokevirtual 165) 3 1305 := ⟨by decide +kernel, rfl⟩
theorem d_law_1305 : zD code 1305 (.aload_n 2) 1 1306 := ⟨by decide +kernel, rfl⟩
theorem d_law_1306 : zD code 1306 (.aload_n 0) 1 1307 := ⟨by decide +kernel, rfl⟩
theorem d_law_1307 : zD code 1307 (.iload_n 3) 1 1308 := ⟨by decide +kernel, rfl⟩
theorem d_law_1308 : zD code 1308 (.iconst 1) 1 1309 := ⟨by decide +kernel, rfl⟩
theorem d_law_1309 : zD code 1309 (.iadd) 1 1310 := ⟨by decide +kernel, rfl⟩
theorem d_law_1310 : zD code 1310 (.iaload) 1 1311 := ⟨by decide +kernel, rfl⟩
theorem d_law_1311 : zD code 1311 (.aload_n 0) 1 1312 := ⟨by decide +kernel, rfl⟩
theorem d_law_1312 : zD code 1312 (.iload_n 3) 1 1313 := ⟨by decide +kernel, rfl⟩
theorem d_law_1313 : zD code 1313 (.iconst 2) 1 1314 := ⟨by decide +kernel, rfl⟩
theorem d_law_1314 : zD code 1314 (.iadd) 1 1315 := ⟨by decide +kernel, rfl⟩
theorem d_law_1315 : zD code 1315 (.iaload) 1 1316 := ⟨by decide +kernel, rfl⟩
theorem d_law_1316 : zD code 1316 (.aload_n 0) 1 1317 := ⟨by decide +kernel, rfl⟩
theorem d_law_1317 : zD code 1317 (.iload_n 3) 1 1318 := ⟨by decide +kernel, rfl⟩
theorem d_law_1318 : zD code 1318 (.iconst 3) 1 1319 := ⟨by decide +kernel, rfl⟩
theorem d_law_1319 : zD code 1319 (.iadd) 1 1320 := ⟨by decide +kernel, rfl⟩
theorem d_law_1320 : zD code 1320 (.iaload) 1 1321 := ⟨by decide +kernel, rfl⟩
theorem d_law_1321 : zD code 1321 (.invokevirtual 168) 3 1324 := ⟨by decide +kernel, rfl⟩
theorem d_law_1324 : zD code 1324 (.if_icmp .eq 272) 3 1327 := ⟨by decide +kernel, rfl⟩
theorem d_law_1327 : zD code 1327 (.iconst 0) 1 1328 := ⟨by decide +kernel, rfl⟩
theorem d_law_1328 : zD code 1328 (.ireturn) 1 1329 := ⟨by decide +kernel, rfl⟩
theorem d_law_1329 : zD code 1329 (.aload_n 1) 1 1330 := ⟨by decide +kernel, rfl⟩
theorem d_law_1330 : zD code 1330 (.aload_n 0) 1 1331 := ⟨by decide +kernel, rfl⟩
theorem d_law_1331 : zD code 1331 (.iload_n 3) 1 1332 := ⟨by decide +kernel, rfl⟩
theorem d_law_1332 : zD code 1332 (.iconst 1) 1 1333 := ⟨by decide +kernel, rfl⟩
theorem d_law_1333 : zD code 1333 (.iadd) 1 1334 := ⟨by decide +kernel, rfl⟩
theorem d_law_1334 : zD code 1334 (.iaload) 1 1335 := ⟨by decide +kernel, rfl⟩
theorem d_law_1335 : zD code 1335 (.aload_n 0) 1 1336 := ⟨by decide +kernel, rfl⟩
theorem d_law_1336 : zD code 1336 (.iload_n 3) 1 1337 := ⟨by decide +kernel, rfl⟩
theorem d_law_1337 : zD code 1337 (.iconst 2) 1 1338 := ⟨by decide +kernel, rfl⟩
theorem d_law_1338 : zD code 1338 (.iadd) 1 1339 := ⟨by decide +kernel, rfl⟩
theorem d_law_1339 : zD code 1339 (.iaload) 1 1340 := ⟨by decide +kernel, rfl⟩
theorem d_law_1340 : zD code 1340 (.aload_n 0) 1 1341 := ⟨by decide +kernel, rfl⟩
theorem d_law_1341 : zD code 1341 (.iload_n 3) 1 1342 := ⟨by decide +kernel, rfl⟩
theorem d_law_1342 : zD code 1342 (.iconst 3) 1 1343 := ⟨by decide +kernel, rfl⟩
theorem d_law_1343 : zD code 1343 (.iadd) 1 1344 := ⟨by decide +kernel, rfl⟩
theorem d_law_1344 : zD code 1344 (.iaload) 1 1345 := ⟨by decide +kernel, rfl⟩
theorem d_law_1345 : zD code 1345 (.invokevirtual 169) 3 1348 := ⟨by decide +kernel, rfl⟩
theorem d_law_1348 : zD code 1348 (.aload_n 2) 1 1349 := ⟨by decide +kernel, rfl⟩
theorem d_law_1349 : zD code 1349 (.aload_n 0) 1 1350 := ⟨by decide +kernel, rfl⟩
theorem d_law_1350 : zD code 1350 (.iload_n 3) 1 1351 := ⟨by decide +kernel, rfl⟩
theorem d_law_1351 : zD code 1351 (.iconst 1) 1 1352 := ⟨by decide +kernel, rfl⟩
theorem d_law_1352 : zD code 1352 (.iadd) 1 1353 := ⟨by decide +kernel, rfl⟩
theorem d_law_1353 : zD code 1353 (.iaload) 1 1354 := ⟨by decide +kernel, rfl⟩
theorem d_law_1354 : zD code 1354 (.aload_n 0) 1 1355 := ⟨by decide +kernel, rfl⟩
theorem d_law_1355 : zD code 1355 (.iload_n 3) 1 1356 := ⟨by decide +kernel, rfl⟩
theorem d_law_1356 : zD code 1356 (.iconst 2) 1 1357 := ⟨by decide +kernel, rfl⟩
theorem d_law_1357 : zD code 1357 (.iadd) 1 1358 := ⟨by decide +kernel, rfl⟩
theorem d_law_1358 : zD code 1358 (.iaload) 1 1359 := ⟨by decide +kernel, rfl⟩
theorem d_law_1359 : zD code 1359 (.aload_n 0) 1 1360 := ⟨by decide +kernel, rfl⟩
theorem d_law_1360 : zD code 1360 (.iload_n 3) 1 1361 := ⟨by decide +kernel, rfl⟩
theorem d_law_1361 : zD code 1361 (.iconst 3) 1 1362 := ⟨by decide +kernel, rfl⟩
theorem d_law_1362 : zD code 1362 (.iadd) 1 1363 := ⟨by decide +kernel, rfl⟩
theorem d_law_1363 : zD code 1363 (.iaload) 1 1364 := ⟨by decide +kernel, rfl⟩
theorem d_law_1364 : zD code 1364 (.invokevirtual 172) 3 1367 := ⟨by decide +kernel, rfl⟩
theorem d_law_1367 : zD code 1367 (.if_icmp .eq 229) 3 1370 := ⟨by decide +kernel, rfl⟩
theorem d_law_1370 : zD code 1370 (.iconst 0) 1 1371 := ⟨by decide +kernel, rfl⟩
theorem d_law_1371 : zD code 1371 (.ireturn) 1 1372 := ⟨by decide +kernel, rfl⟩
theorem d_law_1372 : zD code 1372 (.aload_n 1) 1 1373 := ⟨by decide +kernel, rfl⟩
theorem d_law_1373 : zD code 1373 (.aload_n 0) 1 1374 := ⟨by decide +kernel, rfl⟩
theorem d_law_1374 : zD code 1374 (.iload_n 3) 1 1375 := ⟨by decide +kernel, rfl⟩
theorem d_law_1375 : zD code 1375 (.iconst 1) 1 1376 := ⟨by decide +kernel, rfl⟩
theorem d_law_1376 : zD code 1376 (.iadd) 1 1377 := ⟨by decide +kernel, rfl⟩
theorem d_law_1377 : zD code 1377 (.iaload) 1 1378 := ⟨by decide +kernel, rfl⟩
theorem d_law_1378 : zD code 1378 (.aload_n 0) 1 1379 := ⟨by decide +kernel, rfl⟩
theorem d_law_1379 : zD code 1379 (.iload_n 3) 1 1380 := ⟨by decide +kernel, rfl⟩
theorem d_law_1380 : zD code 1380 (.iconst 2) 1 1381 := ⟨by decide +kernel, rfl⟩
theorem d_law_1381 : zD code 1381 (.iadd) 1 1382 := ⟨by decide +kernel, rfl⟩
theorem d_law_1382 : zD code 1382 (.iaload) 1 1383 := ⟨by decide +kernel, rfl⟩
theorem d_law_1383 : zD code 1383 (.invokevirtual 173) 3 1386 := ⟨by decide +kernel, rfl⟩
theorem d_law_1386 : zD code 1386 (.aload_n 2) 1 1387 := ⟨by decide +kernel, rfl⟩
theorem d_law_1387 : zD code 1387 (.aload_n 0) 1 1388 := ⟨by decide +kernel, rfl⟩
theorem d_law_1388 : zD code 1388 (.iload_n 3) 1 1389 := ⟨by decide +kernel, rfl⟩
theorem d_law_1389 : zD code 1389 (.iconst 1) 1 1390 := ⟨by decide +kernel, rfl⟩
theorem d_law_1390 : zD code 1390 (.iadd) 1 1391 := ⟨by decide +kernel, rfl⟩
theorem d_law_1391 : zD code 1391 (.iaload) 1 1392 := ⟨by decide +kernel, rfl⟩
theorem d_law_1392 : zD code 1392 (.aload_n 0) 1 1393 := ⟨by decide +kernel, rfl⟩
theorem d_law_1393 : zD code 1393 (.iload_n 3) 1 1394 := ⟨by decide +kernel, rfl⟩
theorem d_law_1394 : zD code 1394 (.iconst 2) 1 1395 := ⟨by decide +kernel, rfl⟩
theorem d_law_1395 : zD code 1395 (.iadd) 1 1396 := ⟨by decide +kernel, rfl⟩
theorem d_law_1396 : zD code 1396 (.iaload) 1 1397 := ⟨by decide +kernel, rfl⟩
theorem d_law_1397 : zD code 1397 (.invokevirtual 176) 3 1400 := ⟨by decide +kernel, rfl⟩
theorem d_law_1400 : zD code 1400 (.if_icmp .eq 196) 3 1403 := ⟨by decide +kernel, rfl⟩
theorem d_law_1403 : zD code 1403 (.iconst 0) 1 1404 := ⟨by decide +kernel, rfl⟩
theorem d_law_1404 : zD code 1404 (.ireturn) 1 1405 := ⟨by decide +kernel, rfl⟩
theorem d_law_1405 : zD code 1405 (.aload_n 1) 1 1406 := ⟨by decide +kernel, rfl⟩
theorem d_law_1406 : zD code 1406 (.aload_n 0) 1 1407 := ⟨by decide +kernel, rfl⟩
theorem d_law_1407 : zD code 1407 (.iload_n 3) 1 1408 := ⟨by decide +kernel, rfl⟩
theorem d_law_1408 : zD code 1408 (.iconst 1) 1 1409 := ⟨by decide +kernel, rfl⟩
theorem d_law_1409 : zD code 1409 (.iadd) 1 1410 := ⟨by decide +kernel, rfl⟩
theorem d_law_1410 : zD code 1410 (.iaload) 1 1411 := ⟨by decide +kernel, rfl⟩
theorem d_law_1411 : zD code 1411 (.aload_n 0) 1 1412 := ⟨by decide +kernel, rfl⟩
theorem d_law_1412 : zD code 1412 (.iload_n 3) 1 1413 := ⟨by decide +kernel, rfl⟩
theorem d_law_1413 : zD code 1413 (.iconst 2) 1 1414 := ⟨by decide +kernel, rfl⟩
theorem d_law_1414 : zD code 1414 (.iadd) 1 1415 := ⟨by decide +kernel, rfl⟩
theorem d_law_1415 : zD code 1415 (.iaload) 1 1416 := ⟨by decide +kernel, rfl⟩
theorem d_law_1416 : zD code 1416 (.invokevirtual 177) 3 1419 := ⟨by decide +kernel, rfl⟩
theorem d_law_1419 : zD code 1419 (.aload_n 2) 1 1420 := ⟨by decide +kernel, rfl⟩
theorem d_law_1420 : zD code 1420 (.aload_n 0) 1 1421 := ⟨by decide +kernel, rfl⟩
theorem d_law_1421 : zD code 1421 (.iload_n 3) 1 1422 := ⟨by decide +kernel, rfl⟩
theorem d_law_1422 : zD code 1422 (.iconst 1) 1 1423 := ⟨by decide +kernel, rfl⟩
theorem d_law_1423 : zD code 1423 (.iadd) 1 1424 := ⟨by decide +kernel, rfl⟩
theorem d_law_1424 : zD code 1424 (.iaload) 1 1425 := ⟨by decide +kernel, rfl⟩
theorem d_law_1425 : zD code 1425 (.aload_n 0) 1 1426 := ⟨by decide +kernel, rfl⟩
theorem d_law_1426 : zD code 1426 (.iload_n 3) 1 1427 := ⟨by decide +kernel, rfl⟩
theorem d_law_1427 : zD code 1427 (.iconst 2) 1 1428 := ⟨by decide +kernel, rfl⟩
theorem d_law_1428 : zD code 1428 (.iadd) 1 1429 := ⟨by decide +kernel, rfl⟩
theorem d_law_1429 : zD code 1429 (.iaload) 1 1430 := ⟨by decide +kernel, rfl⟩
theorem d_law_1430 : zD code 1430 (.invokevirtual 180) 3 1433 := ⟨by decide +kernel, rfl⟩
theorem d_law_1433 : zD code 1433 (.if_icmp .eq 163) 3 1436 := ⟨by decide +kernel, rfl⟩
theorem d_law_1436 : zD code 1436 (.iconst 0) 1 1437 := ⟨by decide +kernel, rfl⟩
theorem d_law_1437 : zD code 1437 (.ireturn) 1 1438 := ⟨by decide +kernel, rfl⟩
theorem d_law_1438 : zD code 1438 (.aload_n 1) 1 1439 := ⟨by decide +kernel, rfl⟩
theorem d_law_1439 : zD code 1439 (.aload_n 0) 1 1440 := ⟨by decide +kernel, rfl⟩
theorem d_law_1440 : zD code 1440 (.iload_n 3) 1 1441 := ⟨by decide +kernel, rfl⟩
theorem d_law_1441 : zD code 1441 (.iconst 1) 1 1442 := ⟨by decide +kernel, rfl⟩
theorem d_law_1442 : zD code 1442 (.iadd) 1 1443 := ⟨by decide +kernel, rfl⟩
theorem d_law_1443 : zD code 1443 (.iaload) 1 1444 := ⟨by decide +kernel, rfl⟩
theorem d_law_1444 : zD code 1444 (.invokevirtual 181) 3 1447 := ⟨by decide +kernel, rfl⟩
theorem d_law_1447 : zD code 1447 (.aload_n 2) 1 1448 := ⟨by decide +kernel, rfl⟩
theorem d_law_1448 : zD code 1448 (.aload_n 0) 1 1449 := ⟨by decide +kernel, rfl⟩
theorem d_law_1449 : zD code 1449 (.iload_n 3) 1 1450 := ⟨by decide +kernel, rfl⟩
theorem d_law_1450 : zD code 1450 (.iconst 1) 1 1451 := ⟨by decide +kernel, rfl⟩
theorem d_law_1451 : zD code 1451 (.iadd) 1 1452 := ⟨by decide +kernel, rfl⟩
theorem d_law_1452 : zD code 1452 (.iaload) 1 1453 := ⟨by decide +kernel, rfl⟩
theorem d_law_1453 : zD code 1453 (.invokevirtual 184) 3 1456 := ⟨by decide +kernel, rfl⟩
theorem d_law_1456 : zD code 1456 (.if_icmp .eq 140) 3 1459 := ⟨by decide +kernel, rfl⟩
theorem d_law_1459 : zD code 1459 (.iconst 0) 1 1460 := ⟨by decide +kernel, rfl⟩
theorem d_law_1460 : zD code 1460 (.ireturn) 1 1461 := ⟨by decide +kernel, rfl⟩
theorem d_law_1461 : zD code 1461 (.aload_n 1) 1 1462 := ⟨by decide +kernel, rfl⟩
theorem d_law_1462 : zD code 1462 (.aload_n 0) 1 1463 := ⟨by decide +kernel, rfl⟩
theorem d_law_1463 : zD code 1463 (.iload_n 3) 1 1464 := ⟨by decide +kernel, rfl⟩
theorem d_law_1464 : zD code 1464 (.iconst 1) 1 1465 := ⟨by decide +kernel, rfl⟩
theorem d_law_1465 : zD code 1465 (.iadd) 1 1466 := ⟨by decide +kernel, rfl⟩
theorem d_law_1466 : zD code 1466 (.iaload) 1 1467 := ⟨by decide +kernel, rfl⟩
theorem d_law_1467 : zD code 1467 (.invokevirtual 185) 3 1470 := ⟨by decide +kernel, rfl⟩
theorem d_law_1470 : zD code 1470 (.aload_n 2) 1 1471 := ⟨by decide +kernel, rfl⟩
theorem d_law_1471 : zD code 1471 (.aload_n 0) 1 1472 := ⟨by decide +kernel, rfl⟩
theorem d_law_1472 : zD code 1472 (.iload_n 3) 1 1473 := ⟨by decide +kernel, rfl⟩
theorem d_law_1473 : zD code 1473 (.iconst 1) 1 1474 := ⟨by decide +kernel, rfl⟩
theorem d_law_1474 : zD code 1474 (.iadd) 1 1475 := ⟨by decide +kernel, rfl⟩
theorem d_law_1475 : zD code 1475 (.iaload) 1 1476 := ⟨by decide +kernel, rfl⟩
theorem d_law_1476 : zD code 1476 (.invokevirtual 188) 3 1479 := ⟨by decide +kernel, rfl⟩
theorem d_law_1479 : zD code 1479 (.if_icmp .eq 117) 3 1482 := ⟨by decide +kernel, rfl⟩
theorem d_law_1482 : zD code 1482 (.iconst 0) 1 1483 := ⟨by decide +kernel, rfl⟩
theorem d_law_1483 : zD code 1483 (.ireturn) 1 1484 := ⟨by decide +kernel, rfl⟩
theorem d_law_1484 : zD code 1484 (.aload_n 1) 1 1485 := ⟨by decide +kernel, rfl⟩
theorem d_law_1485 : zD code 1485 (.aload_n 0) 1 1486 := ⟨by decide +kernel, rfl⟩
theorem d_law_1486 : zD code 1486 (.iload_n 3) 1 1487 := ⟨by decide +kernel, rfl⟩
theorem d_law_1487 : zD code 1487 (.iconst 1) 1 1488 := ⟨by decide +kernel, rfl⟩
theorem d_law_1488 : zD code 1488 (.iadd) 1 1489 := ⟨by decide +kernel, rfl⟩
theorem d_law_1489 : zD code 1489 (.iaload) 1 1490 := ⟨by decide +kernel, rfl⟩
theorem d_law_1490 : zD code 1490 (.aload_n 0) 1 1491 := ⟨by decide +kernel, rfl⟩
theorem d_law_1491 : zD code 1491 (.iload_n 3) 1 1492 := ⟨by decide +kernel, rfl⟩
theorem d_law_1492 : zD code 1492 (.iconst 2) 1 1493 := ⟨by decide +kernel, rfl⟩
theorem d_law_1493 : zD code 1493 (.iadd) 1 1494 := ⟨by decide +kernel, rfl⟩
theorem d_law_1494 : zD code 1494 (.iaload) 1 1495 := ⟨by decide +kernel, rfl⟩
theorem d_law_1495 : zD code 1495 (.aload_n 0) 1 1496 := ⟨by decide +kernel, rfl⟩
theorem d_law_1496 : zD code 1496 (.iload_n 3) 1 1497 := ⟨by decide +kernel, rfl⟩
theorem d_law_1497 : zD code 1497 (.iconst 3) 1 1498 := ⟨by decide +kernel, rfl⟩
theorem d_law_1498 : zD code 1498 (.iadd) 1 1499 := ⟨by decide +kernel, rfl⟩
theorem d_law_1499 : zD code 1499 (.iaload) 1 1500 := ⟨by decide +kernel, rfl⟩
theorem d_law_1500 : zD code 1500 (.invokevirtual 189) 3 1503 := ⟨by decide +kernel, rfl⟩
theorem d_law_1503 : zD code 1503 (.aload_n 2) 1 1504 := ⟨by decide +kernel, rfl⟩
theorem d_law_1504 : zD code 1504 (.aload_n 0) 1 1505 := ⟨by decide +kernel, rfl⟩
theorem d_law_1505 : zD code 1505 (.iload_n 3) 1 1506 := ⟨by decide +kernel, rfl⟩
theorem d_law_1506 : zD code 1506 (.iconst 1) 1 1507 := ⟨by decide +kernel, rfl⟩
theorem d_law_1507 : zD code 1507 (.iadd) 1 1508 := ⟨by decide +kernel, rfl⟩
theorem d_law_1508 : zD code 1508 (.iaload) 1 1509 := ⟨by decide +kernel, rfl⟩
theorem d_law_1509 : zD code 1509 (.aload_n 0) 1 1510 := ⟨by decide +kernel, rfl⟩
theorem d_law_1510 : zD code 1510 (.iload_n 3) 1 1511 := ⟨by decide +kernel, rfl⟩
theorem d_law_1511 : zD code 1511 (.iconst 2) 1 1512 := ⟨by decide +kernel, rfl⟩
theorem d_law_1512 : zD code 1512 (.iadd) 1 1513 := ⟨by decide +kernel, rfl⟩
theorem d_law_1513 : zD code 1513 (.iaload) 1 1514 := ⟨by decide +kernel, rfl⟩
theorem d_law_1514 : zD code 1514 (.aload_n 0) 1 1515 := ⟨by decide +kernel, rfl⟩
theorem d_law_1515 : zD code 1515 (.iload_n 3) 1 1516 := ⟨by decide +kernel, rfl⟩
theorem d_law_1516 : zD code 1516 (.iconst 3) 1 1517 := ⟨by decide +kernel, rfl⟩
theorem d_law_1517 : zD code 1517 (.iadd) 1 1518 := ⟨by decide +kernel, rfl⟩
theorem d_law_1518 : zD code 1518 (.iaload) 1 1519 := ⟨by decide +kernel, rfl⟩
theorem d_law_1519 : zD code 1519 (.invokevirtual 192) 3 1522 := ⟨by decide +kernel, rfl⟩
theorem d_law_1522 : zD code 1522 (.if_icmp .eq 74) 3 1525 := ⟨by decide +kernel, rfl⟩
theorem d_law_1525 : zD code 1525 (.iconst 0) 1 1526 := ⟨by decide +kernel, rfl⟩
theorem d_law_1526 : zD code 1526 (.ireturn) 1 1527 := ⟨by decide +kernel, rfl⟩
theorem d_law_1527 : zD code 1527 (.aload_n 1) 1 1528 := ⟨by decide +kernel, rfl⟩
theorem d_law_1528 : zD code 1528 (.aload_n 0) 1 1529 := ⟨by decide +kernel, rfl⟩
theorem d_law_1529 : zD code 1529 (.iload_n 3) 1 1530 := ⟨by decide +kernel, rfl⟩
theorem d_law_1530 : zD code 1530 (.iconst 1) 1 1531 := ⟨by decide +kernel, rfl⟩
theorem d_law_1531 : zD code 1531 (.iadd) 1 1532 := ⟨by decide +kernel, rfl⟩
theorem d_law_1532 : zD code 1532 (.iaload) 1 1533 := ⟨by decide +kernel, rfl⟩
theorem d_law_1533 : zD code 1533 (.invokevirtual 193) 3 1536 := ⟨by decide +kernel, rfl⟩
theorem d_law_1536 : zD code 1536 (.aload_n 2) 1 1537 := ⟨by decide +kernel, rfl⟩
theorem d_law_1537 : zD code 1537 (.aload_n 0) 1 1538 := ⟨by decide +kernel, rfl⟩
theorem d_law_1538 : zD code 1538 (.iload_n 3) 1 1539 := ⟨by decide +kernel, rfl⟩
theorem d_law_1539 : zD code 1539 (.iconst 1) 1 1540 := ⟨by decide +kernel, rfl⟩
theorem d_law_1540 : zD code 1540 (.iadd) 1 1541 := ⟨by decide +kernel, rfl⟩
theorem d_law_1541 : zD code 1541 (.iaload) 1 1542 := ⟨by decide +kernel, rfl⟩
theorem d_law_1542 : zD code 1542 (.invokevirtual 196) 3 1545 := ⟨by decide +kernel, rfl⟩
theorem d_law_1545 : zD code 1545 (.if_icmp .eq 51) 3 1548 := ⟨by decide +kernel, rfl⟩
theorem d_law_1548 : zD code 1548 (.iconst 0) 1 1549 := ⟨by decide +kernel, rfl⟩
theorem d_law_1549 : zD code 1549 (.ireturn) 1 1550 := ⟨by decide +kernel, rfl⟩
theorem d_law_1550 : zD code 1550 (.aload_n 1) 1 1551 := ⟨by decide +kernel, rfl⟩
theorem d_law_1551 : zD code 1551 (.aload_n 0) 1 1552 := ⟨by decide +kernel, rfl⟩
theorem d_law_1552 : zD code 1552 (.iload_n 3) 1 1553 := ⟨by decide +kernel, rfl⟩
theorem d_law_1553 : zD code 1553 (.iconst 1) 1 1554 := ⟨by decide +kernel, rfl⟩
theorem d_law_1554 : zD code 1554 (.iadd) 1 1555 := ⟨by decide +kernel, rfl⟩
theorem d_law_1555 : zD code 1555 (.iaload) 1 1556 := ⟨by decide +kernel, rfl⟩
theorem d_law_1556 : zD code 1556 (.invokevirtual 197) 3 1559 := ⟨by decide +kernel, rfl⟩
theorem d_law_1559 : zD code 1559 (.aload_n 2) 1 1560 := ⟨by decide +kernel, rfl⟩
theorem d_law_1560 : zD code 1560 (.aload_n 0) 1 1561 := ⟨by decide +kernel, rfl⟩
theorem d_law_1561 : zD code 1561 (.iload_n 3) 1 1562 := ⟨by decide +kernel, rfl⟩
theorem d_law_1562 : zD code 1562 (.iconst 1) 1 1563 := ⟨by decide +kernel, rfl⟩
theorem d_law_1563 : zD code 1563 (.iadd) 1 1564 := ⟨by decide +kernel, rfl⟩
theorem d_law_1564 : zD code 1564 (.iaload) 1 1565 := ⟨by decide +kernel, rfl⟩
theorem d_law_1565 : zD code 1565 (.invokevirtual 200) 3 1568 := ⟨by decide +kernel, rfl⟩
theorem d_law_1568 : zD code 1568 (.if_icmp .eq 28) 3 1571 := ⟨by decide +kernel, rfl⟩
theorem d_law_1571 : zD code 1571 (.iconst 0) 1 1572 := ⟨by decide +kernel, rfl⟩
theorem d_law_1572 : zD code 1572 (.ireturn) 1 1573 := ⟨by decide +kernel, rfl⟩
theorem d_law_1573 : zD code 1573 (.aload_n 1) 1 1574 := ⟨by decide +kernel, rfl⟩
theorem d_law_1574 : zD code 1574 (.aload_n 0) 1 1575 := ⟨by decide +kernel, rfl⟩
theorem d_law_1575 : zD code 1575 (.iload_n 3) 1 1576 := ⟨by decide +kernel, rfl⟩
theorem d_law_1576 : zD code 1576 (.iconst 1) 1 1577 := ⟨by decide +kernel, rfl⟩
theorem d_law_1577 : zD code 1577 (.iadd) 1 1578 := ⟨by decide +kernel, rfl⟩
theorem d_law_1578 : zD code 1578 (.iaload) 1 1579 := ⟨by decide +kernel, rfl⟩
theorem d_law_1579 : zD code 1579 (.invokevirtual 201) 3 1582 := ⟨by decide +kernel, rfl⟩
theorem d_law_1582 : zD code 1582 (.aload_n 2) 1 1583 := ⟨by decide +kernel, rfl⟩
theorem d_law_1583 : zD code 1583 (.aload_n 0) 1 1584 := ⟨by decide +kernel, rfl⟩
theorem d_law_1584 : zD code 1584 (.iload_n 3) 1 1585 := ⟨by decide +kernel, rfl⟩
theorem d_law_1585 : zD code 1585 (.iconst 1) 1 1586 := ⟨by decide +kernel, rfl⟩
theorem d_law_1586 : zD code 1586 (.iadd) 1 1587 := ⟨by decide +kernel, rfl⟩
theorem d_law_1587 : zD code 1587 (.iaload) 1 1588 := ⟨by decide +kernel, rfl⟩
theorem d_law_1588 : zD code 1588 (.invokevirtual 204) 3 1591 := ⟨by decide +kernel, rfl⟩
theorem d_law_1591 : zD code 1591 (.if_icmp .eq 5) 3 1594 := ⟨by decide +kernel, rfl⟩
theorem d_law_1594 : zD code 1594 (.iconst 0) 1 1595 := ⟨by decide +kernel, rfl⟩
theorem d_law_1595 : zD code 1595 (.ireturn) 1 1596 := ⟨by decide +kernel, rfl⟩
theorem d_law_1596 : zD code 1596 (.iinc 3 6) 3 1599 := ⟨by decide +kernel, rfl⟩
theorem d_law_1599 : zD code 1599 (.goto (-1581)) 3 1602 := ⟨by decide +kernel, rfl⟩
theorem d_law_1602 : zD code 1602 (.iconst 1) 1 1603 := ⟨by decide +kernel, rfl⟩
theorem d_law_1603 : zD code 1603 (.ireturn) 1 1604 := ⟨by decide +kernel, rfl⟩
def flaw_L1 (sl : Nat) (xs : Nat → Int32) : (Int32 × zMem) → Option ((Int32 × zMem) ⊕ ((zMem) ⊕ (Int32 × zMem))) := (z_u2 fun x2 xm3 => 
  (if ((Int32.ofNat sl) - (6 : Int32)) < x2 then some (.inr (.inl xm3)) else if z_in x2 sl = true then (if ((xs x2.toNatClampNeg) &&& (63 : Int32)) = (0 : Int32) then if z_in (x2 + (1 : Int32)) sl = true then if z_in (x2 + (2 : Int32)) sl = true then if z_in (x2 + (3 : Int32)) sl = true then if z_in (x2 + (4 : Int32)) sl = true then if z_in (x2 + (5 : Int32)) sl = true then (f8_feed (xs (x2 + (1 : Int32)).toNatClampNeg) (xs (x2 + (2 : Int32)).toNatClampNeg) (xs (x2 + (3 : Int32)).toNatClampNeg) (xs (x2 + (4 : Int32)).toNatClampNeg) (xs (x2 + (5 : Int32)).toNatClampNeg) xm3).bind (z_u2 fun q12 qm13 => (f9_feed (xs (x2 + (1 : Int32)).toNatClampNeg) (xs (x2 + (2 : Int32)).toNatClampNeg) (xs (x2 + (3 : Int32)).toNatClampNeg) (xs (x2 + (4 : Int32)).toNatClampNeg) (xs (x2 + (5 : Int32)).toNatClampNeg) qm13).bind (z_u2 fun q15 qm16 => (if q12 = q15 then some (.inl ((x2 + (6 : Int32)), qm16)) else some (.inr (.inr ((0 : Int32), qm16)))))) else none else none else none else none else none else (if ((xs x2.toNatClampNeg) &&& (63 : Int32)) = (1 : Int32) then if z_in (x2 + (1 : Int32)) sl = true then z_let (f8_back (xs (x2 + (1 : Int32)).toNatClampNeg) xm3) (z_u2 fun q21 qm22 => z_let (f9_back (xs (x2 + (1 : Int32)).toNatClampNeg) qm22) (z_u2 fun q24 qm25 => (if q21 = q24 then some (.inl ((x2 + (6 : Int32)), qm25)) else some (.inr (.inr ((0 : Int32), qm25)))))) else none else (if ((xs x2.toNatClampNeg) &&& (63 : Int32)) = (2 : Int32) then (f8_read xm3).bind (z_u2 fun q29 qm30 => (f9_read qm30).bind (z_u2 fun q32 qm33 => (if q29 = q32 then some (.inl ((x2 + (6 : Int32)), qm33)) else some (.inr (.inr ((0 : Int32), qm33)))))) else (if ((xs x2.toNatClampNeg) &&& (63 : Int32)) = (3 : Int32) then (if (f8_place xm3) = (f9_place xm3) then some (.inl ((x2 + (6 : Int32)), xm3)) else some (.inr (.inr ((0 : Int32), xm3)))) else (if ((xs x2.toNatClampNeg) &&& (63 : Int32)) = (4 : Int32) then if z_in (x2 + (1 : Int32)) sl = true then if z_in (x2 + (2 : Int32)) sl = true then (f8_house (xs (x2 + (1 : Int32)).toNatClampNeg) (xs (x2 + (2 : Int32)).toNatClampNeg) xm3).bind (z_u2 fun q43 qm44 => (f9_house (xs (x2 + (1 : Int32)).toNatClampNeg) (xs (x2 + (2 : Int32)).toNatClampNeg) qm44).bind (z_u2 fun q46 qm47 => (if q43 = q46 then some (.inl ((x2 + (6 : Int32)), qm47)) else some (.inr (.inr ((0 : Int32), qm47)))))) else none else none else (if ((xs x2.toNatClampNeg) &&& (63 : Int32)) = (5 : Int32) then if z_in (x2 + (1 : Int32)) sl = true then if z_in (x2 + (2 : Int32)) sl = true then (f8_person (xs (x2 + (1 : Int32)).toNatClampNeg) (xs (x2 + (2 : Int32)).toNatClampNeg) xm3).bind (z_u2 fun q53 qm54 => (f9_person (xs (x2 + (1 : Int32)).toNatClampNeg) (xs (x2 + (2 : Int32)).toNatClampNeg) qm54).bind (z_u2 fun q56 qm57 => (if q53 = q56 then some (.inl ((x2 + (6 : Int32)), qm57)) else some (.inr (.inr ((0 : Int32), qm57)))))) else none else none else (if ((xs x2.toNatClampNeg) &&& (63 : Int32)) = (6 : Int32) then if z_in (x2 + (1 : Int32)) sl = true then (f8_send (xs (x2 + (1 : Int32)).toNatClampNeg) xm3).bind (z_u2 fun q62 qm63 => (f9_send (xs (x2 + (1 : Int32)).toNatClampNeg) qm63).bind (z_u2 fun q65 qm66 => (if q62 = q65 then some (.inl ((x2 + (6 : Int32)), qm66)) else some (.inr (.inr ((0 : Int32), qm66)))))) else none else (if ((xs x2.toNatClampNeg) &&& (63 : Int32)) = (7 : Int32) then if z_in (x2 + (1 : Int32)) sl = true then (f8_call (xs (x2 + (1 : Int32)).toNatClampNeg) xm3).bind (z_u2 fun q71 qm72 => (f9_call (xs (x2 + (1 : Int32)).toNatClampNeg) qm72).bind (z_u2 fun q74 qm75 => (if q71 = q74 then some (.inl ((x2 + (6 : Int32)), qm75)) else some (.inr (.inr ((0 : Int32), qm75)))))) else none else (if ((xs x2.toNatClampNeg) &&& (63 : Int32)) = (8 : Int32) then if z_in (x2 + (1 : Int32)) sl = true then (f8_bury (xs (x2 + (1 : Int32)).toNatClampNeg) xm3).bind (z_u2 fun q80 qm81 => (f9_bury (xs (x2 + (1 : Int32)).toNatClampNeg) qm81).bind (z_u2 fun q83 qm84 => (if q80 = q83 then some (.inl ((x2 + (6 : Int32)), qm84)) else some (.inr (.inr ((0 : Int32), qm84)))))) else none else (if ((xs x2.toNatClampNeg) &&& (63 : Int32)) = (9 : Int32) then if z_in (x2 + (1 : Int32)) sl = true then if z_in (x2 + (2 : Int32)) sl = true then if z_in (x2 + (3 : Int32)) sl = true then ((if (xs (x2 + (3 : Int32)).toNatClampNeg) = 0 then some (0 : Int32) else some (1 : Int32)) : Option (Int32)).bind (fun j94 => (f8_give (xs (x2 + (1 : Int32)).toNatClampNeg) (xs (x2 + (2 : Int32)).toNatClampNeg) j94 xm3).bind (z_u2 fun q95 qm96 => ((if (xs (x2 + (3 : Int32)).toNatClampNeg) = 0 then some (0 : Int32) else some (1 : Int32)) : Option (Int32)).bind (fun j101 => (f9_give (xs (x2 + (1 : Int32)).toNatClampNeg) (xs (x2 + (2 : Int32)).toNatClampNeg) j101 qm96).bind (z_u2 fun q102 qm103 => (if q95 = q102 then some (.inl ((x2 + (6 : Int32)), qm103)) else some (.inr (.inr ((0 : Int32), qm103)))))))) else none else none else none else (if ((xs x2.toNatClampNeg) &&& (63 : Int32)) = (10 : Int32) then if z_in (x2 + (1 : Int32)) sl = true then (f8_years (xs (x2 + (1 : Int32)).toNatClampNeg) xm3).bind (z_u2 fun q108 qm109 => (f9_years (xs (x2 + (1 : Int32)).toNatClampNeg) qm109).bind (z_u2 fun q111 qm112 => (if q108 = q111 then some (.inl ((x2 + (6 : Int32)), qm112)) else some (.inr (.inr ((0 : Int32), qm112)))))) else none else (if ((xs x2.toNatClampNeg) &&& (63 : Int32)) = (11 : Int32) then (f8_undo xm3).bind (z_u2 fun q116 qm117 => (f9_undo qm117).bind (z_u2 fun q119 qm120 => (if q116 = q119 then some (.inl ((x2 + (6 : Int32)), qm120)) else some (.inr (.inr ((0 : Int32), qm120)))))) else (if ((xs x2.toNatClampNeg) &&& (63 : Int32)) = (12 : Int32) then if z_in (x2 + (1 : Int32)) sl = true then (f8_heir (xs (x2 + (1 : Int32)).toNatClampNeg) xm3).bind (fun q125 => (f9_heir (xs (x2 + (1 : Int32)).toNatClampNeg) xm3).bind (z_u2 fun q127 qm128 => (if q125 = q127 then some (.inl ((x2 + (6 : Int32)), qm128)) else some (.inr (.inr ((0 : Int32), qm128)))))) else none else (if ((xs x2.toNatClampNeg) &&& (63 : Int32)) = (13 : Int32) then if z_in (x2 + (1 : Int32)) sl = true then if z_in (x2 + (2 : Int32)) sl = true then (f8_gain (xs (x2 + (1 : Int32)).toNatClampNeg) (xs (x2 + (2 : Int32)).toNatClampNeg) xm3).bind (z_u2 fun q134 qm135 => (f9_gain (xs (x2 + (1 : Int32)).toNatClampNeg) (xs (x2 + (2 : Int32)).toNatClampNeg) qm135).bind (z_u2 fun q137 qm138 => (if q134 = q137 then some (.inl ((x2 + (6 : Int32)), qm138)) else some (.inr (.inr ((0 : Int32), qm138)))))) else none else none else (if ((xs x2.toNatClampNeg) &&& (63 : Int32)) = (14 : Int32) then if z_in (x2 + (1 : Int32)) sl = true then if z_in (x2 + (2 : Int32)) sl = true then if z_in (x2 + (3 : Int32)) sl = true then (f8_best (xs (x2 + (1 : Int32)).toNatClampNeg) (xs (x2 + (2 : Int32)).toNatClampNeg) (xs (x2 + (3 : Int32)).toNatClampNeg) xm3).bind (z_u2 fun q145 qm146 => (f9_best (xs (x2 + (1 : Int32)).toNatClampNeg) (xs (x2 + (2 : Int32)).toNatClampNeg) (xs (x2 + (3 : Int32)).toNatClampNeg) qm146).bind (z_u2 fun q148 qm149 => (if q145 = q148 then some (.inl ((x2 + (6 : Int32)), qm149)) else some (.inr (.inr ((0 : Int32), qm149)))))) else none else none else none else (if ((xs x2.toNatClampNeg) &&& (63 : Int32)) = (15 : Int32) then if z_in (x2 + (1 : Int32)) sl = true then if z_in (x2 + (2 : Int32)) sl = true then (f8_loss (xs (x2 + (1 : Int32)).toNatClampNeg) (xs (x2 + (2 : Int32)).toNatClampNeg) xm3).bind (z_u2 fun q155 qm156 => (f9_loss (xs (x2 + (1 : Int32)).toNatClampNeg) (xs (x2 + (2 : Int32)).toNatClampNeg) qm156).bind (z_u2 fun q158 qm159 => (if q155 = q158 then some (.inl ((x2 + (6 : Int32)), qm159)) else some (.inr (.inr ((0 : Int32), qm159)))))) else none else none else (if ((xs x2.toNatClampNeg) &&& (63 : Int32)) = (16 : Int32) then if z_in (x2 + (1 : Int32)) sl = true then (f8_race (xs (x2 + (1 : Int32)).toNatClampNeg) xm3).bind (fun q164 => (f9_race (xs (x2 + (1 : Int32)).toNatClampNeg) xm3).bind (z_u2 fun q166 qm167 => (if q164 = q166 then some (.inl ((x2 + (6 : Int32)), qm167)) else some (.inr (.inr ((0 : Int32), qm167)))))) else none else (if ((xs x2.toNatClampNeg) &&& (63 : Int32)) = (17 : Int32) then if z_in (x2 + (1 : Int32)) sl = true then if z_in (x2 + (2 : Int32)) sl = true then if z_in (x2 + (3 : Int32)) sl = true then if z_in (x2 + (4 : Int32)) sl = true then if z_in (x2 + (5 : Int32)) sl = true then (f8_duel (xs (x2 + (1 : Int32)).toNatClampNeg) (xs (x2 + (2 : Int32)).toNatClampNeg) (xs (x2 + (3 : Int32)).toNatClampNeg) (xs (x2 + (4 : Int32)).toNatClampNeg) (xs (x2 + (5 : Int32)).toNatClampNeg) xm3).bind (z_u2 fun q176 qm177 => (f9_duel (xs (x2 + (1 : Int32)).toNatClampNeg) (xs (x2 + (2 : Int32)).toNatClampNeg) (xs (x2 + (3 : Int32)).toNatClampNeg) (xs (x2 + (4 : Int32)).toNatClampNeg) (xs (x2 + (5 : Int32)).toNatClampNeg) qm177).bind (z_u2 fun q179 qm180 => (if q176 = q179 then some (.inl ((x2 + (6 : Int32)), qm180)) else some (.inr (.inr ((0 : Int32), qm180)))))) else none else none else none else none else none else (if ((xs x2.toNatClampNeg) &&& (63 : Int32)) = (18 : Int32) then if z_in (x2 + (1 : Int32)) sl = true then if z_in (x2 + (2 : Int32)) sl = true then if z_in (x2 + (3 : Int32)) sl = true then (f8_rest (xs (x2 + (1 : Int32)).toNatClampNeg) (xs (x2 + (2 : Int32)).toNatClampNeg) (xs (x2 + (3 : Int32)).toNatClampNeg) xm3).bind (z_u2 fun q187 qm188 => (f9_rest (xs (x2 + (1 : Int32)).toNatClampNeg) (xs (x2 + (2 : Int32)).toNatClampNeg) (xs (x2 + (3 : Int32)).toNatClampNeg) qm188).bind (z_u2 fun q190 qm191 => (if q187 = q190 then some (.inl ((x2 + (6 : Int32)), qm191)) else some (.inr (.inr ((0 : Int32), qm191)))))) else none else none else none else (if ((xs x2.toNatClampNeg) &&& (63 : Int32)) = (19 : Int32) then if z_in (x2 + (1 : Int32)) sl = true then (f8_fill (xs (x2 + (1 : Int32)).toNatClampNeg) xm3).bind (fun q196 => (f9_fill (xs (x2 + (1 : Int32)).toNatClampNeg) xm3).bind (z_u2 fun q198 qm199 => (if q196 = q198 then some (.inl ((x2 + (6 : Int32)), qm199)) else some (.inr (.inr ((0 : Int32), qm199)))))) else none else (if ((xs x2.toNatClampNeg) &&& (63 : Int32)) = (20 : Int32) then if z_in (x2 + (1 : Int32)) sl = true then (f8_richest (xs (x2 + (1 : Int32)).toNatClampNeg) xm3).bind (fun q204 => (f9_richest (xs (x2 + (1 : Int32)).toNatClampNeg) xm3).bind (fun q206 => (if q204 = q206 then some (.inl ((x2 + (6 : Int32)), xm3)) else some (.inr (.inr ((0 : Int32), xm3)))))) else none else (if ((xs x2.toNatClampNeg) &&& (63 : Int32)) = (21 : Int32) then if z_in (x2 + (1 : Int32)) sl = true then (f8_eldest (xs (x2 + (1 : Int32)).toNatClampNeg) xm3).bind (fun q211 => (f9_eldest (xs (x2 + (1 : Int32)).toNatClampNeg) xm3).bind (z_u2 fun q213 qm214 => (if q211 = q213 then some (.inl ((x2 + (6 : Int32)), qm214)) else some (.inr (.inr ((0 : Int32), qm214)))))) else none else (if ((xs x2.toNatClampNeg) &&& (63 : Int32)) = (22 : Int32) then if z_in (x2 + (1 : Int32)) sl = true then (f8_agents (xs (x2 + (1 : Int32)).toNatClampNeg) xm3).bind (fun q219 => (f9_agents (xs (x2 + (1 : Int32)).toNatClampNeg) xm3).bind (z_u2 fun q221 qm222 => (if q219 = q221 then some (.inl ((x2 + (6 : Int32)), qm222)) else some (.inr (.inr ((0 : Int32), qm222)))))) else none else (if ((xs x2.toNatClampNeg) &&& (63 : Int32)) = (23 : Int32) then if z_in (x2 + (1 : Int32)) sl = true then (f8_lords (xs (x2 + (1 : Int32)).toNatClampNeg) xm3).bind (fun q227 => (f9_lords (xs (x2 + (1 : Int32)).toNatClampNeg) xm3).bind (z_u2 fun q229 qm230 => (if q227 = q229 then some (.inl ((x2 + (6 : Int32)), qm230)) else some (.inr (.inr ((0 : Int32), qm230)))))) else none else (if ((xs x2.toNatClampNeg) &&& (63 : Int32)) = (24 : Int32) then if z_in (x2 + (1 : Int32)) sl = true then (f8_bound (xs (x2 + (1 : Int32)).toNatClampNeg) xm3).bind (fun q235 => (f9_bound (xs (x2 + (1 : Int32)).toNatClampNeg) xm3).bind (z_u2 fun q237 qm238 => (if q235 = q237 then some (.inl ((x2 + (6 : Int32)), qm238)) else some (.inr (.inr ((0 : Int32), qm238)))))) else none else (if ((xs x2.toNatClampNeg) &&& (63 : Int32)) = (25 : Int32) then (f8_idle xm3).bind (fun q242 => (f9_idle xm3).bind (z_u2 fun q244 qm245 => (if q242 = q244 then some (.inl ((x2 + (6 : Int32)), qm245)) else some (.inr (.inr ((0 : Int32), qm245)))))) else (if ((xs x2.toNatClampNeg) &&& (63 : Int32)) = (26 : Int32) then if z_in (x2 + (1 : Int32)) sl = true then (f8_share (xs (x2 + (1 : Int32)).toNatClampNeg) xm3).bind (fun q250 => (f9_share (xs (x2 + (1 : Int32)).toNatClampNeg) xm3).bind (z_u2 fun q252 qm253 => (if q250 = q252 then some (.inl ((x2 + (6 : Int32)), qm253)) else some (.inr (.inr ((0 : Int32), qm253)))))) else none else (if ((xs x2.toNatClampNeg) &&& (63 : Int32)) = (27 : Int32) then if z_in (x2 + (1 : Int32)) sl = true then if z_in (x2 + (2 : Int32)) sl = true then (f8_lordIn (xs (x2 + (1 : Int32)).toNatClampNeg) (xs (x2 + (2 : Int32)).toNatClampNeg) xm3).bind (z_u2 fun q259 qm260 => (f9_lordIn (xs (x2 + (1 : Int32)).toNatClampNeg) (xs (x2 + (2 : Int32)).toNatClampNeg) qm260).bind (z_u2 fun q262 qm263 => (if q259 = q262 then some (.inl ((x2 + (6 : Int32)), qm263)) else some (.inr (.inr ((0 : Int32), qm263)))))) else none else none else (if ((xs x2.toNatClampNeg) &&& (63 : Int32)) = (28 : Int32) then if z_in (x2 + (1 : Int32)) sl = true then if z_in (x2 + (2 : Int32)) sl = true then (f8_then (xs (x2 + (1 : Int32)).toNatClampNeg) (xs (x2 + (2 : Int32)).toNatClampNeg) xm3).bind (z_u2 fun q269 qm270 => (f9_then (xs (x2 + (1 : Int32)).toNatClampNeg) (xs (x2 + (2 : Int32)).toNatClampNeg) qm270).bind (z_u2 fun q272 qm273 => (if q269 = q272 then some (.inl ((x2 + (6 : Int32)), qm273)) else some (.inr (.inr ((0 : Int32), qm273)))))) else none else none else (if ((xs x2.toNatClampNeg) &&& (63 : Int32)) = (29 : Int32) then if z_in (x2 + (1 : Int32)) sl = true then if z_in (x2 + (2 : Int32)) sl = true then (f8_gotIn (xs (x2 + (1 : Int32)).toNatClampNeg) (xs (x2 + (2 : Int32)).toNatClampNeg) xm3).bind (z_u2 fun q279 qm280 => (f9_gotIn (xs (x2 + (1 : Int32)).toNatClampNeg) (xs (x2 + (2 : Int32)).toNatClampNeg) qm280).bind (z_u2 fun q282 qm283 => (if q279 = q282 then some (.inl ((x2 + (6 : Int32)), qm283)) else some (.inr (.inr ((0 : Int32), qm283)))))) else none else none else (if ((xs x2.toNatClampNeg) &&& (63 : Int32)) = (30 : Int32) then if z_in (x2 + (1 : Int32)) sl = true then if z_in (x2 + (2 : Int32)) sl = true then if z_in (x2 + (3 : Int32)) sl = true then (f8_year (xs (x2 + (1 : Int32)).toNatClampNeg) (xs (x2 + (2 : Int32)).toNatClampNeg) (xs (x2 + (3 : Int32)).toNatClampNeg) xm3).bind (z_u2 fun q290 qm291 => (f9_year (xs (x2 + (1 : Int32)).toNatClampNeg) (xs (x2 + (2 : Int32)).toNatClampNeg) (xs (x2 + (3 : Int32)).toNatClampNeg) qm291).bind (z_u2 fun q293 qm294 => (if q290 = q293 then some (.inl ((x2 + (6 : Int32)), qm294)) else some (.inr (.inr ((0 : Int32), qm294)))))) else none else none else none else (if ((xs x2.toNatClampNeg) &&& (63 : Int32)) = (31 : Int32) then if z_in (x2 + (1 : Int32)) sl = true then if z_in (x2 + (2 : Int32)) sl = true then (f8_tell (xs (x2 + (1 : Int32)).toNatClampNeg) (xs (x2 + (2 : Int32)).toNatClampNeg) xm3).bind (z_u2 fun q300 qm301 => (f9_tell (xs (x2 + (1 : Int32)).toNatClampNeg) (xs (x2 + (2 : Int32)).toNatClampNeg) qm301).bind (z_u2 fun q303 qm304 => (if q300 = q303 then some (.inl ((x2 + (6 : Int32)), qm304)) else some (.inr (.inr ((0 : Int32), qm304)))))) else none else none else (if ((xs x2.toNatClampNeg) &&& (63 : Int32)) = (32 : Int32) then z_let (f8_forget xm3) (z_u2 fun q308 qm309 => z_let (f9_forget qm309) (z_u2 fun q311 qm312 => (if q308 = q311 then some (.inl ((x2 + (6 : Int32)), qm312)) else some (.inr (.inr ((0 : Int32), qm312)))))) else (if ((xs x2.toNatClampNeg) &&& (63 : Int32)) = (33 : Int32) then if z_in (x2 + (1 : Int32)) sl = true then (f8_orders (xs (x2 + (1 : Int32)).toNatClampNeg) xm3).bind (z_u2 fun q317 qm318 => (f9_orders (xs (x2 + (1 : Int32)).toNatClampNeg) qm318).bind (z_u2 fun q320 qm321 => (if q317 = q320 then some (.inl ((x2 + (6 : Int32)), qm321)) else some (.inr (.inr ((0 : Int32), qm321)))))) else none else (if ((xs x2.toNatClampNeg) &&& (63 : Int32)) = (34 : Int32) then if z_in (x2 + (1 : Int32)) sl = true then if z_in (x2 + (2 : Int32)) sl = true then (f8_first (xs (x2 + (1 : Int32)).toNatClampNeg) (xs (x2 + (2 : Int32)).toNatClampNeg) xm3).bind (z_u2 fun q327 qm328 => (f9_first (xs (x2 + (1 : Int32)).toNatClampNeg) (xs (x2 + (2 : Int32)).toNatClampNeg) qm328).bind (z_u2 fun q330 qm331 => (if q327 = q330 then some (.inl ((x2 + (6 : Int32)), qm331)) else some (.inr (.inr ((0 : Int32), qm331)))))) else none else none else (if ((xs x2.toNatClampNeg) &&& (63 : Int32)) = (35 : Int32) then if z_in (x2 + (1 : Int32)) sl = true then if z_in (x2 + (2 : Int32)) sl = true then (f8_last (xs (x2 + (1 : Int32)).toNatClampNeg) (xs (x2 + (2 : Int32)).toNatClampNeg) xm3).bind (z_u2 fun q337 qm338 => (f9_last (xs (x2 + (1 : Int32)).toNatClampNeg) (xs (x2 + (2 : Int32)).toNatClampNeg) qm338).bind (z_u2 fun q340 qm341 => (if q337 = q340 then some (.inl ((x2 + (6 : Int32)), qm341)) else some (.inr (.inr ((0 : Int32), qm341)))))) else none else none else (if ((xs x2.toNatClampNeg) &&& (63 : Int32)) = (36 : Int32) then if z_in (x2 + (1 : Int32)) sl = true then if z_in (x2 + (2 : Int32)) sl = true then if z_in (x2 + (3 : Int32)) sl = true then (f8_placed (xs (x2 + (1 : Int32)).toNatClampNeg) (xs (x2 + (2 : Int32)).toNatClampNeg) (xs (x2 + (3 : Int32)).toNatClampNeg) xm3).bind (z_u2 fun q348 qm349 => (f9_placed (xs (x2 + (1 : Int32)).toNatClampNeg) (xs (x2 + (2 : Int32)).toNatClampNeg) (xs (x2 + (3 : Int32)).toNatClampNeg) qm349).bind (z_u2 fun q351 qm352 => (if q348 = q351 then some (.inl ((x2 + (6 : Int32)), qm352)) else some (.inr (.inr ((0 : Int32), qm352)))))) else none else none else none else (if ((xs x2.toNatClampNeg) &&& (63 : Int32)) = (37 : Int32) then if z_in (x2 + (1 : Int32)) sl = true then if z_in (x2 + (2 : Int32)) sl = true then if z_in (x2 + (3 : Int32)) sl = true then (f8_before (xs (x2 + (1 : Int32)).toNatClampNeg) (xs (x2 + (2 : Int32)).toNatClampNeg) (xs (x2 + (3 : Int32)).toNatClampNeg) xm3).bind (z_u2 fun q359 qm360 => (f9_before (xs (x2 + (1 : Int32)).toNatClampNeg) (xs (x2 + (2 : Int32)).toNatClampNeg) (xs (x2 + (3 : Int32)).toNatClampNeg) qm360).bind (z_u2 fun q362 qm363 => (if q359 = q362 then some (.inl ((x2 + (6 : Int32)), qm363)) else some (.inr (.inr ((0 : Int32), qm363)))))) else none else none else none else (if ((xs x2.toNatClampNeg) &&& (63 : Int32)) = (38 : Int32) then if z_in (x2 + (1 : Int32)) sl = true then if z_in (x2 + (2 : Int32)) sl = true then (f8_sum (xs (x2 + (1 : Int32)).toNatClampNeg) (xs (x2 + (2 : Int32)).toNatClampNeg) xm3).bind (z_u2 fun q369 qm370 => (f9_sum (xs (x2 + (1 : Int32)).toNatClampNeg) (xs (x2 + (2 : Int32)).toNatClampNeg) qm370).bind (z_u2 fun q372 qm373 => (if q369 = q372 then some (.inl ((x2 + (6 : Int32)), qm373)) else some (.inr (.inr ((0 : Int32), qm373)))))) else none else none else (if ((xs x2.toNatClampNeg) &&& (63 : Int32)) = (39 : Int32) then if z_in (x2 + (1 : Int32)) sl = true then if z_in (x2 + (2 : Int32)) sl = true then (f8_ahead (xs (x2 + (1 : Int32)).toNatClampNeg) (xs (x2 + (2 : Int32)).toNatClampNeg) xm3).bind (z_u2 fun q379 qm380 => (f9_ahead (xs (x2 + (1 : Int32)).toNatClampNeg) (xs (x2 + (2 : Int32)).toNatClampNeg) qm380).bind (z_u2 fun q382 qm383 => (if q379 = q382 then some (.inl ((x2 + (6 : Int32)), qm383)) else some (.inr (.inr ((0 : Int32), qm383)))))) else none else none else (if ((xs x2.toNatClampNeg) &&& (63 : Int32)) = (40 : Int32) then if z_in (x2 + (1 : Int32)) sl = true then (f8_foremost (xs (x2 + (1 : Int32)).toNatClampNeg) xm3).bind (z_u2 fun q388 qm389 => (f9_foremost (xs (x2 + (1 : Int32)).toNatClampNeg) qm389).bind (z_u2 fun q391 qm392 => (if q388 = q391 then some (.inl ((x2 + (6 : Int32)), qm392)) else some (.inr (.inr ((0 : Int32), qm392)))))) else none else (if ((xs x2.toNatClampNeg) &&& (63 : Int32)) = (41 : Int32) then if z_in (x2 + (1 : Int32)) sl = true then (f8_ask (xs (x2 + (1 : Int32)).toNatClampNeg) xm3).bind (z_u2 fun q397 qm398 => (f9_ask (xs (x2 + (1 : Int32)).toNatClampNeg) qm398).bind (z_u2 fun q400 qm401 => (if q397 = q400 then some (.inl ((x2 + (6 : Int32)), qm401)) else some (.inr (.inr ((0 : Int32), qm401)))))) else none else (if ((xs x2.toNatClampNeg) &&& (63 : Int32)) = (42 : Int32) then if z_in (x2 + (1 : Int32)) sl = true then if z_in (x2 + (2 : Int32)) sl = true then if z_in (x2 + (3 : Int32)) sl = true then (f8_order (xs (x2 + (1 : Int32)).toNatClampNeg) (xs (x2 + (2 : Int32)).toNatClampNeg) (xs (x2 + (3 : Int32)).toNatClampNeg) xm3).bind (z_u2 fun q408 qm409 => (f9_order (xs (x2 + (1 : Int32)).toNatClampNeg) (xs (x2 + (2 : Int32)).toNatClampNeg) (xs (x2 + (3 : Int32)).toNatClampNeg) qm409).bind (z_u2 fun q411 qm412 => (if q408 = q411 then some (.inl ((x2 + (6 : Int32)), qm412)) else some (.inr (.inr ((0 : Int32), qm412)))))) else none else none else none else (if ((xs x2.toNatClampNeg) &&& (63 : Int32)) = (43 : Int32) then if z_in (x2 + (1 : Int32)) sl = true then (f8_hold (xs (x2 + (1 : Int32)).toNatClampNeg) xm3).bind (z_u2 fun q417 qm418 => (f9_hold (xs (x2 + (1 : Int32)).toNatClampNeg) qm418).bind (z_u2 fun q420 qm421 => (if q417 = q420 then some (.inl ((x2 + (6 : Int32)), qm421)) else some (.inr (.inr ((0 : Int32), qm421)))))) else none else (if ((xs x2.toNatClampNeg) &&& (63 : Int32)) = (44 : Int32) then if z_in (x2 + (1 : Int32)) sl = true then (f8_restore (xs (x2 + (1 : Int32)).toNatClampNeg) xm3).bind (z_u2 fun q426 qm427 => (f9_restore (xs (x2 + (1 : Int32)).toNatClampNeg) qm427).bind (z_u2 fun q429 qm430 => (if q426 = q429 then some (.inl ((x2 + (6 : Int32)), qm430)) else some (.inr (.inr ((0 : Int32), qm430)))))) else none else (if ((xs x2.toNatClampNeg) &&& (63 : Int32)) = (45 : Int32) then if z_in (x2 + (1 : Int32)) sl = true then (f8_count (xs (x2 + (1 : Int32)).toNatClampNeg) xm3).bind (z_u2 fun q435 qm436 => (f9_count (xs (x2 + (1 : Int32)).toNatClampNeg) qm436).bind (z_u2 fun q438 qm439 => (if q435 = q438 then some (.inl ((x2 + (6 : Int32)), qm439)) else some (.inr (.inr ((0 : Int32), qm439)))))) else none else some (.inl ((x2 + (6 : Int32)), xm3)))))))))))))))))))))))))))))))))))))))))))))))) else none))
def f_law (sl : Nat) (xs : Nat → Int32) (μ : zMem) : Option (Int32 × zMem) :=
  (z_it (flaw_L1 sl xs) z_fu ((0 : Int32), μ)).bind (Sum.elim (fun e442 => some ((1 : Int32), e442)) (z_u2 fun qr444 qr445 => some (qr444, qr445)))
theorem slaw_L1 {P : zP} {sl : Nat} {xs : Nat → Int32} (hsl : z_sl P = sl) (hxs : z_xs P = xs)  (x2 : Int32) (xm3 : zMem) (K : (Int32 × zMem) ⊕ ((zMem) ⊕ (Int32 × zMem))) (h : flaw_L1 sl xs (x2, xm3) = some K) (hI : ∀ (y0 : Int32) (y1 : zMem), K = .inl (y0, y1) → z_RQ P M_law room_1 (lw_F P) 322 17971 18 [some (zA 94 0), some (zA 8 0), some (zA 9 0), some (zI y0)] [] y1) (hE : ∀ (z0 : zMem), K = .inr (.inl z0) → z_RQ P M_law room_1 (lw_F P) 322 17971 1602 [none, none, none, none] [] z0) (hR : ∀ (qr : Int32) (qm : zMem), K = .inr (.inr (qr, qm)) → qr = 1) : z_RQ P M_law room_1 (lw_F P) 322 17971 18 [some (zA 94 0), some (zA 8 0), some (zA 9 0), some (zI x2)] [] xm3 := by
  unfold flaw_L1 at h
  replace h := z_h2 h
  refine zr_iload_n (i := 3) d_law_18 rfl rfl ?_
  refine zr_aload_n (i := 0) d_law_19 rfl rfl ?_
  refine zr_al94 hsl d_law_20 ?_
  refine zr_bipush (v := (6 : Int32)) d_law_21 rfl ?_
  refine zr_isub d_law_23 ?_
  refine zr_icmp_gt (tgt := 1602) d_law_24 rfl (fun hc4 => ?_) (fun hc4 => ?_)
  · replace h := z_ip h hc4
    obtain rfl := Option.some.inj h
    exact zr_wk2 (hE xm3 rfl) trivial
  · replace h := z_im h hc4
    refine zr_aload_n (i := 0) d_law_27 rfl rfl ?_
    refine zr_iload_n (i := 3) d_law_28 rfl rfl ?_
    obtain ⟨hb5, h⟩ := z_gd h
    refine zr_ld94x hxs hsl d_law_29 hb5 ?_
    refine zr_bipush (v := (63 : Int32)) d_law_30 rfl ?_
    refine zr_iand d_law_32 ?_
    by_cases hs6 : ((xs x2.toNatClampNeg) &&& (63 : Int32)) = (0 : Int32)
    · replace h := z_ip h hs6
      refine zr_tbl (off := 199) (tgt := 232) hs6 d_law_33 (by decide) (by decide) rfl rfl ?_
      refine zr_aload_n (i := 1) d_law_232 rfl rfl ?_
      refine zr_aload_n (i := 0) d_law_233 rfl rfl ?_
      refine zr_iload_n (i := 3) d_law_234 rfl rfl ?_
      refine zr_iconst (v := (1 : Int32)) d_law_235 rfl ?_
      refine zr_iadd d_law_236 ?_
      obtain ⟨hb7, h⟩ := z_gd h
      refine zr_ld94x hxs hsl d_law_237 hb7 ?_
      refine zr_aload_n (i := 0) d_law_238 rfl rfl ?_
      refine zr_iload_n (i := 3) d_law_239 rfl rfl ?_
      refine zr_iconst (v := (2 : Int32)) d_law_240 rfl ?_
      refine zr_iadd d_law_241 ?_
      obtain ⟨hb8, h⟩ := z_gd h
      refine zr_ld94x hxs hsl d_law_242 hb8 ?_
      refine zr_aload_n (i := 0) d_law_243 rfl rfl ?_
      refine zr_iload_n (i := 3) d_law_244 rfl rfl ?_
      refine zr_iconst (v := (3 : Int32)) d_law_245 rfl ?_
      refine zr_iadd d_law_246 ?_
      obtain ⟨hb9, h⟩ := z_gd h
      refine zr_ld94x hxs hsl d_law_247 hb9 ?_
      refine zr_aload_n (i := 0) d_law_248 rfl rfl ?_
      refine zr_iload_n (i := 3) d_law_249 rfl rfl ?_
      refine zr_iconst (v := (4 : Int32)) d_law_250 rfl ?_
      refine zr_iadd d_law_251 ?_
      obtain ⟨hb10, h⟩ := z_gd h
      refine zr_ld94x hxs hsl d_law_252 hb10 ?_
      refine zr_aload_n (i := 0) d_law_253 rfl rfl ?_
      refine zr_iload_n (i := 3) d_law_254 rfl rfl ?_
      refine zr_iconst (v := (5 : Int32)) d_law_255 rfl ?_
      refine zr_iadd d_law_256 ?_
      obtain ⟨hb11, h⟩ := z_gd h
      refine zr_ld94x hxs hsl d_law_257 hb11 ?_
      obtain ⟨⟨q12, qm13⟩, hq14, h⟩ := z_bd h
      replace h := z_h2 h
      refine zr_callVi (av := [zI (xs (x2 + (1 : Int32)).toNatClampNeg), zI (xs (x2 + (2 : Int32)).toNatClampNeg), zI (xs (x2 + (3 : Int32)).toNatClampNeg), zI (xs (x2 + (4 : Int32)).toNatClampNeg), zI (xs (x2 + (5 : Int32)).toNatClampNeg)]) (st := []) d_law_258 mw_8_feed ml_L_13 im_8_feed se_8_feed rfl rfl (Nat.le_of_ble_eq_true rfl) fitL_2_6 rfl rfl rfl (s8_feed hq14) ?_
      refine zr_aload_n (i := 2) d_law_261 rfl rfl ?_
      refine zr_aload_n (i := 0) d_law_262 rfl rfl ?_
      refine zr_iload_n (i := 3) d_law_263 rfl rfl ?_
      refine zr_iconst (v := (1 : Int32)) d_law_264 rfl ?_
      refine zr_iadd d_law_265 ?_
      refine zr_ld94x hxs hsl d_law_266 hb7 ?_
      refine zr_aload_n (i := 0) d_law_267 rfl rfl ?_
      refine zr_iload_n (i := 3) d_law_268 rfl rfl ?_
      refine zr_iconst (v := (2 : Int32)) d_law_269 rfl ?_
      refine zr_iadd d_law_270 ?_
      refine zr_ld94x hxs hsl d_law_271 hb8 ?_
      refine zr_aload_n (i := 0) d_law_272 rfl rfl ?_
      refine zr_iload_n (i := 3) d_law_273 rfl rfl ?_
      refine zr_iconst (v := (3 : Int32)) d_law_274 rfl ?_
      refine zr_iadd d_law_275 ?_
      refine zr_ld94x hxs hsl d_law_276 hb9 ?_
      refine zr_aload_n (i := 0) d_law_277 rfl rfl ?_
      refine zr_iload_n (i := 3) d_law_278 rfl rfl ?_
      refine zr_iconst (v := (4 : Int32)) d_law_279 rfl ?_
      refine zr_iadd d_law_280 ?_
      refine zr_ld94x hxs hsl d_law_281 hb10 ?_
      refine zr_aload_n (i := 0) d_law_282 rfl rfl ?_
      refine zr_iload_n (i := 3) d_law_283 rfl rfl ?_
      refine zr_iconst (v := (5 : Int32)) d_law_284 rfl ?_
      refine zr_iadd d_law_285 ?_
      refine zr_ld94x hxs hsl d_law_286 hb11 ?_
      obtain ⟨⟨q15, qm16⟩, hq17, h⟩ := z_bd h
      replace h := z_h2 h
      refine zr_callVi (av := [zI (xs (x2 + (1 : Int32)).toNatClampNeg), zI (xs (x2 + (2 : Int32)).toNatClampNeg), zI (xs (x2 + (3 : Int32)).toNatClampNeg), zI (xs (x2 + (4 : Int32)).toNatClampNeg), zI (xs (x2 + (5 : Int32)).toNatClampNeg)]) (st := [zI q12]) d_law_287 mw_9_feed ml_L_17 im_9_feed se_9_feed rfl rfl (Nat.le_of_ble_eq_true rfl) fitL_2_6 rfl rfl rfl (s9_feed hq17) ?_
      refine zr_icmp_eq (tgt := 1596) d_law_290 rfl (fun hc18 => ?_) (fun hc18 => ?_)
      · replace h := z_ip h hc18
        refine zr_iinc (v := (x2 + (6 : Int32))) (l' := [some (zA 94 0), some (zA 8 0), some (zA 9 0), some (zI (x2 + (6 : Int32)))]) d_law_1596 (by decide) rfl rfl rfl ?_
        refine zr_goto (tgt := 18) d_law_1599 rfl ?_
        obtain rfl := Option.some.inj h
        exact zr_wk2 (hI (x2 + (6 : Int32)) qm16 rfl) ⟨rfl, ⟨rfl, ⟨rfl, ⟨rfl, trivial⟩⟩⟩⟩
      · replace h := z_im h hc18
        refine zr_iconst (v := (0 : Int32)) d_law_293 rfl ?_
        obtain rfl := Option.some.inj h
        exact absurd (hR (0 : Int32) qm16 rfl) (by decide)
    · replace h := z_im h hs6
      by_cases hs19 : ((xs x2.toNatClampNeg) &&& (63 : Int32)) = (1 : Int32)
      · replace h := z_ip h hs19
        refine zr_tbl (off := 262) (tgt := 295) hs19 d_law_33 (by decide) (by decide) rfl rfl ?_
        refine zr_aload_n (i := 1) d_law_295 rfl rfl ?_
        refine zr_aload_n (i := 0) d_law_296 rfl rfl ?_
        refine zr_iload_n (i := 3) d_law_297 rfl rfl ?_
        refine zr_iconst (v := (1 : Int32)) d_law_298 rfl ?_
        refine zr_iadd d_law_299 ?_
        obtain ⟨hb20, h⟩ := z_gd h
        refine zr_ld94x hxs hsl d_law_300 hb20 ?_
        obtain ⟨⟨q21, qm22⟩, hq23, h⟩ := z_lt h
        replace h := z_h2 h
        refine zr_callVi (av := [zI (xs (x2 + (1 : Int32)).toNatClampNeg)]) (st := []) d_law_301 mw_8_back ml_L_18 im_8_back se_8_back rfl rfl (Nat.le_of_ble_eq_true rfl) fitL_1_2 rfl rfl rfl (s8_back hq23.symm) ?_
        refine zr_aload_n (i := 2) d_law_304 rfl rfl ?_
        refine zr_aload_n (i := 0) d_law_305 rfl rfl ?_
        refine zr_iload_n (i := 3) d_law_306 rfl rfl ?_
        refine zr_iconst (v := (1 : Int32)) d_law_307 rfl ?_
        refine zr_iadd d_law_308 ?_
        refine zr_ld94x hxs hsl d_law_309 hb20 ?_
        obtain ⟨⟨q24, qm25⟩, hq26, h⟩ := z_lt h
        replace h := z_h2 h
        refine zr_callVi (av := [zI (xs (x2 + (1 : Int32)).toNatClampNeg)]) (st := [zI q21]) d_law_310 mw_9_back ml_L_22 im_9_back se_9_back rfl rfl (Nat.le_of_ble_eq_true rfl) fitL_1_2 rfl rfl rfl (s9_back hq26.symm) ?_
        refine zr_icmp_eq (tgt := 1596) d_law_313 rfl (fun hc27 => ?_) (fun hc27 => ?_)
        · replace h := z_ip h hc27
          refine zr_iinc (v := (x2 + (6 : Int32))) (l' := [some (zA 94 0), some (zA 8 0), some (zA 9 0), some (zI (x2 + (6 : Int32)))]) d_law_1596 (by decide) rfl rfl rfl ?_
          refine zr_goto (tgt := 18) d_law_1599 rfl ?_
          obtain rfl := Option.some.inj h
          exact zr_wk2 (hI (x2 + (6 : Int32)) qm25 rfl) ⟨rfl, ⟨rfl, ⟨rfl, ⟨rfl, trivial⟩⟩⟩⟩
        · replace h := z_im h hc27
          refine zr_iconst (v := (0 : Int32)) d_law_316 rfl ?_
          obtain rfl := Option.some.inj h
          exact absurd (hR (0 : Int32) qm25 rfl) (by decide)
      · replace h := z_im h hs19
        by_cases hs28 : ((xs x2.toNatClampNeg) &&& (63 : Int32)) = (2 : Int32)
        · replace h := z_ip h hs28
          refine zr_tbl (off := 285) (tgt := 318) hs28 d_law_33 (by decide) (by decide) rfl rfl ?_
          refine zr_aload_n (i := 1) d_law_318 rfl rfl ?_
          obtain ⟨⟨q29, qm30⟩, hq31, h⟩ := z_bd h
          replace h := z_h2 h
          refine zr_callVi (av := []) (st := []) d_law_319 mw_8_read ml_L_23 im_8_read se_8_read rfl rfl (Nat.le_of_ble_eq_true rfl) fitL_34_2 rfl rfl rfl (s8_read hq31) ?_
          refine zr_aload_n (i := 2) d_law_322 rfl rfl ?_
          obtain ⟨⟨q32, qm33⟩, hq34, h⟩ := z_bd h
          replace h := z_h2 h
          refine zr_callVi (av := []) (st := [zI q29]) d_law_323 mw_9_read ml_L_27 im_9_read se_9_read rfl rfl (Nat.le_of_ble_eq_true rfl) fitL_8_2 rfl rfl rfl (s9_read hq34) ?_
          refine zr_icmp_eq (tgt := 1596) d_law_326 rfl (fun hc35 => ?_) (fun hc35 => ?_)
          · replace h := z_ip h hc35
            refine zr_iinc (v := (x2 + (6 : Int32))) (l' := [some (zA 94 0), some (zA 8 0), some (zA 9 0), some (zI (x2 + (6 : Int32)))]) d_law_1596 (by decide) rfl rfl rfl ?_
            refine zr_goto (tgt := 18) d_law_1599 rfl ?_
            obtain rfl := Option.some.inj h
            exact zr_wk2 (hI (x2 + (6 : Int32)) qm33 rfl) ⟨rfl, ⟨rfl, ⟨rfl, ⟨rfl, trivial⟩⟩⟩⟩
          · replace h := z_im h hc35
            refine zr_iconst (v := (0 : Int32)) d_law_329 rfl ?_
            obtain rfl := Option.some.inj h
            exact absurd (hR (0 : Int32) qm33 rfl) (by decide)
        · replace h := z_im h hs28
          by_cases hs36 : ((xs x2.toNatClampNeg) &&& (63 : Int32)) = (3 : Int32)
          · replace h := z_ip h hs36
            refine zr_tbl (off := 298) (tgt := 331) hs36 d_law_33 (by decide) (by decide) rfl rfl ?_
            refine zr_aload_n (i := 1) d_law_331 rfl rfl ?_
            refine zr_callVi (av := []) (st := []) d_law_332 mw_8_place ml_L_28 im_8_place se_8_place rfl rfl (Nat.le_of_ble_eq_true rfl) fitL_1_1 rfl rfl rfl (s8_place rfl) ?_
            refine zr_aload_n (i := 2) d_law_335 rfl rfl ?_
            refine zr_callVi (av := []) (st := [zI (f8_place xm3)]) d_law_336 mw_9_place ml_L_31 im_9_place se_9_place rfl rfl (Nat.le_of_ble_eq_true rfl) fitL_1_1 rfl rfl rfl (s9_place rfl) ?_
            refine zr_icmp_eq (tgt := 1596) d_law_339 rfl (fun hc39 => ?_) (fun hc39 => ?_)
            · replace h := z_ip h hc39
              refine zr_iinc (v := (x2 + (6 : Int32))) (l' := [some (zA 94 0), some (zA 8 0), some (zA 9 0), some (zI (x2 + (6 : Int32)))]) d_law_1596 (by decide) rfl rfl rfl ?_
              refine zr_goto (tgt := 18) d_law_1599 rfl ?_
              obtain rfl := Option.some.inj h
              exact zr_wk2 (hI (x2 + (6 : Int32)) xm3 rfl) ⟨rfl, ⟨rfl, ⟨rfl, ⟨rfl, trivial⟩⟩⟩⟩
            · replace h := z_im h hc39
              refine zr_iconst (v := (0 : Int32)) d_law_342 rfl ?_
              obtain rfl := Option.some.inj h
              exact absurd (hR (0 : Int32) xm3 rfl) (by decide)
          · replace h := z_im h hs36
            by_cases hs40 : ((xs x2.toNatClampNeg) &&& (63 : Int32)) = (4 : Int32)
            · replace h := z_ip h hs40
              refine zr_tbl (off := 311) (tgt := 344) hs40 d_law_33 (by decide) (by decide) rfl rfl ?_
              refine zr_aload_n (i := 1) d_law_344 rfl rfl ?_
              refine zr_aload_n (i := 0) d_law_345 rfl rfl ?_
              refine zr_iload_n (i := 3) d_law_346 rfl rfl ?_
              refine zr_iconst (v := (1 : Int32)) d_law_347 rfl ?_
              refine zr_iadd d_law_348 ?_
              obtain ⟨hb41, h⟩ := z_gd h
              refine zr_ld94x hxs hsl d_law_349 hb41 ?_
              refine zr_aload_n (i := 0) d_law_350 rfl rfl ?_
              refine zr_iload_n (i := 3) d_law_351 rfl rfl ?_
              refine zr_iconst (v := (2 : Int32)) d_law_352 rfl ?_
              refine zr_iadd d_law_353 ?_
              obtain ⟨hb42, h⟩ := z_gd h
              refine zr_ld94x hxs hsl d_law_354 hb42 ?_
              obtain ⟨⟨q43, qm44⟩, hq45, h⟩ := z_bd h
              replace h := z_h2 h
              refine zr_callVi (av := [zI (xs (x2 + (1 : Int32)).toNatClampNeg), zI (xs (x2 + (2 : Int32)).toNatClampNeg)]) (st := []) d_law_355 mw_8_house ml_L_32 im_8_house se_8_house rfl rfl (Nat.le_of_ble_eq_true rfl) fitL_5_3 rfl rfl rfl (s8_house hq45) ?_
              refine zr_aload_n (i := 2) d_law_358 rfl rfl ?_
              refine zr_aload_n (i := 0) d_law_359 rfl rfl ?_
              refine zr_iload_n (i := 3) d_law_360 rfl rfl ?_
              refine zr_iconst (v := (1 : Int32)) d_law_361 rfl ?_
              refine zr_iadd d_law_362 ?_
              refine zr_ld94x hxs hsl d_law_363 hb41 ?_
              refine zr_aload_n (i := 0) d_law_364 rfl rfl ?_
              refine zr_iload_n (i := 3) d_law_365 rfl rfl ?_
              refine zr_iconst (v := (2 : Int32)) d_law_366 rfl ?_
              refine zr_iadd d_law_367 ?_
              refine zr_ld94x hxs hsl d_law_368 hb42 ?_
              obtain ⟨⟨q46, qm47⟩, hq48, h⟩ := z_bd h
              replace h := z_h2 h
              refine zr_callVi (av := [zI (xs (x2 + (1 : Int32)).toNatClampNeg), zI (xs (x2 + (2 : Int32)).toNatClampNeg)]) (st := [zI q43]) d_law_369 mw_9_house ml_L_36 im_9_house se_9_house rfl rfl (Nat.le_of_ble_eq_true rfl) fitL_7_3 rfl rfl rfl (s9_house hq48) ?_
              refine zr_icmp_eq (tgt := 1596) d_law_372 rfl (fun hc49 => ?_) (fun hc49 => ?_)
              · replace h := z_ip h hc49
                refine zr_iinc (v := (x2 + (6 : Int32))) (l' := [some (zA 94 0), some (zA 8 0), some (zA 9 0), some (zI (x2 + (6 : Int32)))]) d_law_1596 (by decide) rfl rfl rfl ?_
                refine zr_goto (tgt := 18) d_law_1599 rfl ?_
                obtain rfl := Option.some.inj h
                exact zr_wk2 (hI (x2 + (6 : Int32)) qm47 rfl) ⟨rfl, ⟨rfl, ⟨rfl, ⟨rfl, trivial⟩⟩⟩⟩
              · replace h := z_im h hc49
                refine zr_iconst (v := (0 : Int32)) d_law_375 rfl ?_
                obtain rfl := Option.some.inj h
                exact absurd (hR (0 : Int32) qm47 rfl) (by decide)
            · replace h := z_im h hs40
              by_cases hs50 : ((xs x2.toNatClampNeg) &&& (63 : Int32)) = (5 : Int32)
              · replace h := z_ip h hs50
                refine zr_tbl (off := 344) (tgt := 377) hs50 d_law_33 (by decide) (by decide) rfl rfl ?_
                refine zr_aload_n (i := 1) d_law_377 rfl rfl ?_
                refine zr_aload_n (i := 0) d_law_378 rfl rfl ?_
                refine zr_iload_n (i := 3) d_law_379 rfl rfl ?_
                refine zr_iconst (v := (1 : Int32)) d_law_380 rfl ?_
                refine zr_iadd d_law_381 ?_
                obtain ⟨hb51, h⟩ := z_gd h
                refine zr_ld94x hxs hsl d_law_382 hb51 ?_
                refine zr_aload_n (i := 0) d_law_383 rfl rfl ?_
                refine zr_iload_n (i := 3) d_law_384 rfl rfl ?_
                refine zr_iconst (v := (2 : Int32)) d_law_385 rfl ?_
                refine zr_iadd d_law_386 ?_
                obtain ⟨hb52, h⟩ := z_gd h
                refine zr_ld94x hxs hsl d_law_387 hb52 ?_
                obtain ⟨⟨q53, qm54⟩, hq55, h⟩ := z_bd h
                replace h := z_h2 h
                refine zr_callVi (av := [zI (xs (x2 + (1 : Int32)).toNatClampNeg), zI (xs (x2 + (2 : Int32)).toNatClampNeg)]) (st := []) d_law_388 mw_8_person ml_L_37 im_8_person se_8_person rfl rfl (Nat.le_of_ble_eq_true rfl) fitL_6_3 rfl rfl rfl (s8_person hq55) ?_
                refine zr_aload_n (i := 2) d_law_391 rfl rfl ?_
                refine zr_aload_n (i := 0) d_law_392 rfl rfl ?_
                refine zr_iload_n (i := 3) d_law_393 rfl rfl ?_
                refine zr_iconst (v := (1 : Int32)) d_law_394 rfl ?_
                refine zr_iadd d_law_395 ?_
                refine zr_ld94x hxs hsl d_law_396 hb51 ?_
                refine zr_aload_n (i := 0) d_law_397 rfl rfl ?_
                refine zr_iload_n (i := 3) d_law_398 rfl rfl ?_
                refine zr_iconst (v := (2 : Int32)) d_law_399 rfl ?_
                refine zr_iadd d_law_400 ?_
                refine zr_ld94x hxs hsl d_law_401 hb52 ?_
                obtain ⟨⟨q56, qm57⟩, hq58, h⟩ := z_bd h
                replace h := z_h2 h
                refine zr_callVi (av := [zI (xs (x2 + (1 : Int32)).toNatClampNeg), zI (xs (x2 + (2 : Int32)).toNatClampNeg)]) (st := [zI q53]) d_law_402 mw_9_person ml_L_40 im_9_person se_9_person rfl rfl (Nat.le_of_ble_eq_true rfl) fitL_7_3 rfl rfl rfl (s9_person hq58) ?_
                refine zr_icmp_eq (tgt := 1596) d_law_405 rfl (fun hc59 => ?_) (fun hc59 => ?_)
                · replace h := z_ip h hc59
                  refine zr_iinc (v := (x2 + (6 : Int32))) (l' := [some (zA 94 0), some (zA 8 0), some (zA 9 0), some (zI (x2 + (6 : Int32)))]) d_law_1596 (by decide) rfl rfl rfl ?_
                  refine zr_goto (tgt := 18) d_law_1599 rfl ?_
                  obtain rfl := Option.some.inj h
                  exact zr_wk2 (hI (x2 + (6 : Int32)) qm57 rfl) ⟨rfl, ⟨rfl, ⟨rfl, ⟨rfl, trivial⟩⟩⟩⟩
                · replace h := z_im h hc59
                  refine zr_iconst (v := (0 : Int32)) d_law_408 rfl ?_
                  obtain rfl := Option.some.inj h
                  exact absurd (hR (0 : Int32) qm57 rfl) (by decide)
              · replace h := z_im h hs50
                by_cases hs60 : ((xs x2.toNatClampNeg) &&& (63 : Int32)) = (6 : Int32)
                · replace h := z_ip h hs60
                  refine zr_tbl (off := 377) (tgt := 410) hs60 d_law_33 (by decide) (by decide) rfl rfl ?_
                  refine zr_aload_n (i := 1) d_law_410 rfl rfl ?_
                  refine zr_aload_n (i := 0) d_law_411 rfl rfl ?_
                  refine zr_iload_n (i := 3) d_law_412 rfl rfl ?_
                  refine zr_iconst (v := (1 : Int32)) d_law_413 rfl ?_
                  refine zr_iadd d_law_414 ?_
                  obtain ⟨hb61, h⟩ := z_gd h
                  refine zr_ld94x hxs hsl d_law_415 hb61 ?_
                  obtain ⟨⟨q62, qm63⟩, hq64, h⟩ := z_bd h
                  replace h := z_h2 h
                  refine zr_callVi (av := [zI (xs (x2 + (1 : Int32)).toNatClampNeg)]) (st := []) d_law_416 mw_8_send ml_L_41 im_8_send se_8_send rfl rfl (Nat.le_of_ble_eq_true rfl) fitL_3_2 rfl rfl rfl (s8_send hq64) ?_
                  refine zr_aload_n (i := 2) d_law_419 rfl rfl ?_
                  refine zr_aload_n (i := 0) d_law_420 rfl rfl ?_
                  refine zr_iload_n (i := 3) d_law_421 rfl rfl ?_
                  refine zr_iconst (v := (1 : Int32)) d_law_422 rfl ?_
                  refine zr_iadd d_law_423 ?_
                  refine zr_ld94x hxs hsl d_law_424 hb61 ?_
                  obtain ⟨⟨q65, qm66⟩, hq67, h⟩ := z_bd h
                  replace h := z_h2 h
                  refine zr_callVi (av := [zI (xs (x2 + (1 : Int32)).toNatClampNeg)]) (st := [zI q62]) d_law_425 mw_9_send ml_L_45 im_9_send se_9_send rfl rfl (Nat.le_of_ble_eq_true rfl) fitL_4_2 rfl rfl rfl (s9_send hq67) ?_
                  refine zr_icmp_eq (tgt := 1596) d_law_428 rfl (fun hc68 => ?_) (fun hc68 => ?_)
                  · replace h := z_ip h hc68
                    refine zr_iinc (v := (x2 + (6 : Int32))) (l' := [some (zA 94 0), some (zA 8 0), some (zA 9 0), some (zI (x2 + (6 : Int32)))]) d_law_1596 (by decide) rfl rfl rfl ?_
                    refine zr_goto (tgt := 18) d_law_1599 rfl ?_
                    obtain rfl := Option.some.inj h
                    exact zr_wk2 (hI (x2 + (6 : Int32)) qm66 rfl) ⟨rfl, ⟨rfl, ⟨rfl, ⟨rfl, trivial⟩⟩⟩⟩
                  · replace h := z_im h hc68
                    refine zr_iconst (v := (0 : Int32)) d_law_431 rfl ?_
                    obtain rfl := Option.some.inj h
                    exact absurd (hR (0 : Int32) qm66 rfl) (by decide)
                · replace h := z_im h hs60
                  by_cases hs69 : ((xs x2.toNatClampNeg) &&& (63 : Int32)) = (7 : Int32)
                  · replace h := z_ip h hs69
                    refine zr_tbl (off := 400) (tgt := 433) hs69 d_law_33 (by decide) (by decide) rfl rfl ?_
                    refine zr_aload_n (i := 1) d_law_433 rfl rfl ?_
                    refine zr_aload_n (i := 0) d_law_434 rfl rfl ?_
                    refine zr_iload_n (i := 3) d_law_435 rfl rfl ?_
                    refine zr_iconst (v := (1 : Int32)) d_law_436 rfl ?_
                    refine zr_iadd d_law_437 ?_
                    obtain ⟨hb70, h⟩ := z_gd h
                    refine zr_ld94x hxs hsl d_law_438 hb70 ?_
                    obtain ⟨⟨q71, qm72⟩, hq73, h⟩ := z_bd h
                    replace h := z_h2 h
                    refine zr_callVi (av := [zI (xs (x2 + (1 : Int32)).toNatClampNeg)]) (st := []) d_law_439 mw_8_call ml_L_46 im_8_call se_8_call rfl rfl (Nat.le_of_ble_eq_true rfl) fitL_3_2 rfl rfl rfl (s8_call hq73) ?_
                    refine zr_aload_n (i := 2) d_law_442 rfl rfl ?_
                    refine zr_aload_n (i := 0) d_law_443 rfl rfl ?_
                    refine zr_iload_n (i := 3) d_law_444 rfl rfl ?_
                    refine zr_iconst (v := (1 : Int32)) d_law_445 rfl ?_
                    refine zr_iadd d_law_446 ?_
                    refine zr_ld94x hxs hsl d_law_447 hb70 ?_
                    obtain ⟨⟨q74, qm75⟩, hq76, h⟩ := z_bd h
                    replace h := z_h2 h
                    refine zr_callVi (av := [zI (xs (x2 + (1 : Int32)).toNatClampNeg)]) (st := [zI q71]) d_law_448 mw_9_call ml_L_49 im_9_call se_9_call rfl rfl (Nat.le_of_ble_eq_true rfl) fitL_4_2 rfl rfl rfl (s9_call hq76) ?_
                    refine zr_icmp_eq (tgt := 1596) d_law_451 rfl (fun hc77 => ?_) (fun hc77 => ?_)
                    · replace h := z_ip h hc77
                      refine zr_iinc (v := (x2 + (6 : Int32))) (l' := [some (zA 94 0), some (zA 8 0), some (zA 9 0), some (zI (x2 + (6 : Int32)))]) d_law_1596 (by decide) rfl rfl rfl ?_
                      refine zr_goto (tgt := 18) d_law_1599 rfl ?_
                      obtain rfl := Option.some.inj h
                      exact zr_wk2 (hI (x2 + (6 : Int32)) qm75 rfl) ⟨rfl, ⟨rfl, ⟨rfl, ⟨rfl, trivial⟩⟩⟩⟩
                    · replace h := z_im h hc77
                      refine zr_iconst (v := (0 : Int32)) d_law_454 rfl ?_
                      obtain rfl := Option.some.inj h
                      exact absurd (hR (0 : Int32) qm75 rfl) (by decide)
                  · replace h := z_im h hs69
                    by_cases hs78 : ((xs x2.toNatClampNeg) &&& (63 : Int32)) = (8 : Int32)
                    · replace h := z_ip h hs78
                      refine zr_tbl (off := 423) (tgt := 456) hs78 d_law_33 (by decide) (by decide) rfl rfl ?_
                      refine zr_aload_n (i := 1) d_law_456 rfl rfl ?_
                      refine zr_aload_n (i := 0) d_law_457 rfl rfl ?_
                      refine zr_iload_n (i := 3) d_law_458 rfl rfl ?_
                      refine zr_iconst (v := (1 : Int32)) d_law_459 rfl ?_
                      refine zr_iadd d_law_460 ?_
                      obtain ⟨hb79, h⟩ := z_gd h
                      refine zr_ld94x hxs hsl d_law_461 hb79 ?_
                      obtain ⟨⟨q80, qm81⟩, hq82, h⟩ := z_bd h
                      replace h := z_h2 h
                      refine zr_callVi (av := [zI (xs (x2 + (1 : Int32)).toNatClampNeg)]) (st := []) d_law_462 mw_8_bury ml_L_50 im_8_bury se_8_bury rfl rfl (Nat.le_of_ble_eq_true rfl) fitL_3_2 rfl rfl rfl (s8_bury hq82) ?_
                      refine zr_aload_n (i := 2) d_law_465 rfl rfl ?_
                      refine zr_aload_n (i := 0) d_law_466 rfl rfl ?_
                      refine zr_iload_n (i := 3) d_law_467 rfl rfl ?_
                      refine zr_iconst (v := (1 : Int32)) d_law_468 rfl ?_
                      refine zr_iadd d_law_469 ?_
                      refine zr_ld94x hxs hsl d_law_470 hb79 ?_
                      obtain ⟨⟨q83, qm84⟩, hq85, h⟩ := z_bd h
                      replace h := z_h2 h
                      refine zr_callVi (av := [zI (xs (x2 + (1 : Int32)).toNatClampNeg)]) (st := [zI q80]) d_law_471 mw_9_bury ml_L_53 im_9_bury se_9_bury rfl rfl (Nat.le_of_ble_eq_true rfl) fitL_4_2 rfl rfl rfl (s9_bury hq85) ?_
                      refine zr_icmp_eq (tgt := 1596) d_law_474 rfl (fun hc86 => ?_) (fun hc86 => ?_)
                      · replace h := z_ip h hc86
                        refine zr_iinc (v := (x2 + (6 : Int32))) (l' := [some (zA 94 0), some (zA 8 0), some (zA 9 0), some (zI (x2 + (6 : Int32)))]) d_law_1596 (by decide) rfl rfl rfl ?_
                        refine zr_goto (tgt := 18) d_law_1599 rfl ?_
                        obtain rfl := Option.some.inj h
                        exact zr_wk2 (hI (x2 + (6 : Int32)) qm84 rfl) ⟨rfl, ⟨rfl, ⟨rfl, ⟨rfl, trivial⟩⟩⟩⟩
                      · replace h := z_im h hc86
                        refine zr_iconst (v := (0 : Int32)) d_law_477 rfl ?_
                        obtain rfl := Option.some.inj h
                        exact absurd (hR (0 : Int32) qm84 rfl) (by decide)
                    · replace h := z_im h hs78
                      by_cases hs87 : ((xs x2.toNatClampNeg) &&& (63 : Int32)) = (9 : Int32)
                      · replace h := z_ip h hs87
                        refine zr_tbl (off := 446) (tgt := 479) hs87 d_law_33 (by decide) (by decide) rfl rfl ?_
                        refine zr_aload_n (i := 1) d_law_479 rfl rfl ?_
                        refine zr_aload_n (i := 0) d_law_480 rfl rfl ?_
                        refine zr_iload_n (i := 3) d_law_481 rfl rfl ?_
                        refine zr_iconst (v := (1 : Int32)) d_law_482 rfl ?_
                        refine zr_iadd d_law_483 ?_
                        obtain ⟨hb88, h⟩ := z_gd h
                        refine zr_ld94x hxs hsl d_law_484 hb88 ?_
                        refine zr_aload_n (i := 0) d_law_485 rfl rfl ?_
                        refine zr_iload_n (i := 3) d_law_486 rfl rfl ?_
                        refine zr_iconst (v := (2 : Int32)) d_law_487 rfl ?_
                        refine zr_iadd d_law_488 ?_
                        obtain ⟨hb89, h⟩ := z_gd h
                        refine zr_ld94x hxs hsl d_law_489 hb89 ?_
                        refine zr_aload_n (i := 0) d_law_490 rfl rfl ?_
                        refine zr_iload_n (i := 3) d_law_491 rfl rfl ?_
                        refine zr_iconst (v := (3 : Int32)) d_law_492 rfl ?_
                        refine zr_iadd d_law_493 ?_
                        obtain ⟨hb90, h⟩ := z_gd h
                        refine zr_ld94x hxs hsl d_law_494 hb90 ?_
                        obtain ⟨j94, hT91, h⟩ := z_bd h
                        have hJ92 : z_RQ P M_law room_1 (lw_F P) 322 17971 503 [some (zA 94 0), some (zA 8 0), some (zA 9 0), some (zI x2)] [zI j94, zI (xs (x2 + (2 : Int32)).toNatClampNeg), zI (xs (x2 + (1 : Int32)).toNatClampNeg), zA 8 0] xm3 := by
                          obtain ⟨⟨q95, qm96⟩, hq97, h⟩ := z_bd h
                          replace h := z_h2 h
                          refine zr_callVi (av := [zI (xs (x2 + (1 : Int32)).toNatClampNeg), zI (xs (x2 + (2 : Int32)).toNatClampNeg), zI j94]) (st := []) d_law_503 mw_8_give ml_L_54 im_8_give se_8_give rfl rfl (Nat.le_of_ble_eq_true rfl) fitL_3_4 rfl rfl rfl (s8_give hq97) ?_
                          refine zr_aload_n (i := 2) d_law_506 rfl rfl ?_
                          refine zr_aload_n (i := 0) d_law_507 rfl rfl ?_
                          refine zr_iload_n (i := 3) d_law_508 rfl rfl ?_
                          refine zr_iconst (v := (1 : Int32)) d_law_509 rfl ?_
                          refine zr_iadd d_law_510 ?_
                          refine zr_ld94x hxs hsl d_law_511 hb88 ?_
                          refine zr_aload_n (i := 0) d_law_512 rfl rfl ?_
                          refine zr_iload_n (i := 3) d_law_513 rfl rfl ?_
                          refine zr_iconst (v := (2 : Int32)) d_law_514 rfl ?_
                          refine zr_iadd d_law_515 ?_
                          refine zr_ld94x hxs hsl d_law_516 hb89 ?_
                          refine zr_aload_n (i := 0) d_law_517 rfl rfl ?_
                          refine zr_iload_n (i := 3) d_law_518 rfl rfl ?_
                          refine zr_iconst (v := (3 : Int32)) d_law_519 rfl ?_
                          refine zr_iadd d_law_520 ?_
                          refine zr_ld94x hxs hsl d_law_521 hb90 ?_
                          obtain ⟨j101, hT98, h⟩ := z_bd h
                          have hJ99 : z_RQ P M_law room_1 (lw_F P) 322 17971 530 [some (zA 94 0), some (zA 8 0), some (zA 9 0), some (zI x2)] [zI j101, zI (xs (x2 + (2 : Int32)).toNatClampNeg), zI (xs (x2 + (1 : Int32)).toNatClampNeg), zA 9 0, zI q95] qm96 := by
                            obtain ⟨⟨q102, qm103⟩, hq104, h⟩ := z_bd h
                            replace h := z_h2 h
                            refine zr_callVi (av := [zI (xs (x2 + (1 : Int32)).toNatClampNeg), zI (xs (x2 + (2 : Int32)).toNatClampNeg), zI j101]) (st := [zI q95]) d_law_530 mw_9_give ml_L_58 im_9_give se_9_give rfl rfl (Nat.le_of_ble_eq_true rfl) fitL_3_4 rfl rfl rfl (s9_give hq104) ?_
                            refine zr_icmp_eq (tgt := 1596) d_law_533 rfl (fun hc105 => ?_) (fun hc105 => ?_)
                            · replace h := z_ip h hc105
                              refine zr_iinc (v := (x2 + (6 : Int32))) (l' := [some (zA 94 0), some (zA 8 0), some (zA 9 0), some (zI (x2 + (6 : Int32)))]) d_law_1596 (by decide) rfl rfl rfl ?_
                              refine zr_goto (tgt := 18) d_law_1599 rfl ?_
                              obtain rfl := Option.some.inj h
                              exact zr_wk2 (hI (x2 + (6 : Int32)) qm103 rfl) ⟨rfl, ⟨rfl, ⟨rfl, ⟨rfl, trivial⟩⟩⟩⟩
                            · replace h := z_im h hc105
                              refine zr_iconst (v := (0 : Int32)) d_law_536 rfl ?_
                              obtain rfl := Option.some.inj h
                              exact absurd (hR (0 : Int32) qm103 rfl) (by decide)
                          refine zr_if_eq (tgt := 529) d_law_522 rfl (fun hc100 => ?_) (fun hc100 => ?_)
                          · replace hT98 := z_ip hT98 hc100
                            refine zr_iconst (v := (0 : Int32)) d_law_529 rfl ?_
                            obtain rfl := Option.some.inj hT98
                            exact zr_wk2 hJ99 ⟨rfl, ⟨rfl, ⟨rfl, ⟨rfl, trivial⟩⟩⟩⟩
                          · replace hT98 := z_im hT98 hc100
                            refine zr_iconst (v := (1 : Int32)) d_law_525 rfl ?_
                            refine zr_goto (tgt := 530) d_law_526 rfl ?_
                            obtain rfl := Option.some.inj hT98
                            exact zr_wk2 hJ99 ⟨rfl, ⟨rfl, ⟨rfl, ⟨rfl, trivial⟩⟩⟩⟩
                        refine zr_if_eq (tgt := 502) d_law_495 rfl (fun hc93 => ?_) (fun hc93 => ?_)
                        · replace hT91 := z_ip hT91 hc93
                          refine zr_iconst (v := (0 : Int32)) d_law_502 rfl ?_
                          obtain rfl := Option.some.inj hT91
                          exact zr_wk2 hJ92 ⟨rfl, ⟨rfl, ⟨rfl, ⟨rfl, trivial⟩⟩⟩⟩
                        · replace hT91 := z_im hT91 hc93
                          refine zr_iconst (v := (1 : Int32)) d_law_498 rfl ?_
                          refine zr_goto (tgt := 503) d_law_499 rfl ?_
                          obtain rfl := Option.some.inj hT91
                          exact zr_wk2 hJ92 ⟨rfl, ⟨rfl, ⟨rfl, ⟨rfl, trivial⟩⟩⟩⟩
                      · replace h := z_im h hs87
                        by_cases hs106 : ((xs x2.toNatClampNeg) &&& (63 : Int32)) = (10 : Int32)
                        · replace h := z_ip h hs106
                          refine zr_tbl (off := 505) (tgt := 538) hs106 d_law_33 (by decide) (by decide) rfl rfl ?_
                          refine zr_aload_n (i := 1) d_law_538 rfl rfl ?_
                          refine zr_aload_n (i := 0) d_law_539 rfl rfl ?_
                          refine zr_iload_n (i := 3) d_law_540 rfl rfl ?_
                          refine zr_iconst (v := (1 : Int32)) d_law_541 rfl ?_
                          refine zr_iadd d_law_542 ?_
                          obtain ⟨hb107, h⟩ := z_gd h
                          refine zr_ld94x hxs hsl d_law_543 hb107 ?_
                          obtain ⟨⟨q108, qm109⟩, hq110, h⟩ := z_bd h
                          replace h := z_h2 h
                          refine zr_callVi (av := [zI (xs (x2 + (1 : Int32)).toNatClampNeg)]) (st := []) d_law_544 mw_8_years ml_L_59 im_8_years se_8_years rfl rfl (Nat.le_of_ble_eq_true rfl) fitL_7_2 rfl rfl rfl (s8_years hq110) ?_
                          refine zr_aload_n (i := 2) d_law_547 rfl rfl ?_
                          refine zr_aload_n (i := 0) d_law_548 rfl rfl ?_
                          refine zr_iload_n (i := 3) d_law_549 rfl rfl ?_
                          refine zr_iconst (v := (1 : Int32)) d_law_550 rfl ?_
                          refine zr_iadd d_law_551 ?_
                          refine zr_ld94x hxs hsl d_law_552 hb107 ?_
                          obtain ⟨⟨q111, qm112⟩, hq113, h⟩ := z_bd h
                          replace h := z_h2 h
                          refine zr_callVi (av := [zI (xs (x2 + (1 : Int32)).toNatClampNeg)]) (st := [zI q108]) d_law_553 mw_9_years ml_L_62 im_9_years se_9_years rfl rfl (Nat.le_of_ble_eq_true rfl) fitL_10_2 rfl rfl rfl (s9_years hq113) ?_
                          refine zr_icmp_eq (tgt := 1596) d_law_556 rfl (fun hc114 => ?_) (fun hc114 => ?_)
                          · replace h := z_ip h hc114
                            refine zr_iinc (v := (x2 + (6 : Int32))) (l' := [some (zA 94 0), some (zA 8 0), some (zA 9 0), some (zI (x2 + (6 : Int32)))]) d_law_1596 (by decide) rfl rfl rfl ?_
                            refine zr_goto (tgt := 18) d_law_1599 rfl ?_
                            obtain rfl := Option.some.inj h
                            exact zr_wk2 (hI (x2 + (6 : Int32)) qm112 rfl) ⟨rfl, ⟨rfl, ⟨rfl, ⟨rfl, trivial⟩⟩⟩⟩
                          · replace h := z_im h hc114
                            refine zr_iconst (v := (0 : Int32)) d_law_559 rfl ?_
                            obtain rfl := Option.some.inj h
                            exact absurd (hR (0 : Int32) qm112 rfl) (by decide)
                        · replace h := z_im h hs106
                          by_cases hs115 : ((xs x2.toNatClampNeg) &&& (63 : Int32)) = (11 : Int32)
                          · replace h := z_ip h hs115
                            refine zr_tbl (off := 528) (tgt := 561) hs115 d_law_33 (by decide) (by decide) rfl rfl ?_
                            refine zr_aload_n (i := 1) d_law_561 rfl rfl ?_
                            obtain ⟨⟨q116, qm117⟩, hq118, h⟩ := z_bd h
                            replace h := z_h2 h
                            refine zr_callVi (av := []) (st := []) d_law_562 mw_8_undo ml_L_63 im_8_undo se_8_undo rfl rfl (Nat.le_of_ble_eq_true rfl) fitL_3_1 rfl rfl rfl (s8_undo hq118) ?_
                            refine zr_aload_n (i := 2) d_law_565 rfl rfl ?_
                            obtain ⟨⟨q119, qm120⟩, hq121, h⟩ := z_bd h
                            replace h := z_h2 h
                            refine zr_callVi (av := []) (st := [zI q116]) d_law_566 mw_9_undo ml_L_67 im_9_undo se_9_undo rfl rfl (Nat.le_of_ble_eq_true rfl) fitL_1_2 rfl rfl rfl (s9_undo hq121) ?_
                            refine zr_icmp_eq (tgt := 1596) d_law_569 rfl (fun hc122 => ?_) (fun hc122 => ?_)
                            · replace h := z_ip h hc122
                              refine zr_iinc (v := (x2 + (6 : Int32))) (l' := [some (zA 94 0), some (zA 8 0), some (zA 9 0), some (zI (x2 + (6 : Int32)))]) d_law_1596 (by decide) rfl rfl rfl ?_
                              refine zr_goto (tgt := 18) d_law_1599 rfl ?_
                              obtain rfl := Option.some.inj h
                              exact zr_wk2 (hI (x2 + (6 : Int32)) qm120 rfl) ⟨rfl, ⟨rfl, ⟨rfl, ⟨rfl, trivial⟩⟩⟩⟩
                            · replace h := z_im h hc122
                              refine zr_iconst (v := (0 : Int32)) d_law_572 rfl ?_
                              obtain rfl := Option.some.inj h
                              exact absurd (hR (0 : Int32) qm120 rfl) (by decide)
                          · replace h := z_im h hs115
                            by_cases hs123 : ((xs x2.toNatClampNeg) &&& (63 : Int32)) = (12 : Int32)
                            · replace h := z_ip h hs123
                              refine zr_tbl (off := 541) (tgt := 574) hs123 d_law_33 (by decide) (by decide) rfl rfl ?_
                              refine zr_aload_n (i := 1) d_law_574 rfl rfl ?_
                              refine zr_aload_n (i := 0) d_law_575 rfl rfl ?_
                              refine zr_iload_n (i := 3) d_law_576 rfl rfl ?_
                              refine zr_iconst (v := (1 : Int32)) d_law_577 rfl ?_
                              refine zr_iadd d_law_578 ?_
                              obtain ⟨hb124, h⟩ := z_gd h
                              refine zr_ld94x hxs hsl d_law_579 hb124 ?_
                              obtain ⟨q125, hq126, h⟩ := z_bd h
                              refine zr_callVi (av := [zI (xs (x2 + (1 : Int32)).toNatClampNeg)]) (st := []) d_law_580 mw_8_heir ml_L_68 im_8_heir se_8_heir rfl rfl (Nat.le_of_ble_eq_true rfl) fitL_5_2 rfl rfl rfl (s8_heir hq126) ?_
                              refine zr_aload_n (i := 2) d_law_583 rfl rfl ?_
                              refine zr_aload_n (i := 0) d_law_584 rfl rfl ?_
                              refine zr_iload_n (i := 3) d_law_585 rfl rfl ?_
                              refine zr_iconst (v := (1 : Int32)) d_law_586 rfl ?_
                              refine zr_iadd d_law_587 ?_
                              refine zr_ld94x hxs hsl d_law_588 hb124 ?_
                              obtain ⟨⟨q127, qm128⟩, hq129, h⟩ := z_bd h
                              replace h := z_h2 h
                              refine zr_callVi (av := [zI (xs (x2 + (1 : Int32)).toNatClampNeg)]) (st := [zI q125]) d_law_589 mw_9_heir ml_L_71 im_9_heir se_9_heir rfl rfl (Nat.le_of_ble_eq_true rfl) fitL_5_2 rfl rfl rfl (s9_heir hq129) ?_
                              refine zr_icmp_eq (tgt := 1596) d_law_592 rfl (fun hc130 => ?_) (fun hc130 => ?_)
                              · replace h := z_ip h hc130
                                refine zr_iinc (v := (x2 + (6 : Int32))) (l' := [some (zA 94 0), some (zA 8 0), some (zA 9 0), some (zI (x2 + (6 : Int32)))]) d_law_1596 (by decide) rfl rfl rfl ?_
                                refine zr_goto (tgt := 18) d_law_1599 rfl ?_
                                obtain rfl := Option.some.inj h
                                exact zr_wk2 (hI (x2 + (6 : Int32)) qm128 rfl) ⟨rfl, ⟨rfl, ⟨rfl, ⟨rfl, trivial⟩⟩⟩⟩
                              · replace h := z_im h hc130
                                refine zr_iconst (v := (0 : Int32)) d_law_595 rfl ?_
                                obtain rfl := Option.some.inj h
                                exact absurd (hR (0 : Int32) qm128 rfl) (by decide)
                            · replace h := z_im h hs123
                              by_cases hs131 : ((xs x2.toNatClampNeg) &&& (63 : Int32)) = (13 : Int32)
                              · replace h := z_ip h hs131
                                refine zr_tbl (off := 564) (tgt := 597) hs131 d_law_33 (by decide) (by decide) rfl rfl ?_
                                refine zr_aload_n (i := 1) d_law_597 rfl rfl ?_
                                refine zr_aload_n (i := 0) d_law_598 rfl rfl ?_
                                refine zr_iload_n (i := 3) d_law_599 rfl rfl ?_
                                refine zr_iconst (v := (1 : Int32)) d_law_600 rfl ?_
                                refine zr_iadd d_law_601 ?_
                                obtain ⟨hb132, h⟩ := z_gd h
                                refine zr_ld94x hxs hsl d_law_602 hb132 ?_
                                refine zr_aload_n (i := 0) d_law_603 rfl rfl ?_
                                refine zr_iload_n (i := 3) d_law_604 rfl rfl ?_
                                refine zr_iconst (v := (2 : Int32)) d_law_605 rfl ?_
                                refine zr_iadd d_law_606 ?_
                                obtain ⟨hb133, h⟩ := z_gd h
                                refine zr_ld94x hxs hsl d_law_607 hb133 ?_
                                obtain ⟨⟨q134, qm135⟩, hq136, h⟩ := z_bd h
                                replace h := z_h2 h
                                refine zr_callVi (av := [zI (xs (x2 + (1 : Int32)).toNatClampNeg), zI (xs (x2 + (2 : Int32)).toNatClampNeg)]) (st := []) d_law_608 mw_8_gain ml_L_72 im_8_gain se_8_gain rfl rfl (Nat.le_of_ble_eq_true rfl) fitL_8_3 rfl rfl rfl (s8_gain hq136) ?_
                                refine zr_aload_n (i := 2) d_law_611 rfl rfl ?_
                                refine zr_aload_n (i := 0) d_law_612 rfl rfl ?_
                                refine zr_iload_n (i := 3) d_law_613 rfl rfl ?_
                                refine zr_iconst (v := (1 : Int32)) d_law_614 rfl ?_
                                refine zr_iadd d_law_615 ?_
                                refine zr_ld94x hxs hsl d_law_616 hb132 ?_
                                refine zr_aload_n (i := 0) d_law_617 rfl rfl ?_
                                refine zr_iload_n (i := 3) d_law_618 rfl rfl ?_
                                refine zr_iconst (v := (2 : Int32)) d_law_619 rfl ?_
                                refine zr_iadd d_law_620 ?_
                                refine zr_ld94x hxs hsl d_law_621 hb133 ?_
                                obtain ⟨⟨q137, qm138⟩, hq139, h⟩ := z_bd h
                                replace h := z_h2 h
                                refine zr_callVi (av := [zI (xs (x2 + (1 : Int32)).toNatClampNeg), zI (xs (x2 + (2 : Int32)).toNatClampNeg)]) (st := [zI q134]) d_law_622 mw_9_gain ml_L_75 im_9_gain se_9_gain rfl rfl (Nat.le_of_ble_eq_true rfl) fitL_10_3 rfl rfl rfl (s9_gain hq139) ?_
                                refine zr_icmp_eq (tgt := 1596) d_law_625 rfl (fun hc140 => ?_) (fun hc140 => ?_)
                                · replace h := z_ip h hc140
                                  refine zr_iinc (v := (x2 + (6 : Int32))) (l' := [some (zA 94 0), some (zA 8 0), some (zA 9 0), some (zI (x2 + (6 : Int32)))]) d_law_1596 (by decide) rfl rfl rfl ?_
                                  refine zr_goto (tgt := 18) d_law_1599 rfl ?_
                                  obtain rfl := Option.some.inj h
                                  exact zr_wk2 (hI (x2 + (6 : Int32)) qm138 rfl) ⟨rfl, ⟨rfl, ⟨rfl, ⟨rfl, trivial⟩⟩⟩⟩
                                · replace h := z_im h hc140
                                  refine zr_iconst (v := (0 : Int32)) d_law_628 rfl ?_
                                  obtain rfl := Option.some.inj h
                                  exact absurd (hR (0 : Int32) qm138 rfl) (by decide)
                              · replace h := z_im h hs131
                                by_cases hs141 : ((xs x2.toNatClampNeg) &&& (63 : Int32)) = (14 : Int32)
                                · replace h := z_ip h hs141
                                  refine zr_tbl (off := 597) (tgt := 630) hs141 d_law_33 (by decide) (by decide) rfl rfl ?_
                                  refine zr_aload_n (i := 1) d_law_630 rfl rfl ?_
                                  refine zr_aload_n (i := 0) d_law_631 rfl rfl ?_
                                  refine zr_iload_n (i := 3) d_law_632 rfl rfl ?_
                                  refine zr_iconst (v := (1 : Int32)) d_law_633 rfl ?_
                                  refine zr_iadd d_law_634 ?_
                                  obtain ⟨hb142, h⟩ := z_gd h
                                  refine zr_ld94x hxs hsl d_law_635 hb142 ?_
                                  refine zr_aload_n (i := 0) d_law_636 rfl rfl ?_
                                  refine zr_iload_n (i := 3) d_law_637 rfl rfl ?_
                                  refine zr_iconst (v := (2 : Int32)) d_law_638 rfl ?_
                                  refine zr_iadd d_law_639 ?_
                                  obtain ⟨hb143, h⟩ := z_gd h
                                  refine zr_ld94x hxs hsl d_law_640 hb143 ?_
                                  refine zr_aload_n (i := 0) d_law_641 rfl rfl ?_
                                  refine zr_iload_n (i := 3) d_law_642 rfl rfl ?_
                                  refine zr_iconst (v := (3 : Int32)) d_law_643 rfl ?_
                                  refine zr_iadd d_law_644 ?_
                                  obtain ⟨hb144, h⟩ := z_gd h
                                  refine zr_ld94x hxs hsl d_law_645 hb144 ?_
                                  obtain ⟨⟨q145, qm146⟩, hq147, h⟩ := z_bd h
                                  replace h := z_h2 h
                                  refine zr_callVi (av := [zI (xs (x2 + (1 : Int32)).toNatClampNeg), zI (xs (x2 + (2 : Int32)).toNatClampNeg), zI (xs (x2 + (3 : Int32)).toNatClampNeg)]) (st := []) d_law_646 mw_8_best ml_L_76 im_8_best se_8_best rfl rfl (Nat.le_of_ble_eq_true rfl) fitL_8_8 rfl rfl rfl (s8_best hq147) ?_
                                  refine zr_aload_n (i := 2) d_law_649 rfl rfl ?_
                                  refine zr_aload_n (i := 0) d_law_650 rfl rfl ?_
                                  refine zr_iload_n (i := 3) d_law_651 rfl rfl ?_
                                  refine zr_iconst (v := (1 : Int32)) d_law_652 rfl ?_
                                  refine zr_iadd d_law_653 ?_
                                  refine zr_ld94x hxs hsl d_law_654 hb142 ?_
                                  refine zr_aload_n (i := 0) d_law_655 rfl rfl ?_
                                  refine zr_iload_n (i := 3) d_law_656 rfl rfl ?_
                                  refine zr_iconst (v := (2 : Int32)) d_law_657 rfl ?_
                                  refine zr_iadd d_law_658 ?_
                                  refine zr_ld94x hxs hsl d_law_659 hb143 ?_
                                  refine zr_aload_n (i := 0) d_law_660 rfl rfl ?_
                                  refine zr_iload_n (i := 3) d_law_661 rfl rfl ?_
                                  refine zr_iconst (v := (3 : Int32)) d_law_662 rfl ?_
                                  refine zr_iadd d_law_663 ?_
                                  refine zr_ld94x hxs hsl d_law_664 hb144 ?_
                                  obtain ⟨⟨q148, qm149⟩, hq150, h⟩ := z_bd h
                                  replace h := z_h2 h
                                  refine zr_callVi (av := [zI (xs (x2 + (1 : Int32)).toNatClampNeg), zI (xs (x2 + (2 : Int32)).toNatClampNeg), zI (xs (x2 + (3 : Int32)).toNatClampNeg)]) (st := [zI q145]) d_law_665 mw_9_best ml_L_80 im_9_best se_9_best rfl rfl (Nat.le_of_ble_eq_true rfl) fitL_11_6 rfl rfl rfl (s9_best hq150) ?_
                                  refine zr_icmp_eq (tgt := 1596) d_law_668 rfl (fun hc151 => ?_) (fun hc151 => ?_)
                                  · replace h := z_ip h hc151
                                    refine zr_iinc (v := (x2 + (6 : Int32))) (l' := [some (zA 94 0), some (zA 8 0), some (zA 9 0), some (zI (x2 + (6 : Int32)))]) d_law_1596 (by decide) rfl rfl rfl ?_
                                    refine zr_goto (tgt := 18) d_law_1599 rfl ?_
                                    obtain rfl := Option.some.inj h
                                    exact zr_wk2 (hI (x2 + (6 : Int32)) qm149 rfl) ⟨rfl, ⟨rfl, ⟨rfl, ⟨rfl, trivial⟩⟩⟩⟩
                                  · replace h := z_im h hc151
                                    refine zr_iconst (v := (0 : Int32)) d_law_671 rfl ?_
                                    obtain rfl := Option.some.inj h
                                    exact absurd (hR (0 : Int32) qm149 rfl) (by decide)
                                · replace h := z_im h hs141
                                  by_cases hs152 : ((xs x2.toNatClampNeg) &&& (63 : Int32)) = (15 : Int32)
                                  · replace h := z_ip h hs152
                                    refine zr_tbl (off := 640) (tgt := 673) hs152 d_law_33 (by decide) (by decide) rfl rfl ?_
                                    refine zr_aload_n (i := 1) d_law_673 rfl rfl ?_
                                    refine zr_aload_n (i := 0) d_law_674 rfl rfl ?_
                                    refine zr_iload_n (i := 3) d_law_675 rfl rfl ?_
                                    refine zr_iconst (v := (1 : Int32)) d_law_676 rfl ?_
                                    refine zr_iadd d_law_677 ?_
                                    obtain ⟨hb153, h⟩ := z_gd h
                                    refine zr_ld94x hxs hsl d_law_678 hb153 ?_
                                    refine zr_aload_n (i := 0) d_law_679 rfl rfl ?_
                                    refine zr_iload_n (i := 3) d_law_680 rfl rfl ?_
                                    refine zr_iconst (v := (2 : Int32)) d_law_681 rfl ?_
                                    refine zr_iadd d_law_682 ?_
                                    obtain ⟨hb154, h⟩ := z_gd h
                                    refine zr_ld94x hxs hsl d_law_683 hb154 ?_
                                    obtain ⟨⟨q155, qm156⟩, hq157, h⟩ := z_bd h
                                    replace h := z_h2 h
                                    refine zr_callVi (av := [zI (xs (x2 + (1 : Int32)).toNatClampNeg), zI (xs (x2 + (2 : Int32)).toNatClampNeg)]) (st := []) d_law_684 mw_8_loss ml_L_81 im_8_loss se_8_loss rfl rfl (Nat.le_of_ble_eq_true rfl) fitL_8_4 rfl rfl rfl (s8_loss hq157) ?_
                                    refine zr_aload_n (i := 2) d_law_687 rfl rfl ?_
                                    refine zr_aload_n (i := 0) d_law_688 rfl rfl ?_
                                    refine zr_iload_n (i := 3) d_law_689 rfl rfl ?_
                                    refine zr_iconst (v := (1 : Int32)) d_law_690 rfl ?_
                                    refine zr_iadd d_law_691 ?_
                                    refine zr_ld94x hxs hsl d_law_692 hb153 ?_
                                    refine zr_aload_n (i := 0) d_law_693 rfl rfl ?_
                                    refine zr_iload_n (i := 3) d_law_694 rfl rfl ?_
                                    refine zr_iconst (v := (2 : Int32)) d_law_695 rfl ?_
                                    refine zr_iadd d_law_696 ?_
                                    refine zr_ld94x hxs hsl d_law_697 hb154 ?_
                                    obtain ⟨⟨q158, qm159⟩, hq160, h⟩ := z_bd h
                                    replace h := z_h2 h
                                    refine zr_callVi (av := [zI (xs (x2 + (1 : Int32)).toNatClampNeg), zI (xs (x2 + (2 : Int32)).toNatClampNeg)]) (st := [zI q155]) d_law_698 mw_9_loss ml_L_84 im_9_loss se_9_loss rfl rfl (Nat.le_of_ble_eq_true rfl) fitL_11_4 rfl rfl rfl (s9_loss hq160) ?_
                                    refine zr_icmp_eq (tgt := 1596) d_law_701 rfl (fun hc161 => ?_) (fun hc161 => ?_)
                                    · replace h := z_ip h hc161
                                      refine zr_iinc (v := (x2 + (6 : Int32))) (l' := [some (zA 94 0), some (zA 8 0), some (zA 9 0), some (zI (x2 + (6 : Int32)))]) d_law_1596 (by decide) rfl rfl rfl ?_
                                      refine zr_goto (tgt := 18) d_law_1599 rfl ?_
                                      obtain rfl := Option.some.inj h
                                      exact zr_wk2 (hI (x2 + (6 : Int32)) qm159 rfl) ⟨rfl, ⟨rfl, ⟨rfl, ⟨rfl, trivial⟩⟩⟩⟩
                                    · replace h := z_im h hc161
                                      refine zr_iconst (v := (0 : Int32)) d_law_704 rfl ?_
                                      obtain rfl := Option.some.inj h
                                      exact absurd (hR (0 : Int32) qm159 rfl) (by decide)
                                  · replace h := z_im h hs152
                                    by_cases hs162 : ((xs x2.toNatClampNeg) &&& (63 : Int32)) = (16 : Int32)
                                    · replace h := z_ip h hs162
                                      refine zr_tbl (off := 673) (tgt := 706) hs162 d_law_33 (by decide) (by decide) rfl rfl ?_
                                      refine zr_aload_n (i := 1) d_law_706 rfl rfl ?_
                                      refine zr_aload_n (i := 0) d_law_707 rfl rfl ?_
                                      refine zr_iload_n (i := 3) d_law_708 rfl rfl ?_
                                      refine zr_iconst (v := (1 : Int32)) d_law_709 rfl ?_
                                      refine zr_iadd d_law_710 ?_
                                      obtain ⟨hb163, h⟩ := z_gd h
                                      refine zr_ld94x hxs hsl d_law_711 hb163 ?_
                                      obtain ⟨q164, hq165, h⟩ := z_bd h
                                      refine zr_callVi (av := [zI (xs (x2 + (1 : Int32)).toNatClampNeg)]) (st := []) d_law_712 mw_8_race ml_L_85 im_8_race se_8_race rfl rfl (Nat.le_of_ble_eq_true rfl) fitL_5_4 rfl rfl rfl (s8_race hq165) ?_
                                      refine zr_aload_n (i := 2) d_law_715 rfl rfl ?_
                                      refine zr_aload_n (i := 0) d_law_716 rfl rfl ?_
                                      refine zr_iload_n (i := 3) d_law_717 rfl rfl ?_
                                      refine zr_iconst (v := (1 : Int32)) d_law_718 rfl ?_
                                      refine zr_iadd d_law_719 ?_
                                      refine zr_ld94x hxs hsl d_law_720 hb163 ?_
                                      obtain ⟨⟨q166, qm167⟩, hq168, h⟩ := z_bd h
                                      replace h := z_h2 h
                                      refine zr_callVi (av := [zI (xs (x2 + (1 : Int32)).toNatClampNeg)]) (st := [zI q164]) d_law_721 mw_9_race ml_L_88 im_9_race se_9_race rfl rfl (Nat.le_of_ble_eq_true rfl) fitL_5_3 rfl rfl rfl (s9_race hq168) ?_
                                      refine zr_icmp_eq (tgt := 1596) d_law_724 rfl (fun hc169 => ?_) (fun hc169 => ?_)
                                      · replace h := z_ip h hc169
                                        refine zr_iinc (v := (x2 + (6 : Int32))) (l' := [some (zA 94 0), some (zA 8 0), some (zA 9 0), some (zI (x2 + (6 : Int32)))]) d_law_1596 (by decide) rfl rfl rfl ?_
                                        refine zr_goto (tgt := 18) d_law_1599 rfl ?_
                                        obtain rfl := Option.some.inj h
                                        exact zr_wk2 (hI (x2 + (6 : Int32)) qm167 rfl) ⟨rfl, ⟨rfl, ⟨rfl, ⟨rfl, trivial⟩⟩⟩⟩
                                      · replace h := z_im h hc169
                                        refine zr_iconst (v := (0 : Int32)) d_law_727 rfl ?_
                                        obtain rfl := Option.some.inj h
                                        exact absurd (hR (0 : Int32) qm167 rfl) (by decide)
                                    · replace h := z_im h hs162
                                      by_cases hs170 : ((xs x2.toNatClampNeg) &&& (63 : Int32)) = (17 : Int32)
                                      · replace h := z_ip h hs170
                                        refine zr_tbl (off := 696) (tgt := 729) hs170 d_law_33 (by decide) (by decide) rfl rfl ?_
                                        refine zr_aload_n (i := 1) d_law_729 rfl rfl ?_
                                        refine zr_aload_n (i := 0) d_law_730 rfl rfl ?_
                                        refine zr_iload_n (i := 3) d_law_731 rfl rfl ?_
                                        refine zr_iconst (v := (1 : Int32)) d_law_732 rfl ?_
                                        refine zr_iadd d_law_733 ?_
                                        obtain ⟨hb171, h⟩ := z_gd h
                                        refine zr_ld94x hxs hsl d_law_734 hb171 ?_
                                        refine zr_aload_n (i := 0) d_law_735 rfl rfl ?_
                                        refine zr_iload_n (i := 3) d_law_736 rfl rfl ?_
                                        refine zr_iconst (v := (2 : Int32)) d_law_737 rfl ?_
                                        refine zr_iadd d_law_738 ?_
                                        obtain ⟨hb172, h⟩ := z_gd h
                                        refine zr_ld94x hxs hsl d_law_739 hb172 ?_
                                        refine zr_aload_n (i := 0) d_law_740 rfl rfl ?_
                                        refine zr_iload_n (i := 3) d_law_741 rfl rfl ?_
                                        refine zr_iconst (v := (3 : Int32)) d_law_742 rfl ?_
                                        refine zr_iadd d_law_743 ?_
                                        obtain ⟨hb173, h⟩ := z_gd h
                                        refine zr_ld94x hxs hsl d_law_744 hb173 ?_
                                        refine zr_aload_n (i := 0) d_law_745 rfl rfl ?_
                                        refine zr_iload_n (i := 3) d_law_746 rfl rfl ?_
                                        refine zr_iconst (v := (4 : Int32)) d_law_747 rfl ?_
                                        refine zr_iadd d_law_748 ?_
                                        obtain ⟨hb174, h⟩ := z_gd h
                                        refine zr_ld94x hxs hsl d_law_749 hb174 ?_
                                        refine zr_aload_n (i := 0) d_law_750 rfl rfl ?_
                                        refine zr_iload_n (i := 3) d_law_751 rfl rfl ?_
                                        refine zr_iconst (v := (5 : Int32)) d_law_752 rfl ?_
                                        refine zr_iadd d_law_753 ?_
                                        obtain ⟨hb175, h⟩ := z_gd h
                                        refine zr_ld94x hxs hsl d_law_754 hb175 ?_
                                        obtain ⟨⟨q176, qm177⟩, hq178, h⟩ := z_bd h
                                        replace h := z_h2 h
                                        refine zr_callVi (av := [zI (xs (x2 + (1 : Int32)).toNatClampNeg), zI (xs (x2 + (2 : Int32)).toNatClampNeg), zI (xs (x2 + (3 : Int32)).toNatClampNeg), zI (xs (x2 + (4 : Int32)).toNatClampNeg), zI (xs (x2 + (5 : Int32)).toNatClampNeg)]) (st := []) d_law_755 mw_8_duel ml_L_89 im_8_duel se_8_duel rfl rfl (Nat.le_of_ble_eq_true rfl) fitL_8_6 rfl rfl rfl (s8_duel hq178) ?_
                                        refine zr_aload_n (i := 2) d_law_758 rfl rfl ?_
                                        refine zr_aload_n (i := 0) d_law_759 rfl rfl ?_
                                        refine zr_iload_n (i := 3) d_law_760 rfl rfl ?_
                                        refine zr_iconst (v := (1 : Int32)) d_law_761 rfl ?_
                                        refine zr_iadd d_law_762 ?_
                                        refine zr_ld94x hxs hsl d_law_763 hb171 ?_
                                        refine zr_aload_n (i := 0) d_law_764 rfl rfl ?_
                                        refine zr_iload_n (i := 3) d_law_765 rfl rfl ?_
                                        refine zr_iconst (v := (2 : Int32)) d_law_766 rfl ?_
                                        refine zr_iadd d_law_767 ?_
                                        refine zr_ld94x hxs hsl d_law_768 hb172 ?_
                                        refine zr_aload_n (i := 0) d_law_769 rfl rfl ?_
                                        refine zr_iload_n (i := 3) d_law_770 rfl rfl ?_
                                        refine zr_iconst (v := (3 : Int32)) d_law_771 rfl ?_
                                        refine zr_iadd d_law_772 ?_
                                        refine zr_ld94x hxs hsl d_law_773 hb173 ?_
                                        refine zr_aload_n (i := 0) d_law_774 rfl rfl ?_
                                        refine zr_iload_n (i := 3) d_law_775 rfl rfl ?_
                                        refine zr_iconst (v := (4 : Int32)) d_law_776 rfl ?_
                                        refine zr_iadd d_law_777 ?_
                                        refine zr_ld94x hxs hsl d_law_778 hb174 ?_
                                        refine zr_aload_n (i := 0) d_law_779 rfl rfl ?_
                                        refine zr_iload_n (i := 3) d_law_780 rfl rfl ?_
                                        refine zr_iconst (v := (5 : Int32)) d_law_781 rfl ?_
                                        refine zr_iadd d_law_782 ?_
                                        refine zr_ld94x hxs hsl d_law_783 hb175 ?_
                                        obtain ⟨⟨q179, qm180⟩, hq181, h⟩ := z_bd h
                                        replace h := z_h2 h
                                        refine zr_callVi (av := [zI (xs (x2 + (1 : Int32)).toNatClampNeg), zI (xs (x2 + (2 : Int32)).toNatClampNeg), zI (xs (x2 + (3 : Int32)).toNatClampNeg), zI (xs (x2 + (4 : Int32)).toNatClampNeg), zI (xs (x2 + (5 : Int32)).toNatClampNeg)]) (st := [zI q176]) d_law_784 mw_9_duel ml_L_92 im_9_duel se_9_duel rfl rfl (Nat.le_of_ble_eq_true rfl) fitL_11_6 rfl rfl rfl (s9_duel hq181) ?_
                                        refine zr_icmp_eq (tgt := 1596) d_law_787 rfl (fun hc182 => ?_) (fun hc182 => ?_)
                                        · replace h := z_ip h hc182
                                          refine zr_iinc (v := (x2 + (6 : Int32))) (l' := [some (zA 94 0), some (zA 8 0), some (zA 9 0), some (zI (x2 + (6 : Int32)))]) d_law_1596 (by decide) rfl rfl rfl ?_
                                          refine zr_goto (tgt := 18) d_law_1599 rfl ?_
                                          obtain rfl := Option.some.inj h
                                          exact zr_wk2 (hI (x2 + (6 : Int32)) qm180 rfl) ⟨rfl, ⟨rfl, ⟨rfl, ⟨rfl, trivial⟩⟩⟩⟩
                                        · replace h := z_im h hc182
                                          refine zr_iconst (v := (0 : Int32)) d_law_790 rfl ?_
                                          obtain rfl := Option.some.inj h
                                          exact absurd (hR (0 : Int32) qm180 rfl) (by decide)
                                      · replace h := z_im h hs170
                                        by_cases hs183 : ((xs x2.toNatClampNeg) &&& (63 : Int32)) = (18 : Int32)
                                        · replace h := z_ip h hs183
                                          refine zr_tbl (off := 759) (tgt := 792) hs183 d_law_33 (by decide) (by decide) rfl rfl ?_
                                          refine zr_aload_n (i := 1) d_law_792 rfl rfl ?_
                                          refine zr_aload_n (i := 0) d_law_793 rfl rfl ?_
                                          refine zr_iload_n (i := 3) d_law_794 rfl rfl ?_
                                          refine zr_iconst (v := (1 : Int32)) d_law_795 rfl ?_
                                          refine zr_iadd d_law_796 ?_
                                          obtain ⟨hb184, h⟩ := z_gd h
                                          refine zr_ld94x hxs hsl d_law_797 hb184 ?_
                                          refine zr_aload_n (i := 0) d_law_798 rfl rfl ?_
                                          refine zr_iload_n (i := 3) d_law_799 rfl rfl ?_
                                          refine zr_iconst (v := (2 : Int32)) d_law_800 rfl ?_
                                          refine zr_iadd d_law_801 ?_
                                          obtain ⟨hb185, h⟩ := z_gd h
                                          refine zr_ld94x hxs hsl d_law_802 hb185 ?_
                                          refine zr_aload_n (i := 0) d_law_803 rfl rfl ?_
                                          refine zr_iload_n (i := 3) d_law_804 rfl rfl ?_
                                          refine zr_iconst (v := (3 : Int32)) d_law_805 rfl ?_
                                          refine zr_iadd d_law_806 ?_
                                          obtain ⟨hb186, h⟩ := z_gd h
                                          refine zr_ld94x hxs hsl d_law_807 hb186 ?_
                                          obtain ⟨⟨q187, qm188⟩, hq189, h⟩ := z_bd h
                                          replace h := z_h2 h
                                          refine zr_callVi (av := [zI (xs (x2 + (1 : Int32)).toNatClampNeg), zI (xs (x2 + (2 : Int32)).toNatClampNeg), zI (xs (x2 + (3 : Int32)).toNatClampNeg)]) (st := []) d_law_808 mw_8_rest ml_L_93 im_8_rest se_8_rest rfl rfl (Nat.le_of_ble_eq_true rfl) fitL_8_6 rfl rfl rfl (s8_rest hq189) ?_
                                          refine zr_aload_n (i := 2) d_law_811 rfl rfl ?_
                                          refine zr_aload_n (i := 0) d_law_812 rfl rfl ?_
                                          refine zr_iload_n (i := 3) d_law_813 rfl rfl ?_
                                          refine zr_iconst (v := (1 : Int32)) d_law_814 rfl ?_
                                          refine zr_iadd d_law_815 ?_
                                          refine zr_ld94x hxs hsl d_law_816 hb184 ?_
                                          refine zr_aload_n (i := 0) d_law_817 rfl rfl ?_
                                          refine zr_iload_n (i := 3) d_law_818 rfl rfl ?_
                                          refine zr_iconst (v := (2 : Int32)) d_law_819 rfl ?_
                                          refine zr_iadd d_law_820 ?_
                                          refine zr_ld94x hxs hsl d_law_821 hb185 ?_
                                          refine zr_aload_n (i := 0) d_law_822 rfl rfl ?_
                                          refine zr_iload_n (i := 3) d_law_823 rfl rfl ?_
                                          refine zr_iconst (v := (3 : Int32)) d_law_824 rfl ?_
                                          refine zr_iadd d_law_825 ?_
                                          refine zr_ld94x hxs hsl d_law_826 hb186 ?_
                                          obtain ⟨⟨q190, qm191⟩, hq192, h⟩ := z_bd h
                                          replace h := z_h2 h
                                          refine zr_callVi (av := [zI (xs (x2 + (1 : Int32)).toNatClampNeg), zI (xs (x2 + (2 : Int32)).toNatClampNeg), zI (xs (x2 + (3 : Int32)).toNatClampNeg)]) (st := [zI q187]) d_law_827 mw_9_rest ml_L_96 im_9_rest se_9_rest rfl rfl (Nat.le_of_ble_eq_true rfl) fitL_11_7 rfl rfl rfl (s9_rest hq192) ?_
                                          refine zr_icmp_eq (tgt := 1596) d_law_830 rfl (fun hc193 => ?_) (fun hc193 => ?_)
                                          · replace h := z_ip h hc193
                                            refine zr_iinc (v := (x2 + (6 : Int32))) (l' := [some (zA 94 0), some (zA 8 0), some (zA 9 0), some (zI (x2 + (6 : Int32)))]) d_law_1596 (by decide) rfl rfl rfl ?_
                                            refine zr_goto (tgt := 18) d_law_1599 rfl ?_
                                            obtain rfl := Option.some.inj h
                                            exact zr_wk2 (hI (x2 + (6 : Int32)) qm191 rfl) ⟨rfl, ⟨rfl, ⟨rfl, ⟨rfl, trivial⟩⟩⟩⟩
                                          · replace h := z_im h hc193
                                            refine zr_iconst (v := (0 : Int32)) d_law_833 rfl ?_
                                            obtain rfl := Option.some.inj h
                                            exact absurd (hR (0 : Int32) qm191 rfl) (by decide)
                                        · replace h := z_im h hs183
                                          by_cases hs194 : ((xs x2.toNatClampNeg) &&& (63 : Int32)) = (19 : Int32)
                                          · replace h := z_ip h hs194
                                            refine zr_tbl (off := 802) (tgt := 835) hs194 d_law_33 (by decide) (by decide) rfl rfl ?_
                                            refine zr_aload_n (i := 1) d_law_835 rfl rfl ?_
                                            refine zr_aload_n (i := 0) d_law_836 rfl rfl ?_
                                            refine zr_iload_n (i := 3) d_law_837 rfl rfl ?_
                                            refine zr_iconst (v := (1 : Int32)) d_law_838 rfl ?_
                                            refine zr_iadd d_law_839 ?_
                                            obtain ⟨hb195, h⟩ := z_gd h
                                            refine zr_ld94x hxs hsl d_law_840 hb195 ?_
                                            obtain ⟨q196, hq197, h⟩ := z_bd h
                                            refine zr_callVi (av := [zI (xs (x2 + (1 : Int32)).toNatClampNeg)]) (st := []) d_law_841 mw_8_fill ml_L_97 im_8_fill se_8_fill rfl rfl (Nat.le_of_ble_eq_true rfl) fitL_4_2 rfl rfl rfl (s8_fill hq197) ?_
                                            refine zr_aload_n (i := 2) d_law_844 rfl rfl ?_
                                            refine zr_aload_n (i := 0) d_law_845 rfl rfl ?_
                                            refine zr_iload_n (i := 3) d_law_846 rfl rfl ?_
                                            refine zr_iconst (v := (1 : Int32)) d_law_847 rfl ?_
                                            refine zr_iadd d_law_848 ?_
                                            refine zr_ld94x hxs hsl d_law_849 hb195 ?_
                                            obtain ⟨⟨q198, qm199⟩, hq200, h⟩ := z_bd h
                                            replace h := z_h2 h
                                            refine zr_callVi (av := [zI (xs (x2 + (1 : Int32)).toNatClampNeg)]) (st := [zI q196]) d_law_850 mw_9_fill ml_L_100 im_9_fill se_9_fill rfl rfl (Nat.le_of_ble_eq_true rfl) fitL_5_3 rfl rfl rfl (s9_fill hq200) ?_
                                            refine zr_icmp_eq (tgt := 1596) d_law_853 rfl (fun hc201 => ?_) (fun hc201 => ?_)
                                            · replace h := z_ip h hc201
                                              refine zr_iinc (v := (x2 + (6 : Int32))) (l' := [some (zA 94 0), some (zA 8 0), some (zA 9 0), some (zI (x2 + (6 : Int32)))]) d_law_1596 (by decide) rfl rfl rfl ?_
                                              refine zr_goto (tgt := 18) d_law_1599 rfl ?_
                                              obtain rfl := Option.some.inj h
                                              exact zr_wk2 (hI (x2 + (6 : Int32)) qm199 rfl) ⟨rfl, ⟨rfl, ⟨rfl, ⟨rfl, trivial⟩⟩⟩⟩
                                            · replace h := z_im h hc201
                                              refine zr_iconst (v := (0 : Int32)) d_law_856 rfl ?_
                                              obtain rfl := Option.some.inj h
                                              exact absurd (hR (0 : Int32) qm199 rfl) (by decide)
                                          · replace h := z_im h hs194
                                            by_cases hs202 : ((xs x2.toNatClampNeg) &&& (63 : Int32)) = (20 : Int32)
                                            · replace h := z_ip h hs202
                                              refine zr_tbl (off := 825) (tgt := 858) hs202 d_law_33 (by decide) (by decide) rfl rfl ?_
                                              refine zr_aload_n (i := 1) d_law_858 rfl rfl ?_
                                              refine zr_aload_n (i := 0) d_law_859 rfl rfl ?_
                                              refine zr_iload_n (i := 3) d_law_860 rfl rfl ?_
                                              refine zr_iconst (v := (1 : Int32)) d_law_861 rfl ?_
                                              refine zr_iadd d_law_862 ?_
                                              obtain ⟨hb203, h⟩ := z_gd h
                                              refine zr_ld94x hxs hsl d_law_863 hb203 ?_
                                              obtain ⟨q204, hq205, h⟩ := z_bd h
                                              refine zr_callVi (av := [zI (xs (x2 + (1 : Int32)).toNatClampNeg)]) (st := []) d_law_864 mw_8_richest ml_L_101 im_8_richest se_8_richest rfl rfl (Nat.le_of_ble_eq_true rfl) fitL_1_4 rfl rfl rfl (s8_richest hq205) ?_
                                              refine zr_aload_n (i := 2) d_law_867 rfl rfl ?_
                                              refine zr_aload_n (i := 0) d_law_868 rfl rfl ?_
                                              refine zr_iload_n (i := 3) d_law_869 rfl rfl ?_
                                              refine zr_iconst (v := (1 : Int32)) d_law_870 rfl ?_
                                              refine zr_iadd d_law_871 ?_
                                              refine zr_ld94x hxs hsl d_law_872 hb203 ?_
                                              obtain ⟨q206, hq207, h⟩ := z_bd h
                                              refine zr_callVi (av := [zI (xs (x2 + (1 : Int32)).toNatClampNeg)]) (st := [zI q204]) d_law_873 mw_9_richest ml_L_104 im_9_richest se_9_richest rfl rfl (Nat.le_of_ble_eq_true rfl) fitL_2_4 rfl rfl rfl (s9_richest hq207) ?_
                                              refine zr_icmp_eq (tgt := 1596) d_law_876 rfl (fun hc208 => ?_) (fun hc208 => ?_)
                                              · replace h := z_ip h hc208
                                                refine zr_iinc (v := (x2 + (6 : Int32))) (l' := [some (zA 94 0), some (zA 8 0), some (zA 9 0), some (zI (x2 + (6 : Int32)))]) d_law_1596 (by decide) rfl rfl rfl ?_
                                                refine zr_goto (tgt := 18) d_law_1599 rfl ?_
                                                obtain rfl := Option.some.inj h
                                                exact zr_wk2 (hI (x2 + (6 : Int32)) xm3 rfl) ⟨rfl, ⟨rfl, ⟨rfl, ⟨rfl, trivial⟩⟩⟩⟩
                                              · replace h := z_im h hc208
                                                refine zr_iconst (v := (0 : Int32)) d_law_879 rfl ?_
                                                obtain rfl := Option.some.inj h
                                                exact absurd (hR (0 : Int32) xm3 rfl) (by decide)
                                            · replace h := z_im h hs202
                                              by_cases hs209 : ((xs x2.toNatClampNeg) &&& (63 : Int32)) = (21 : Int32)
                                              · replace h := z_ip h hs209
                                                refine zr_tbl (off := 848) (tgt := 881) hs209 d_law_33 (by decide) (by decide) rfl rfl ?_
                                                refine zr_aload_n (i := 1) d_law_881 rfl rfl ?_
                                                refine zr_aload_n (i := 0) d_law_882 rfl rfl ?_
                                                refine zr_iload_n (i := 3) d_law_883 rfl rfl ?_
                                                refine zr_iconst (v := (1 : Int32)) d_law_884 rfl ?_
                                                refine zr_iadd d_law_885 ?_
                                                obtain ⟨hb210, h⟩ := z_gd h
                                                refine zr_ld94x hxs hsl d_law_886 hb210 ?_
                                                obtain ⟨q211, hq212, h⟩ := z_bd h
                                                refine zr_callVi (av := [zI (xs (x2 + (1 : Int32)).toNatClampNeg)]) (st := []) d_law_887 mw_8_eldest ml_L_105 im_8_eldest se_8_eldest rfl rfl (Nat.le_of_ble_eq_true rfl) fitL_2_6 rfl rfl rfl (s8_eldest hq212) ?_
                                                refine zr_aload_n (i := 2) d_law_890 rfl rfl ?_
                                                refine zr_aload_n (i := 0) d_law_891 rfl rfl ?_
                                                refine zr_iload_n (i := 3) d_law_892 rfl rfl ?_
                                                refine zr_iconst (v := (1 : Int32)) d_law_893 rfl ?_
                                                refine zr_iadd d_law_894 ?_
                                                refine zr_ld94x hxs hsl d_law_895 hb210 ?_
                                                obtain ⟨⟨q213, qm214⟩, hq215, h⟩ := z_bd h
                                                replace h := z_h2 h
                                                refine zr_callVi (av := [zI (xs (x2 + (1 : Int32)).toNatClampNeg)]) (st := [zI q211]) d_law_896 mw_9_eldest ml_L_108 im_9_eldest se_9_eldest rfl rfl (Nat.le_of_ble_eq_true rfl) fitL_2_4 rfl rfl rfl (s9_eldest hq215) ?_
                                                refine zr_icmp_eq (tgt := 1596) d_law_899 rfl (fun hc216 => ?_) (fun hc216 => ?_)
                                                · replace h := z_ip h hc216
                                                  refine zr_iinc (v := (x2 + (6 : Int32))) (l' := [some (zA 94 0), some (zA 8 0), some (zA 9 0), some (zI (x2 + (6 : Int32)))]) d_law_1596 (by decide) rfl rfl rfl ?_
                                                  refine zr_goto (tgt := 18) d_law_1599 rfl ?_
                                                  obtain rfl := Option.some.inj h
                                                  exact zr_wk2 (hI (x2 + (6 : Int32)) qm214 rfl) ⟨rfl, ⟨rfl, ⟨rfl, ⟨rfl, trivial⟩⟩⟩⟩
                                                · replace h := z_im h hc216
                                                  refine zr_iconst (v := (0 : Int32)) d_law_902 rfl ?_
                                                  obtain rfl := Option.some.inj h
                                                  exact absurd (hR (0 : Int32) qm214 rfl) (by decide)
                                              · replace h := z_im h hs209
                                                by_cases hs217 : ((xs x2.toNatClampNeg) &&& (63 : Int32)) = (22 : Int32)
                                                · replace h := z_ip h hs217
                                                  refine zr_tbl (off := 871) (tgt := 904) hs217 d_law_33 (by decide) (by decide) rfl rfl ?_
                                                  refine zr_aload_n (i := 1) d_law_904 rfl rfl ?_
                                                  refine zr_aload_n (i := 0) d_law_905 rfl rfl ?_
                                                  refine zr_iload_n (i := 3) d_law_906 rfl rfl ?_
                                                  refine zr_iconst (v := (1 : Int32)) d_law_907 rfl ?_
                                                  refine zr_iadd d_law_908 ?_
                                                  obtain ⟨hb218, h⟩ := z_gd h
                                                  refine zr_ld94x hxs hsl d_law_909 hb218 ?_
                                                  obtain ⟨q219, hq220, h⟩ := z_bd h
                                                  refine zr_callVi (av := [zI (xs (x2 + (1 : Int32)).toNatClampNeg)]) (st := []) d_law_910 mw_8_agents ml_L_109 im_8_agents se_8_agents rfl rfl (Nat.le_of_ble_eq_true rfl) fitL_4_2 rfl rfl rfl (s8_agents hq220) ?_
                                                  refine zr_aload_n (i := 2) d_law_913 rfl rfl ?_
                                                  refine zr_aload_n (i := 0) d_law_914 rfl rfl ?_
                                                  refine zr_iload_n (i := 3) d_law_915 rfl rfl ?_
                                                  refine zr_iconst (v := (1 : Int32)) d_law_916 rfl ?_
                                                  refine zr_iadd d_law_917 ?_
                                                  refine zr_ld94x hxs hsl d_law_918 hb218 ?_
                                                  obtain ⟨⟨q221, qm222⟩, hq223, h⟩ := z_bd h
                                                  replace h := z_h2 h
                                                  refine zr_callVi (av := [zI (xs (x2 + (1 : Int32)).toNatClampNeg)]) (st := [zI q219]) d_law_919 mw_9_agents ml_L_112 im_9_agents se_9_agents rfl rfl (Nat.le_of_ble_eq_true rfl) fitL_5_3 rfl rfl rfl (s9_agents hq223) ?_
                                                  refine zr_icmp_eq (tgt := 1596) d_law_922 rfl (fun hc224 => ?_) (fun hc224 => ?_)
                                                  · replace h := z_ip h hc224
                                                    refine zr_iinc (v := (x2 + (6 : Int32))) (l' := [some (zA 94 0), some (zA 8 0), some (zA 9 0), some (zI (x2 + (6 : Int32)))]) d_law_1596 (by decide) rfl rfl rfl ?_
                                                    refine zr_goto (tgt := 18) d_law_1599 rfl ?_
                                                    obtain rfl := Option.some.inj h
                                                    exact zr_wk2 (hI (x2 + (6 : Int32)) qm222 rfl) ⟨rfl, ⟨rfl, ⟨rfl, ⟨rfl, trivial⟩⟩⟩⟩
                                                  · replace h := z_im h hc224
                                                    refine zr_iconst (v := (0 : Int32)) d_law_925 rfl ?_
                                                    obtain rfl := Option.some.inj h
                                                    exact absurd (hR (0 : Int32) qm222 rfl) (by decide)
                                                · replace h := z_im h hs217
                                                  by_cases hs225 : ((xs x2.toNatClampNeg) &&& (63 : Int32)) = (23 : Int32)
                                                  · replace h := z_ip h hs225
                                                    refine zr_tbl (off := 894) (tgt := 927) hs225 d_law_33 (by decide) (by decide) rfl rfl ?_
                                                    refine zr_aload_n (i := 1) d_law_927 rfl rfl ?_
                                                    refine zr_aload_n (i := 0) d_law_928 rfl rfl ?_
                                                    refine zr_iload_n (i := 3) d_law_929 rfl rfl ?_
                                                    refine zr_iconst (v := (1 : Int32)) d_law_930 rfl ?_
                                                    refine zr_iadd d_law_931 ?_
                                                    obtain ⟨hb226, h⟩ := z_gd h
                                                    refine zr_ld94x hxs hsl d_law_932 hb226 ?_
                                                    obtain ⟨q227, hq228, h⟩ := z_bd h
                                                    refine zr_callVi (av := [zI (xs (x2 + (1 : Int32)).toNatClampNeg)]) (st := []) d_law_933 mw_8_lords ml_L_113 im_8_lords se_8_lords rfl rfl (Nat.le_of_ble_eq_true rfl) fitL_5_5 rfl rfl rfl (s8_lords hq228) ?_
                                                    refine zr_aload_n (i := 2) d_law_936 rfl rfl ?_
                                                    refine zr_aload_n (i := 0) d_law_937 rfl rfl ?_
                                                    refine zr_iload_n (i := 3) d_law_938 rfl rfl ?_
                                                    refine zr_iconst (v := (1 : Int32)) d_law_939 rfl ?_
                                                    refine zr_iadd d_law_940 ?_
                                                    refine zr_ld94x hxs hsl d_law_941 hb226 ?_
                                                    obtain ⟨⟨q229, qm230⟩, hq231, h⟩ := z_bd h
                                                    replace h := z_h2 h
                                                    refine zr_callVi (av := [zI (xs (x2 + (1 : Int32)).toNatClampNeg)]) (st := [zI q227]) d_law_942 mw_9_lords ml_L_116 im_9_lords se_9_lords rfl rfl (Nat.le_of_ble_eq_true rfl) fitL_4_5 rfl rfl rfl (s9_lords hq231) ?_
                                                    refine zr_icmp_eq (tgt := 1596) d_law_945 rfl (fun hc232 => ?_) (fun hc232 => ?_)
                                                    · replace h := z_ip h hc232
                                                      refine zr_iinc (v := (x2 + (6 : Int32))) (l' := [some (zA 94 0), some (zA 8 0), some (zA 9 0), some (zI (x2 + (6 : Int32)))]) d_law_1596 (by decide) rfl rfl rfl ?_
                                                      refine zr_goto (tgt := 18) d_law_1599 rfl ?_
                                                      obtain rfl := Option.some.inj h
                                                      exact zr_wk2 (hI (x2 + (6 : Int32)) qm230 rfl) ⟨rfl, ⟨rfl, ⟨rfl, ⟨rfl, trivial⟩⟩⟩⟩
                                                    · replace h := z_im h hc232
                                                      refine zr_iconst (v := (0 : Int32)) d_law_948 rfl ?_
                                                      obtain rfl := Option.some.inj h
                                                      exact absurd (hR (0 : Int32) qm230 rfl) (by decide)
                                                  · replace h := z_im h hs225
                                                    by_cases hs233 : ((xs x2.toNatClampNeg) &&& (63 : Int32)) = (24 : Int32)
                                                    · replace h := z_ip h hs233
                                                      refine zr_tbl (off := 917) (tgt := 950) hs233 d_law_33 (by decide) (by decide) rfl rfl ?_
                                                      refine zr_aload_n (i := 1) d_law_950 rfl rfl ?_
                                                      refine zr_aload_n (i := 0) d_law_951 rfl rfl ?_
                                                      refine zr_iload_n (i := 3) d_law_952 rfl rfl ?_
                                                      refine zr_iconst (v := (1 : Int32)) d_law_953 rfl ?_
                                                      refine zr_iadd d_law_954 ?_
                                                      obtain ⟨hb234, h⟩ := z_gd h
                                                      refine zr_ld94x hxs hsl d_law_955 hb234 ?_
                                                      obtain ⟨q235, hq236, h⟩ := z_bd h
                                                      refine zr_callVi (av := [zI (xs (x2 + (1 : Int32)).toNatClampNeg)]) (st := []) d_law_956 mw_8_bound ml_L_117 im_8_bound se_8_bound rfl rfl (Nat.le_of_ble_eq_true rfl) fitL_2_6 rfl rfl rfl (s8_bound hq236) ?_
                                                      refine zr_aload_n (i := 2) d_law_959 rfl rfl ?_
                                                      refine zr_aload_n (i := 0) d_law_960 rfl rfl ?_
                                                      refine zr_iload_n (i := 3) d_law_961 rfl rfl ?_
                                                      refine zr_iconst (v := (1 : Int32)) d_law_962 rfl ?_
                                                      refine zr_iadd d_law_963 ?_
                                                      refine zr_ld94x hxs hsl d_law_964 hb234 ?_
                                                      obtain ⟨⟨q237, qm238⟩, hq239, h⟩ := z_bd h
                                                      replace h := z_h2 h
                                                      refine zr_callVi (av := [zI (xs (x2 + (1 : Int32)).toNatClampNeg)]) (st := [zI q235]) d_law_965 mw_9_bound ml_L_120 im_9_bound se_9_bound rfl rfl (Nat.le_of_ble_eq_true rfl) fitL_3_6 rfl rfl rfl (s9_bound hq239) ?_
                                                      refine zr_icmp_eq (tgt := 1596) d_law_968 rfl (fun hc240 => ?_) (fun hc240 => ?_)
                                                      · replace h := z_ip h hc240
                                                        refine zr_iinc (v := (x2 + (6 : Int32))) (l' := [some (zA 94 0), some (zA 8 0), some (zA 9 0), some (zI (x2 + (6 : Int32)))]) d_law_1596 (by decide) rfl rfl rfl ?_
                                                        refine zr_goto (tgt := 18) d_law_1599 rfl ?_
                                                        obtain rfl := Option.some.inj h
                                                        exact zr_wk2 (hI (x2 + (6 : Int32)) qm238 rfl) ⟨rfl, ⟨rfl, ⟨rfl, ⟨rfl, trivial⟩⟩⟩⟩
                                                      · replace h := z_im h hc240
                                                        refine zr_iconst (v := (0 : Int32)) d_law_971 rfl ?_
                                                        obtain rfl := Option.some.inj h
                                                        exact absurd (hR (0 : Int32) qm238 rfl) (by decide)
                                                    · replace h := z_im h hs233
                                                      by_cases hs241 : ((xs x2.toNatClampNeg) &&& (63 : Int32)) = (25 : Int32)
                                                      · replace h := z_ip h hs241
                                                        refine zr_tbl (off := 940) (tgt := 973) hs241 d_law_33 (by decide) (by decide) rfl rfl ?_
                                                        refine zr_aload_n (i := 1) d_law_973 rfl rfl ?_
                                                        obtain ⟨q242, hq243, h⟩ := z_bd h
                                                        refine zr_callVi (av := []) (st := []) d_law_974 mw_8_idle ml_L_121 im_8_idle se_8_idle rfl rfl (Nat.le_of_ble_eq_true rfl) fitL_4_3 rfl rfl rfl (s8_idle hq243) ?_
                                                        refine zr_aload_n (i := 2) d_law_977 rfl rfl ?_
                                                        obtain ⟨⟨q244, qm245⟩, hq246, h⟩ := z_bd h
                                                        replace h := z_h2 h
                                                        refine zr_callVi (av := []) (st := [zI q242]) d_law_978 mw_9_idle ml_L_124 im_9_idle se_9_idle rfl rfl (Nat.le_of_ble_eq_true rfl) fitL_5_1 rfl rfl rfl (s9_idle hq246) ?_
                                                        refine zr_icmp_eq (tgt := 1596) d_law_981 rfl (fun hc247 => ?_) (fun hc247 => ?_)
                                                        · replace h := z_ip h hc247
                                                          refine zr_iinc (v := (x2 + (6 : Int32))) (l' := [some (zA 94 0), some (zA 8 0), some (zA 9 0), some (zI (x2 + (6 : Int32)))]) d_law_1596 (by decide) rfl rfl rfl ?_
                                                          refine zr_goto (tgt := 18) d_law_1599 rfl ?_
                                                          obtain rfl := Option.some.inj h
                                                          exact zr_wk2 (hI (x2 + (6 : Int32)) qm245 rfl) ⟨rfl, ⟨rfl, ⟨rfl, ⟨rfl, trivial⟩⟩⟩⟩
                                                        · replace h := z_im h hc247
                                                          refine zr_iconst (v := (0 : Int32)) d_law_984 rfl ?_
                                                          obtain rfl := Option.some.inj h
                                                          exact absurd (hR (0 : Int32) qm245 rfl) (by decide)
                                                      · replace h := z_im h hs241
                                                        by_cases hs248 : ((xs x2.toNatClampNeg) &&& (63 : Int32)) = (26 : Int32)
                                                        · replace h := z_ip h hs248
                                                          refine zr_tbl (off := 953) (tgt := 986) hs248 d_law_33 (by decide) (by decide) rfl rfl ?_
                                                          refine zr_aload_n (i := 1) d_law_986 rfl rfl ?_
                                                          refine zr_aload_n (i := 0) d_law_987 rfl rfl ?_
                                                          refine zr_iload_n (i := 3) d_law_988 rfl rfl ?_
                                                          refine zr_iconst (v := (1 : Int32)) d_law_989 rfl ?_
                                                          refine zr_iadd d_law_990 ?_
                                                          obtain ⟨hb249, h⟩ := z_gd h
                                                          refine zr_ld94x hxs hsl d_law_991 hb249 ?_
                                                          obtain ⟨q250, hq251, h⟩ := z_bd h
                                                          refine zr_callVi (av := [zI (xs (x2 + (1 : Int32)).toNatClampNeg)]) (st := []) d_law_992 mw_8_share ml_L_125 im_8_share se_8_share rfl rfl (Nat.le_of_ble_eq_true rfl) fitL_3_3 rfl rfl rfl (s8_share hq251) ?_
                                                          refine zr_aload_n (i := 2) d_law_995 rfl rfl ?_
                                                          refine zr_aload_n (i := 0) d_law_996 rfl rfl ?_
                                                          refine zr_iload_n (i := 3) d_law_997 rfl rfl ?_
                                                          refine zr_iconst (v := (1 : Int32)) d_law_998 rfl ?_
                                                          refine zr_iadd d_law_999 ?_
                                                          refine zr_ld94x hxs hsl d_law_1000 hb249 ?_
                                                          obtain ⟨⟨q252, qm253⟩, hq254, h⟩ := z_bd h
                                                          replace h := z_h2 h
                                                          refine zr_callVi (av := [zI (xs (x2 + (1 : Int32)).toNatClampNeg)]) (st := [zI q250]) d_law_1001 mw_9_share ml_L_128 im_9_share se_9_share rfl rfl (Nat.le_of_ble_eq_true rfl) fitL_3_2 rfl rfl rfl (s9_share hq254) ?_
                                                          refine zr_icmp_eq (tgt := 1596) d_law_1004 rfl (fun hc255 => ?_) (fun hc255 => ?_)
                                                          · replace h := z_ip h hc255
                                                            refine zr_iinc (v := (x2 + (6 : Int32))) (l' := [some (zA 94 0), some (zA 8 0), some (zA 9 0), some (zI (x2 + (6 : Int32)))]) d_law_1596 (by decide) rfl rfl rfl ?_
                                                            refine zr_goto (tgt := 18) d_law_1599 rfl ?_
                                                            obtain rfl := Option.some.inj h
                                                            exact zr_wk2 (hI (x2 + (6 : Int32)) qm253 rfl) ⟨rfl, ⟨rfl, ⟨rfl, ⟨rfl, trivial⟩⟩⟩⟩
                                                          · replace h := z_im h hc255
                                                            refine zr_iconst (v := (0 : Int32)) d_law_1007 rfl ?_
                                                            obtain rfl := Option.some.inj h
                                                            exact absurd (hR (0 : Int32) qm253 rfl) (by decide)
                                                        · replace h := z_im h hs248
                                                          by_cases hs256 : ((xs x2.toNatClampNeg) &&& (63 : Int32)) = (27 : Int32)
                                                          · replace h := z_ip h hs256
                                                            refine zr_tbl (off := 976) (tgt := 1009) hs256 d_law_33 (by decide) (by decide) rfl rfl ?_
                                                            refine zr_aload_n (i := 1) d_law_1009 rfl rfl ?_
                                                            refine zr_aload_n (i := 0) d_law_1010 rfl rfl ?_
                                                            refine zr_iload_n (i := 3) d_law_1011 rfl rfl ?_
                                                            refine zr_iconst (v := (1 : Int32)) d_law_1012 rfl ?_
                                                            refine zr_iadd d_law_1013 ?_
                                                            obtain ⟨hb257, h⟩ := z_gd h
                                                            refine zr_ld94x hxs hsl d_law_1014 hb257 ?_
                                                            refine zr_aload_n (i := 0) d_law_1015 rfl rfl ?_
                                                            refine zr_iload_n (i := 3) d_law_1016 rfl rfl ?_
                                                            refine zr_iconst (v := (2 : Int32)) d_law_1017 rfl ?_
                                                            refine zr_iadd d_law_1018 ?_
                                                            obtain ⟨hb258, h⟩ := z_gd h
                                                            refine zr_ld94x hxs hsl d_law_1019 hb258 ?_
                                                            obtain ⟨⟨q259, qm260⟩, hq261, h⟩ := z_bd h
                                                            replace h := z_h2 h
                                                            refine zr_callVi (av := [zI (xs (x2 + (1 : Int32)).toNatClampNeg), zI (xs (x2 + (2 : Int32)).toNatClampNeg)]) (st := []) d_law_1020 mw_8_lordIn ml_L_129 im_8_lordIn se_8_lordIn rfl rfl (Nat.le_of_ble_eq_true rfl) fitL_8_3 rfl rfl rfl (s8_lordIn hq261) ?_
                                                            refine zr_aload_n (i := 2) d_law_1023 rfl rfl ?_
                                                            refine zr_aload_n (i := 0) d_law_1024 rfl rfl ?_
                                                            refine zr_iload_n (i := 3) d_law_1025 rfl rfl ?_
                                                            refine zr_iconst (v := (1 : Int32)) d_law_1026 rfl ?_
                                                            refine zr_iadd d_law_1027 ?_
                                                            refine zr_ld94x hxs hsl d_law_1028 hb257 ?_
                                                            refine zr_aload_n (i := 0) d_law_1029 rfl rfl ?_
                                                            refine zr_iload_n (i := 3) d_law_1030 rfl rfl ?_
                                                            refine zr_iconst (v := (2 : Int32)) d_law_1031 rfl ?_
                                                            refine zr_iadd d_law_1032 ?_
                                                            refine zr_ld94x hxs hsl d_law_1033 hb258 ?_
                                                            obtain ⟨⟨q262, qm263⟩, hq264, h⟩ := z_bd h
                                                            replace h := z_h2 h
                                                            refine zr_callVi (av := [zI (xs (x2 + (1 : Int32)).toNatClampNeg), zI (xs (x2 + (2 : Int32)).toNatClampNeg)]) (st := [zI q259]) d_law_1034 mw_9_lordIn ml_L_132 im_9_lordIn se_9_lordIn rfl rfl (Nat.le_of_ble_eq_true rfl) fitL_10_3 rfl rfl rfl (s9_lordIn hq264) ?_
                                                            refine zr_icmp_eq (tgt := 1596) d_law_1037 rfl (fun hc265 => ?_) (fun hc265 => ?_)
                                                            · replace h := z_ip h hc265
                                                              refine zr_iinc (v := (x2 + (6 : Int32))) (l' := [some (zA 94 0), some (zA 8 0), some (zA 9 0), some (zI (x2 + (6 : Int32)))]) d_law_1596 (by decide) rfl rfl rfl ?_
                                                              refine zr_goto (tgt := 18) d_law_1599 rfl ?_
                                                              obtain rfl := Option.some.inj h
                                                              exact zr_wk2 (hI (x2 + (6 : Int32)) qm263 rfl) ⟨rfl, ⟨rfl, ⟨rfl, ⟨rfl, trivial⟩⟩⟩⟩
                                                            · replace h := z_im h hc265
                                                              refine zr_iconst (v := (0 : Int32)) d_law_1040 rfl ?_
                                                              obtain rfl := Option.some.inj h
                                                              exact absurd (hR (0 : Int32) qm263 rfl) (by decide)
                                                          · replace h := z_im h hs256
                                                            by_cases hs266 : ((xs x2.toNatClampNeg) &&& (63 : Int32)) = (28 : Int32)
                                                            · replace h := z_ip h hs266
                                                              refine zr_tbl (off := 1009) (tgt := 1042) hs266 d_law_33 (by decide) (by decide) rfl rfl ?_
                                                              refine zr_aload_n (i := 1) d_law_1042 rfl rfl ?_
                                                              refine zr_aload_n (i := 0) d_law_1043 rfl rfl ?_
                                                              refine zr_iload_n (i := 3) d_law_1044 rfl rfl ?_
                                                              refine zr_iconst (v := (1 : Int32)) d_law_1045 rfl ?_
                                                              refine zr_iadd d_law_1046 ?_
                                                              obtain ⟨hb267, h⟩ := z_gd h
                                                              refine zr_ld94x hxs hsl d_law_1047 hb267 ?_
                                                              refine zr_aload_n (i := 0) d_law_1048 rfl rfl ?_
                                                              refine zr_iload_n (i := 3) d_law_1049 rfl rfl ?_
                                                              refine zr_iconst (v := (2 : Int32)) d_law_1050 rfl ?_
                                                              refine zr_iadd d_law_1051 ?_
                                                              obtain ⟨hb268, h⟩ := z_gd h
                                                              refine zr_ld94x hxs hsl d_law_1052 hb268 ?_
                                                              obtain ⟨⟨q269, qm270⟩, hq271, h⟩ := z_bd h
                                                              replace h := z_h2 h
                                                              refine zr_callVi (av := [zI (xs (x2 + (1 : Int32)).toNatClampNeg), zI (xs (x2 + (2 : Int32)).toNatClampNeg)]) (st := []) d_law_1053 mw_8_then ml_L_133 im_8_then se_8_then rfl rfl (Nat.le_of_ble_eq_true rfl) fitL_8_3 rfl rfl rfl (s8_then hq271) ?_
                                                              refine zr_aload_n (i := 2) d_law_1056 rfl rfl ?_
                                                              refine zr_aload_n (i := 0) d_law_1057 rfl rfl ?_
                                                              refine zr_iload_n (i := 3) d_law_1058 rfl rfl ?_
                                                              refine zr_iconst (v := (1 : Int32)) d_law_1059 rfl ?_
                                                              refine zr_iadd d_law_1060 ?_
                                                              refine zr_ld94x hxs hsl d_law_1061 hb267 ?_
                                                              refine zr_aload_n (i := 0) d_law_1062 rfl rfl ?_
                                                              refine zr_iload_n (i := 3) d_law_1063 rfl rfl ?_
                                                              refine zr_iconst (v := (2 : Int32)) d_law_1064 rfl ?_
                                                              refine zr_iadd d_law_1065 ?_
                                                              refine zr_ld94x hxs hsl d_law_1066 hb268 ?_
                                                              obtain ⟨⟨q272, qm273⟩, hq274, h⟩ := z_bd h
                                                              replace h := z_h2 h
                                                              refine zr_callVi (av := [zI (xs (x2 + (1 : Int32)).toNatClampNeg), zI (xs (x2 + (2 : Int32)).toNatClampNeg)]) (st := [zI q269]) d_law_1067 mw_9_then ml_L_136 im_9_then se_9_then rfl rfl (Nat.le_of_ble_eq_true rfl) fitL_10_3 rfl rfl rfl (s9_then hq274) ?_
                                                              refine zr_icmp_eq (tgt := 1596) d_law_1070 rfl (fun hc275 => ?_) (fun hc275 => ?_)
                                                              · replace h := z_ip h hc275
                                                                refine zr_iinc (v := (x2 + (6 : Int32))) (l' := [some (zA 94 0), some (zA 8 0), some (zA 9 0), some (zI (x2 + (6 : Int32)))]) d_law_1596 (by decide) rfl rfl rfl ?_
                                                                refine zr_goto (tgt := 18) d_law_1599 rfl ?_
                                                                obtain rfl := Option.some.inj h
                                                                exact zr_wk2 (hI (x2 + (6 : Int32)) qm273 rfl) ⟨rfl, ⟨rfl, ⟨rfl, ⟨rfl, trivial⟩⟩⟩⟩
                                                              · replace h := z_im h hc275
                                                                refine zr_iconst (v := (0 : Int32)) d_law_1073 rfl ?_
                                                                obtain rfl := Option.some.inj h
                                                                exact absurd (hR (0 : Int32) qm273 rfl) (by decide)
                                                            · replace h := z_im h hs266
                                                              by_cases hs276 : ((xs x2.toNatClampNeg) &&& (63 : Int32)) = (29 : Int32)
                                                              · replace h := z_ip h hs276
                                                                refine zr_tbl (off := 1042) (tgt := 1075) hs276 d_law_33 (by decide) (by decide) rfl rfl ?_
                                                                refine zr_aload_n (i := 1) d_law_1075 rfl rfl ?_
                                                                refine zr_aload_n (i := 0) d_law_1076 rfl rfl ?_
                                                                refine zr_iload_n (i := 3) d_law_1077 rfl rfl ?_
                                                                refine zr_iconst (v := (1 : Int32)) d_law_1078 rfl ?_
                                                                refine zr_iadd d_law_1079 ?_
                                                                obtain ⟨hb277, h⟩ := z_gd h
                                                                refine zr_ld94x hxs hsl d_law_1080 hb277 ?_
                                                                refine zr_aload_n (i := 0) d_law_1081 rfl rfl ?_
                                                                refine zr_iload_n (i := 3) d_law_1082 rfl rfl ?_
                                                                refine zr_iconst (v := (2 : Int32)) d_law_1083 rfl ?_
                                                                refine zr_iadd d_law_1084 ?_
                                                                obtain ⟨hb278, h⟩ := z_gd h
                                                                refine zr_ld94x hxs hsl d_law_1085 hb278 ?_
                                                                obtain ⟨⟨q279, qm280⟩, hq281, h⟩ := z_bd h
                                                                replace h := z_h2 h
                                                                refine zr_callVi (av := [zI (xs (x2 + (1 : Int32)).toNatClampNeg), zI (xs (x2 + (2 : Int32)).toNatClampNeg)]) (st := []) d_law_1086 mw_8_gotIn ml_L_137 im_8_gotIn se_8_gotIn rfl rfl (Nat.le_of_ble_eq_true rfl) fitL_8_3 rfl rfl rfl (s8_gotIn hq281) ?_
                                                                refine zr_aload_n (i := 2) d_law_1089 rfl rfl ?_
                                                                refine zr_aload_n (i := 0) d_law_1090 rfl rfl ?_
                                                                refine zr_iload_n (i := 3) d_law_1091 rfl rfl ?_
                                                                refine zr_iconst (v := (1 : Int32)) d_law_1092 rfl ?_
                                                                refine zr_iadd d_law_1093 ?_
                                                                refine zr_ld94x hxs hsl d_law_1094 hb277 ?_
                                                                refine zr_aload_n (i := 0) d_law_1095 rfl rfl ?_
                                                                refine zr_iload_n (i := 3) d_law_1096 rfl rfl ?_
                                                                refine zr_iconst (v := (2 : Int32)) d_law_1097 rfl ?_
                                                                refine zr_iadd d_law_1098 ?_
                                                                refine zr_ld94x hxs hsl d_law_1099 hb278 ?_
                                                                obtain ⟨⟨q282, qm283⟩, hq284, h⟩ := z_bd h
                                                                replace h := z_h2 h
                                                                refine zr_callVi (av := [zI (xs (x2 + (1 : Int32)).toNatClampNeg), zI (xs (x2 + (2 : Int32)).toNatClampNeg)]) (st := [zI q279]) d_law_1100 mw_9_gotIn ml_L_140 im_9_gotIn se_9_gotIn rfl rfl (Nat.le_of_ble_eq_true rfl) fitL_10_3 rfl rfl rfl (s9_gotIn hq284) ?_
                                                                refine zr_icmp_eq (tgt := 1596) d_law_1103 rfl (fun hc285 => ?_) (fun hc285 => ?_)
                                                                · replace h := z_ip h hc285
                                                                  refine zr_iinc (v := (x2 + (6 : Int32))) (l' := [some (zA 94 0), some (zA 8 0), some (zA 9 0), some (zI (x2 + (6 : Int32)))]) d_law_1596 (by decide) rfl rfl rfl ?_
                                                                  refine zr_goto (tgt := 18) d_law_1599 rfl ?_
                                                                  obtain rfl := Option.some.inj h
                                                                  exact zr_wk2 (hI (x2 + (6 : Int32)) qm283 rfl) ⟨rfl, ⟨rfl, ⟨rfl, ⟨rfl, trivial⟩⟩⟩⟩
                                                                · replace h := z_im h hc285
                                                                  refine zr_iconst (v := (0 : Int32)) d_law_1106 rfl ?_
                                                                  obtain rfl := Option.some.inj h
                                                                  exact absurd (hR (0 : Int32) qm283 rfl) (by decide)
                                                              · replace h := z_im h hs276
                                                                by_cases hs286 : ((xs x2.toNatClampNeg) &&& (63 : Int32)) = (30 : Int32)
                                                                · replace h := z_ip h hs286
                                                                  refine zr_tbl (off := 1075) (tgt := 1108) hs286 d_law_33 (by decide) (by decide) rfl rfl ?_
                                                                  refine zr_aload_n (i := 1) d_law_1108 rfl rfl ?_
                                                                  refine zr_aload_n (i := 0) d_law_1109 rfl rfl ?_
                                                                  refine zr_iload_n (i := 3) d_law_1110 rfl rfl ?_
                                                                  refine zr_iconst (v := (1 : Int32)) d_law_1111 rfl ?_
                                                                  refine zr_iadd d_law_1112 ?_
                                                                  obtain ⟨hb287, h⟩ := z_gd h
                                                                  refine zr_ld94x hxs hsl d_law_1113 hb287 ?_
                                                                  refine zr_aload_n (i := 0) d_law_1114 rfl rfl ?_
                                                                  refine zr_iload_n (i := 3) d_law_1115 rfl rfl ?_
                                                                  refine zr_iconst (v := (2 : Int32)) d_law_1116 rfl ?_
                                                                  refine zr_iadd d_law_1117 ?_
                                                                  obtain ⟨hb288, h⟩ := z_gd h
                                                                  refine zr_ld94x hxs hsl d_law_1118 hb288 ?_
                                                                  refine zr_aload_n (i := 0) d_law_1119 rfl rfl ?_
                                                                  refine zr_iload_n (i := 3) d_law_1120 rfl rfl ?_
                                                                  refine zr_iconst (v := (3 : Int32)) d_law_1121 rfl ?_
                                                                  refine zr_iadd d_law_1122 ?_
                                                                  obtain ⟨hb289, h⟩ := z_gd h
                                                                  refine zr_ld94x hxs hsl d_law_1123 hb289 ?_
                                                                  obtain ⟨⟨q290, qm291⟩, hq292, h⟩ := z_bd h
                                                                  replace h := z_h2 h
                                                                  refine zr_callVi (av := [zI (xs (x2 + (1 : Int32)).toNatClampNeg), zI (xs (x2 + (2 : Int32)).toNatClampNeg), zI (xs (x2 + (3 : Int32)).toNatClampNeg)]) (st := []) d_law_1124 mw_8_year ml_L_141 im_8_year se_8_year rfl rfl (Nat.le_of_ble_eq_true rfl) fitL_8_6 rfl rfl rfl (s8_year hq292) ?_
                                                                  refine zr_aload_n (i := 2) d_law_1127 rfl rfl ?_
                                                                  refine zr_aload_n (i := 0) d_law_1128 rfl rfl ?_
                                                                  refine zr_iload_n (i := 3) d_law_1129 rfl rfl ?_
                                                                  refine zr_iconst (v := (1 : Int32)) d_law_1130 rfl ?_
                                                                  refine zr_iadd d_law_1131 ?_
                                                                  refine zr_ld94x hxs hsl d_law_1132 hb287 ?_
                                                                  refine zr_aload_n (i := 0) d_law_1133 rfl rfl ?_
                                                                  refine zr_iload_n (i := 3) d_law_1134 rfl rfl ?_
                                                                  refine zr_iconst (v := (2 : Int32)) d_law_1135 rfl ?_
                                                                  refine zr_iadd d_law_1136 ?_
                                                                  refine zr_ld94x hxs hsl d_law_1137 hb288 ?_
                                                                  refine zr_aload_n (i := 0) d_law_1138 rfl rfl ?_
                                                                  refine zr_iload_n (i := 3) d_law_1139 rfl rfl ?_
                                                                  refine zr_iconst (v := (3 : Int32)) d_law_1140 rfl ?_
                                                                  refine zr_iadd d_law_1141 ?_
                                                                  refine zr_ld94x hxs hsl d_law_1142 hb289 ?_
                                                                  obtain ⟨⟨q293, qm294⟩, hq295, h⟩ := z_bd h
                                                                  replace h := z_h2 h
                                                                  refine zr_callVi (av := [zI (xs (x2 + (1 : Int32)).toNatClampNeg), zI (xs (x2 + (2 : Int32)).toNatClampNeg), zI (xs (x2 + (3 : Int32)).toNatClampNeg)]) (st := [zI q290]) d_law_1143 mw_9_year ml_L_144 im_9_year se_9_year rfl rfl (Nat.le_of_ble_eq_true rfl) fitL_10_6 rfl rfl rfl (s9_year hq295) ?_
                                                                  refine zr_icmp_eq (tgt := 1596) d_law_1146 rfl (fun hc296 => ?_) (fun hc296 => ?_)
                                                                  · replace h := z_ip h hc296
                                                                    refine zr_iinc (v := (x2 + (6 : Int32))) (l' := [some (zA 94 0), some (zA 8 0), some (zA 9 0), some (zI (x2 + (6 : Int32)))]) d_law_1596 (by decide) rfl rfl rfl ?_
                                                                    refine zr_goto (tgt := 18) d_law_1599 rfl ?_
                                                                    obtain rfl := Option.some.inj h
                                                                    exact zr_wk2 (hI (x2 + (6 : Int32)) qm294 rfl) ⟨rfl, ⟨rfl, ⟨rfl, ⟨rfl, trivial⟩⟩⟩⟩
                                                                  · replace h := z_im h hc296
                                                                    refine zr_iconst (v := (0 : Int32)) d_law_1149 rfl ?_
                                                                    obtain rfl := Option.some.inj h
                                                                    exact absurd (hR (0 : Int32) qm294 rfl) (by decide)
                                                                · replace h := z_im h hs286
                                                                  by_cases hs297 : ((xs x2.toNatClampNeg) &&& (63 : Int32)) = (31 : Int32)
                                                                  · replace h := z_ip h hs297
                                                                    refine zr_tbl (off := 1118) (tgt := 1151) hs297 d_law_33 (by decide) (by decide) rfl rfl ?_
                                                                    refine zr_aload_n (i := 1) d_law_1151 rfl rfl ?_
                                                                    refine zr_aload_n (i := 0) d_law_1152 rfl rfl ?_
                                                                    refine zr_iload_n (i := 3) d_law_1153 rfl rfl ?_
                                                                    refine zr_iconst (v := (1 : Int32)) d_law_1154 rfl ?_
                                                                    refine zr_iadd d_law_1155 ?_
                                                                    obtain ⟨hb298, h⟩ := z_gd h
                                                                    refine zr_ld94x hxs hsl d_law_1156 hb298 ?_
                                                                    refine zr_aload_n (i := 0) d_law_1157 rfl rfl ?_
                                                                    refine zr_iload_n (i := 3) d_law_1158 rfl rfl ?_
                                                                    refine zr_iconst (v := (2 : Int32)) d_law_1159 rfl ?_
                                                                    refine zr_iadd d_law_1160 ?_
                                                                    obtain ⟨hb299, h⟩ := z_gd h
                                                                    refine zr_ld94x hxs hsl d_law_1161 hb299 ?_
                                                                    obtain ⟨⟨q300, qm301⟩, hq302, h⟩ := z_bd h
                                                                    replace h := z_h2 h
                                                                    refine zr_callVi (av := [zI (xs (x2 + (1 : Int32)).toNatClampNeg), zI (xs (x2 + (2 : Int32)).toNatClampNeg)]) (st := []) d_law_1162 mw_8_tell ml_L_145 im_8_tell se_8_tell rfl rfl (Nat.le_of_ble_eq_true rfl) fitL_2_3 rfl rfl rfl (s8_tell hq302) ?_
                                                                    refine zr_aload_n (i := 2) d_law_1165 rfl rfl ?_
                                                                    refine zr_aload_n (i := 0) d_law_1166 rfl rfl ?_
                                                                    refine zr_iload_n (i := 3) d_law_1167 rfl rfl ?_
                                                                    refine zr_iconst (v := (1 : Int32)) d_law_1168 rfl ?_
                                                                    refine zr_iadd d_law_1169 ?_
                                                                    refine zr_ld94x hxs hsl d_law_1170 hb298 ?_
                                                                    refine zr_aload_n (i := 0) d_law_1171 rfl rfl ?_
                                                                    refine zr_iload_n (i := 3) d_law_1172 rfl rfl ?_
                                                                    refine zr_iconst (v := (2 : Int32)) d_law_1173 rfl ?_
                                                                    refine zr_iadd d_law_1174 ?_
                                                                    refine zr_ld94x hxs hsl d_law_1175 hb299 ?_
                                                                    obtain ⟨⟨q303, qm304⟩, hq305, h⟩ := z_bd h
                                                                    replace h := z_h2 h
                                                                    refine zr_callVi (av := [zI (xs (x2 + (1 : Int32)).toNatClampNeg), zI (xs (x2 + (2 : Int32)).toNatClampNeg)]) (st := [zI q300]) d_law_1176 mw_9_tell ml_L_148 im_9_tell se_9_tell rfl rfl (Nat.le_of_ble_eq_true rfl) fitL_3_3 rfl rfl rfl (s9_tell hq305) ?_
                                                                    refine zr_icmp_eq (tgt := 1596) d_law_1179 rfl (fun hc306 => ?_) (fun hc306 => ?_)
                                                                    · replace h := z_ip h hc306
                                                                      refine zr_iinc (v := (x2 + (6 : Int32))) (l' := [some (zA 94 0), some (zA 8 0), some (zA 9 0), some (zI (x2 + (6 : Int32)))]) d_law_1596 (by decide) rfl rfl rfl ?_
                                                                      refine zr_goto (tgt := 18) d_law_1599 rfl ?_
                                                                      obtain rfl := Option.some.inj h
                                                                      exact zr_wk2 (hI (x2 + (6 : Int32)) qm304 rfl) ⟨rfl, ⟨rfl, ⟨rfl, ⟨rfl, trivial⟩⟩⟩⟩
                                                                    · replace h := z_im h hc306
                                                                      refine zr_iconst (v := (0 : Int32)) d_law_1182 rfl ?_
                                                                      obtain rfl := Option.some.inj h
                                                                      exact absurd (hR (0 : Int32) qm304 rfl) (by decide)
                                                                  · replace h := z_im h hs297
                                                                    by_cases hs307 : ((xs x2.toNatClampNeg) &&& (63 : Int32)) = (32 : Int32)
                                                                    · replace h := z_ip h hs307
                                                                      refine zr_tbl (off := 1151) (tgt := 1184) hs307 d_law_33 (by decide) (by decide) rfl rfl ?_
                                                                      refine zr_aload_n (i := 1) d_law_1184 rfl rfl ?_
                                                                      obtain ⟨⟨q308, qm309⟩, hq310, h⟩ := z_lt h
                                                                      replace h := z_h2 h
                                                                      refine zr_callVi (av := []) (st := []) d_law_1185 mw_8_forget ml_L_149 im_8_forget se_8_forget rfl rfl (Nat.le_of_ble_eq_true rfl) fitL_2_2 rfl rfl rfl (s8_forget hq310.symm) ?_
                                                                      refine zr_aload_n (i := 2) d_law_1188 rfl rfl ?_
                                                                      obtain ⟨⟨q311, qm312⟩, hq313, h⟩ := z_lt h
                                                                      replace h := z_h2 h
                                                                      refine zr_callVi (av := []) (st := [zI q308]) d_law_1189 mw_9_forget ml_L_152 im_9_forget se_9_forget rfl rfl (Nat.le_of_ble_eq_true rfl) fitL_1_2 rfl rfl rfl (s9_forget hq313.symm) ?_
                                                                      refine zr_icmp_eq (tgt := 1596) d_law_1192 rfl (fun hc314 => ?_) (fun hc314 => ?_)
                                                                      · replace h := z_ip h hc314
                                                                        refine zr_iinc (v := (x2 + (6 : Int32))) (l' := [some (zA 94 0), some (zA 8 0), some (zA 9 0), some (zI (x2 + (6 : Int32)))]) d_law_1596 (by decide) rfl rfl rfl ?_
                                                                        refine zr_goto (tgt := 18) d_law_1599 rfl ?_
                                                                        obtain rfl := Option.some.inj h
                                                                        exact zr_wk2 (hI (x2 + (6 : Int32)) qm312 rfl) ⟨rfl, ⟨rfl, ⟨rfl, ⟨rfl, trivial⟩⟩⟩⟩
                                                                      · replace h := z_im h hc314
                                                                        refine zr_iconst (v := (0 : Int32)) d_law_1195 rfl ?_
                                                                        obtain rfl := Option.some.inj h
                                                                        exact absurd (hR (0 : Int32) qm312 rfl) (by decide)
                                                                    · replace h := z_im h hs307
                                                                      by_cases hs315 : ((xs x2.toNatClampNeg) &&& (63 : Int32)) = (33 : Int32)
                                                                      · replace h := z_ip h hs315
                                                                        refine zr_tbl (off := 1164) (tgt := 1197) hs315 d_law_33 (by decide) (by decide) rfl rfl ?_
                                                                        refine zr_aload_n (i := 1) d_law_1197 rfl rfl ?_
                                                                        refine zr_aload_n (i := 0) d_law_1198 rfl rfl ?_
                                                                        refine zr_iload_n (i := 3) d_law_1199 rfl rfl ?_
                                                                        refine zr_iconst (v := (1 : Int32)) d_law_1200 rfl ?_
                                                                        refine zr_iadd d_law_1201 ?_
                                                                        obtain ⟨hb316, h⟩ := z_gd h
                                                                        refine zr_ld94x hxs hsl d_law_1202 hb316 ?_
                                                                        obtain ⟨⟨q317, qm318⟩, hq319, h⟩ := z_bd h
                                                                        replace h := z_h2 h
                                                                        refine zr_callVi (av := [zI (xs (x2 + (1 : Int32)).toNatClampNeg)]) (st := []) d_law_1203 mw_8_orders ml_L_153 im_8_orders se_8_orders rfl rfl (Nat.le_of_ble_eq_true rfl) fitL_5_2 rfl rfl rfl (s8_orders hq319) ?_
                                                                        refine zr_aload_n (i := 2) d_law_1206 rfl rfl ?_
                                                                        refine zr_aload_n (i := 0) d_law_1207 rfl rfl ?_
                                                                        refine zr_iload_n (i := 3) d_law_1208 rfl rfl ?_
                                                                        refine zr_iconst (v := (1 : Int32)) d_law_1209 rfl ?_
                                                                        refine zr_iadd d_law_1210 ?_
                                                                        refine zr_ld94x hxs hsl d_law_1211 hb316 ?_
                                                                        obtain ⟨⟨q320, qm321⟩, hq322, h⟩ := z_bd h
                                                                        replace h := z_h2 h
                                                                        refine zr_callVi (av := [zI (xs (x2 + (1 : Int32)).toNatClampNeg)]) (st := [zI q317]) d_law_1212 mw_9_orders ml_L_156 im_9_orders se_9_orders rfl rfl (Nat.le_of_ble_eq_true rfl) fitL_4_2 rfl rfl rfl (s9_orders hq322) ?_
                                                                        refine zr_icmp_eq (tgt := 1596) d_law_1215 rfl (fun hc323 => ?_) (fun hc323 => ?_)
                                                                        · replace h := z_ip h hc323
                                                                          refine zr_iinc (v := (x2 + (6 : Int32))) (l' := [some (zA 94 0), some (zA 8 0), some (zA 9 0), some (zI (x2 + (6 : Int32)))]) d_law_1596 (by decide) rfl rfl rfl ?_
                                                                          refine zr_goto (tgt := 18) d_law_1599 rfl ?_
                                                                          obtain rfl := Option.some.inj h
                                                                          exact zr_wk2 (hI (x2 + (6 : Int32)) qm321 rfl) ⟨rfl, ⟨rfl, ⟨rfl, ⟨rfl, trivial⟩⟩⟩⟩
                                                                        · replace h := z_im h hc323
                                                                          refine zr_iconst (v := (0 : Int32)) d_law_1218 rfl ?_
                                                                          obtain rfl := Option.some.inj h
                                                                          exact absurd (hR (0 : Int32) qm321 rfl) (by decide)
                                                                      · replace h := z_im h hs315
                                                                        by_cases hs324 : ((xs x2.toNatClampNeg) &&& (63 : Int32)) = (34 : Int32)
                                                                        · replace h := z_ip h hs324
                                                                          refine zr_tbl (off := 1187) (tgt := 1220) hs324 d_law_33 (by decide) (by decide) rfl rfl ?_
                                                                          refine zr_aload_n (i := 1) d_law_1220 rfl rfl ?_
                                                                          refine zr_aload_n (i := 0) d_law_1221 rfl rfl ?_
                                                                          refine zr_iload_n (i := 3) d_law_1222 rfl rfl ?_
                                                                          refine zr_iconst (v := (1 : Int32)) d_law_1223 rfl ?_
                                                                          refine zr_iadd d_law_1224 ?_
                                                                          obtain ⟨hb325, h⟩ := z_gd h
                                                                          refine zr_ld94x hxs hsl d_law_1225 hb325 ?_
                                                                          refine zr_aload_n (i := 0) d_law_1226 rfl rfl ?_
                                                                          refine zr_iload_n (i := 3) d_law_1227 rfl rfl ?_
                                                                          refine zr_iconst (v := (2 : Int32)) d_law_1228 rfl ?_
                                                                          refine zr_iadd d_law_1229 ?_
                                                                          obtain ⟨hb326, h⟩ := z_gd h
                                                                          refine zr_ld94x hxs hsl d_law_1230 hb326 ?_
                                                                          obtain ⟨⟨q327, qm328⟩, hq329, h⟩ := z_bd h
                                                                          replace h := z_h2 h
                                                                          refine zr_callVi (av := [zI (xs (x2 + (1 : Int32)).toNatClampNeg), zI (xs (x2 + (2 : Int32)).toNatClampNeg)]) (st := []) d_law_1231 mw_8_first ml_L_157 im_8_first se_8_first rfl rfl (Nat.le_of_ble_eq_true rfl) fitL_5_4 rfl rfl rfl (s8_first hq329) ?_
                                                                          refine zr_aload_n (i := 2) d_law_1234 rfl rfl ?_
                                                                          refine zr_aload_n (i := 0) d_law_1235 rfl rfl ?_
                                                                          refine zr_iload_n (i := 3) d_law_1236 rfl rfl ?_
                                                                          refine zr_iconst (v := (1 : Int32)) d_law_1237 rfl ?_
                                                                          refine zr_iadd d_law_1238 ?_
                                                                          refine zr_ld94x hxs hsl d_law_1239 hb325 ?_
                                                                          refine zr_aload_n (i := 0) d_law_1240 rfl rfl ?_
                                                                          refine zr_iload_n (i := 3) d_law_1241 rfl rfl ?_
                                                                          refine zr_iconst (v := (2 : Int32)) d_law_1242 rfl ?_
                                                                          refine zr_iadd d_law_1243 ?_
                                                                          refine zr_ld94x hxs hsl d_law_1244 hb326 ?_
                                                                          obtain ⟨⟨q330, qm331⟩, hq332, h⟩ := z_bd h
                                                                          replace h := z_h2 h
                                                                          refine zr_callVi (av := [zI (xs (x2 + (1 : Int32)).toNatClampNeg), zI (xs (x2 + (2 : Int32)).toNatClampNeg)]) (st := [zI q327]) d_law_1245 mw_9_first ml_L_160 im_9_first se_9_first rfl rfl (Nat.le_of_ble_eq_true rfl) fitL_4_4 rfl rfl rfl (s9_first hq332) ?_
                                                                          refine zr_icmp_eq (tgt := 1596) d_law_1248 rfl (fun hc333 => ?_) (fun hc333 => ?_)
                                                                          · replace h := z_ip h hc333
                                                                            refine zr_iinc (v := (x2 + (6 : Int32))) (l' := [some (zA 94 0), some (zA 8 0), some (zA 9 0), some (zI (x2 + (6 : Int32)))]) d_law_1596 (by decide) rfl rfl rfl ?_
                                                                            refine zr_goto (tgt := 18) d_law_1599 rfl ?_
                                                                            obtain rfl := Option.some.inj h
                                                                            exact zr_wk2 (hI (x2 + (6 : Int32)) qm331 rfl) ⟨rfl, ⟨rfl, ⟨rfl, ⟨rfl, trivial⟩⟩⟩⟩
                                                                          · replace h := z_im h hc333
                                                                            refine zr_iconst (v := (0 : Int32)) d_law_1251 rfl ?_
                                                                            obtain rfl := Option.some.inj h
                                                                            exact absurd (hR (0 : Int32) qm331 rfl) (by decide)
                                                                        · replace h := z_im h hs324
                                                                          by_cases hs334 : ((xs x2.toNatClampNeg) &&& (63 : Int32)) = (35 : Int32)
                                                                          · replace h := z_ip h hs334
                                                                            refine zr_tbl (off := 1220) (tgt := 1253) hs334 d_law_33 (by decide) (by decide) rfl rfl ?_
                                                                            refine zr_aload_n (i := 1) d_law_1253 rfl rfl ?_
                                                                            refine zr_aload_n (i := 0) d_law_1254 rfl rfl ?_
                                                                            refine zr_iload_n (i := 3) d_law_1255 rfl rfl ?_
                                                                            refine zr_iconst (v := (1 : Int32)) d_law_1256 rfl ?_
                                                                            refine zr_iadd d_law_1257 ?_
                                                                            obtain ⟨hb335, h⟩ := z_gd h
                                                                            refine zr_ld94x hxs hsl d_law_1258 hb335 ?_
                                                                            refine zr_aload_n (i := 0) d_law_1259 rfl rfl ?_
                                                                            refine zr_iload_n (i := 3) d_law_1260 rfl rfl ?_
                                                                            refine zr_iconst (v := (2 : Int32)) d_law_1261 rfl ?_
                                                                            refine zr_iadd d_law_1262 ?_
                                                                            obtain ⟨hb336, h⟩ := z_gd h
                                                                            refine zr_ld94x hxs hsl d_law_1263 hb336 ?_
                                                                            obtain ⟨⟨q337, qm338⟩, hq339, h⟩ := z_bd h
                                                                            replace h := z_h2 h
                                                                            refine zr_callVi (av := [zI (xs (x2 + (1 : Int32)).toNatClampNeg), zI (xs (x2 + (2 : Int32)).toNatClampNeg)]) (st := []) d_law_1264 mw_8_last ml_L_161 im_8_last se_8_last rfl rfl (Nat.le_of_ble_eq_true rfl) fitL_5_4 rfl rfl rfl (s8_last hq339) ?_
                                                                            refine zr_aload_n (i := 2) d_law_1267 rfl rfl ?_
                                                                            refine zr_aload_n (i := 0) d_law_1268 rfl rfl ?_
                                                                            refine zr_iload_n (i := 3) d_law_1269 rfl rfl ?_
                                                                            refine zr_iconst (v := (1 : Int32)) d_law_1270 rfl ?_
                                                                            refine zr_iadd d_law_1271 ?_
                                                                            refine zr_ld94x hxs hsl d_law_1272 hb335 ?_
                                                                            refine zr_aload_n (i := 0) d_law_1273 rfl rfl ?_
                                                                            refine zr_iload_n (i := 3) d_law_1274 rfl rfl ?_
                                                                            refine zr_iconst (v := (2 : Int32)) d_law_1275 rfl ?_
                                                                            refine zr_iadd d_law_1276 ?_
                                                                            refine zr_ld94x hxs hsl d_law_1277 hb336 ?_
                                                                            obtain ⟨⟨q340, qm341⟩, hq342, h⟩ := z_bd h
                                                                            replace h := z_h2 h
                                                                            refine zr_callVi (av := [zI (xs (x2 + (1 : Int32)).toNatClampNeg), zI (xs (x2 + (2 : Int32)).toNatClampNeg)]) (st := [zI q337]) d_law_1278 mw_9_last ml_L_164 im_9_last se_9_last rfl rfl (Nat.le_of_ble_eq_true rfl) fitL_4_4 rfl rfl rfl (s9_last hq342) ?_
                                                                            refine zr_icmp_eq (tgt := 1596) d_law_1281 rfl (fun hc343 => ?_) (fun hc343 => ?_)
                                                                            · replace h := z_ip h hc343
                                                                              refine zr_iinc (v := (x2 + (6 : Int32))) (l' := [some (zA 94 0), some (zA 8 0), some (zA 9 0), some (zI (x2 + (6 : Int32)))]) d_law_1596 (by decide) rfl rfl rfl ?_
                                                                              refine zr_goto (tgt := 18) d_law_1599 rfl ?_
                                                                              obtain rfl := Option.some.inj h
                                                                              exact zr_wk2 (hI (x2 + (6 : Int32)) qm341 rfl) ⟨rfl, ⟨rfl, ⟨rfl, ⟨rfl, trivial⟩⟩⟩⟩
                                                                            · replace h := z_im h hc343
                                                                              refine zr_iconst (v := (0 : Int32)) d_law_1284 rfl ?_
                                                                              obtain rfl := Option.some.inj h
                                                                              exact absurd (hR (0 : Int32) qm341 rfl) (by decide)
                                                                          · replace h := z_im h hs334
                                                                            by_cases hs344 : ((xs x2.toNatClampNeg) &&& (63 : Int32)) = (36 : Int32)
                                                                            · replace h := z_ip h hs344
                                                                              refine zr_tbl (off := 1253) (tgt := 1286) hs344 d_law_33 (by decide) (by decide) rfl rfl ?_
                                                                              refine zr_aload_n (i := 1) d_law_1286 rfl rfl ?_
                                                                              refine zr_aload_n (i := 0) d_law_1287 rfl rfl ?_
                                                                              refine zr_iload_n (i := 3) d_law_1288 rfl rfl ?_
                                                                              refine zr_iconst (v := (1 : Int32)) d_law_1289 rfl ?_
                                                                              refine zr_iadd d_law_1290 ?_
                                                                              obtain ⟨hb345, h⟩ := z_gd h
                                                                              refine zr_ld94x hxs hsl d_law_1291 hb345 ?_
                                                                              refine zr_aload_n (i := 0) d_law_1292 rfl rfl ?_
                                                                              refine zr_iload_n (i := 3) d_law_1293 rfl rfl ?_
                                                                              refine zr_iconst (v := (2 : Int32)) d_law_1294 rfl ?_
                                                                              refine zr_iadd d_law_1295 ?_
                                                                              obtain ⟨hb346, h⟩ := z_gd h
                                                                              refine zr_ld94x hxs hsl d_law_1296 hb346 ?_
                                                                              refine zr_aload_n (i := 0) d_law_1297 rfl rfl ?_
                                                                              refine zr_iload_n (i := 3) d_law_1298 rfl rfl ?_
                                                                              refine zr_iconst (v := (3 : Int32)) d_law_1299 rfl ?_
                                                                              refine zr_iadd d_law_1300 ?_
                                                                              obtain ⟨hb347, h⟩ := z_gd h
                                                                              refine zr_ld94x hxs hsl d_law_1301 hb347 ?_
                                                                              obtain ⟨⟨q348, qm349⟩, hq350, h⟩ := z_bd h
                                                                              replace h := z_h2 h
                                                                              refine zr_callVi (av := [zI (xs (x2 + (1 : Int32)).toNatClampNeg), zI (xs (x2 + (2 : Int32)).toNatClampNeg), zI (xs (x2 + (3 : Int32)).toNatClampNeg)]) (st := []) d_law_1302 mw_8_placed ml_L_165 im_8_placed se_8_placed rfl rfl (Nat.le_of_ble_eq_true rfl) fitL_5_4 rfl rfl rfl (s8_placed hq350) ?_
                                                                              refine zr_aload_n (i := 2) d_law_1305 rfl rfl ?_
                                                                              refine zr_aload_n (i := 0) d_law_1306 rfl rfl ?_
                                                                              refine zr_iload_n (i := 3) d_law_1307 rfl rfl ?_
                                                                              refine zr_iconst (v := (1 : Int32)) d_law_1308 rfl ?_
                                                                              refine zr_iadd d_law_1309 ?_
                                                                              refine zr_ld94x hxs hsl d_law_1310 hb345 ?_
                                                                              refine zr_aload_n (i := 0) d_law_1311 rfl rfl ?_
                                                                              refine zr_iload_n (i := 3) d_law_1312 rfl rfl ?_
                                                                              refine zr_iconst (v := (2 : Int32)) d_law_1313 rfl ?_
                                                                              refine zr_iadd d_law_1314 ?_
                                                                              refine zr_ld94x hxs hsl d_law_1315 hb346 ?_
                                                                              refine zr_aload_n (i := 0) d_law_1316 rfl rfl ?_
                                                                              refine zr_iload_n (i := 3) d_law_1317 rfl rfl ?_
                                                                              refine zr_iconst (v := (3 : Int32)) d_law_1318 rfl ?_
                                                                              refine zr_iadd d_law_1319 ?_
                                                                              refine zr_ld94x hxs hsl d_law_1320 hb347 ?_
                                                                              obtain ⟨⟨q351, qm352⟩, hq353, h⟩ := z_bd h
                                                                              replace h := z_h2 h
                                                                              refine zr_callVi (av := [zI (xs (x2 + (1 : Int32)).toNatClampNeg), zI (xs (x2 + (2 : Int32)).toNatClampNeg), zI (xs (x2 + (3 : Int32)).toNatClampNeg)]) (st := [zI q348]) d_law_1321 mw_9_placed ml_L_168 im_9_placed se_9_placed rfl rfl (Nat.le_of_ble_eq_true rfl) fitL_4_4 rfl rfl rfl (s9_placed hq353) ?_
                                                                              refine zr_icmp_eq (tgt := 1596) d_law_1324 rfl (fun hc354 => ?_) (fun hc354 => ?_)
                                                                              · replace h := z_ip h hc354
                                                                                refine zr_iinc (v := (x2 + (6 : Int32))) (l' := [some (zA 94 0), some (zA 8 0), some (zA 9 0), some (zI (x2 + (6 : Int32)))]) d_law_1596 (by decide) rfl rfl rfl ?_
                                                                                refine zr_goto (tgt := 18) d_law_1599 rfl ?_
                                                                                obtain rfl := Option.some.inj h
                                                                                exact zr_wk2 (hI (x2 + (6 : Int32)) qm352 rfl) ⟨rfl, ⟨rfl, ⟨rfl, ⟨rfl, trivial⟩⟩⟩⟩
                                                                              · replace h := z_im h hc354
                                                                                refine zr_iconst (v := (0 : Int32)) d_law_1327 rfl ?_
                                                                                obtain rfl := Option.some.inj h
                                                                                exact absurd (hR (0 : Int32) qm352 rfl) (by decide)
                                                                            · replace h := z_im h hs344
                                                                              by_cases hs355 : ((xs x2.toNatClampNeg) &&& (63 : Int32)) = (37 : Int32)
                                                                              · replace h := z_ip h hs355
                                                                                refine zr_tbl (off := 1296) (tgt := 1329) hs355 d_law_33 (by decide) (by decide) rfl rfl ?_
                                                                                refine zr_aload_n (i := 1) d_law_1329 rfl rfl ?_
                                                                                refine zr_aload_n (i := 0) d_law_1330 rfl rfl ?_
                                                                                refine zr_iload_n (i := 3) d_law_1331 rfl rfl ?_
                                                                                refine zr_iconst (v := (1 : Int32)) d_law_1332 rfl ?_
                                                                                refine zr_iadd d_law_1333 ?_
                                                                                obtain ⟨hb356, h⟩ := z_gd h
                                                                                refine zr_ld94x hxs hsl d_law_1334 hb356 ?_
                                                                                refine zr_aload_n (i := 0) d_law_1335 rfl rfl ?_
                                                                                refine zr_iload_n (i := 3) d_law_1336 rfl rfl ?_
                                                                                refine zr_iconst (v := (2 : Int32)) d_law_1337 rfl ?_
                                                                                refine zr_iadd d_law_1338 ?_
                                                                                obtain ⟨hb357, h⟩ := z_gd h
                                                                                refine zr_ld94x hxs hsl d_law_1339 hb357 ?_
                                                                                refine zr_aload_n (i := 0) d_law_1340 rfl rfl ?_
                                                                                refine zr_iload_n (i := 3) d_law_1341 rfl rfl ?_
                                                                                refine zr_iconst (v := (3 : Int32)) d_law_1342 rfl ?_
                                                                                refine zr_iadd d_law_1343 ?_
                                                                                obtain ⟨hb358, h⟩ := z_gd h
                                                                                refine zr_ld94x hxs hsl d_law_1344 hb358 ?_
                                                                                obtain ⟨⟨q359, qm360⟩, hq361, h⟩ := z_bd h
                                                                                replace h := z_h2 h
                                                                                refine zr_callVi (av := [zI (xs (x2 + (1 : Int32)).toNatClampNeg), zI (xs (x2 + (2 : Int32)).toNatClampNeg), zI (xs (x2 + (3 : Int32)).toNatClampNeg)]) (st := []) d_law_1345 mw_8_before ml_L_169 im_8_before se_8_before rfl rfl (Nat.le_of_ble_eq_true rfl) fitL_5_4 rfl rfl rfl (s8_before hq361) ?_
                                                                                refine zr_aload_n (i := 2) d_law_1348 rfl rfl ?_
                                                                                refine zr_aload_n (i := 0) d_law_1349 rfl rfl ?_
                                                                                refine zr_iload_n (i := 3) d_law_1350 rfl rfl ?_
                                                                                refine zr_iconst (v := (1 : Int32)) d_law_1351 rfl ?_
                                                                                refine zr_iadd d_law_1352 ?_
                                                                                refine zr_ld94x hxs hsl d_law_1353 hb356 ?_
                                                                                refine zr_aload_n (i := 0) d_law_1354 rfl rfl ?_
                                                                                refine zr_iload_n (i := 3) d_law_1355 rfl rfl ?_
                                                                                refine zr_iconst (v := (2 : Int32)) d_law_1356 rfl ?_
                                                                                refine zr_iadd d_law_1357 ?_
                                                                                refine zr_ld94x hxs hsl d_law_1358 hb357 ?_
                                                                                refine zr_aload_n (i := 0) d_law_1359 rfl rfl ?_
                                                                                refine zr_iload_n (i := 3) d_law_1360 rfl rfl ?_
                                                                                refine zr_iconst (v := (3 : Int32)) d_law_1361 rfl ?_
                                                                                refine zr_iadd d_law_1362 ?_
                                                                                refine zr_ld94x hxs hsl d_law_1363 hb358 ?_
                                                                                obtain ⟨⟨q362, qm363⟩, hq364, h⟩ := z_bd h
                                                                                replace h := z_h2 h
                                                                                refine zr_callVi (av := [zI (xs (x2 + (1 : Int32)).toNatClampNeg), zI (xs (x2 + (2 : Int32)).toNatClampNeg), zI (xs (x2 + (3 : Int32)).toNatClampNeg)]) (st := [zI q359]) d_law_1364 mw_9_before ml_L_172 im_9_before se_9_before rfl rfl (Nat.le_of_ble_eq_true rfl) fitL_4_4 rfl rfl rfl (s9_before hq364) ?_
                                                                                refine zr_icmp_eq (tgt := 1596) d_law_1367 rfl (fun hc365 => ?_) (fun hc365 => ?_)
                                                                                · replace h := z_ip h hc365
                                                                                  refine zr_iinc (v := (x2 + (6 : Int32))) (l' := [some (zA 94 0), some (zA 8 0), some (zA 9 0), some (zI (x2 + (6 : Int32)))]) d_law_1596 (by decide) rfl rfl rfl ?_
                                                                                  refine zr_goto (tgt := 18) d_law_1599 rfl ?_
                                                                                  obtain rfl := Option.some.inj h
                                                                                  exact zr_wk2 (hI (x2 + (6 : Int32)) qm363 rfl) ⟨rfl, ⟨rfl, ⟨rfl, ⟨rfl, trivial⟩⟩⟩⟩
                                                                                · replace h := z_im h hc365
                                                                                  refine zr_iconst (v := (0 : Int32)) d_law_1370 rfl ?_
                                                                                  obtain rfl := Option.some.inj h
                                                                                  exact absurd (hR (0 : Int32) qm363 rfl) (by decide)
                                                                              · replace h := z_im h hs355
                                                                                by_cases hs366 : ((xs x2.toNatClampNeg) &&& (63 : Int32)) = (38 : Int32)
                                                                                · replace h := z_ip h hs366
                                                                                  refine zr_tbl (off := 1339) (tgt := 1372) hs366 d_law_33 (by decide) (by decide) rfl rfl ?_
                                                                                  refine zr_aload_n (i := 1) d_law_1372 rfl rfl ?_
                                                                                  refine zr_aload_n (i := 0) d_law_1373 rfl rfl ?_
                                                                                  refine zr_iload_n (i := 3) d_law_1374 rfl rfl ?_
                                                                                  refine zr_iconst (v := (1 : Int32)) d_law_1375 rfl ?_
                                                                                  refine zr_iadd d_law_1376 ?_
                                                                                  obtain ⟨hb367, h⟩ := z_gd h
                                                                                  refine zr_ld94x hxs hsl d_law_1377 hb367 ?_
                                                                                  refine zr_aload_n (i := 0) d_law_1378 rfl rfl ?_
                                                                                  refine zr_iload_n (i := 3) d_law_1379 rfl rfl ?_
                                                                                  refine zr_iconst (v := (2 : Int32)) d_law_1380 rfl ?_
                                                                                  refine zr_iadd d_law_1381 ?_
                                                                                  obtain ⟨hb368, h⟩ := z_gd h
                                                                                  refine zr_ld94x hxs hsl d_law_1382 hb368 ?_
                                                                                  obtain ⟨⟨q369, qm370⟩, hq371, h⟩ := z_bd h
                                                                                  replace h := z_h2 h
                                                                                  refine zr_callVi (av := [zI (xs (x2 + (1 : Int32)).toNatClampNeg), zI (xs (x2 + (2 : Int32)).toNatClampNeg)]) (st := []) d_law_1383 mw_8_sum ml_L_173 im_8_sum se_8_sum rfl rfl (Nat.le_of_ble_eq_true rfl) fitL_5_5 rfl rfl rfl (s8_sum hq371) ?_
                                                                                  refine zr_aload_n (i := 2) d_law_1386 rfl rfl ?_
                                                                                  refine zr_aload_n (i := 0) d_law_1387 rfl rfl ?_
                                                                                  refine zr_iload_n (i := 3) d_law_1388 rfl rfl ?_
                                                                                  refine zr_iconst (v := (1 : Int32)) d_law_1389 rfl ?_
                                                                                  refine zr_iadd d_law_1390 ?_
                                                                                  refine zr_ld94x hxs hsl d_law_1391 hb367 ?_
                                                                                  refine zr_aload_n (i := 0) d_law_1392 rfl rfl ?_
                                                                                  refine zr_iload_n (i := 3) d_law_1393 rfl rfl ?_
                                                                                  refine zr_iconst (v := (2 : Int32)) d_law_1394 rfl ?_
                                                                                  refine zr_iadd d_law_1395 ?_
                                                                                  refine zr_ld94x hxs hsl d_law_1396 hb368 ?_
                                                                                  obtain ⟨⟨q372, qm373⟩, hq374, h⟩ := z_bd h
                                                                                  replace h := z_h2 h
                                                                                  refine zr_callVi (av := [zI (xs (x2 + (1 : Int32)).toNatClampNeg), zI (xs (x2 + (2 : Int32)).toNatClampNeg)]) (st := [zI q369]) d_law_1397 mw_9_sum ml_L_176 im_9_sum se_9_sum rfl rfl (Nat.le_of_ble_eq_true rfl) fitL_4_5 rfl rfl rfl (s9_sum hq374) ?_
                                                                                  refine zr_icmp_eq (tgt := 1596) d_law_1400 rfl (fun hc375 => ?_) (fun hc375 => ?_)
                                                                                  · replace h := z_ip h hc375
                                                                                    refine zr_iinc (v := (x2 + (6 : Int32))) (l' := [some (zA 94 0), some (zA 8 0), some (zA 9 0), some (zI (x2 + (6 : Int32)))]) d_law_1596 (by decide) rfl rfl rfl ?_
                                                                                    refine zr_goto (tgt := 18) d_law_1599 rfl ?_
                                                                                    obtain rfl := Option.some.inj h
                                                                                    exact zr_wk2 (hI (x2 + (6 : Int32)) qm373 rfl) ⟨rfl, ⟨rfl, ⟨rfl, ⟨rfl, trivial⟩⟩⟩⟩
                                                                                  · replace h := z_im h hc375
                                                                                    refine zr_iconst (v := (0 : Int32)) d_law_1403 rfl ?_
                                                                                    obtain rfl := Option.some.inj h
                                                                                    exact absurd (hR (0 : Int32) qm373 rfl) (by decide)
                                                                                · replace h := z_im h hs366
                                                                                  by_cases hs376 : ((xs x2.toNatClampNeg) &&& (63 : Int32)) = (39 : Int32)
                                                                                  · replace h := z_ip h hs376
                                                                                    refine zr_tbl (off := 1372) (tgt := 1405) hs376 d_law_33 (by decide) (by decide) rfl rfl ?_
                                                                                    refine zr_aload_n (i := 1) d_law_1405 rfl rfl ?_
                                                                                    refine zr_aload_n (i := 0) d_law_1406 rfl rfl ?_
                                                                                    refine zr_iload_n (i := 3) d_law_1407 rfl rfl ?_
                                                                                    refine zr_iconst (v := (1 : Int32)) d_law_1408 rfl ?_
                                                                                    refine zr_iadd d_law_1409 ?_
                                                                                    obtain ⟨hb377, h⟩ := z_gd h
                                                                                    refine zr_ld94x hxs hsl d_law_1410 hb377 ?_
                                                                                    refine zr_aload_n (i := 0) d_law_1411 rfl rfl ?_
                                                                                    refine zr_iload_n (i := 3) d_law_1412 rfl rfl ?_
                                                                                    refine zr_iconst (v := (2 : Int32)) d_law_1413 rfl ?_
                                                                                    refine zr_iadd d_law_1414 ?_
                                                                                    obtain ⟨hb378, h⟩ := z_gd h
                                                                                    refine zr_ld94x hxs hsl d_law_1415 hb378 ?_
                                                                                    obtain ⟨⟨q379, qm380⟩, hq381, h⟩ := z_bd h
                                                                                    replace h := z_h2 h
                                                                                    refine zr_callVi (av := [zI (xs (x2 + (1 : Int32)).toNatClampNeg), zI (xs (x2 + (2 : Int32)).toNatClampNeg)]) (st := []) d_law_1416 mw_8_ahead ml_L_177 im_8_ahead se_8_ahead rfl rfl (Nat.le_of_ble_eq_true rfl) fitL_5_5 rfl rfl rfl (s8_ahead hq381) ?_
                                                                                    refine zr_aload_n (i := 2) d_law_1419 rfl rfl ?_
                                                                                    refine zr_aload_n (i := 0) d_law_1420 rfl rfl ?_
                                                                                    refine zr_iload_n (i := 3) d_law_1421 rfl rfl ?_
                                                                                    refine zr_iconst (v := (1 : Int32)) d_law_1422 rfl ?_
                                                                                    refine zr_iadd d_law_1423 ?_
                                                                                    refine zr_ld94x hxs hsl d_law_1424 hb377 ?_
                                                                                    refine zr_aload_n (i := 0) d_law_1425 rfl rfl ?_
                                                                                    refine zr_iload_n (i := 3) d_law_1426 rfl rfl ?_
                                                                                    refine zr_iconst (v := (2 : Int32)) d_law_1427 rfl ?_
                                                                                    refine zr_iadd d_law_1428 ?_
                                                                                    refine zr_ld94x hxs hsl d_law_1429 hb378 ?_
                                                                                    obtain ⟨⟨q382, qm383⟩, hq384, h⟩ := z_bd h
                                                                                    replace h := z_h2 h
                                                                                    refine zr_callVi (av := [zI (xs (x2 + (1 : Int32)).toNatClampNeg), zI (xs (x2 + (2 : Int32)).toNatClampNeg)]) (st := [zI q379]) d_law_1430 mw_9_ahead ml_L_180 im_9_ahead se_9_ahead rfl rfl (Nat.le_of_ble_eq_true rfl) fitL_4_6 rfl rfl rfl (s9_ahead hq384) ?_
                                                                                    refine zr_icmp_eq (tgt := 1596) d_law_1433 rfl (fun hc385 => ?_) (fun hc385 => ?_)
                                                                                    · replace h := z_ip h hc385
                                                                                      refine zr_iinc (v := (x2 + (6 : Int32))) (l' := [some (zA 94 0), some (zA 8 0), some (zA 9 0), some (zI (x2 + (6 : Int32)))]) d_law_1596 (by decide) rfl rfl rfl ?_
                                                                                      refine zr_goto (tgt := 18) d_law_1599 rfl ?_
                                                                                      obtain rfl := Option.some.inj h
                                                                                      exact zr_wk2 (hI (x2 + (6 : Int32)) qm383 rfl) ⟨rfl, ⟨rfl, ⟨rfl, ⟨rfl, trivial⟩⟩⟩⟩
                                                                                    · replace h := z_im h hc385
                                                                                      refine zr_iconst (v := (0 : Int32)) d_law_1436 rfl ?_
                                                                                      obtain rfl := Option.some.inj h
                                                                                      exact absurd (hR (0 : Int32) qm383 rfl) (by decide)
                                                                                  · replace h := z_im h hs376
                                                                                    by_cases hs386 : ((xs x2.toNatClampNeg) &&& (63 : Int32)) = (40 : Int32)
                                                                                    · replace h := z_ip h hs386
                                                                                      refine zr_tbl (off := 1405) (tgt := 1438) hs386 d_law_33 (by decide) (by decide) rfl rfl ?_
                                                                                      refine zr_aload_n (i := 1) d_law_1438 rfl rfl ?_
                                                                                      refine zr_aload_n (i := 0) d_law_1439 rfl rfl ?_
                                                                                      refine zr_iload_n (i := 3) d_law_1440 rfl rfl ?_
                                                                                      refine zr_iconst (v := (1 : Int32)) d_law_1441 rfl ?_
                                                                                      refine zr_iadd d_law_1442 ?_
                                                                                      obtain ⟨hb387, h⟩ := z_gd h
                                                                                      refine zr_ld94x hxs hsl d_law_1443 hb387 ?_
                                                                                      obtain ⟨⟨q388, qm389⟩, hq390, h⟩ := z_bd h
                                                                                      replace h := z_h2 h
                                                                                      refine zr_callVi (av := [zI (xs (x2 + (1 : Int32)).toNatClampNeg)]) (st := []) d_law_1444 mw_8_foremost ml_L_181 im_8_foremost se_8_foremost rfl rfl (Nat.le_of_ble_eq_true rfl) fitL_5_6 rfl rfl rfl (s8_foremost hq390) ?_
                                                                                      refine zr_aload_n (i := 2) d_law_1447 rfl rfl ?_
                                                                                      refine zr_aload_n (i := 0) d_law_1448 rfl rfl ?_
                                                                                      refine zr_iload_n (i := 3) d_law_1449 rfl rfl ?_
                                                                                      refine zr_iconst (v := (1 : Int32)) d_law_1450 rfl ?_
                                                                                      refine zr_iadd d_law_1451 ?_
                                                                                      refine zr_ld94x hxs hsl d_law_1452 hb387 ?_
                                                                                      obtain ⟨⟨q391, qm392⟩, hq393, h⟩ := z_bd h
                                                                                      replace h := z_h2 h
                                                                                      refine zr_callVi (av := [zI (xs (x2 + (1 : Int32)).toNatClampNeg)]) (st := [zI q388]) d_law_1453 mw_9_foremost ml_L_184 im_9_foremost se_9_foremost rfl rfl (Nat.le_of_ble_eq_true rfl) fitL_4_5 rfl rfl rfl (s9_foremost hq393) ?_
                                                                                      refine zr_icmp_eq (tgt := 1596) d_law_1456 rfl (fun hc394 => ?_) (fun hc394 => ?_)
                                                                                      · replace h := z_ip h hc394
                                                                                        refine zr_iinc (v := (x2 + (6 : Int32))) (l' := [some (zA 94 0), some (zA 8 0), some (zA 9 0), some (zI (x2 + (6 : Int32)))]) d_law_1596 (by decide) rfl rfl rfl ?_
                                                                                        refine zr_goto (tgt := 18) d_law_1599 rfl ?_
                                                                                        obtain rfl := Option.some.inj h
                                                                                        exact zr_wk2 (hI (x2 + (6 : Int32)) qm392 rfl) ⟨rfl, ⟨rfl, ⟨rfl, ⟨rfl, trivial⟩⟩⟩⟩
                                                                                      · replace h := z_im h hc394
                                                                                        refine zr_iconst (v := (0 : Int32)) d_law_1459 rfl ?_
                                                                                        obtain rfl := Option.some.inj h
                                                                                        exact absurd (hR (0 : Int32) qm392 rfl) (by decide)
                                                                                    · replace h := z_im h hs386
                                                                                      by_cases hs395 : ((xs x2.toNatClampNeg) &&& (63 : Int32)) = (41 : Int32)
                                                                                      · replace h := z_ip h hs395
                                                                                        refine zr_tbl (off := 1428) (tgt := 1461) hs395 d_law_33 (by decide) (by decide) rfl rfl ?_
                                                                                        refine zr_aload_n (i := 1) d_law_1461 rfl rfl ?_
                                                                                        refine zr_aload_n (i := 0) d_law_1462 rfl rfl ?_
                                                                                        refine zr_iload_n (i := 3) d_law_1463 rfl rfl ?_
                                                                                        refine zr_iconst (v := (1 : Int32)) d_law_1464 rfl ?_
                                                                                        refine zr_iadd d_law_1465 ?_
                                                                                        obtain ⟨hb396, h⟩ := z_gd h
                                                                                        refine zr_ld94x hxs hsl d_law_1466 hb396 ?_
                                                                                        obtain ⟨⟨q397, qm398⟩, hq399, h⟩ := z_bd h
                                                                                        replace h := z_h2 h
                                                                                        refine zr_callVi (av := [zI (xs (x2 + (1 : Int32)).toNatClampNeg)]) (st := []) d_law_1467 mw_8_ask ml_L_185 im_8_ask se_8_ask rfl rfl (Nat.le_of_ble_eq_true rfl) fitL_5_9 rfl rfl rfl (s8_ask hq399) ?_
                                                                                        refine zr_aload_n (i := 2) d_law_1470 rfl rfl ?_
                                                                                        refine zr_aload_n (i := 0) d_law_1471 rfl rfl ?_
                                                                                        refine zr_iload_n (i := 3) d_law_1472 rfl rfl ?_
                                                                                        refine zr_iconst (v := (1 : Int32)) d_law_1473 rfl ?_
                                                                                        refine zr_iadd d_law_1474 ?_
                                                                                        refine zr_ld94x hxs hsl d_law_1475 hb396 ?_
                                                                                        obtain ⟨⟨q400, qm401⟩, hq402, h⟩ := z_bd h
                                                                                        replace h := z_h2 h
                                                                                        refine zr_callVi (av := [zI (xs (x2 + (1 : Int32)).toNatClampNeg)]) (st := [zI q397]) d_law_1476 mw_9_ask ml_L_188 im_9_ask se_9_ask rfl rfl (Nat.le_of_ble_eq_true rfl) fitL_4_9 rfl rfl rfl (s9_ask hq402) ?_
                                                                                        refine zr_icmp_eq (tgt := 1596) d_law_1479 rfl (fun hc403 => ?_) (fun hc403 => ?_)
                                                                                        · replace h := z_ip h hc403
                                                                                          refine zr_iinc (v := (x2 + (6 : Int32))) (l' := [some (zA 94 0), some (zA 8 0), some (zA 9 0), some (zI (x2 + (6 : Int32)))]) d_law_1596 (by decide) rfl rfl rfl ?_
                                                                                          refine zr_goto (tgt := 18) d_law_1599 rfl ?_
                                                                                          obtain rfl := Option.some.inj h
                                                                                          exact zr_wk2 (hI (x2 + (6 : Int32)) qm401 rfl) ⟨rfl, ⟨rfl, ⟨rfl, ⟨rfl, trivial⟩⟩⟩⟩
                                                                                        · replace h := z_im h hc403
                                                                                          refine zr_iconst (v := (0 : Int32)) d_law_1482 rfl ?_
                                                                                          obtain rfl := Option.some.inj h
                                                                                          exact absurd (hR (0 : Int32) qm401 rfl) (by decide)
                                                                                      · replace h := z_im h hs395
                                                                                        by_cases hs404 : ((xs x2.toNatClampNeg) &&& (63 : Int32)) = (42 : Int32)
                                                                                        · replace h := z_ip h hs404
                                                                                          refine zr_tbl (off := 1451) (tgt := 1484) hs404 d_law_33 (by decide) (by decide) rfl rfl ?_
                                                                                          refine zr_aload_n (i := 1) d_law_1484 rfl rfl ?_
                                                                                          refine zr_aload_n (i := 0) d_law_1485 rfl rfl ?_
                                                                                          refine zr_iload_n (i := 3) d_law_1486 rfl rfl ?_
                                                                                          refine zr_iconst (v := (1 : Int32)) d_law_1487 rfl ?_
                                                                                          refine zr_iadd d_law_1488 ?_
                                                                                          obtain ⟨hb405, h⟩ := z_gd h
                                                                                          refine zr_ld94x hxs hsl d_law_1489 hb405 ?_
                                                                                          refine zr_aload_n (i := 0) d_law_1490 rfl rfl ?_
                                                                                          refine zr_iload_n (i := 3) d_law_1491 rfl rfl ?_
                                                                                          refine zr_iconst (v := (2 : Int32)) d_law_1492 rfl ?_
                                                                                          refine zr_iadd d_law_1493 ?_
                                                                                          obtain ⟨hb406, h⟩ := z_gd h
                                                                                          refine zr_ld94x hxs hsl d_law_1494 hb406 ?_
                                                                                          refine zr_aload_n (i := 0) d_law_1495 rfl rfl ?_
                                                                                          refine zr_iload_n (i := 3) d_law_1496 rfl rfl ?_
                                                                                          refine zr_iconst (v := (3 : Int32)) d_law_1497 rfl ?_
                                                                                          refine zr_iadd d_law_1498 ?_
                                                                                          obtain ⟨hb407, h⟩ := z_gd h
                                                                                          refine zr_ld94x hxs hsl d_law_1499 hb407 ?_
                                                                                          obtain ⟨⟨q408, qm409⟩, hq410, h⟩ := z_bd h
                                                                                          replace h := z_h2 h
                                                                                          refine zr_callVi (av := [zI (xs (x2 + (1 : Int32)).toNatClampNeg), zI (xs (x2 + (2 : Int32)).toNatClampNeg), zI (xs (x2 + (3 : Int32)).toNatClampNeg)]) (st := []) d_law_1500 mw_8_order ml_L_189 im_8_order se_8_order rfl rfl (Nat.le_of_ble_eq_true rfl) fitL_5_4 rfl rfl rfl (s8_order hq410) ?_
                                                                                          refine zr_aload_n (i := 2) d_law_1503 rfl rfl ?_
                                                                                          refine zr_aload_n (i := 0) d_law_1504 rfl rfl ?_
                                                                                          refine zr_iload_n (i := 3) d_law_1505 rfl rfl ?_
                                                                                          refine zr_iconst (v := (1 : Int32)) d_law_1506 rfl ?_
                                                                                          refine zr_iadd d_law_1507 ?_
                                                                                          refine zr_ld94x hxs hsl d_law_1508 hb405 ?_
                                                                                          refine zr_aload_n (i := 0) d_law_1509 rfl rfl ?_
                                                                                          refine zr_iload_n (i := 3) d_law_1510 rfl rfl ?_
                                                                                          refine zr_iconst (v := (2 : Int32)) d_law_1511 rfl ?_
                                                                                          refine zr_iadd d_law_1512 ?_
                                                                                          refine zr_ld94x hxs hsl d_law_1513 hb406 ?_
                                                                                          refine zr_aload_n (i := 0) d_law_1514 rfl rfl ?_
                                                                                          refine zr_iload_n (i := 3) d_law_1515 rfl rfl ?_
                                                                                          refine zr_iconst (v := (3 : Int32)) d_law_1516 rfl ?_
                                                                                          refine zr_iadd d_law_1517 ?_
                                                                                          refine zr_ld94x hxs hsl d_law_1518 hb407 ?_
                                                                                          obtain ⟨⟨q411, qm412⟩, hq413, h⟩ := z_bd h
                                                                                          replace h := z_h2 h
                                                                                          refine zr_callVi (av := [zI (xs (x2 + (1 : Int32)).toNatClampNeg), zI (xs (x2 + (2 : Int32)).toNatClampNeg), zI (xs (x2 + (3 : Int32)).toNatClampNeg)]) (st := [zI q408]) d_law_1519 mw_9_order ml_L_192 im_9_order se_9_order rfl rfl (Nat.le_of_ble_eq_true rfl) fitL_4_8 rfl rfl rfl (s9_order hq413) ?_
                                                                                          refine zr_icmp_eq (tgt := 1596) d_law_1522 rfl (fun hc414 => ?_) (fun hc414 => ?_)
                                                                                          · replace h := z_ip h hc414
                                                                                            refine zr_iinc (v := (x2 + (6 : Int32))) (l' := [some (zA 94 0), some (zA 8 0), some (zA 9 0), some (zI (x2 + (6 : Int32)))]) d_law_1596 (by decide) rfl rfl rfl ?_
                                                                                            refine zr_goto (tgt := 18) d_law_1599 rfl ?_
                                                                                            obtain rfl := Option.some.inj h
                                                                                            exact zr_wk2 (hI (x2 + (6 : Int32)) qm412 rfl) ⟨rfl, ⟨rfl, ⟨rfl, ⟨rfl, trivial⟩⟩⟩⟩
                                                                                          · replace h := z_im h hc414
                                                                                            refine zr_iconst (v := (0 : Int32)) d_law_1525 rfl ?_
                                                                                            obtain rfl := Option.some.inj h
                                                                                            exact absurd (hR (0 : Int32) qm412 rfl) (by decide)
                                                                                        · replace h := z_im h hs404
                                                                                          by_cases hs415 : ((xs x2.toNatClampNeg) &&& (63 : Int32)) = (43 : Int32)
                                                                                          · replace h := z_ip h hs415
                                                                                            refine zr_tbl (off := 1494) (tgt := 1527) hs415 d_law_33 (by decide) (by decide) rfl rfl ?_
                                                                                            refine zr_aload_n (i := 1) d_law_1527 rfl rfl ?_
                                                                                            refine zr_aload_n (i := 0) d_law_1528 rfl rfl ?_
                                                                                            refine zr_iload_n (i := 3) d_law_1529 rfl rfl ?_
                                                                                            refine zr_iconst (v := (1 : Int32)) d_law_1530 rfl ?_
                                                                                            refine zr_iadd d_law_1531 ?_
                                                                                            obtain ⟨hb416, h⟩ := z_gd h
                                                                                            refine zr_ld94x hxs hsl d_law_1532 hb416 ?_
                                                                                            obtain ⟨⟨q417, qm418⟩, hq419, h⟩ := z_bd h
                                                                                            replace h := z_h2 h
                                                                                            refine zr_callVi (av := [zI (xs (x2 + (1 : Int32)).toNatClampNeg)]) (st := []) d_law_1533 mw_8_hold ml_L_193 im_8_hold se_8_hold rfl rfl (Nat.le_of_ble_eq_true rfl) fitL_2_2 rfl rfl rfl (s8_hold hq419) ?_
                                                                                            refine zr_aload_n (i := 2) d_law_1536 rfl rfl ?_
                                                                                            refine zr_aload_n (i := 0) d_law_1537 rfl rfl ?_
                                                                                            refine zr_iload_n (i := 3) d_law_1538 rfl rfl ?_
                                                                                            refine zr_iconst (v := (1 : Int32)) d_law_1539 rfl ?_
                                                                                            refine zr_iadd d_law_1540 ?_
                                                                                            refine zr_ld94x hxs hsl d_law_1541 hb416 ?_
                                                                                            obtain ⟨⟨q420, qm421⟩, hq422, h⟩ := z_bd h
                                                                                            replace h := z_h2 h
                                                                                            refine zr_callVi (av := [zI (xs (x2 + (1 : Int32)).toNatClampNeg)]) (st := [zI q417]) d_law_1542 mw_9_hold ml_L_196 im_9_hold se_9_hold rfl rfl (Nat.le_of_ble_eq_true rfl) fitL_2_3 rfl rfl rfl (s9_hold hq422) ?_
                                                                                            refine zr_icmp_eq (tgt := 1596) d_law_1545 rfl (fun hc423 => ?_) (fun hc423 => ?_)
                                                                                            · replace h := z_ip h hc423
                                                                                              refine zr_iinc (v := (x2 + (6 : Int32))) (l' := [some (zA 94 0), some (zA 8 0), some (zA 9 0), some (zI (x2 + (6 : Int32)))]) d_law_1596 (by decide) rfl rfl rfl ?_
                                                                                              refine zr_goto (tgt := 18) d_law_1599 rfl ?_
                                                                                              obtain rfl := Option.some.inj h
                                                                                              exact zr_wk2 (hI (x2 + (6 : Int32)) qm421 rfl) ⟨rfl, ⟨rfl, ⟨rfl, ⟨rfl, trivial⟩⟩⟩⟩
                                                                                            · replace h := z_im h hc423
                                                                                              refine zr_iconst (v := (0 : Int32)) d_law_1548 rfl ?_
                                                                                              obtain rfl := Option.some.inj h
                                                                                              exact absurd (hR (0 : Int32) qm421 rfl) (by decide)
                                                                                          · replace h := z_im h hs415
                                                                                            by_cases hs424 : ((xs x2.toNatClampNeg) &&& (63 : Int32)) = (44 : Int32)
                                                                                            · replace h := z_ip h hs424
                                                                                              refine zr_tbl (off := 1517) (tgt := 1550) hs424 d_law_33 (by decide) (by decide) rfl rfl ?_
                                                                                              refine zr_aload_n (i := 1) d_law_1550 rfl rfl ?_
                                                                                              refine zr_aload_n (i := 0) d_law_1551 rfl rfl ?_
                                                                                              refine zr_iload_n (i := 3) d_law_1552 rfl rfl ?_
                                                                                              refine zr_iconst (v := (1 : Int32)) d_law_1553 rfl ?_
                                                                                              refine zr_iadd d_law_1554 ?_
                                                                                              obtain ⟨hb425, h⟩ := z_gd h
                                                                                              refine zr_ld94x hxs hsl d_law_1555 hb425 ?_
                                                                                              obtain ⟨⟨q426, qm427⟩, hq428, h⟩ := z_bd h
                                                                                              replace h := z_h2 h
                                                                                              refine zr_callVi (av := [zI (xs (x2 + (1 : Int32)).toNatClampNeg)]) (st := []) d_law_1556 mw_8_restore ml_L_197 im_8_restore se_8_restore rfl rfl (Nat.le_of_ble_eq_true rfl) fitL_2_2 rfl rfl rfl (s8_restore hq428) ?_
                                                                                              refine zr_aload_n (i := 2) d_law_1559 rfl rfl ?_
                                                                                              refine zr_aload_n (i := 0) d_law_1560 rfl rfl ?_
                                                                                              refine zr_iload_n (i := 3) d_law_1561 rfl rfl ?_
                                                                                              refine zr_iconst (v := (1 : Int32)) d_law_1562 rfl ?_
                                                                                              refine zr_iadd d_law_1563 ?_
                                                                                              refine zr_ld94x hxs hsl d_law_1564 hb425 ?_
                                                                                              obtain ⟨⟨q429, qm430⟩, hq431, h⟩ := z_bd h
                                                                                              replace h := z_h2 h
                                                                                              refine zr_callVi (av := [zI (xs (x2 + (1 : Int32)).toNatClampNeg)]) (st := [zI q426]) d_law_1565 mw_9_restore ml_L_200 im_9_restore se_9_restore rfl rfl (Nat.le_of_ble_eq_true rfl) fitL_2_3 rfl rfl rfl (s9_restore hq431) ?_
                                                                                              refine zr_icmp_eq (tgt := 1596) d_law_1568 rfl (fun hc432 => ?_) (fun hc432 => ?_)
                                                                                              · replace h := z_ip h hc432
                                                                                                refine zr_iinc (v := (x2 + (6 : Int32))) (l' := [some (zA 94 0), some (zA 8 0), some (zA 9 0), some (zI (x2 + (6 : Int32)))]) d_law_1596 (by decide) rfl rfl rfl ?_
                                                                                                refine zr_goto (tgt := 18) d_law_1599 rfl ?_
                                                                                                obtain rfl := Option.some.inj h
                                                                                                exact zr_wk2 (hI (x2 + (6 : Int32)) qm430 rfl) ⟨rfl, ⟨rfl, ⟨rfl, ⟨rfl, trivial⟩⟩⟩⟩
                                                                                              · replace h := z_im h hc432
                                                                                                refine zr_iconst (v := (0 : Int32)) d_law_1571 rfl ?_
                                                                                                obtain rfl := Option.some.inj h
                                                                                                exact absurd (hR (0 : Int32) qm430 rfl) (by decide)
                                                                                            · replace h := z_im h hs424
                                                                                              by_cases hs433 : ((xs x2.toNatClampNeg) &&& (63 : Int32)) = (45 : Int32)
                                                                                              · replace h := z_ip h hs433
                                                                                                refine zr_tbl (off := 1540) (tgt := 1573) hs433 d_law_33 (by decide) (by decide) rfl rfl ?_
                                                                                                refine zr_aload_n (i := 1) d_law_1573 rfl rfl ?_
                                                                                                refine zr_aload_n (i := 0) d_law_1574 rfl rfl ?_
                                                                                                refine zr_iload_n (i := 3) d_law_1575 rfl rfl ?_
                                                                                                refine zr_iconst (v := (1 : Int32)) d_law_1576 rfl ?_
                                                                                                refine zr_iadd d_law_1577 ?_
                                                                                                obtain ⟨hb434, h⟩ := z_gd h
                                                                                                refine zr_ld94x hxs hsl d_law_1578 hb434 ?_
                                                                                                obtain ⟨⟨q435, qm436⟩, hq437, h⟩ := z_bd h
                                                                                                replace h := z_h2 h
                                                                                                refine zr_callVi (av := [zI (xs (x2 + (1 : Int32)).toNatClampNeg)]) (st := []) d_law_1579 mw_8_count ml_L_201 im_8_count se_8_count rfl rfl (Nat.le_of_ble_eq_true rfl) fitL_6_2 rfl rfl rfl (s8_count hq437) ?_
                                                                                                refine zr_aload_n (i := 2) d_law_1582 rfl rfl ?_
                                                                                                refine zr_aload_n (i := 0) d_law_1583 rfl rfl ?_
                                                                                                refine zr_iload_n (i := 3) d_law_1584 rfl rfl ?_
                                                                                                refine zr_iconst (v := (1 : Int32)) d_law_1585 rfl ?_
                                                                                                refine zr_iadd d_law_1586 ?_
                                                                                                refine zr_ld94x hxs hsl d_law_1587 hb434 ?_
                                                                                                obtain ⟨⟨q438, qm439⟩, hq440, h⟩ := z_bd h
                                                                                                replace h := z_h2 h
                                                                                                refine zr_callVi (av := [zI (xs (x2 + (1 : Int32)).toNatClampNeg)]) (st := [zI q435]) d_law_1588 mw_9_count ml_L_204 im_9_count se_9_count rfl rfl (Nat.le_of_ble_eq_true rfl) fitL_7_4 rfl rfl rfl (s9_count hq440) ?_
                                                                                                refine zr_icmp_eq (tgt := 1596) d_law_1591 rfl (fun hc441 => ?_) (fun hc441 => ?_)
                                                                                                · replace h := z_ip h hc441
                                                                                                  refine zr_iinc (v := (x2 + (6 : Int32))) (l' := [some (zA 94 0), some (zA 8 0), some (zA 9 0), some (zI (x2 + (6 : Int32)))]) d_law_1596 (by decide) rfl rfl rfl ?_
                                                                                                  refine zr_goto (tgt := 18) d_law_1599 rfl ?_
                                                                                                  obtain rfl := Option.some.inj h
                                                                                                  exact zr_wk2 (hI (x2 + (6 : Int32)) qm439 rfl) ⟨rfl, ⟨rfl, ⟨rfl, ⟨rfl, trivial⟩⟩⟩⟩
                                                                                                · replace h := z_im h hc441
                                                                                                  refine zr_iconst (v := (0 : Int32)) d_law_1594 rfl ?_
                                                                                                  obtain rfl := Option.some.inj h
                                                                                                  exact absurd (hR (0 : Int32) qm439 rfl) (by decide)
                                                                                              · replace h := z_im h hs433
                                                                                                have hs6t := z_ti hs6
                                                                                                have hs19t := z_ti hs19
                                                                                                have hs28t := z_ti hs28
                                                                                                have hs36t := z_ti hs36
                                                                                                have hs40t := z_ti hs40
                                                                                                have hs50t := z_ti hs50
                                                                                                have hs60t := z_ti hs60
                                                                                                have hs69t := z_ti hs69
                                                                                                have hs78t := z_ti hs78
                                                                                                have hs87t := z_ti hs87
                                                                                                have hs106t := z_ti hs106
                                                                                                have hs115t := z_ti hs115
                                                                                                have hs123t := z_ti hs123
                                                                                                have hs131t := z_ti hs131
                                                                                                have hs141t := z_ti hs141
                                                                                                have hs152t := z_ti hs152
                                                                                                have hs162t := z_ti hs162
                                                                                                have hs170t := z_ti hs170
                                                                                                have hs183t := z_ti hs183
                                                                                                have hs194t := z_ti hs194
                                                                                                have hs202t := z_ti hs202
                                                                                                have hs209t := z_ti hs209
                                                                                                have hs217t := z_ti hs217
                                                                                                have hs225t := z_ti hs225
                                                                                                have hs233t := z_ti hs233
                                                                                                have hs241t := z_ti hs241
                                                                                                have hs248t := z_ti hs248
                                                                                                have hs256t := z_ti hs256
                                                                                                have hs266t := z_ti hs266
                                                                                                have hs276t := z_ti hs276
                                                                                                have hs286t := z_ti hs286
                                                                                                have hs297t := z_ti hs297
                                                                                                have hs307t := z_ti hs307
                                                                                                have hs315t := z_ti hs315
                                                                                                have hs324t := z_ti hs324
                                                                                                have hs334t := z_ti hs334
                                                                                                have hs344t := z_ti hs344
                                                                                                have hs355t := z_ti hs355
                                                                                                have hs366t := z_ti hs366
                                                                                                have hs376t := z_ti hs376
                                                                                                have hs386t := z_ti hs386
                                                                                                have hs395t := z_ti hs395
                                                                                                have hs404t := z_ti hs404
                                                                                                have hs415t := z_ti hs415
                                                                                                have hs424t := z_ti hs424
                                                                                                have hs433t := z_ti hs433
                                                                                                simp only [show ((0 : Int32)).toInt = 0 from rfl, show ((1 : Int32)).toInt = 1 from rfl, show ((2 : Int32)).toInt = 2 from rfl, show ((3 : Int32)).toInt = 3 from rfl, show ((4 : Int32)).toInt = 4 from rfl, show ((5 : Int32)).toInt = 5 from rfl, show ((6 : Int32)).toInt = 6 from rfl, show ((7 : Int32)).toInt = 7 from rfl, show ((8 : Int32)).toInt = 8 from rfl, show ((9 : Int32)).toInt = 9 from rfl, show ((10 : Int32)).toInt = 10 from rfl, show ((11 : Int32)).toInt = 11 from rfl, show ((12 : Int32)).toInt = 12 from rfl, show ((13 : Int32)).toInt = 13 from rfl, show ((14 : Int32)).toInt = 14 from rfl, show ((15 : Int32)).toInt = 15 from rfl, show ((16 : Int32)).toInt = 16 from rfl, show ((17 : Int32)).toInt = 17 from rfl, show ((18 : Int32)).toInt = 18 from rfl, show ((19 : Int32)).toInt = 19 from rfl, show ((20 : Int32)).toInt = 20 from rfl, show ((21 : Int32)).toInt = 21 from rfl, show ((22 : Int32)).toInt = 22 from rfl, show ((23 : Int32)).toInt = 23 from rfl, show ((24 : Int32)).toInt = 24 from rfl, show ((25 : Int32)).toInt = 25 from rfl, show ((26 : Int32)).toInt = 26 from rfl, show ((27 : Int32)).toInt = 27 from rfl, show ((28 : Int32)).toInt = 28 from rfl, show ((29 : Int32)).toInt = 29 from rfl, show ((30 : Int32)).toInt = 30 from rfl, show ((31 : Int32)).toInt = 31 from rfl, show ((32 : Int32)).toInt = 32 from rfl, show ((33 : Int32)).toInt = 33 from rfl, show ((34 : Int32)).toInt = 34 from rfl, show ((35 : Int32)).toInt = 35 from rfl, show ((36 : Int32)).toInt = 36 from rfl, show ((37 : Int32)).toInt = 37 from rfl, show ((38 : Int32)).toInt = 38 from rfl, show ((39 : Int32)).toInt = 39 from rfl, show ((40 : Int32)).toInt = 40 from rfl, show ((41 : Int32)).toInt = 41 from rfl, show ((42 : Int32)).toInt = 42 from rfl, show ((43 : Int32)).toInt = 43 from rfl, show ((44 : Int32)).toInt = 44 from rfl, show ((45 : Int32)).toInt = 45 from rfl] at hs6t hs19t hs28t hs36t hs40t hs50t hs60t hs69t hs78t hs87t hs106t hs115t hs123t hs131t hs141t hs152t hs162t hs170t hs183t hs194t hs202t hs209t hs217t hs225t hs233t hs241t hs248t hs256t hs266t hs276t hs286t hs297t hs307t hs315t hs324t hs334t hs344t hs355t hs366t hs376t hs386t hs395t hs404t hs415t hs424t hs433t
                                                                                                refine zr_tableOut (tgt := 1596) d_law_33 (by omega) rfl ?_
                                                                                                refine zr_iinc (v := (x2 + (6 : Int32))) (l' := [some (zA 94 0), some (zA 8 0), some (zA 9 0), some (zI (x2 + (6 : Int32)))]) d_law_1596 (by decide) rfl rfl rfl ?_
                                                                                                refine zr_goto (tgt := 18) d_law_1599 rfl ?_
                                                                                                obtain rfl := Option.some.inj h
                                                                                                exact zr_wk2 (hI (x2 + (6 : Int32)) xm3 rfl) ⟨rfl, ⟨rfl, ⟨rfl, ⟨rfl, trivial⟩⟩⟩⟩
theorem s_law {P : zP} {sl : Nat} {xs : Nat → Int32} (hsl : z_sl P = sl) (hxs : z_xs P = xs) {μ μ' : zMem} (h : f_law sl xs μ = some (1, μ')) : z_RQ P M_law room_1 (lw_F P) 322 17971 18 [some (zA 94 0), some (zA 8 0), some (zA 9 0), some (zI (0 : Int32))] [] μ := by
  unfold f_law at h
  rcases z_bs h with ⟨e442, hl443, h⟩ | ⟨⟨qr444, qr445⟩, hl443, h⟩
  · refine zr_wk (l' := [some (zA 94 0), some (zA 8 0), some (zA 9 0), some (zI (0 : Int32))]) ⟨rfl, ⟨rfl, ⟨rfl, ⟨rfl, trivial⟩⟩⟩⟩ ?_
    refine z_loop (Hd := (z_u2 fun y0 y1 => z_RQ P M_law room_1 (lw_F P) 322 17971 18 [some (zA 94 0), some (zA 8 0), some (zA 9 0), some (zI y0)] [] y1)) (Ex := (Sum.elim (fun z0 => z_RQ P M_law room_1 (lw_F P) 322 17971 1602 [none, none, none, none] [] z0) (z_u2 fun qr qm => qr = 1))) (fun ⟨x2, xm3⟩ K h hI hE => slaw_L1 hsl hxs  x2 xm3 K h (fun y0 y1 e => hI (y0, y1) e) (fun z0 e => hE (.inl z0) e) (fun qr qm e => hE (.inr (qr, qm)) e)) _ _ _ hl443 ?_
    refine zr_iconst (v := (1 : Int32)) d_law_1602 rfl ?_
    exact ze_law d_law_1603
  · replace h := z_h2 h
    refine zr_wk (l' := [some (zA 94 0), some (zA 8 0), some (zA 9 0), some (zI (0 : Int32))]) ⟨rfl, ⟨rfl, ⟨rfl, ⟨rfl, trivial⟩⟩⟩⟩ ?_
    refine z_loop (Hd := (z_u2 fun y0 y1 => z_RQ P M_law room_1 (lw_F P) 322 17971 18 [some (zA 94 0), some (zA 8 0), some (zA 9 0), some (zI y0)] [] y1)) (Ex := (Sum.elim (fun z0 => z_RQ P M_law room_1 (lw_F P) 322 17971 1602 [none, none, none, none] [] z0) (z_u2 fun qr qm => qr = 1))) (fun ⟨x2, xm3⟩ K h hI hE => slaw_L1 hsl hxs  x2 xm3 K h (fun y0 y1 e => hI (y0, y1) e) (fun z0 e => hE (.inl z0) e) (fun qr qm e => hE (.inr (qr, qm)) e)) _ _ _ hl443 ?_
    exact (Prod.mk.inj (Option.some.inj h)).1
