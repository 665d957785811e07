/-! the law's first steps: both objects are made -/
theorem z_df8 : ∀ ty : Nat → FieldType, (∀ k, k < 15 → parseFieldDescriptor (zT8 k).2.2.1 = some (ty k)) → ∀ j, j < 15 → defaultValue (ty j) = vp_V [.null, .int 0, .null, .null, .null, .null, .null, .null, .null, .null, .null, .int 0, .null, .null, .null] j := by
  intro ty h j hj
  have e : ty j = zt8 j := Option.some.inj ((h j hj).symm.trans (z_ty8 j hj))
  rw [e]
  match j, hj with
  | 0, _ => rfl
  | 1, _ => rfl
  | 2, _ => rfl
  | 3, _ => rfl
  | 4, _ => rfl
  | 5, _ => rfl
  | 6, _ => rfl
  | 7, _ => rfl
  | 8, _ => rfl
  | 9, _ => rfl
  | 10, _ => rfl
  | 11, _ => rfl
  | 12, _ => rfl
  | 13, _ => rfl
  | 14, _ => rfl
  | j + 15, h => exact absurd h (by omega)
theorem z_df9 : ∀ ty : Nat → FieldType, (∀ k, k < 66 → parseFieldDescriptor (zT9 k).2.2.1 = some (ty k)) → ∀ j, j < 66 → defaultValue (ty j) = vp_V [.int 0, .null, .int 0, .null, .int 0, .null, .null, .null, .null, .null, .int 0, .int 0, .int 0, .int 0, .int 0, .int 0, .int 0, .int 0, .int 0, .int 0, .int 0, .null, .null, .null, .null, .null, .null, .null, .null, .null, .null, .null, .null, .null, .int 0, .null, .null, .null, .null, .null, .int 0, .null, .null, .null, .int 0, .null, .null, .int 0, .null, .null, .int 0, .int 0, .null, .null, .null, .int 0, .null, .null, .int 0, .null, .null, .null, .null, .null, .null, .null] j := by
  intro ty h j hj
  have e : ty j = zt9 j := Option.some.inj ((h j hj).symm.trans (z_ty9 j hj))
  rw [e]
  match j, hj with
  | 0, _ => rfl
  | 1, _ => rfl
  | 2, _ => rfl
  | 3, _ => rfl
  | 4, _ => rfl
  | 5, _ => rfl
  | 6, _ => rfl
  | 7, _ => rfl
  | 8, _ => rfl
  | 9, _ => rfl
  | 10, _ => rfl
  | 11, _ => rfl
  | 12, _ => rfl
  | 13, _ => rfl
  | 14, _ => rfl
  | 15, _ => rfl
  | 16, _ => rfl
  | 17, _ => rfl
  | 18, _ => rfl
  | 19, _ => rfl
  | 20, _ => rfl
  | 21, _ => rfl
  | 22, _ => rfl
  | 23, _ => rfl
  | 24, _ => rfl
  | 25, _ => rfl
  | 26, _ => rfl
  | 27, _ => rfl
  | 28, _ => rfl
  | 29, _ => rfl
  | 30, _ => rfl
  | 31, _ => rfl
  | 32, _ => rfl
  | 33, _ => rfl
  | 34, _ => rfl
  | 35, _ => rfl
  | 36, _ => rfl
  | 37, _ => rfl
  | 38, _ => rfl
  | 39, _ => rfl
  | 40, _ => rfl
  | 41, _ => rfl
  | 42, _ => rfl
  | 43, _ => rfl
  | 44, _ => rfl
  | 45, _ => rfl
  | 46, _ => rfl
  | 47, _ => rfl
  | 48, _ => rfl
  | 49, _ => rfl
  | 50, _ => rfl
  | 51, _ => rfl
  | 52, _ => rfl
  | 53, _ => rfl
  | 54, _ => rfl
  | 55, _ => rfl
  | 56, _ => rfl
  | 57, _ => rfl
  | 58, _ => rfl
  | 59, _ => rfl
  | 60, _ => rfl
  | 61, _ => rfl
  | 62, _ => rfl
  | 63, _ => rfl
  | 64, _ => rfl
  | 65, _ => rfl
  | j + 66, h => exact absurd h (by omega)
theorem d_law_0 : zD code 0 (.new 7) 3 3 := ⟨by decide +kernel, rfl⟩
theorem d_law_3 : zD code 3 (.dup) 1 4 := ⟨by decide +kernel, rfl⟩
theorem d_law_4 : zD code 4 (.invokespecial 9) 3 7 := ⟨by decide +kernel, rfl⟩
theorem d_law_7 : zD code 7 (.astore_n 1) 1 8 := ⟨by decide +kernel, rfl⟩
theorem d_law_8 : zD code 8 (.new 10) 3 11 := ⟨by decide +kernel, rfl⟩
theorem d_law_11 : zD code 11 (.dup) 1 12 := ⟨by decide +kernel, rfl⟩
theorem d_law_12 : zD code 12 (.invokespecial 12) 3 15 := ⟨by decide +kernel, rfl⟩
theorem d_law_15 : zD code 15 (.astore_n 2) 1 16 := ⟨by decide +kernel, rfl⟩
theorem d_law_16 : zD code 16 (.iconst 0) 1 17 := ⟨by decide +kernel, rfl⟩
theorem d_law_17 : zD code 17 (.istore_n 3) 1 18 := ⟨by decide +kernel, rfl⟩
theorem w_cl7 : Cond.classLink R_law 7 zR8 ∈ lw_gd := z_m1 (List.mem_of_getElem? (i := 19) rfl) rfl
theorem ist_8 : Cond.instantiable zR8 15 ∈ lw_gd := z_m1 (List.mem_of_getElem? (i := 20) rfl) rfl
theorem ini_8 : Cond.initialized zR8 ∈ lw_gd := z_m1 (List.mem_of_getElem? (i := 1) rfl) rfl
theorem w_ml9 : Cond.methodLink R_law 9 y_8_init ∈ lw_gd := z_m1 (List.mem_of_getElem? (i := 21) rfl) rfl
theorem im_8_init : Cond.instanceMethod y_8_init ∈ lw_gd := z_m1 (List.mem_of_getElem? (i := 22) rfl) rfl
theorem mw_8_init : z_MW y_8_init M_8_init 0 := ⟨z_m1 (List.mem_of_getElem? (i := 1) rfl) rfl, z_m1 (List.mem_of_getElem? (i := 23) rfl) rfl, by decide, by decide, by decide +kernel⟩
theorem w_cl10 : Cond.classLink R_law 10 zR9 ∈ lw_gd := z_m5 (List.mem_of_getElem? (i := 124) rfl) rfl
theorem ist_9 : Cond.instantiable zR9 66 ∈ lw_gd := z_m5 (List.mem_of_getElem? (i := 125) rfl) rfl
theorem ini_9 : Cond.initialized zR9 ∈ lw_gd := z_m1 (List.mem_of_getElem? (i := 10) rfl) rfl
theorem w_ml12 : Cond.methodLink R_law 12 y_9_init ∈ lw_gd := z_m5 (List.mem_of_getElem? (i := 126) rfl) rfl
theorem im_9_init : Cond.instanceMethod y_9_init ∈ lw_gd := z_m5 (List.mem_of_getElem? (i := 127) rfl) rfl
theorem mw_9_init : z_MW y_9_init M_9_init 0 := ⟨z_m1 (List.mem_of_getElem? (i := 10) rfl) rfl, z_m5 (List.mem_of_getElem? (i := 128) rfl) rfl, by decide, by decide, by decide +kernel⟩
/-- as zk_P, but the script keeps its own address -/
def zk_P2 (P : zP) (b : Nat) : zP := (z_l P, z_D P, fun c i => if c = 94 then z_ad P 94 i else b + i, fun _ _ => True, z_cA P, b, z_sl P, z_xs P, z_N P)
section ZK3
variable {P : zP} {X : State → Method → Prop} {M : zM} {R : Room} {F : zF} {n1 n2 pc pc' b : Nat} {l : List (Option zV)} {st : List zV} {cs : List va_E}
theorem zk_okP2 {v : zV} : z_ok (zk_P2 P b) v := by
  match v with
  | .inl _ => trivial
  | .inr (.inl _) => trivial
  | .inr (.inr _) => exact fun _ => trivial
theorem zk_new2 {idx ci k N : Nat} {C T} {fs : List Value} (hd : zD M.2.1 pc (.new idx) 3 pc') (hcl : classes[ci]? = some (C, T, N)) (hl : Cond.classLink M.1 idx C ∈ lw_gd) (hi : Cond.instantiable C N ∈ lw_gd) (hini : Cond.initialized C ∈ lw_gd) (hfs : ∀ ty : Nat → FieldType, (∀ k, k < N → parseFieldDescriptor (T k).2.2.1 = some (ty k)) → ∀ j, j < N → defaultValue (ty j) = vp_V fs j) (hk : cs.length = k) (hc1 : n1 + 1 ≤ R.cells) (hs1 : n2 + N ≤ R.slots)
    (kk : z_RG (zk_P2 P b) X M R F (n1 + 1) (n2 + N) pc' l (zA 0 k :: st) (zk_H P b (cs ++ [.inr (ci, fs)]))) : z_RG (zk_P2 P b) X M R F n1 n2 pc l st (zk_H P b cs) := by
  obtain ⟨hd, rfl⟩ := hd
  intro p e s m args below meth c C0 H locs ls h1 h2 h3 h4
  have hts := C0.2.2.2.2.2.1
  have hKn := C0.2.2.2.2.2.2.2.1.1 ci _ hcl
  obtain ⟨hin, ty, hty, -⟩ := z_cls hcl
  refine W.newcK C0.1 C0.2.1 C0.2.2.2.2.1 (hts _ hl) (hts _ hi) (hts _ hini) rfl hd hc1 hs1 hKn.2.1 rfl fun H1 kC hkC e1 z1 o1 => ?_
  have e0 : z_cv (zk_P2 P b) (zA 0 k) = .ref H.size := by
    show Value.ref (b + k) = _
    rw [h1.1, hk]
  have g := kk p e s m args below meth c C0 H1 locs ls (h1.push z1 o1 ⟨_, hcl, (u_born ty hts hin hKn hkC e1 hty).to (hfs ty hty)⟩) (z_SpushA h2 z1 o1) h3 (z_o zk_okP2 h4)
  rw [List.map_cons, e0] at g
  exact g
theorem zk_childI2 {cs' cs0 sub : List va_E} {raw : va_E} {idx k d mc ms : Nat} {y : MethodName} {M' : zM} (hX : ∀ s meth, X s meth → zk_XS P b s) (hd : zD M.2.1 pc (.invokespecial idx) 3 pc') (hM : z_MW y M' 0) (hr : M'.2.2.2 = none) (hl : Cond.methodLink M.1 idx y ∈ lw_gd) (hi : Cond.instanceMethod y ∈ lw_gd) (hnm : y.name = "<init>") (hcs : cs = cs0 ++ [raw]) (hk : cs0.length = k) (hw : z_w st ≤ 8) (hR : d + 1 ≤ R.frames ∧ 8 + (M'.2.2.1 + 11) + 64 * d ≤ R.locals) (hf : n1 + mc ≤ R.cells ∧ n2 + ms ≤ R.slots) (hsp : z_Kt P (b + k) y M' d mc ms raw sub) (hcs' : cs0 ++ sub = cs')
    (kk : z_RG (zk_P2 P b) X M R F (n1 + mc) (n2 + ms) pc' l st (zk_H P b cs')) : z_RG (zk_P2 P b) X M R F n1 n2 pc l (zA 0 k :: st) (zk_H P b cs) := by
  obtain ⟨hd, rfl⟩ := hd
  subst hcs hcs' hk
  intro p e s m args below meth c C H locs ls h1 h2 h3 h4
  have hts := C.2.2.2.2.2.1
  have hXs := hX _ _ C.2.2.2.2.2.2.2.2
  refine va_callv (va_runI (As := []) (rest := st.map (z_cv (zk_P2 P b))) ⟨C.1, C.2.1, C.2.2.2.1, C.2.2.2.2.1, hts⟩ hsp (cwI 0 hts (z_gin hM) (by unfold z_ws; rw [hr]) rfl rfl (hts _ hM.1) (hts _ hl) (hts _ hi) hnm hM.2.2 hR) ⟨zk_blind, fun U hU hW => ⟨rfl, ?_, va_K.moved hW.alike C.2.2.2.2.2.2.2.1, hXs.to (Nat.le_add_right _ _) hW h2 hU⟩⟩ rfl rfl h3.1 rfl (by rw [z_w_ok]; show 2 * 0 + _ ≤ _; omega) hd hf) h2 (fun q _ h => Nat.le_trans (Nat.le_add_right b _) h) (fun q h => Nat.le_trans (Nat.le_add_right b _) h) (fun u t H1 locs1 ht hvm hw2 hB hz1 hk1 hS => ?_)
  · rw [hU]
    refine ⟨by rw [h1.1, List.length_append]; rfl, fun k x hx => ?_⟩
    match k, hx with
    | 0, hx =>
      cases hx
      exact h1.2 cs0.length raw (by rw [List.getElem?_append_right (Nat.le_refl _), Nat.sub_self]; rfl)
    | k + 1, hx => cases hx
  · have hB : zk_H P (b + cs0.length) sub t.heap := hB
    rw [ht] at hB
    exact kk p e s m args below meth c C H1 locs1 ls (h1.child hB hk1) hS h3 (z_t h4)
end ZK3
/-! the Model's cells, behind the class's -/
def w_c9 (f : zFK) : Bool := decide (f.1 ≠ 3) && (decide (f.1 ≠ 2) || (decide (100 ≤ f.2.1) && decide (w_Ls.idxOf (f.2.1, f.2.2 0) = 277 + zL9.idxOf (f.2.1, f.2.2 0))))
theorem w_o9 : ∃ l, z_obj 9 = some (9, l) ∧ l.all w_c9 = true := ⟨_, rfl, by decide +kernel⟩
theorem w_o100 : (zL9.all fun q => decide (q = (9, 0)) || ((z_obj q.1).isNone && decide (z_el q.1 ≠ 4))) = true := by decide +kernel
theorem w_pz9 {P : zP} {b : Nat} {m : zMem} : zk_c9 P (b + 277) m = zL9.map fun q => z_enc (zl_P P b w_Ls) m q.1 q.2 := by
  unfold zk_c9
  refine List.map_congr_left fun q hq => ?_
  have h := List.all_eq_true.mp w_o100 q hq
  rw [Bool.or_eq_true, decide_eq_true_iff] at h
  rcases h with rfl | h
  · obtain ⟨l, hl, ha⟩ := w_o9
    show z_enc _ m 9 0 = z_enc _ m 9 0
    unfold z_enc
    rw [hl]
    show Sum.inr (9, _) = Sum.inr (9, _)
    congr 2
    refine List.ext_getElem? fun k => ?_
    rw [List.getElem?_mapIdx, List.getElem?_mapIdx]
    cases hf : l[k]? with
    | none => rfl
    | some f =>
      have hw := List.all_eq_true.mp ha f (List.mem_of_getElem? hf)
      unfold w_c9 at hw
      rw [Bool.and_eq_true, Bool.or_eq_true, Bool.and_eq_true] at hw
      simp only [decide_eq_true_iff] at hw
      obtain ⟨h3, h2⟩ := hw
      show some (z_fv _ m 9 0 k f) = some (z_fv _ m 9 0 k f)
      unfold z_fv
      by_cases e2 : f.1 = 2
      · rw [if_pos e2, if_pos e2]
        rcases h2 with h2 | ⟨h100, hi⟩
        · exact absurd e2 h2
        · show some (Value.ref (if 90 ≤ f.2.1 ∧ f.2.1 < 100 then _ else b + 277 + zL9.idxOf (f.2.1, f.2.2 0))) = some (Value.ref (if 90 ≤ f.2.1 ∧ f.2.1 < 100 then _ else b + w_Ls.idxOf (f.2.1, f.2.2 0)))
          rw [if_neg (by omega), if_neg (by omega), hi, Nat.add_assoc]
      · rw [if_neg e2, if_neg e2, if_neg h3, if_neg h3]
  · rw [Bool.and_eq_true, decide_eq_true_iff] at h
    have ho : z_obj q.1 = none := Option.isNone_iff_eq_none.mp h.1
    unfold z_enc
    rw [ho]
    show Sum.inl (z_cA P (z_el q.1), z_arr _ m q.1 q.2) = Sum.inl (z_cA P (z_el q.1), z_arr _ m q.1 q.2)
    unfold z_arr
    rw [if_neg h.2, if_neg h.2]
