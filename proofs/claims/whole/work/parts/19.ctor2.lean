/-! contracts of constructors: from one raw cell at b, the last of the heap, to the cells 'sub' from b on -/
def z_rmK (d mc ms : Nat) : Room := { frames := d, cells := mc, slots := ms, locals := 64 * d }
def z_PB (P : zP) (b : Nat) : zP := (z_l P, z_D P, z_ad P, z_ex P, z_cA P, b, z_sl P, z_xs P, z_N P)
def zk_XS (P : zP) (b : Nat) (U : State) : Prop := va_AO zR5 U ∧ z_RO (z_PB P b) U
def zk_X (P : zP) (b : Nat) (s : State) (meth : Method) : Prop := meth.name = "<init>" ∧ zk_XS P b s
def zk_Q (P : zP) (b : Nat) (sub : List va_E) : Array Value → State → Outcome → State → Prop := va_Qv (S := Unit) (fun _ => True) (fun _ t => zk_H P b sub t.heap) (fun q => b ≤ q)
def z_Kt (P : zP) (b : Nat) (y : MethodName) (M : zM) (d mc ms : Nat) (raw : va_E) (sub : List va_E) : Prop :=
  Met (z_l P) y (z_ws y M) (z_rmK d mc ms) (va_Pc [.ref b] (fun U => zk_H P b [raw] U.heap ∧ va_K (z_D P) classes (z_tys P) U ∧ zk_XS P b U)) (zk_Q P b sub) mc ms (fun q => b ≤ q)
def zk_F (P : zP) (b : Nat) (sub : List va_E) (mc ms : Nat) : zF := fun s _ args below => MQ below (zk_Q P b sub) args s mc ms (fun q => b ≤ q)
theorem z_RO.narrow {P : zP} {b b' : Nat} {U : State} (h : z_RO (z_PB P b) U) (hb : b ≤ b') : z_RO (z_PB P b') U := by
  have hAB : ∀ q, z_A (z_PB P b') q → z_A (z_PB P b) q := fun q hq => Nat.le_trans hb hq
  obtain ⟨⟨a1, a2⟩, ⟨b1, b2, b3⟩, ⟨c1, c2⟩, ⟨d1, d2, d3⟩, n1⟩ := h
  exact ⟨⟨a1.narrow hAB, a2.narrow hAB⟩, ⟨b1.narrow hAB, b2, b3⟩, ⟨c1.narrow hAB, c2.narrow hAB⟩, ⟨d1, d2, fun h => d3 (hAB _ h)⟩, n1⟩
theorem zk_XS.to {P : zP} {b b' : Nat} {s U : State} {H : Heap} {locs : List Loc} (h : zk_XS P b s) (hb : b ≤ b') (hW : s.WarmedH U.vm) (hS : va_S (fun q => b ≤ q) s.heap H locs) (hU : U.heap = H) : zk_XS P b' U := ⟨va_AO.moved hW.alike h.1, (z_RO.to (P := z_PB P b) h.2 hW hS hU).narrow hb⟩
theorem zk_XS.same {P : zP} {b : Nat} {U U' : State} (h : zk_XS P b U) (hv : U'.vm = U.vm) (hh : U'.heap = U.heap) : zk_XS P b U' := ⟨va_AO.moved (by rw [hv]; exact Vm.Alike.refl U.vm) h.1, h.2.same hv hh⟩
theorem zk_blind {P : zP} {b : Nat} {raw : va_E} : FrameBlind (va_Pc [.ref b] (fun U => zk_H P b [raw] U.heap ∧ va_K (z_D P) classes (z_tys P) U ∧ zk_XS P b U)) := by
  intro a U g mk q
  obtain ⟨q0, q1, q2, q3⟩ := q
  exact ⟨q0, q1, va_K.moved (u := U) (U := U.calling g mk a) (Vm.Alike.refl U.vm) q2, q3.same (U' := U.calling g mk a) rfl rfl⟩
theorem z_Kt.of {P : zP} {b : Nat} {y : MethodName} {M : zM} {d mc ms : Nat} {raw : va_E} {sub : List va_E} (hy : plainFor y = true) (hown : y.cls = M.1) (hini : y.name = "<init>") (hn : 1 ≤ M.2.2.1) (h : z_RG (zk_P P b) (zk_X P b) M (z_rmK d mc ms) (zk_F P b sub mc ms) 0 0 0 (some (zA 0 0) :: List.replicate (M.2.2.1 - 1) none) [] (zk_H P b [raw])) : z_Kt P b y M d mc ms raw sub := by
  refine va_MetF (cc := M.2.1) (maxL := M.2.2.1) (ret := M.2.2.2) hy rfl ?_
  intro p e s m args below meth c s₁ B hml hv
  obtain ⟨rfl, hH, hK, hX⟩ := hv
  have hts := atoms_spec (ws := z_ws y M) B.pre
  have hf : s.vm.findClass y.cls = some m.cls := findClass_of_methodNamed B.named
  have hname : meth.name = "<init>" := by rw [(name_of_methodNamed B.named B.method).1]; exact hini
  rw [lg_entry_eq]
  refine h p e s m _ below meth c ⟨B.exec, B.bytes, B.returns, hml, by rw [← hown]; exact hf, fun w hw => hts w (List.mem_cons_of_mem _ hw), B.notSynchronized, hK, hname, hX⟩ s.heap [] _ hH va_S.rf ?_ (fun _ h => by cases h)
  have hl' := lv_entry [.ref b] (n := M.2.2.1) hn
  refine ⟨hl'.1, hl'.2.1, fun i v hi => ?_⟩
  match i, hi with
  | 0, hi =>
    cases hi
    exact ⟨hl'.2.2 (0, .ref b) List.mem_cons_self, zk_okP⟩
  | i + 1, hi =>
    rw [List.getElem?_cons_succ, List.getElem?_replicate] at hi
    split at hi
    · cases hi
    · cases hi
section ZK2
variable {P : zP} {M : zM} {R : Room} {F : zF} {n1 n2 pc pc' b : Nat} {l : List (Option zV)} {st : List zV} {cs : List va_E}
theorem zk_ret {sub : List va_E} (hd : zD M.2.1 pc (.return_) 1 pc') (hr : M.2.2.2 = none) {X : State → Method → Prop} : z_RG (zk_P P b) X M R (zk_F P b sub n1 n2) n1 n2 pc l [] (zk_H P b sub) := by
  obtain ⟨hd, rfl⟩ := hd
  intro p e s m args below meth c C H locs ls h1 h2 h3 h4
  exact W.vret C.1 C.2.1 (C.2.2.1.trans hr) (fun t ht hW => ⟨⟨(), rfl, trivial, by show zk_H P b sub t.heap; rw [ht]; exact h1⟩, va_S.F (A := fun q => b ≤ q) h2 ht⟩) h2.2.2 hd C.2.2.2.2.2.2.1
/-- behind a child's constructor: the cells ahead of it stay -/
theorem zk_H.child {P : zP} {b : Nat} {cs0 sub : List va_E} {raw : va_E} {H H1 : Heap} (h : zk_H P b (cs0 ++ [raw]) H) (h1 : zk_H P (b + cs0.length) sub H1) (hk : ∀ q : Nat, q < H.size → ¬ b + cs0.length ≤ q → H1[q]? = H[q]?) : zk_H P b (cs0 ++ sub) H1 := by
  refine ⟨by rw [h1.1, List.length_append]; omega, fun k x hx => ?_⟩
  by_cases hl : k < cs0.length
  · rw [List.getElem?_append_left hl] at hx
    have hx' : (cs0 ++ [raw])[k]? = some x := by rw [List.getElem?_append_left hl]; exact hx
    exact (h.2 k x hx').kept (hk _ (h.lt hx') (by omega))
  · rw [List.getElem?_append_right (by omega)] at hx
    have := h1.2 _ x hx
    rw [show b + cs0.length + (k - cs0.length) = b + k by omega] at this
    exact this
theorem zk_childI {X : State → Method → Prop} {cs' cs0 sub : List va_E} {raw : va_E} {idx k d mc ms : Nat} {y : MethodName} {M' : zM} (hX : ∀ s meth, X s meth → zk_XS P b s) (hd : zD M.2.1 pc (.invokespecial idx) 3 pc') (hM : z_MW y M' 0) (hr : M'.2.2.2 = none) (hl : Cond.methodLink M.1 idx y ∈ lw_gd) (hi : Cond.instanceMethod y ∈ lw_gd) (hnm : y.name = "<init>") (hcs : cs = cs0 ++ [raw]) (hk : cs0.length = k) (hw : z_w st ≤ 8) (hR : d + 1 ≤ R.frames ∧ 8 + (M'.2.2.1 + 11) + 64 * d ≤ R.locals) (hf : n1 + mc ≤ R.cells ∧ n2 + ms ≤ R.slots) (hsp : z_Kt P (b + k) y M' d mc ms raw sub) (hcs' : cs0 ++ sub = cs')
    (kk : z_RG (zk_P P b) X M R F (n1 + mc) (n2 + ms) pc' l st (zk_H P b cs')) : z_RG (zk_P P b) X M R F n1 n2 pc l (zA 0 k :: st) (zk_H P b cs) := by
  obtain ⟨hd, rfl⟩ := hd
  subst hcs hcs' hk
  intro p e s m args below meth c C H locs ls h1 h2 h3 h4
  have hts := C.2.2.2.2.2.1
  have hXs := hX _ _ C.2.2.2.2.2.2.2.2
  refine va_callv (va_runI (As := []) (rest := st.map (z_cv (zk_P P b))) ⟨C.1, C.2.1, C.2.2.2.1, C.2.2.2.2.1, hts⟩ hsp (cwI 0 hts (z_gin hM) (by unfold z_ws; rw [hr]) rfl rfl (hts _ hM.1) (hts _ hl) (hts _ hi) hnm hM.2.2 hR) ⟨zk_blind, fun U hU hW => ⟨rfl, ?_, va_K.moved hW.alike C.2.2.2.2.2.2.2.1, hXs.to (Nat.le_add_right _ _) hW h2 hU⟩⟩ rfl rfl h3.1 rfl (by rw [z_w_ok]; show 2 * 0 + _ ≤ _; omega) hd hf) h2 (fun q _ h => Nat.le_trans (Nat.le_add_right b _) h) (fun q h => Nat.le_trans (Nat.le_add_right b _) h) (fun u t H1 locs1 ht hvm hw2 hB hz1 hk1 hS => ?_)
  · rw [hU]
    refine ⟨by rw [h1.1, List.length_append]; rfl, fun k x hx => ?_⟩
    match k, hx with
    | 0, hx =>
      cases hx
      exact h1.2 cs0.length raw (by rw [List.getElem?_append_right (Nat.le_refl _), Nat.sub_self]; rfl)
    | k + 1, hx => cases hx
  · have hB : zk_H P (b + cs0.length) sub t.heap := hB
    rw [ht] at hB
    exact kk p e s m args below meth c C H1 locs1 ls (h1.child hB hk1) hS h3 (z_t h4)
theorem zk_childN {X : State → Method → Prop} {cs' cs0 sub : List va_E} {raw : va_E} {idx k d mc ms : Nat} {y : MethodName} {M' : zM} {host : String} (hX : ∀ s meth, X s meth → zk_XS P b s) (hd : zD M.2.1 pc (.invokespecial idx) 3 pc') (hM : z_MW y M' 0) (hr : M'.2.2.2 = none) (hl : (M.1, idx, y, host) ∈ z_nest) (hi : Cond.instanceMethod y ∈ lw_gd) (hnm : y.name = "<init>") (hcs : cs = cs0 ++ [raw]) (hk : cs0.length = k) (hw : z_w st ≤ 8) (hR : d + 1 ≤ R.frames ∧ 8 + (M'.2.2.1 + 11) + 64 * d ≤ R.locals) (hf : n1 + mc ≤ R.cells ∧ n2 + ms ≤ R.slots) (hsp : z_Kt P (b + k) y M' d mc ms raw sub) (hcs' : cs0 ++ sub = cs')
    (kk : z_RG (zk_P P b) X M R F (n1 + mc) (n2 + ms) pc' l st (zk_H P b cs')) : z_RG (zk_P P b) X M R F n1 n2 pc l (zA 0 k :: st) (zk_H P b cs) := by
  obtain ⟨hd, rfl⟩ := hd
  subst hcs hcs' hk
  intro p e s m args below meth c C H locs ls h1 h2 h3 h4
  have hts := C.2.2.2.2.2.1
  have hXs := hX _ _ C.2.2.2.2.2.2.2.2
  refine va_callv (va_runIN (As := []) (host := host) (rest := st.map (z_cv (zk_P P b))) ⟨C.1, C.2.1, C.2.2.2.1, C.2.2.2.2.1, hts⟩ hsp ⟨va_cnB 0 hts (z_gin hM) (by unfold z_ws; rw [hr]) rfl rfl (hXs.2.2.2.2.2 _ hl) (hts _ hM.1) hM.2.2 hR, hnm, hts _ hi⟩ ⟨zk_blind, fun U hU hW => ⟨rfl, ?_, va_K.moved hW.alike C.2.2.2.2.2.2.2.1, hXs.to (Nat.le_add_right _ _) hW h2 hU⟩⟩ rfl rfl h3.1 rfl (by rw [z_w_ok]; show 2 * 0 + _ ≤ _; omega) hd hf) h2 (fun q _ h => Nat.le_trans (Nat.le_add_right b _) h) (fun q h => Nat.le_trans (Nat.le_add_right b _) h) (fun u t H1 locs1 ht hvm hw2 hB hz1 hk1 hS => ?_)
  · rw [hU]
    refine ⟨by rw [h1.1, List.length_append]; rfl, fun k x hx => ?_⟩
    match k, hx with
    | 0, hx =>
      cases hx
      exact h1.2 cs0.length raw (by rw [List.getElem?_append_right (Nat.le_refl _), Nat.sub_self]; rfl)
    | k + 1, hx => cases hx
  · have hB : zk_H P (b + cs0.length) sub t.heap := hB
    rw [ht] at hB
    exact kk p e s m args below meth c C H1 locs1 ls (h1.child hB hk1) hS h3 (z_t h4)
/-- a State is put into an array of States -/
theorem zk_aast {X : State → Method → Prop} {cs' : List va_E} {j v n : Nat} {i : Int32} {f : Nat → Option Nat} {vs : List Value} (hd : zD M.2.1 pc (.aastore) 1 pc') (hj : cs[j]? = some (.inl (z_cA P 4, n, .inr (.inr (.inr (.inr f)))))) (hv : cs[v]? = some (.inr (5, vs))) (hin : z_in i n = true) (hcs : cs.set j (.inl (z_cA P 4, n, .inr (.inr (.inr (.inr (va_up f i.toNatClampNeg (some (b + v)))))))) = cs')
    (kk : z_RG (zk_P P b) X M R F n1 n2 pc' l st (zk_H P b cs')) : z_RG (zk_P P b) X M R F n1 n2 pc l (zA 0 v :: zI i :: zA 0 j :: st) (zk_H P b cs) := by
  obtain ⟨hd, rfl⟩ := hd
  subst hcs
  intro p e s m args below meth c C H locs ls h1 h2 h3 h4
  have hin := z_in_vp hin
  have hlt : i.toNatClampNeg < n := Nat.not_le.mp fun q => hin (Or.inr q)
  have h0 : ¬ i < 0 := fun q => hin (Or.inl q)
  have hK := C.2.2.2.2.2.2.2.1
  obtain ⟨r', hr', cellV, g1, g2, g3, -⟩ := h1.2 v _ hv
  have hcls := (hK.1 5 (zR5, zT5, 7) rfl).2
  obtain ⟨kA, comp, k1, k2, k3, -⟩ := (hK.2 4 _ rfl).2
  have hcomp : comp = (z_D P).1 5 := Option.some.inj (k3.symm.trans hcls.1)
  subst hcomp
  obtain ⟨kC, hkC, -⟩ := hcls.2
  have hjl : j < cs.length := (List.getElem?_eq_some_iff.mp hj).1
  refine W.aast C.1 C.2.1 (h1.2 j _ hj) (fun q h => by cases h) (fun h => by cases h) k1 k2 rfl hkC ⟨h0, by show _ < (arrV _ _ _).slots.size; rw [arrV_size]; exact hlt⟩ g1 (fun q h => by rw [g3] at h; cases h) (by rw [g2]; exact hkC) (by rw [g2]; exact va_assign hcls) rfl rfl hd fun H1 e1 z oq => ?_
  refine kk p e s m args below meth c C H1 _ ls (h1.put hjl z oq ?_) (h2.put z oq (Nat.le_add_right b j)) h3 (z_t (z_t (z_t h4)))
  show H1[b + j]? = some (vp_cell _ _)
  rw [e1]
  rw [vp_cell_q, vp_cell_q, arrV_store]
  congr 2
  funext q
  by_cases hq : q = i.toNatClampNeg
  · subst hq
    simp [updV, va_up, va_rf]
  · simp [updV, va_up, hq]
end ZK2
