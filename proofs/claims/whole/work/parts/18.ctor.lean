/-! CONSTRUCTION. z_RG: as z_RQ, over any world; zk_H: the cells from z_B P on, as a list -/
def z_CK (P : zP) (X : State → Method → Prop) (M : zM) (p : Program) (s : State) (m : MethodId) (args : Array Value) (meth : Method) (c : Code) : Prop :=
  p.tables.exec = Jvm.exec ∧ c.code = M.2.1 ∧ meth.sig.returnType = M.2.2.2 ∧ c.maxLocals = M.2.2.1 ∧ s.vm.findClass M.1 = some m.cls ∧ (∀ w ∈ lw_gd, w.before args s = true) ∧ meth.locks = false ∧ va_K (z_D P) classes (z_tys P) s ∧ X s meth
def z_RG (P : zP) (X : State → Method → Prop) (M : zM) (R : Room) (F : zF) (n1 n2 : Nat) (pc : Nat) (l : List (Option zV)) (st : List zV) (Wd : Heap → Prop) : Prop :=
  ∀ (p : Program) (e : Env) (s : State) (m : MethodId) (args : Array Value) (below : List Frame) (meth : Method) (c : Code), z_CK P X M p s m args meth c → ∀ (H : Heap) (locs : List Loc) (ls : Array Slot), Wd H → va_S (z_A P) s.heap H locs → z_LR P M.2.2.1 ls l → (∀ v ∈ st, z_ok P v) →
    W p (z_l P) e R s m args below meth c H locs n1 n2 (F s m args below) (F0 m pc ls (st.map (z_cv P)))
def zk_P (P : zP) (b : Nat) : zP := (z_l P, z_D P, fun _ i => b + i, fun _ _ => True, z_cA P, b, z_sl P, z_xs P, z_N P)
def zk_H (P : zP) (b : Nat) (cs : List va_E) (H : Heap) : Prop := H.size = b + cs.length ∧ ∀ (k : Nat) (e : va_E), cs[k]? = some e → va_at (z_D P) classes (b + k, e) H
def zk_z (P : zP) (t N : Nat) : va_E := .inl (z_cA P t, N, if t = 3 then .inr (.inl fun _ => 0) else .inl fun _ => 0)
section ZG
variable {P : zP} {X : State → Method → Prop} {M : zM} {R : Room} {F : zF} {n1 n2 pc : Nat} {l : List (Option zV)} {st : List zV} {μ : Heap → Prop}
theorem zg_dupa {pc' : Nat} {q i : Nat} (hd : zD M.2.1 pc (.dup) 1 pc') (k : z_RG P X M R F n1 n2 pc' l (zA q i :: zA q i :: st) μ) : z_RG P X M R F n1 n2 pc l (zA q i :: st) μ := by
  obtain ⟨hd, rfl⟩ := hd
  intro p e s m args below meth c C H locs ls h1 h2 h3 h4
  exact lv_dup C.1 C.2.1 hd rfl (k p e s m args below meth c C H locs ls h1 h2 h3 (z_o (z_h h4) h4))
theorem zg_iconst {pc' : Nat} {n : Int} {v : Int32} (hd : zD M.2.1 pc (.iconst n) 1 pc') (hv : Int32.ofInt n = v) (k : z_RG P X M R F n1 n2 pc' l (zI v :: st) μ) : z_RG P X M R F n1 n2 pc l st μ := by
  obtain ⟨hd, rfl⟩ := hd
  intro p e s m args below meth c C H locs ls h1 h2 h3 h4
  exact lv_iconst C.1 C.2.1 hd hv (k p e s m args below meth c C H locs ls h1 h2 h3 (z_o trivial h4))
theorem zg_bipush {pc' : Nat} {n : Int} {v : Int32} (hd : zD M.2.1 pc (.bipush n) 2 pc') (hv : (Int8.ofInt n).toInt32 = v) (k : z_RG P X M R F n1 n2 pc' l (zI v :: st) μ) : z_RG P X M R F n1 n2 pc l st μ := by
  obtain ⟨hd, rfl⟩ := hd
  intro p e s m args below meth c C H locs ls h1 h2 h3 h4
  exact lv_bipush C.1 C.2.1 hd hv (k p e s m args below meth c C H locs ls h1 h2 h3 (z_o trivial h4))
theorem zg_sipush {pc' : Nat} {n : Int} {v : Int32} (hd : zD M.2.1 pc (.sipush n) 3 pc') (hv : (Int16.ofInt n).toInt32 = v) (k : z_RG P X M R F n1 n2 pc' l (zI v :: st) μ) : z_RG P X M R F n1 n2 pc l st μ := by
  obtain ⟨hd, rfl⟩ := hd
  intro p e s m args below meth c C H locs ls h1 h2 h3 h4
  exact lv_sipush C.1 C.2.1 hd hv (k p e s m args below meth c C H locs ls h1 h2 h3 (z_o trivial h4))
theorem zg_lconst {pc' : Nat} {n : Fin 2} {v : Int64} (hd : zD M.2.1 pc (.lconst n) 1 pc') (hv : Int64.ofNat (n : Nat) = v) (k : z_RG P X M R F n1 n2 pc' l (zL v :: st) μ) : z_RG P X M R F n1 n2 pc l st μ := by
  obtain ⟨hd, rfl⟩ := hd
  intro p e s m args below meth c C H locs ls h1 h2 h3 h4
  exact lv_lconst C.1 C.2.1 hd hv (k p e s m args below meth c C H locs ls h1 h2 h3 (z_o trivial h4))
theorem zg_iload_n {pc' : Nat} {n : Fin 4} {i : Nat} {x : Int32} (hd : zD M.2.1 pc (.iload_n n) 1 pc') (hi : (n : Nat) = i) (hl : l[i]? = some (some (zI x))) (k : z_RG P X M R F n1 n2 pc' l (zI x :: st) μ) : z_RG P X M R F n1 n2 pc l st μ := by
  obtain ⟨hd, rfl⟩ := hd
  intro p e s m args below meth c C H locs ls h1 h2 h3 h4
  exact lv_iload_n C.1 C.2.1 hd hi (h3.2.2 _ _ hl).1 (k p e s m args below meth c C H locs ls h1 h2 h3 (z_o (h3.2.2 _ _ hl).2 h4))
theorem zg_aload_n {pc' : Nat} {n : Fin 4} {i : Nat} {q j : Nat} (hd : zD M.2.1 pc (.aload_n n) 1 pc') (hi : (n : Nat) = i) (hl : l[i]? = some (some (zA q j))) (k : z_RG P X M R F n1 n2 pc' l (zA q j :: st) μ) : z_RG P X M R F n1 n2 pc l st μ := by
  obtain ⟨hd, rfl⟩ := hd
  intro p e s m args below meth c C H locs ls h1 h2 h3 h4
  exact lv_aload_n C.1 C.2.1 hd hi (h3.2.2 _ _ hl).1 (k p e s m args below meth c C H locs ls h1 h2 h3 (z_o (h3.2.2 _ _ hl).2 h4))
theorem zg_istore_n {pc' : Nat} {n : Fin 4} {i : Nat} {l' : List (Option zV)} {x : Int32} (hd : zD M.2.1 pc (.istore_n n) 1 pc') (hi : (n : Nat) = i) (hn : i < M.2.2.1) (hl : z_set l i (zI x) = l') (k : z_RG P X M R F n1 n2 pc' l' st μ) : z_RG P X M R F n1 n2 pc l (zI x :: st) μ := by
  obtain ⟨hd, rfl⟩ := hd
  intro p e s m args below meth c C H locs ls h1 h2 h3 h4
  subst hl
  exact lv_istore_n C.1 C.2.1 hd hi h3.has hn rfl (fun ls' hh => k p e s m args below meth c C H locs ls' h1 h2 (h3.set (z_h h4) hh) (z_t h4))
theorem zg_astore_n {pc' : Nat} {n : Fin 4} {i : Nat} {l' : List (Option zV)} {q j : Nat} (hd : zD M.2.1 pc (.astore_n n) 1 pc') (hi : (n : Nat) = i) (hn : i < M.2.2.1) (hl : z_set l i (zA q j) = l') (k : z_RG P X M R F n1 n2 pc' l' st μ) : z_RG P X M R F n1 n2 pc l (zA q j :: st) μ := by
  obtain ⟨hd, rfl⟩ := hd
  intro p e s m args below meth c C H locs ls h1 h2 h3 h4
  subst hl
  exact lv_astore_n C.1 C.2.1 hd hi h3.has hn rfl (fun ls' hh => k p e s m args below meth c C H locs ls' h1 h2 (h3.set (z_h h4) hh) (z_t h4))
theorem zg_iinc {pc' : Nat} {i : Nat} {n : Int} {x v : Int32} {l' : List (Option zV)} (hd : zD M.2.1 pc (.iinc i n) 3 pc') (hn : i < M.2.2.1) (hl : l[i]? = some (some (zI x))) (hv : x + Int32.ofInt n = v) (hl2 : z_set l i (zI v) = l') (k : z_RG P X M R F n1 n2 pc' l' st μ) : z_RG P X M R F n1 n2 pc l st μ := by
  obtain ⟨hd, rfl⟩ := hd
  intro p e s m args below meth c C H locs ls h1 h2 h3 h4
  subst hl2
  obtain ⟨kk, hk⟩ := List.getElem?_of_mem (z_pl_mem (P := P) (l := l) (q := (i, .int x)) |>.mpr ⟨zI x, hl, rfl⟩)
  exact lv_iinc C.1 C.2.1 hd h3.has hk hv hn rfl (fun ls' hh => k p e s m args below meth c C H locs ls' h1 h2 (h3.set (v := zI v) trivial hh) h4)
theorem zg_icmp_ge {pc' : Nat} {x y : Int32} {off : Int} {tgt : Nat} (hd : zD M.2.1 pc (.if_icmp .ge off) 3 pc') (ht : (pc : Int) + off = (tgt : Int)) (ky : x < y → z_RG P X M R F n1 n2 pc' l st μ) (kn : ¬ x < y → z_RG P X M R F n1 n2 tgt l st μ) : z_RG P X M R F n1 n2 pc l (zI y :: zI x :: st) μ := by
  obtain ⟨hd, rfl⟩ := hd
  intro p e s m args below meth c C H locs ls h1 h2 h3 h4
  exact lv_icmp_ge C.1 C.2.1 hd ht (fun h => kn (Int32.not_lt.mpr h) p e s m args below meth c C H locs ls h1 h2 h3 (z_t (z_t h4))) (fun h => ky (Int32.not_le.mp h) p e s m args below meth c C H locs ls h1 h2 h3 (z_t (z_t h4)))
theorem zg_goto {pc' : Nat} {off : Int} {tgt : Nat} (hd : zD M.2.1 pc (.goto off) 3 pc') (ht : (pc : Int) + off = (tgt : Int)) (k : z_RG P X M R F n1 n2 tgt l st μ) : z_RG P X M R F n1 n2 pc l st μ := by
  obtain ⟨hd, rfl⟩ := hd
  intro p e s m args below meth c C H locs ls h1 h2 h3 h4
  exact lv_goto C.1 C.2.1 hd ht (k p e s m args below meth c C H locs ls h1 h2 h3 h4)
end ZG
theorem zk_H.lt {P : zP} {b : Nat} {cs : List va_E} {H : Heap} (h : zk_H P b cs H) {k : Nat} {e : va_E} (hk : cs[k]? = some e) : b + k < H.size := (h.2 k e hk).lt
theorem z_hc0 (N : Nat) (cA : ClassId) : vp_cell cA (N, if (0 : Nat) = 3 then .inr (.inl fun _ => 0) else .inl fun _ => 0) = arrV cA N (fun _ => defaultValue (newarray.typeOf .int)) := rfl
theorem z_hc1 (N : Nat) (cA : ClassId) : vp_cell cA (N, if (1 : Nat) = 3 then .inr (.inl fun _ => 0) else .inl fun _ => 0) = arrV cA N (fun _ => defaultValue (newarray.typeOf .byte)) := rfl
theorem z_hc2 (N : Nat) (cA : ClassId) : vp_cell cA (N, if (2 : Nat) = 3 then .inr (.inl fun _ => 0) else .inl fun _ => 0) = arrV cA N (fun _ => defaultValue (newarray.typeOf .boolean)) := rfl
theorem z_hc3 (N : Nat) (cA : ClassId) : vp_cell cA (N, if (3 : Nat) = 3 then .inr (.inl fun _ => 0) else .inl fun _ => 0) = arrV cA N (fun _ => defaultValue (newarray.typeOf .long)) := rfl
/-- one cell more at the end -/
theorem zk_H.push {P : zP} {b : Nat} {cs : List va_E} {H H1 : Heap} {e : va_E} (h : zk_H P b cs H) (hz : H1.size = H.size + 1) (ho : ∀ q, q < H.size → H1[q]? = H[q]?) (he : va_at (z_D P) classes (H.size, e) H1) : zk_H P b (cs ++ [e]) H1 := by
  refine ⟨by rw [hz, h.1, List.length_append]; rfl, fun k x hk => ?_⟩
  by_cases hl : k < cs.length
  · rw [List.getElem?_append_left hl] at hk
    exact (h.2 k x hk).kept (ho _ (h.lt hk))
  · rw [List.getElem?_append_right (by omega)] at hk
    have hz : k - cs.length < 1 := (List.getElem?_eq_some_iff.mp hk).1
    have ek : k = cs.length := by omega
    subst ek
    simp at hk
    subst hk
    rw [← h.1]
    exact he
/-- one cell changed -/
theorem zk_H.put {P : zP} {b : Nat} {cs : List va_E} {H H1 : Heap} {e : va_E} {j : Nat} (h : zk_H P b cs H) (hj : j < cs.length) (hz : H1.size = H.size) (ho : ∀ q, q ≠ b + j → H1[q]? = H[q]?) (he : va_at (z_D P) classes (b + j, e) H1) : zk_H P b (cs.set j e) H1 := by
  refine ⟨by rw [hz, h.1, List.length_set], fun k x hk => ?_⟩
  by_cases hkj : k = j
  · subst hkj
    rw [List.getElem?_set] at hk
    simp [hj] at hk
    subst hk
    exact he
  · rw [List.getElem?_set_ne (fun q => hkj q.symm)] at hk
    exact (h.2 k x hk).kept (ho _ (by omega))
section ZK
variable {P : zP} {X : State → Method → Prop} {M : zM} {R : Room} {F : zF} {n1 n2 pc pc' b : Nat} {l : List (Option zV)} {st : List zV} {cs : List va_E}
theorem z_SpushA {P : zP} {H0 H H1 : Heap} {locs : List Loc} (h : va_S (z_A P) H0 H locs) (hz : H1.size = H.size + 1) (ho : ∀ q, q < H.size → H1[q]? = H[q]?) : va_S (z_A P) H0 H1 locs := ⟨by rw [hz]; exact Nat.le_succ_of_le h.1, fun q h1 h2 => (ho q (Nat.lt_of_lt_of_le h1 h.1)).trans (h.2.1 q h1 h2), h.2.2⟩
theorem zk_okP {v : zV} : z_ok (zk_P P b) v := by
  match v with
  | .inl _ => trivial
  | .inr (.inl _) => trivial
  | .inr (.inr _) => exact fun _ => trivial
theorem zk_newa {at_ : ArrayType} {t N k : Nat} {n : Int32} (hd : zD M.2.1 pc (.newarray at_) 2 pc') (hw : Cond.arrayClass (newarray.typeOf at_) ∈ lw_gd) (ht : (z_tys (zk_P P b))[t]? = some (z_cA P t, newarray.typeOf at_)) (hne : ∀ c, newarray.typeOf at_ ≠ .object c) (hc : ∀ cA : ClassId, vp_cell cA (N, if t = 3 then .inr (.inl fun _ => 0) else .inl fun _ => 0) = arrV cA N (fun _ => defaultValue (newarray.typeOf at_))) (hn : ¬ n < 0) (hN : n.toNatClampNeg = N) (hby : N * componentBytes (newarray.typeOf at_) ≤ 536870912) (hk : cs.length = k) (hc1 : n1 + 1 ≤ R.cells) (hs1 : n2 + N ≤ R.slots)
    (kk : z_RG (zk_P P b) X M R F (n1 + 1) (n2 + N) pc' l (zA 0 k :: st) (zk_H P b (cs ++ [zk_z P t N]))) : z_RG (zk_P P b) X M R F n1 n2 pc l (zI n :: st) (zk_H P b cs) := by
  obtain ⟨hd, rfl⟩ := hd
  intro p e s m args below meth c C H locs ls h1 h2 h3 h4
  refine va_newaK C.1 C.2.1 (C.2.2.2.2.2.1 _ hw) rfl hd rfl hn hN hby hc1 hs1 rfl fun H1 cA e1 z1 o1 hAr hNm => ?_
  have hcA : cA = z_cA P t := by
    have h := (C.2.2.2.2.2.2.2.1.2 t _ ht).2
    have h' : s.vm.findClass ("[" ++ (newarray.typeOf at_).toString) = some (z_cA P t) := by
      cases at_ <;> exact h
    exact Option.some.inj (hNm.symm.trans h')
  subst hcA
  have e0 : z_cv (zk_P P b) (zA 0 k) = .ref H.size := by
    show Value.ref (b + k) = _
    rw [h1.1, hk]
  have g := kk p e s m args below meth c C H1 locs ls (h1.push z1 o1 (by show H1[H.size]? = some (vp_cell _ _); rw [hc]; exact e1)) (z_SpushA h2 z1 o1) h3 (z_o zk_okP (z_t h4))
  rw [List.map_cons, e0] at g
  exact g
theorem zk_new {idx ci k N : Nat} {C T} {fs : List Value} (hd : zD M.2.1 pc (.new idx) 3 pc') (hcl : classes[ci]? = some (C, T, N)) (hl : Cond.classLink M.1 idx C ∈ lw_gd) (hi : Cond.instantiable C N ∈ lw_gd) (hini : Cond.initialized C ∈ lw_gd) (hfs : ∀ ty : Nat → FieldType, (∀ k, k < N → parseFieldDescriptor (T k).2.2.1 = some (ty k)) → ∀ j, j < N → defaultValue (ty j) = vp_V fs j) (hk : cs.length = k) (hc1 : n1 + 1 ≤ R.cells) (hs1 : n2 + N ≤ R.slots)
    (kk : z_RG (zk_P P b) X M R F (n1 + 1) (n2 + N) pc' l (zA 0 k :: st) (zk_H P b (cs ++ [.inr (ci, fs)]))) : z_RG (zk_P P b) X M R F n1 n2 pc l st (zk_H P b cs) := by
  obtain ⟨hd, rfl⟩ := hd
  intro p e s m args below meth c C0 H locs ls h1 h2 h3 h4
  have hts := C0.2.2.2.2.2.1
  have hKn := C0.2.2.2.2.2.2.2.1.1 ci _ hcl
  obtain ⟨hin, ty, hty, -⟩ := z_cls hcl
  refine W.newcK C0.1 C0.2.1 C0.2.2.2.2.1 (hts _ hl) (hts _ hi) (hts _ hini) rfl hd hc1 hs1 hKn.2.1 rfl fun H1 kC hkC e1 z1 o1 => ?_
  have e0 : z_cv (zk_P P b) (zA 0 k) = .ref H.size := by
    show Value.ref (b + k) = _
    rw [h1.1, hk]
  have g := kk p e s m args below meth c C0 H1 locs ls (h1.push z1 o1 ⟨_, hcl, (u_born ty hts hin hKn hkC e1 hty).to (hfs ty hty)⟩) (z_SpushA h2 z1 o1) h3 (z_o zk_okP h4)
  rw [List.map_cons, e0] at g
  exact g
theorem zk_anewa {idx k N : Nat} {n : Int32} (hX : ∀ s meth, X s meth → va_AO zR5 s) (hd : zD M.2.1 pc (.anewarray idx) 3 pc') (hl : Cond.classLink M.1 idx zR5 ∈ lw_gd) (hn : ¬ n < 0) (hN : n.toNatClampNeg = N) (hby : N * 4 ≤ 536870912) (hk : cs.length = k) (hc1 : n1 + 1 ≤ R.cells) (hs1 : n2 + N ≤ R.slots)
    (kk : z_RG (zk_P P b) X M R F (n1 + 1) (n2 + N) pc' l (zA 0 k :: st) (zk_H P b (cs ++ [.inl (z_cA P 4, N, .inr (.inr (.inr (.inr fun _ => none))))]))) : z_RG (zk_P P b) X M R F n1 n2 pc l (zI n :: st) (zk_H P b cs) := by
  obtain ⟨hd, rfl⟩ := hd
  subst hN
  intro p e s m args below meth c C H locs ls h1 h2 h3 h4
  refine W.anew C.1 C.2.1 C.2.2.2.2.1 (C.2.2.2.2.2.1 _ hl) (va_AO.use (hX _ _ C.2.2.2.2.2.2.2.2)) rfl hd rfl hn hby hc1 hs1 fun cA kA comp f1 f2 f3 f4 => ?_
  generalize hH1 : H.push ({ cls := cA, slots := Array.replicate n.toNatClampNeg .null, vm := .none } : Cell) = H1
  have z1 : H1.size = H.size + 1 := by rw [← hH1, Array.size_push]
  have e1 : H1[H.size]? = some (arrV cA n.toNatClampNeg (fun _ => .null)) := by rw [← hH1, Array.getElem?_push_size, ← arrV_new]
  have o1 : ∀ q : Nat, q < H.size → H1[q]? = H[q]? := fun q hq => by rw [← hH1, Array.getElem?_push, if_neg (Nat.ne_of_lt hq)]
  have hcA : cA = z_cA P 4 := by
    obtain ⟨kA', comp', -, -, -, h⟩ := (C.2.2.2.2.2.2.2.1.2 4 _ rfl).2
    exact Option.some.inj (f1.symm.trans h)
  subst hcA
  have e0 : z_cv (zk_P P b) (zA 0 k) = .ref H.size := by
    show Value.ref (b + k) = _
    rw [h1.1, hk]
  have g := kk p e s m args below meth c C H1 locs ls (h1.push z1 o1 (by show H1[H.size]? = some (vp_cell _ _); rw [vp_cell_q]; exact e1)) (z_SpushA h2 z1 o1) h3 (z_o zk_okP (z_t h4))
  rw [List.map_cons, e0] at g
  exact g
/-- a field of the cell j is written, in a constructor -/
theorem zk_put {idx ci k j N : Nat} {C T} {fs : List Value} {v : zV} {cs' : List va_E} {ty : FieldType} (hX : ∀ s meth, X s meth → meth.name = "<init>") (hd : zD M.2.1 pc (.putfield idx) 3 pc') (hj : cs[j]? = some (.inr (ci, fs))) (hcl : classes[ci]? = some (C, T, N)) (hkN : k < N) (hl : Cond.fieldLink M.1 idx (T k).1 (T k).2.1 (T k).2.2.1 ∈ lw_gd) (hown : (T k).1 = M.1) (hty : parseFieldDescriptor (T k).2.2.1 = some ty) (hn : narrow ty (z_cv (zk_P P b) v) = z_cv (zk_P P b) v) (hfit : fits ty (z_cv (zk_P P b) v) = true) (hlen : k < fs.length) (hcs : cs.set j (.inr (ci, fs.set k (z_cv (zk_P P b) v))) = cs')
    (kk : z_RG (zk_P P b) X M R F n1 n2 pc' l st (zk_H P b cs')) : z_RG (zk_P P b) X M R F n1 n2 pc l (v :: zA 0 j :: st) (zk_H P b cs) := by
  obtain ⟨hd, rfl⟩ := hd
  subst hcs
  intro p e s m args below meth c C0 H locs ls h1 h2 h3 h4
  have hts := C0.2.2.2.2.2.1
  have hK := C0.2.2.2.2.2.2.2.1
  obtain ⟨r, hr1, cell, q1, q2, q3, q4⟩ := h1.2 j _ hj
  have hrq : r = (C, T, N) := Option.some.inj (hr1.symm.trans hcl)
  subst hrq
  obtain ⟨hin, ty0, hty0, hnm⟩ := z_cls hcl
  have hap := va_apart (own := M.1) hts hin ty0 hty0 hnm hK hcl
  obtain ⟨hS, hfc, kC, hkC, hkind⟩ := hK.1 ci _ hcl
  obtain ⟨cf, kf, fi, fd, hi, hsl⟩ := hS k hkN
  have hst := (u_facts hfc hkC (u_lays hts hin hkN) hi).1
  have hlay := hts _ (hin _ (u_in_lay hkN))
  unfold u_lay at hlay
  have hjl : j < cs.length := (List.getElem?_eq_some_iff.mp hj).1
  have fin : ∀ H' : Heap, H'[b + j]? = some (cell.setSlot fd.slot (z_cv (zk_P P b) v)) → H'.size = H.size → (∀ q, q ≠ b + j → H'[q]? = H[q]?) → W p (z_l P) e R s m args below meth c H' (locs ++ [⟨b + j, fd.slot⟩]) n1 n2 (F s m args below) (F0 m (pc + 3) ls (st.map (z_cv (zk_P P b)))) := by
    intro H' e1 e2 e3
    rw [hsl] at e1 ⊢
    refine kk p e s m args below meth c C0 H' _ ls (h1.put hjl e2 e3 ⟨_, hcl, t_OB.to (V := updV (vp_V fs) k (z_cv (zk_P P b) v)) ⟨_, e1, q2, q3, t_set q4 hap hkN _⟩ (fun j' _ => vp_updV_set hlen _ j')⟩) (h2.put e2 e3 (Nat.le_add_right b j)) h3 (z_t (z_t h4))
  by_cases hf : (T k).2.2.2 = true
  · rw [if_pos hf] at hlay
    have hcf : m.cls = cf := by
      obtain ⟨_, _, c', _, _, _, -, -, hf', -, -, -, hown2, -⟩ := Cond.laysFinal_spec hlay
      have e1 : c' = cf := by have := hi.symm.trans hf'; simp at this; exact this.1.symm
      rw [hown] at hown2
      rw [← e1]; exact Option.some.inj (C0.2.2.2.2.1.symm.trans hown2)
    have h6 := u_fits hfc hkC hkind (Or.inr hlay) hi hty hn hfit
    exact W.putFinK C0.1 C0.2.1 C0.2.2.2.2.1 (hts _ hl) hi hst hcf (hX _ _ C0.2.2.2.2.2.2.2.2) (by rw [q2]; exact h6) q1 q3 (by rw [hsl]; exact k2_hasslot (q4 k hkN)) rfl rfl hd fin
  · rw [if_neg hf] at hlay
    have h6 := u_store hfc hkC hkind hlay hi hty hn hfit
    exact W.putK C0.1 C0.2.1 (f := fd) ⟨C0.2.2.2.2.1, hts _ hl, ⟨_, _, _, hi⟩, hst⟩ (by rw [q2]; exact h6) q1 q3 (by rw [hsl]; exact k2_hasslot (q4 k hkN)) rfl rfl hd fin
/-- a reference field of the cell j is read -/
theorem zk_get {idx ci k j i N : Nat} {C T} {fs : List Value} (hd : zD M.2.1 pc (.getfield idx) 3 pc') (hj : cs[j]? = some (.inr (ci, fs))) (hcl : classes[ci]? = some (C, T, N)) (hkN : k < N) (hl : Cond.fieldLink M.1 idx (T k).1 (T k).2.1 (T k).2.2.1 ∈ lw_gd) (hv : fs[k]? = some (.ref (b + i)))
    (kk : z_RG (zk_P P b) X M R F n1 n2 pc' l (zA 0 i :: st) (zk_H P b cs)) : z_RG (zk_P P b) X M R F n1 n2 pc l (zA 0 j :: st) (zk_H P b cs) := by
  obtain ⟨hd, rfl⟩ := hd
  intro p e s m args below meth c C0 H locs ls h1 h2 h3 h4
  have hts := C0.2.2.2.2.2.1
  exact va_get (D := z_D P) (own := M.1) (ref := (T k).1) (C := C) (T := T) (N := N) (ci := ci) (fs := fs) C0.1 C0.2.1 hts (z_cls hcl).1 C0.2.2.2.2.1 C0.2.2.2.2.2.2.2.1 (z_one (h1.2 j _ hj)) 0 rfl hcl k hkN (hts _ hl) (fun _ h => h) hv hd (kk p e s m args below meth c C0 H locs ls h1 h2 h3 (z_o zk_okP (z_t h4)))
/-- Object.<init> -/
theorem zk_objInit {idx q i : Nat} (hd : zD M.2.1 pc (.invokespecial idx) 3 pc') (hl : Cond.methodLink M.1 idx objectInit ∈ lw_gd) (hi : Cond.instanceMethod objectInit ∈ lw_gd) (hc : Cond.code objectInit ⟨#[0xb1]⟩ 1 none ∈ lw_gd) (hf : 1 ≤ R.frames) (hlo : z_w st + 12 ≤ R.locals) {Wd : Heap → Prop}
    (kk : z_RG P X M R F n1 n2 pc' l st Wd) : z_RG P X M R F n1 n2 pc l (zA q i :: st) Wd := by
  obtain ⟨hd, rfl⟩ := hd
  intro p e s m args below meth c C0 H locs ls h1 h2 h3 h4
  have hts := C0.2.2.2.2.2.1
  exact W.objInit C0.1 C0.2.1 C0.2.2.2.2.1 (hts _ hl) (hts _ hi) (hts _ hc) rfl (by rw [C0.2.2.2.1]; exact h3.1) rfl hd hf (by rw [z_w_ok]; show 2 * 0 + _ + 12 ≤ _; omega) (kk p e s m args below meth c C0 H locs ls h1 h2 h3 (z_t h4))
end ZK
