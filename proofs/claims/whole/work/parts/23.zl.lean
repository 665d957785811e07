/-! a world by a list of its cells: the k-th stands at b + k -/
def z_M0 : zMem := (fun _ _ _ => 0, fun _ _ _ => 0, fun _ _ _ => 0)
def zl_P (P : zP) (b : Nat) (L : List (Nat × Nat)) : zP := (z_l P, z_D P, fun c i => if 90 ≤ c ∧ c < 100 then z_ad P c i else b + L.idxOf (c, i), fun c i => (c, i) ∈ L, z_cA P, b, z_sl P, z_xs P, b + L.length)
def zl_ref (L : List (Nat × Nat)) (q : Nat × Nat) : Bool := match z_obj q.1 with
  | some o => o.2.all fun f => if f.1 = 2 then L.contains (f.2.1, f.2.2 q.2) else true
  | none => if z_el q.1 = 4 then (List.range (z_len q.1 q.2)).all fun k => L.contains (z_tgt q.1 k) else true
def zl_ok (L : List (Nat × Nat)) : Bool := L.all fun q => (decide (q.1 < 90 ∨ 100 ≤ q.1)) && zl_ref L q
theorem zl_no {L : List (Nat × Nat)} (h : zl_ok L = true) {c i : Nat} (hc : (c, i) ∈ L) : ¬ (90 ≤ c ∧ c < 100) := by
  have := List.all_eq_true.mp h _ hc
  rw [Bool.and_eq_true, decide_eq_true_iff] at this
  have h1 : c < 90 ∨ 100 ≤ c := this.1
  omega
theorem zl_ad {P : zP} {b : Nat} {L : List (Nat × Nat)} (h : zl_ok L = true) {c i : Nat} (hc : (c, i) ∈ L) : z_ad (zl_P P b L) c i = b + L.idxOf (c, i) := if_neg (zl_no h hc)
theorem zl_idx {L : List (Nat × Nat)} {q : Nat × Nat} (h : q ∈ L) : L[L.idxOf q]? = some q := by
  have hl := List.idxOf_lt_length_of_mem h
  rw [List.getElem?_eq_getElem hl, List.getElem_idxOf hl]
theorem zl_G {P : zP} {b : Nat} {L : List (Nat × Nat)} (h : zl_ok L = true) : z_G (zl_P P b L) := by
  refine ⟨fun c i c' i' h1 h2 e => ?_, fun c i h1 => ?_, fun c i o k f h1 ho hf hf2 => ?_, fun c i k h1 he hk => ?_⟩
  · rw [zl_ad h h1, zl_ad h h2] at e
    have e2 : L.idxOf (c, i) = L.idxOf (c', i') := by omega
    have a1 := zl_idx h1
    have a2 := zl_idx h2
    rw [e2, a2] at a1
    have := Option.some.inj a1
    exact ⟨(Prod.mk.inj this).1.symm, (Prod.mk.inj this).2.symm⟩
  · rw [zl_ad h h1]
    exact Nat.le_add_right _ _
  · have := List.all_eq_true.mp h _ h1
    rw [Bool.and_eq_true] at this
    have h2 := this.2
    unfold zl_ref at h2
    rw [show z_obj (c, i).1 = some o from ho] at h2
    have h3 := List.all_eq_true.mp h2 f (List.mem_of_getElem? hf)
    rw [if_pos hf2] at h3
    exact List.contains_iff_mem.mp h3
  · have := List.all_eq_true.mp h _ h1
    rw [Bool.and_eq_true] at this
    have h2 := this.2
    unfold zl_ref at h2
    have ho : z_obj c = none := by
      cases ho : z_obj c with
      | none => rfl
      | some o =>
        have hc := z_obj_lt ho
        exfalso
        revert he
        match c, hc with
        | 0, _ => decide
        | 1, _ => decide
        | 2, _ => decide
        | 3, _ => decide
        | 4, _ => decide
        | 5, _ => decide
        | 6, _ => decide
        | 7, _ => decide
        | 8, _ => decide
        | 9, _ => decide
    rw [show z_obj (c, i).1 = none from ho] at h2
    simp only at h2
    rw [if_pos he] at h2
    exact List.contains_iff_mem.mp (List.all_eq_true.mp h2 k (List.mem_range.mpr hk))
/-- the dynamic references of a memory lie in the list -/
def zl_dyn (L : List (Nat × Nat)) (μ : zMem) : Prop := ∀ (c i : Nat) (o : Nat × List zFK) (k : Nat) (f : zFK), (c, i) ∈ L → z_obj c = some o → o.2[k]? = some f → f.1 = 3 → (f.2.1, μ.2.2 c i k) ∈ L
theorem zl_in {P : zP} {b : Nat} {L : List (Nat × Nat)} {μ : zMem} {H : Heap} (h : zl_ok L = true) (hd : zl_dyn L μ) (hH : zk_H P b (L.map fun q => z_enc (zl_P P b L) μ q.1 q.2) H) : z_WH (zl_P P b L) μ H := by
  refine ⟨fun c i hc => ?_, hd, by rw [hH.1, List.length_map]; rfl⟩
  rw [zl_ad h hc]
  exact hH.2 _ _ (by rw [List.getElem?_map, zl_idx hc]; rfl)
theorem zl_out {P : zP} {b : Nat} {L : List (Nat × Nat)} {μ : zMem} {H : Heap} (h : zl_ok L = true) (hn : L.Nodup) (hW : z_WH (zl_P P b L) μ H) : zk_H P b (L.map fun q => z_enc (zl_P P b L) μ q.1 q.2) H := by
  refine ⟨by rw [hW.2.2, List.length_map]; rfl, fun k e hk => ?_⟩
  rw [List.getElem?_map] at hk
  cases hq : L[k]? with
  | none => rw [hq] at hk; cases hk
  | some q =>
    rw [hq] at hk
    have hk := Option.some.inj hk
    subst hk
    have hm := List.mem_of_getElem? hq
    have := hW.1 q.1 q.2 hm
    rw [zl_ad h hm] at this
    have hl := (List.getElem?_eq_some_iff.mp hq)
    obtain ⟨hl, hqe⟩ := hl
    have e : L.idxOf q = k := by rw [← hqe]; exact hn.idxOf_getElem k hl
    rw [show (q.1, q.2) = q from rfl, e] at this
    exact this
/-- from a constructor's walk to the walk over the list's world, in the same frame -/
theorem zk_toRQ {P : zP} {b n1 n2 pc c0 : Nat} {L : List (Nat × Nat)} {M : zM} {R : Room} {F : zF} {μ : zMem} {cs : List va_E} {l : List (Option zV)} (h : zl_ok L = true) (hd : zl_dyn L μ) (hc : cs = L.map fun q => z_enc (zl_P P b L) μ q.1 q.2) (h0 : L[0]? = some (c0, 0)) (hl : l = some (zA 0 0) :: List.replicate (M.2.2.1 - 1) none) (k : z_RQ (zl_P P b L) M R F n1 n2 pc (some (zA c0 0) :: List.replicate (M.2.2.1 - 1) none) [] μ) : z_RG (zk_P P b) (zk_X P b) M R F n1 n2 pc l [] (zk_H P b cs) := by
  subst hc hl
  intro p e s m args below meth c C H locs ls h1 h2 h3 h4
  have hRO : z_RO (zl_P P b L) s := C.2.2.2.2.2.2.2.2.2.2
  have hm : (c0, 0) ∈ L := List.mem_of_getElem? h0
  refine k p e s m args below meth c ⟨C.1, C.2.1, C.2.2.1, C.2.2.2.1, C.2.2.2.2.1, C.2.2.2.2.2.1, C.2.2.2.2.2.2.1, C.2.2.2.2.2.2.2.1, hRO, zl_G h⟩ H locs ls (zl_in h hd h1) h2 ⟨h3.1, h3.2.1, fun i v hi => ?_⟩ (fun _ hv => by cases hv)
  match i, hi with
  | 0, hi =>
    cases hi
    refine ⟨?_, fun _ => hm⟩
    have e0 : z_ad (zl_P P b L) c0 0 = b := by
      rw [zl_ad h hm]
      have : L.idxOf (c0, 0) = 0 := by
        match L, h0 with
        | q :: L', h0 =>
          have : q = (c0, 0) := Option.some.inj h0
          subst this
          simp
      rw [this]
      rfl
    have := (h3.2.2 0 (zA 0 0) rfl).1
    rw [this]
    show some (Slot.val (Value.ref (b + 0))) = some (Slot.val (Value.ref (z_ad (zl_P P b L) c0 0)))
    rw [e0]
    rfl
  | i + 1, hi =>
    rw [List.getElem?_cons_succ, List.getElem?_replicate] at hi
    split at hi
    · cases hi
    · cases hi
/-- the constructor's end, out of the list's world -/
theorem zk_retQ {P : zP} {b n1 n2 pc pc' : Nat} {L : List (Nat × Nat)} {M : zM} {R : Room} {μ : zMem} {l : List (Option zV)} (h : zl_ok L = true) (hn : L.Nodup) (hd : zD M.2.1 pc (.return_) 1 pc') (hr : M.2.2.2 = none) : z_RQ (zl_P P b L) M R (zk_F P b (L.map fun q => z_enc (zl_P P b L) μ q.1 q.2) n1 n2) n1 n2 pc l [] μ := by
  obtain ⟨hd, rfl⟩ := hd
  intro p e s m args below meth c C H locs ls h1 h2 h3 h4
  exact W.vret C.1 C.2.1 (C.2.2.1.trans hr) (fun t ht hW => ⟨⟨(), rfl, trivial, by show zk_H P b _ t.heap; rw [ht]; exact zl_out h hn h1⟩, va_S.F (A := fun q => b ≤ q) h2 ht⟩) h2.2.2 hd C.2.2.2.2.2.2.1
theorem zl_dyn0 {L : List (Nat × Nat)} {μ : zMem} (h : (L.all fun q => match z_obj q.1 with | some o => o.2.all (fun f => decide (f.1 ≠ 3)) | none => true) = true) : zl_dyn L μ := by
  intro c i o k f hm ho hf h3
  have := List.all_eq_true.mp h _ hm
  rw [show z_obj (c, i).1 = some o from ho] at this
  have h2 := List.all_eq_true.mp this f (List.mem_of_getElem? hf)
  exact absurd h3 (of_decide_eq_true h2)
