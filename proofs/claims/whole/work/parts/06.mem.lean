/-! rows that read and write cells -/
theorem z_obj_lt {c : Nat} {o : Nat × List zFK} (h : z_obj c = some o) : c < 10 := by
  unfold z_obj at h
  split at h <;> first | omega | (cases h)
/-- the field k of the cells of shape c, by the pool's entry idx of the class own -/
def z_FW (own : String) (idx c k : Nat) (f : zFK) : Prop := ∃ (o : Nat × List zFK) (q : vw_C), z_obj c = some o ∧ o.2[k]? = some f ∧ classes[o.1]? = some q ∧ k < q.2.2 ∧ Cond.fieldLink own idx (q.2.1 k).1 (q.2.1 k).2.1 (q.2.1 k).2.2.1 ∈ lw_gd
theorem z_enc_obj {P : zP} {μ : zMem} {c i : Nat} {o : Nat × List zFK} (h : z_obj c = some o) : z_enc P μ c i = .inr (o.1, o.2.mapIdx fun k f => z_fv P μ c i k f) := by
  unfold z_enc
  rw [h]
theorem z_enc_arr {P : zP} {μ : zMem} {c i : Nat} (h : z_obj c = none) : z_enc P μ c i = .inl (z_cA P (z_el c), z_arr P μ c i) := by
  unfold z_enc
  rw [h]
section ZM
variable {P : zP} {M : zM} {R : Room} {F : zF} {n1 n2 pc : Nat} {l : List (Option zV)} {st : List zV} {μ : zMem}
theorem z_exO {c i : Nat} (h : z_ok P (zA c i)) (hc : c < 10) : z_ex P c i := h (Or.inl (by omega))
theorem zr_get {pc' : Nat} {idx c i k : Nat} {f : zFK} {v : zV} (hd : zD M.2.1 pc (.getfield idx) 3 pc') (hf : z_FW M.1 idx c k f) (hv : z_cv P v = z_fv P μ c i k f) (hk : z_G P → z_ex P c i → (∀ o, z_obj c = some o → o.2[k]? = some f → f.1 = 3 → z_ex P f.2.1 (μ.2.2 c i k)) → z_ok P v)
    (kk : z_RQ P M R F n1 n2 pc' l (v :: st) μ) : z_RQ P M R F n1 n2 pc l (zA c i :: st) μ := by
  obtain ⟨hd, rfl⟩ := hd
  intro p e s m args below meth c0 C H locs ls h1 h2 h3 h4
  obtain ⟨o, q, ho, hof, hq, hkq, hw⟩ := hf
  have he := z_exO (z_h h4) (z_obj_lt ho)
  have hat := h1.1 c i he
  have hP : va_P (z_D P) classes [(z_ad P c i, z_enc P μ c i)] H := fun j x hx => by
    match j, hx with
    | 0, hx => cases hx; exact hat
    | j + 1, hx => cases hx
  refine va_get (own := M.1) (ref := (q.2.1 k).1) (C := q.1) (T := q.2.1) (N := q.2.2) (ci := o.1) (fs := o.2.mapIdx fun k f => z_fv P μ c i k f) C.1 C.2.1 C.2.2.2.2.2.1 (z_cls hq).1 C.2.2.2.2.1 C.2.2.2.2.2.2.2.1 hP 0 (by rw [z_enc_obj ho]; rfl) hq k hkq (C.2.2.2.2.2.1 _ hw) (fun _ h => h) (v := z_cv P v) (by rw [List.getElem?_mapIdx, hof, hv]; rfl) hd ?_
  exact kk p e s m args below meth c0 C H locs ls h1 h2 h3 (z_o (hk C.2.2.2.2.2.2.2.2.2 he (fun o' ho' hof' h3' => h1.2.1 c i o' k f he ho' hof' h3')) (z_t h4))
theorem zr_geti {pc' : Nat} {idx c i k : Nat} {f : zFK} (hd : zD M.2.1 pc (.getfield idx) 3 pc') (hf : z_FW M.1 idx c k f) (ht : f.1 ≤ 1) (kk : z_RQ P M R F n1 n2 pc' l (zI (μ.1 c i k) :: st) μ) : z_RQ P M R F n1 n2 pc l (zA c i :: st) μ :=
  zr_get hd hf (v := zI (μ.1 c i k)) (by unfold z_fv; rw [if_neg (by omega), if_neg (by omega)]; rfl) (fun _ _ _ => trivial) kk
theorem zr_gets {pc' : Nat} {idx c i k c' i' : Nat} {g : Nat → Nat} (hd : zD M.2.1 pc (.getfield idx) 3 pc') (hf : z_FW M.1 idx c k (2, c', g)) (hi : g i = i') (kk : z_RQ P M R F n1 n2 pc' l (zA c' i' :: st) μ) : z_RQ P M R F n1 n2 pc l (zA c i :: st) μ := by
  subst hi
  refine zr_get hd hf (v := zA c' (g i)) (by unfold z_fv; rw [if_pos rfl]; rfl) (fun hG he _ _ => ?_) kk
  obtain ⟨o, q, ho, hof, -⟩ := hf
  exact hG.2.2.1 c i o k _ he ho hof rfl
theorem zr_getd {pc' : Nat} {idx c i k c' : Nat} {g : Nat → Nat} (hd : zD M.2.1 pc (.getfield idx) 3 pc') (hf : z_FW M.1 idx c k (3, c', g)) (kk : z_RQ P M R F n1 n2 pc' l (zA c' (μ.2.2 c i k) :: st) μ) : z_RQ P M R F n1 n2 pc l (zA c i :: st) μ := by
  refine zr_get hd hf (v := zA c' (μ.2.2 c i k)) (by unfold z_fv; rw [if_neg (show ¬ (3 : Nat) = 2 by decide), if_pos rfl]; rfl) (fun hG he hr _ => ?_) kk
  obtain ⟨o, q, ho, hof, -⟩ := hf
  exact hr o ho hof rfl
/-- a field is written: any kind -/
theorem zr_put {pc' : Nat} {idx c i k : Nat} {f : zFK} {v : zV} {μ' : zMem} (hd : zD M.2.1 pc (.putfield idx) 3 pc') (hf : z_FW M.1 idx c k f) (hfin : ∀ o q, z_obj c = some o → classes[o.1]? = some q → (q.2.1 k).2.2.2 = false) (hty : ∀ o q, z_obj c = some o → classes[o.1]? = some q → ∃ ty, parseFieldDescriptor (q.2.1 k).2.2.1 = some ty ∧ narrow ty (z_cv P v) = z_cv P v ∧ fits ty (z_cv P v) = true)
    (hm : ∀ a b, ¬ (a = c ∧ b = i) → z_enc P μ' a b = z_enc P μ a b) (hv : ∀ j f', z_fv P μ' c i j f' = if j = k then z_fv P μ' c i k f' else z_fv P μ c i j f') (hv2 : z_fv P μ' c i k f = z_cv P v)
    (hr : (∀ (a b : Nat) (o : Nat × List zFK) (k : Nat) (f : zFK), z_ex P a b → z_obj a = some o → o.2[k]? = some f → f.1 = 3 → z_ex P f.2.1 (μ.2.2 a b k)) → z_ok P v → ∀ (a b : Nat) (o : Nat × List zFK) (k : Nat) (f : zFK), z_ex P a b → z_obj a = some o → o.2[k]? = some f → f.1 = 3 → z_ex P f.2.1 (μ'.2.2 a b k))
    (kk : z_RQ P M R F n1 n2 pc' l st μ') : z_RQ P M R F n1 n2 pc l (v :: zA c i :: st) μ := by
  obtain ⟨hd, rfl⟩ := hd
  intro p e s m args below meth c0 C H locs ls h1 h2 h3 h4
  obtain ⟨o, q, ho, hof, hq, hkq, hw⟩ := hf
  have he := z_exO (z_h (z_t h4)) (z_obj_lt ho)
  have hat := h1.1 c i he
  rw [z_enc_obj ho] at hat
  obtain ⟨r, hr1, cell, q1, q2, q3, q4⟩ := hat
  have hrq : r = q := Option.some.inj (hr1.symm.trans hq)
  subst hrq
  have hts := C.2.2.2.2.2.1
  have hK := C.2.2.2.2.2.2.2.1
  obtain ⟨hin, ty0, hty0, hnm⟩ := z_cls hq
  have hap := va_apart (own := M.1) hts hin ty0 hty0 hnm hK hq
  obtain ⟨hS, hfc, kC, hkC, hkind⟩ := hK.1 o.1 _ hq
  obtain ⟨cf, kf, fi, fd, hi, hsl⟩ := hS k hkq
  obtain ⟨ty, hdty, hn, hfit⟩ := hty o r ho hq
  have hlay := hts _ (hin _ (u_in_lay hkq))
  unfold u_lay at hlay
  rw [if_neg (by rw [hfin o r ho hq]; decide)] at hlay
  have hst := (u_facts hfc hkC (u_lays hts hin hkq) hi).1
  have h6 := u_store hfc hkC hkind hlay hi hdty hn hfit
  refine W.putK C.1 C.2.1 (f := fd) ⟨C.2.2.2.2.1, hts _ hw, ⟨_, _, _, hi⟩, hst⟩ (by rw [q2]; exact h6) q1 q3 (by rw [hsl]; exact k2_hasslot (q4 k hkq)) rfl rfl hd fun H' e1 e2 e3 => ?_
  rw [hsl] at e1 ⊢
  refine kk p e s m args below meth c0 C H' _ ls (h1.upd C.2.2.2.2.2.2.2.2.2 he ?_ e3 hm (hr h1.2.1 (z_h h4)) e2) (h2.put e2 e3 (C.2.2.2.2.2.2.2.2.2.2.1 c i he)) h3 (z_t (z_t h4))
  rw [z_enc_obj ho]
  refine ⟨_, hq, t_OB.to (V := updV (vp_V (o.2.mapIdx fun k f => z_fv P μ c i k f)) k (z_cv P v)) ⟨_, e1, q2, q3, t_set q4 hap hkq (z_cv P v)⟩ (fun j hj => ?_)⟩
  show (if j = k then z_cv P v else vp_V _ j) = vp_V _ j
  unfold vp_V
  by_cases hjk : j = k
  · subst hjk
    rw [if_pos rfl, List.getD_eq_getElem?_getD, List.getElem?_mapIdx, hof]
    exact hv2.symm
  · rw [if_neg hjk, List.getD_eq_getElem?_getD, List.getD_eq_getElem?_getD, List.getElem?_mapIdx, List.getElem?_mapIdx]
    cases o.2[j]? with
    | none => rfl
    | some f' =>
      show z_fv P μ c i j f' = z_fv P μ' c i j f'
      rw [hv j f', if_neg hjk]
/-- a field that may be written, and its type -/
def z_PW (c k : Nat) (ty : FieldType) : Prop := ∀ o q, z_obj c = some o → classes[o.1]? = some q → (q.2.1 k).2.2.2 = false ∧ parseFieldDescriptor (q.2.1 k).2.2.1 = some ty
theorem zr_puti {pc' : Nat} {idx c i k : Nat} {g : Nat × (Nat → Nat)} {x : Int32} (hd : zD M.2.1 pc (.putfield idx) 3 pc') (hf : z_FW M.1 idx c k (0, g)) (hp : z_PW c k .int) {μ' : zMem} (hm : μ' = z_sI μ c i k x) (kk : z_RQ P M R F n1 n2 pc' l st μ') : z_RQ P M R F n1 n2 pc l (zI x :: zA c i :: st) μ := by
  subst hm
  refine zr_put hd hf (v := zI x) (μ' := z_sI μ c i k x) (fun o q h1 h2 => (hp o q h1 h2).1) (fun o q h1 h2 => ⟨.int, (hp o q h1 h2).2, rfl, rfl⟩) (fun a b h => z_enc_uI h) (fun j f' => ?_) ?_ (fun h _ => h) kk
  · by_cases hj : j = k
    · subst hj; rw [if_pos rfl]
    · rw [if_neg hj]
      unfold z_fv z_sI
      rw [z_uI_at, show upd (μ.1 c i) k x j = μ.1 c i j from pk_un hj]
      rfl
  · unfold z_fv z_sI
    rw [if_neg (show ¬ (0 : Nat) = 2 by decide), if_neg (show ¬ (0 : Nat) = 3 by decide), z_uI_at, pk_us]
    rfl
theorem zr_putb {pc' : Nat} {idx c i k : Nat} {g : Nat × (Nat → Nat)} {x : Int32} (hd : zD M.2.1 pc (.putfield idx) 3 pc') (hf : z_FW M.1 idx c k (1, g)) (hp : z_PW c k .boolean) (hn : narrow .boolean (.int x) = .int x) (hfit : fits .boolean (.int x) = true) {μ' : zMem} (hm : μ' = z_sI μ c i k x) (kk : z_RQ P M R F n1 n2 pc' l st μ') : z_RQ P M R F n1 n2 pc l (zI x :: zA c i :: st) μ := by
  subst hm
  refine zr_put hd hf (v := zI x) (μ' := z_sI μ c i k x) (fun o q h1 h2 => (hp o q h1 h2).1) (fun o q h1 h2 => ⟨.boolean, (hp o q h1 h2).2, hn, hfit⟩) (fun a b h => z_enc_uI h) (fun j f' => ?_) ?_ (fun h _ => h) kk
  · by_cases hj : j = k
    · subst hj; rw [if_pos rfl]
    · rw [if_neg hj]
      unfold z_fv z_sI
      rw [z_uI_at, show upd (μ.1 c i) k x j = μ.1 c i j from pk_un hj]
      rfl
  · unfold z_fv z_sI
    rw [if_neg (show ¬ (1 : Nat) = 2 by decide), if_neg (show ¬ (1 : Nat) = 3 by decide), z_uI_at, pk_us]
    rfl
theorem zr_putd {pc' : Nat} {idx c i k c' i' : Nat} {g : Nat → Nat} {ty : FieldType} (hd : zD M.2.1 pc (.putfield idx) 3 pc') (hf : z_FW M.1 idx c k (3, c', g)) (hp : z_PW c k ty) (hty : ∀ a, narrow ty (.ref a) = .ref a ∧ fits ty (.ref a) = true) (hc : c' < 90) {μ' : zMem} (hm : μ' = z_sR μ c i k i') (kk : z_RQ P M R F n1 n2 pc' l st μ') : z_RQ P M R F n1 n2 pc l (zA c' i' :: zA c i :: st) μ := by
  subst hm
  refine zr_put hd hf (v := zA c' i') (μ' := z_sR μ c i k i') (fun o q h1 h2 => (hp o q h1 h2).1) (fun o q h1 h2 => ⟨ty, (hp o q h1 h2).2, (hty _).1, (hty _).2⟩) (fun a b h => z_enc_sR h) (fun j f' => ?_) ?_ (fun h hok a b o k' f' he ho hof h3 => ?_) kk
  · by_cases hj : j = k
    · subst hj; rw [if_pos rfl]
    · rw [if_neg hj]
      unfold z_fv z_sR
      simp [hj]
  · unfold z_fv z_sR
    rw [if_neg (show ¬ (3 : Nat) = 2 by decide), if_pos (show (3 : Nat) = 3 from rfl)]
    simp [z_cv]
  · show z_ex P f'.2.1 ((if a = c ∧ b = i then (fun j => if j = k then i' else μ.2.2 c i j) else μ.2.2 a b) k')
    by_cases hab : a = c ∧ b = i
    · rw [if_pos hab]
      obtain ⟨rfl, rfl⟩ := hab
      by_cases hk : k' = k
      · subst hk
        obtain ⟨o2, q2, ho2, hof2, -⟩ := hf
        rw [ho] at ho2
        cases ho2
        rw [hof] at hof2
        cases hof2
        simp only [if_true]
        exact hok (Or.inl hc)
      · simp only [hk, if_false]
        exact h a b o k' f' he ho hof h3
    · rw [if_neg hab]
      exact h a b o k' f' he ho hof h3
/-! arrays -/
def z_in (j : Int32) (n : Nat) : Bool := decide (0 ≤ j.toInt) && decide (j.toInt < n)
theorem z_in_vp {j : Int32} {n : Nat} (h : z_in j n = true) : vp_in j n := by
  unfold z_in at h
  rw [Bool.and_eq_true, decide_eq_true_iff, decide_eq_true_iff] at h
  exact vp_in_iff.mpr h
/-- an own array of the elements t -/
def z_SA (c t : Nat) : Prop := z_obj c = none ∧ z_el c = t ∧ (c < 90 ∨ 100 ≤ c)
theorem z_one {D : va_G} {cl : List vw_C} {q : Nat × va_E} {H : Heap} (h : va_at D cl q H) : va_P D cl [q] H := fun j x hx => by
  match j, hx with
  | 0, hx => cases hx; exact h
  | j + 1, hx => cases hx
theorem zr_iald {pc' : Nat} {c i n : Nat} {j : Int32} (hd : zD M.2.1 pc (.iaload) 1 pc') (hs : z_SA c 0) (hn : z_len c i = n) (hin : z_in j n = true) (kk : z_RQ P M R F n1 n2 pc' l (zI (μ.1 c i j.toNatClampNeg) :: st) μ) : z_RQ P M R F n1 n2 pc l (zI j :: zA c i :: st) μ := by
  obtain ⟨hd, rfl⟩ := hd
  intro p e s m args below meth c0 C H locs ls h1 h2 h3 h4
  subst hn
  refine va_iald C.1 C.2.1 C.2.2.2.2.2.2.2.1 (z_one (h1.1 c i (z_h (z_t h4) hs.2.2))) 0 0 (f := μ.1 c i) (by rw [z_enc_arr hs.1]; unfold z_arr; rw [hs.2.1]; rfl) rfl (z_in_vp hin) hd ?_
  exact kk p e s m args below meth c0 C H locs ls h1 h2 h3 (z_o trivial (z_t (z_t h4)))
theorem zr_bald {pc' : Nat} {c i n : Nat} {j : Int32} (hd : zD M.2.1 pc (.baload) 1 pc') (hs : z_SA c 1) (hn : z_len c i = n) (hin : z_in j n = true) (kk : z_RQ P M R F n1 n2 pc' l (zI (μ.1 c i j.toNatClampNeg) :: st) μ) : z_RQ P M R F n1 n2 pc l (zI j :: zA c i :: st) μ := by
  obtain ⟨hd, rfl⟩ := hd
  intro p e s m args below meth c0 C H locs ls h1 h2 h3 h4
  subst hn
  refine va_bald C.1 C.2.1 C.2.2.2.2.2.2.2.1 (z_one (h1.1 c i (z_h (z_t h4) hs.2.2))) 0 1 (f := μ.1 c i) (by rw [z_enc_arr hs.1]; unfold z_arr; rw [hs.2.1]; rfl) rfl (z_in_vp hin) hd ?_
  exact kk p e s m args below meth c0 C H locs ls h1 h2 h3 (z_o trivial (z_t (z_t h4)))
theorem zr_zald {pc' : Nat} {c i n : Nat} {j : Int32} (hd : zD M.2.1 pc (.baload) 1 pc') (hs : z_SA c 2) (hn : z_len c i = n) (hin : z_in j n = true) (kk : z_RQ P M R F n1 n2 pc' l (zI (μ.1 c i j.toNatClampNeg) :: st) μ) : z_RQ P M R F n1 n2 pc l (zI j :: zA c i :: st) μ := by
  obtain ⟨hd, rfl⟩ := hd
  intro p e s m args below meth c0 C H locs ls h1 h2 h3 h4
  subst hn
  refine va_zald C.1 C.2.1 C.2.2.2.2.2.2.2.1 (z_one (h1.1 c i (z_h (z_t h4) hs.2.2))) 0 2 (f := μ.1 c i) (by rw [z_enc_arr hs.1]; unfold z_arr; rw [hs.2.1]; rfl) rfl (z_in_vp hin) hd ?_
  exact kk p e s m args below meth c0 C H locs ls h1 h2 h3 (z_o trivial (z_t (z_t h4)))
theorem zr_lald {pc' : Nat} {c i n : Nat} {j : Int32} (hd : zD M.2.1 pc (.laload) 1 pc') (hs : z_SA c 3) (hn : z_len c i = n) (hin : z_in j n = true) (kk : z_RQ P M R F n1 n2 pc' l (zL (μ.2.1 c i j.toNatClampNeg) :: st) μ) : z_RQ P M R F n1 n2 pc l (zI j :: zA c i :: st) μ := by
  obtain ⟨hd, rfl⟩ := hd
  intro p e s m args below meth c0 C H locs ls h1 h2 h3 h4
  subst hn
  refine va_lald C.1 C.2.1 C.2.2.2.2.2.2.2.1 (z_one (h1.1 c i (z_h (z_t h4) hs.2.2))) 0 3 (f := μ.2.1 c i) (by rw [z_enc_arr hs.1]; unfold z_arr; rw [hs.2.1]; rfl) rfl (z_in_vp hin) hd ?_
  exact kk p e s m args below meth c0 C H locs ls h1 h2 h3 (z_o trivial (z_t (z_t h4)))
theorem zr_aald {pc' : Nat} {c i n c' i' : Nat} {j : Int32} (hd : zD M.2.1 pc (.aaload) 1 pc') (hs : z_SA c 4) (hn : z_len c i = n) (hin : z_in j n = true) (ht : z_tgt c j.toNatClampNeg = (c', i')) (kk : z_RQ P M R F n1 n2 pc' l (zA c' i' :: st) μ) : z_RQ P M R F n1 n2 pc l (zI j :: zA c i :: st) μ := by
  obtain ⟨hd, rfl⟩ := hd
  intro p e s m args below meth c0 C H locs ls h1 h2 h3 h4
  subst hn
  have he := z_h (z_t h4) hs.2.2
  have hv := z_in_vp hin
  refine va_aldq C.1 C.2.1 C.2.2.2.2.2.2.2.1 (z_one (h1.1 c i he)) 0 4 (f := fun k => some (z_ad P (z_tgt c k).1 (z_tgt c k).2)) (by rw [z_enc_arr hs.1]; unfold z_arr; rw [hs.2.1]; rfl) rfl hv hd ?_
  have hex := C.2.2.2.2.2.2.2.2.2.2.2.2 c i j.toNatClampNeg he hs.2.1 (Nat.not_le.mp fun q => hv (Or.inr q))
  rw [ht] at hex ⊢
  exact kk p e s m args below meth c0 C H locs ls h1 h2 h3 (z_o (fun _ => hex) (z_t (z_t h4)))
theorem zr_alen {pc' : Nat} {c i n t : Nat} (hd : zD M.2.1 pc (.arraylength) 1 pc') (hs : z_SA c t) (ht : t < 5) (hn : z_len c i = n) (kk : z_RQ P M R F n1 n2 pc' l (zI (Int32.ofNat n) :: st) μ) : z_RQ P M R F n1 n2 pc l (zA c i :: st) μ := by
  obtain ⟨hd, rfl⟩ := hd
  intro p e s m args below meth c0 C H locs ls h1 h2 h3 h4
  subst hn
  have key : ∃ ty, (z_tys P)[t]? = some (z_cA P t, ty) := by
    match t, ht with
    | 0, _ => exact ⟨_, rfl⟩
    | 1, _ => exact ⟨_, rfl⟩
    | 2, _ => exact ⟨_, rfl⟩
    | 3, _ => exact ⟨_, rfl⟩
    | 4, _ => exact ⟨_, rfl⟩
  obtain ⟨ty, hty⟩ := key
  refine va_alen C.1 C.2.1 C.2.2.2.2.2.2.2.1 (z_one (h1.1 c i (z_h h4 hs.2.2))) 0 t (x := z_arr P μ c i) (by rw [z_enc_arr hs.1, hs.2.1]; rfl) hty (v := Int32.ofNat (z_len c i)) rfl hd ?_
  exact kk p e s m args below meth c0 C H locs ls h1 h2 h3 (z_o trivial (z_t h4))
theorem zr_iast {pc' : Nat} {c i n : Nat} {j x : Int32} (hd : zD M.2.1 pc (.iastore) 1 pc') (hs : z_SA c 0) (hn : z_len c i = n) (hin : z_in j n = true) {μ' : zMem} (hm : μ' = z_sI μ c i j.toNatClampNeg x) (kk : z_RQ P M R F n1 n2 pc' l st μ') : z_RQ P M R F n1 n2 pc l (zI x :: zI j :: zA c i :: st) μ := by
  subst hm
  obtain ⟨hd, rfl⟩ := hd
  intro p e s m args below meth c0 C H locs ls h1 h2 h3 h4
  subst hn
  have he := z_h (z_t (z_t h4)) hs.2.2
  have hat := z_at_arr h1 he hs.1
  have e0 : vp_cell (z_cA P (z_el c)) (z_arr P μ c i) = vp_cell (z_cA P 0) (z_len c i, .inl (μ.1 c i)) := by unfold z_arr; rw [hs.2.1]; rfl
  rw [e0] at hat
  have hin := z_in_vp hin
  refine W.iast C.1 C.2.1 hat (((C.2.2.2.2.2.2.2.1).2 0 _ rfl).1 (z_len c i) (fun k => .int (μ.1 c i k))) (fun q => by cases q) (by show ¬ (j < 0 ∨ (arrV _ _ _).slots.size ≤ _); rw [arrV_size]; exact hin) rfl rfl hd fun H1 e1 z oq => ?_
  refine kk p e s m args below meth c0 C H1 _ ls (h1.upd C.2.2.2.2.2.2.2.2.2 he ?_ oq (fun a b h => z_enc_uI h) h1.2.1 z) (h2.put z oq (C.2.2.2.2.2.2.2.2.2.2.1 c i he)) h3 (z_t (z_t (z_t h4)))
  rw [z_enc_arr hs.1]
  show H1[z_ad P c i]? = some (vp_cell _ _)
  have e2 : vp_cell (z_cA P (z_el c)) (z_arr P (z_sI μ c i j.toNatClampNeg x) c i) = vp_cell (z_cA P 0) (z_len c i, .inl (upd (μ.1 c i) j.toNatClampNeg x)) := by unfold z_arr z_sI; rw [hs.2.1, z_uI_at]; rfl
  rw [e2, e1]
  rw [vp_cell_i, vp_cell_i, arrV_store]
  congr 2
  funext q
  by_cases hq : q = j.toNatClampNeg
  · subst hq
    simp [updV, upd]
  · simp [updV, upd, hq]
theorem zr_bast {pc' : Nat} {c i n : Nat} {j x : Int32} (hd : zD M.2.1 pc (.bastore) 1 pc') (hs : z_SA c 1) (hn : z_len c i = n) (hin : z_in j n = true) {μ' : zMem} (hm : μ' = z_sI μ c i j.toNatClampNeg (x.toInt8.toInt32)) (kk : z_RQ P M R F n1 n2 pc' l st μ') : z_RQ P M R F n1 n2 pc l (zI x :: zI j :: zA c i :: st) μ := by
  subst hm
  obtain ⟨hd, rfl⟩ := hd
  intro p e s m args below meth c0 C H locs ls h1 h2 h3 h4
  subst hn
  have he := z_h (z_t (z_t h4)) hs.2.2
  have hat := z_at_arr h1 he hs.1
  have e0 : vp_cell (z_cA P (z_el c)) (z_arr P μ c i) = vp_cell (z_cA P 1) (z_len c i, .inl (μ.1 c i)) := by unfold z_arr; rw [hs.2.1]; rfl
  rw [e0] at hat
  have hin := z_in_vp hin
  refine W.bast C.1 C.2.1 hat (((C.2.2.2.2.2.2.2.1).2 1 _ rfl).1 (z_len c i) (fun k => .int (μ.1 c i k))) (fun q => by cases q) (by show ¬ (j < 0 ∨ (arrV _ _ _).slots.size ≤ _); rw [arrV_size]; exact hin) rfl rfl hd fun H1 e1 z oq => ?_
  refine kk p e s m args below meth c0 C H1 _ ls (h1.upd C.2.2.2.2.2.2.2.2.2 he ?_ oq (fun a b h => z_enc_uI h) h1.2.1 z) (h2.put z oq (C.2.2.2.2.2.2.2.2.2.2.1 c i he)) h3 (z_t (z_t (z_t h4)))
  rw [z_enc_arr hs.1]
  show H1[z_ad P c i]? = some (vp_cell _ _)
  have e2 : vp_cell (z_cA P (z_el c)) (z_arr P (z_sI μ c i j.toNatClampNeg x.toInt8.toInt32) c i) = vp_cell (z_cA P 1) (z_len c i, .inl (upd (μ.1 c i) j.toNatClampNeg x.toInt8.toInt32)) := by unfold z_arr z_sI; rw [hs.2.1, z_uI_at]; rfl
  rw [e2, e1]
  rw [vp_cell_i, vp_cell_i, arrV_store]
  congr 2
  funext q
  by_cases hq : q = j.toNatClampNeg
  · subst hq
    simp [updV, upd]
    try rfl
  · simp [updV, upd, hq]
theorem zr_zast {pc' : Nat} {c i n : Nat} {j x : Int32} (hd : zD M.2.1 pc (.bastore) 1 pc') (hs : z_SA c 2) (hn : z_len c i = n) (hin : z_in j n = true) {μ' : zMem} (hm : μ' = z_sI μ c i j.toNatClampNeg (vp_nar .boolean x)) (kk : z_RQ P M R F n1 n2 pc' l st μ') : z_RQ P M R F n1 n2 pc l (zI x :: zI j :: zA c i :: st) μ := by
  subst hm
  obtain ⟨hd, rfl⟩ := hd
  intro p e s m args below meth c0 C H locs ls h1 h2 h3 h4
  subst hn
  have he := z_h (z_t (z_t h4)) hs.2.2
  have hat := z_at_arr h1 he hs.1
  have e0 : vp_cell (z_cA P (z_el c)) (z_arr P μ c i) = vp_cell (z_cA P 2) (z_len c i, .inl (μ.1 c i)) := by unfold z_arr; rw [hs.2.1]; rfl
  rw [e0] at hat
  have hin := z_in_vp hin
  refine W.zast C.1 C.2.1 hat (((C.2.2.2.2.2.2.2.1).2 2 _ rfl).1 (z_len c i) (fun k => .int (μ.1 c i k))) (fun q => by cases q) (by show ¬ (j < 0 ∨ (arrV _ _ _).slots.size ≤ _); rw [arrV_size]; exact hin) rfl rfl hd fun H1 e1 z oq => ?_
  refine kk p e s m args below meth c0 C H1 _ ls (h1.upd C.2.2.2.2.2.2.2.2.2 he ?_ oq (fun a b h => z_enc_uI h) h1.2.1 z) (h2.put z oq (C.2.2.2.2.2.2.2.2.2.2.1 c i he)) h3 (z_t (z_t (z_t h4)))
  rw [z_enc_arr hs.1]
  show H1[z_ad P c i]? = some (vp_cell _ _)
  have e2 : vp_cell (z_cA P (z_el c)) (z_arr P (z_sI μ c i j.toNatClampNeg (vp_nar .boolean x)) c i) = vp_cell (z_cA P 2) (z_len c i, .inl (upd (μ.1 c i) j.toNatClampNeg (vp_nar .boolean x))) := by unfold z_arr z_sI; rw [hs.2.1, z_uI_at]; rfl
  rw [e2, e1]
  rw [vp_cell_i, vp_cell_i, arrV_store]
  congr 2
  funext q
  by_cases hq : q = j.toNatClampNeg
  · subst hq
    simp [updV, upd, vp_nar]
    try rfl
  · simp [updV, upd, hq]
theorem zr_last {pc' : Nat} {c i n : Nat} {j : Int32} {x : Int64} (hd : zD M.2.1 pc (.lastore) 1 pc') (hs : z_SA c 3) (hn : z_len c i = n) (hin : z_in j n = true) {μ' : zMem} (hm : μ' = z_sL μ c i j.toNatClampNeg x) (kk : z_RQ P M R F n1 n2 pc' l st μ') : z_RQ P M R F n1 n2 pc l (zL x :: zI j :: zA c i :: st) μ := by
  subst hm
  obtain ⟨hd, rfl⟩ := hd
  intro p e s m args below meth c0 C H locs ls h1 h2 h3 h4
  subst hn
  have he := z_h (z_t (z_t h4)) hs.2.2
  have hat := z_at_arr h1 he hs.1
  have e0 : vp_cell (z_cA P (z_el c)) (z_arr P μ c i) = vp_cell (z_cA P 3) (z_len c i, .inr (.inl (μ.2.1 c i))) := by unfold z_arr; rw [hs.2.1]; rfl
  rw [e0] at hat
  have hin := z_in_vp hin
  refine W.last C.1 C.2.1 hat (((C.2.2.2.2.2.2.2.1).2 3 _ rfl).1 (z_len c i) (fun k => .long (μ.2.1 c i k))) (fun q => by cases q) (by show ¬ (j < 0 ∨ (arrV _ _ _).slots.size ≤ _); rw [arrV_size]; exact hin) rfl rfl hd fun H1 e1 z oq => ?_
  refine kk p e s m args below meth c0 C H1 _ ls (h1.upd C.2.2.2.2.2.2.2.2.2 he ?_ oq (fun a b h => z_enc_sL h) h1.2.1 z) (h2.put z oq (C.2.2.2.2.2.2.2.2.2.2.1 c i he)) h3 (z_t (z_t (z_t h4)))
  rw [z_enc_arr hs.1]
  show H1[z_ad P c i]? = some (vp_cell _ _)
  have e2 : vp_cell (z_cA P (z_el c)) (z_arr P (z_sL μ c i j.toNatClampNeg x) c i) = vp_cell (z_cA P 3) (z_len c i, .inr (.inl (vp_updL (μ.2.1 c i) j.toNatClampNeg x))) := by unfold z_arr z_sL; rw [hs.2.1]; simp
  rw [e2, e1]
  rw [vp_cell_l, vp_cell_l, arrV_store]
  congr 2
  funext q
  by_cases hq : q = j.toNatClampNeg
  · subst hq
    simp [updV, vp_updL]
  · simp [updV, vp_updL, hq]
end ZM
