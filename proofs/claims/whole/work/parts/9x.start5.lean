/-! THE LAW'S ENTRY -/
/-- what is read only, out of the start -/
theorem w_RO {s : State} {bs L : Nat} {xs : Nat → Int32} (hts : ∀ w ∈ lw_tbl, w.before #[Value.ref bs] s = true) (hX : va_X bs L xs s s.heap) (hbl : bs < s.heap.size) (hgv : (Jvm.Cond.and given_1 narrow_1).before #[Value.ref bs] s = true) : ∃ ad : Nat → Nat → Nat, ad 94 0 = bs ∧ ∀ (l : Launch) (D : va_G) (ex : Nat → Nat → Prop) (cA : Nat → ClassId) (N : Nat), z_RO (l, D, ad, ex, cA, s.heap.size, L, xs, N) s := by
  have hn : ∀ w ∈ w_N, w.before #[Value.ref bs] s = true := flat_of_before _ hgv
  have hA : ∀ a : Nat, a < s.heap.size → ¬ s.heap.size ≤ a := fun a h => Nat.not_le.mpr h
  obtain ⟨t0, ht0, hT0⟩ := va_Tof (tm := w_lots) (ty := .int) (N := 3) (f := fun j => .int (z_lots j)) (A := fun q => s.heap.size ≤ q) (by decide) (hn _ w_n3) (va_eqt (hn _ w_n4)) (fun j hj => va_eqt (hn _ (List.mem_of_getElem? (w_n5 j hj)))) hA
  obtain ⟨adK, adV, hS, hK⟩ := vk_Sof (N := 2) (tm := w_tm) (len := [147, 9]) (byt := [z_by 0, z_by 1]) (A := fun q => s.heap.size ≤ q) (by decide) (fun i hi => hn _ (List.mem_of_getElem? (w_n6 i hi))) (fun i hi => hn _ (List.mem_of_getElem? (w_n7 i hi))) (fun i hi => hn _ (List.mem_of_getElem? (w_n8 i hi))) (fun i hi => hn _ (List.mem_of_getElem? (w_n9 i hi))) (fun i hi j hj => hn _ (List.mem_of_getElem? (w_n10 i hi j hj))) (fun i j hi hj hij => by
    match i, j, hi, hj, hij with
    | 0, 0, _, _, h => exact absurd rfl h
    | 0, 1, _, _, _ => exact Or.inl (hn _ w_n11)
    | 1, 0, _, _, _ => exact Or.inr (hn _ w_n11)
    | 1, 1, _, _, h => exact absurd rfl h
    | i + 2, _, h, _, _ => exact absurd h (by omega)
    | _, j + 2, _, h, _ => exact absurd h (by omega)) hA
  refine ⟨fun c i => if c = 90 then t0 else if c = 91 then adK i else if c = 92 then adV i else bs, rfl, fun l D ex cA N => ⟨⟨va_Zof (hts _ w_t3) (hts _ w_t6) ht0 hA, hT0⟩, ⟨hS, vk_R.of (hts _ w_t7) (hK 0 (by decide)), vk_R.of (hts _ w_t8) (hK 1 (by decide))⟩, ⟨va_Zof (hts _ w_t1) (hts _ w_t4) (va_eqi (hn _ w_n1)) hA, va_Zqof (hts _ w_t2) (hts _ w_t5) (hn _ w_n2) hA⟩, ⟨hX, hbl, hA _ hbl⟩, fun q hq => ?_⟩⟩
  exact va_Nw.of rfl (hts _ (List.mem_append_right _ (List.contains_iff_mem.mp (List.all_eq_true.mp w_t10 q hq))))
theorem w_dyn {m : zMem} (h : m.2.2 = w_m.2.2) : zl_dyn w_Ls m := by
  intro c i o k f hm ho hf h3
  have hall : (w_Ls.all fun q => match z_obj q.1 with | some o => o.2.all (fun f => decide (f.1 ≠ 3) || w_Ls.contains (f.2.1, if q.1 = 4 then 0 else 1)) | none => true) = true := by decide +kernel
  have := List.all_eq_true.mp hall _ hm
  rw [show z_obj (c, i).1 = some o from ho] at this
  have h2 := List.all_eq_true.mp this f (List.mem_of_getElem? hf)
  rw [Bool.or_eq_true, decide_eq_true_iff] at h2
  rw [h]
  rcases h2 with h2 | h2
  · exact absurd h3 h2
  · exact List.contains_iff_mem.mp h2
theorem w_i9 : w_Ls.idxOf (8, 0) = 0 ∧ w_Ls.idxOf (9, 0) = 277 ∧ (8, 0) ∈ w_Ls ∧ (9, 0) ∈ w_Ls := by decide +kernel
/-- from the walk of the constructors to the walk of the law -/
theorem w_to {P : zP} {b : Nat} {m : zMem} (hm : w_fr w_m m) (k : z_RQ (zl_P P b w_Ls) M_law room_1 (lw_F (zl_P P b w_Ls)) 322 17971 18 [some (zA 94 0), some (zA 8 0), some (zA 9 0), some (zI 0)] [] m) : z_RG (zk_P2 P b) (fun s _ => zk_XS P b s) M_law room_1 (lw_F (zl_P P b w_Ls)) 322 17971 18 [some (zA 94 0), some (zA 0 0), some (zA 0 277), some (zI 0)] [] (zk_H P b (zk_c8 P b ++ zk_c9 P (b + 277) m)) := by
  intro p e s m0 args below meth c C H locs ls h1 h2 h3 h4
  have hRO : z_RO (zl_P P b w_Ls) s := C.2.2.2.2.2.2.2.2.2
  have e8 : w_L8.map (w_e P b) = w_L8.map fun q => z_enc (zl_P P b w_Ls) m q.1 q.2 := by
    refine List.map_congr_left fun q hq => ?_
    have hh := of_decide_eq_true (List.all_eq_true.mp w_L8_c q hq)
    exact (w_en hm hh.1 hh.2).symm
  have hz : zE (zk_c8 P b ++ zk_c9 P (b + 277) m) (w_Ls.map fun q => z_enc (zl_P P b w_Ls) m q.1 q.2) := by
    unfold w_Ls
    rw [List.map_append]
    refine zE.app ?_ (zE.rf w_pz9)
    have := w_pz8 (P := P) (b := b)
    rw [e8] at this
    exact this
  refine k p e s m0 args below meth c ⟨C.1, C.2.1, C.2.2.1, C.2.2.2.1, C.2.2.2.2.1, C.2.2.2.2.2.1, C.2.2.2.2.2.2.1, C.2.2.2.2.2.2.2.1, hRO, zl_G w_Ls_ok⟩ H locs ls (zl_in w_Ls_ok (w_dyn hm.2.2) (h1.toE hz)) h2 ⟨h3.1, h3.2.1, fun i v hi => ?_⟩ (fun _ hv => by cases hv)
  match i, hi with
  | 0, hi =>
    cases hi
    exact ⟨(h3.2.2 0 (zA 94 0) rfl).1, fun h => by rcases h with h | h <;> exact absurd h (by decide)⟩
  | 1, hi =>
    cases hi
    refine ⟨?_, fun _ => w_i9.2.2.1⟩
    have := (h3.2.2 1 (zA 0 0) rfl).1
    rw [this]
    show some (Slot.val (Value.ref (b + 0))) = some (Slot.val (Value.ref (z_ad (zl_P P b w_Ls) 8 0)))
    rw [w_a (by omega) w_i9.1]
  | 2, hi =>
    cases hi
    refine ⟨?_, fun _ => w_i9.2.2.2⟩
    have := (h3.2.2 2 (zA 0 277) rfl).1
    rw [this]
    show some (Slot.val (Value.ref (b + 277))) = some (Slot.val (Value.ref (z_ad (zl_P P b w_Ls) 9 0)))
    rw [w_a (by omega) w_i9.2.1]
  | 3, hi =>
    cases hi
    exact ⟨(h3.2.2 3 (zI 0) rfl).1, trivial⟩
  | i + 4, hi => cases hi
/-- from the law's entry to its loop -/
theorem w_walk {P : zP} {b : Nat} {m : zMem} (hm : f9_irest w_m = some m) (hfr : w_fr w_m m) (k : z_RQ (zl_P P b w_Ls) M_law room_1 (lw_F (zl_P P b w_Ls)) 322 17971 18 [some (zA 94 0), some (zA 8 0), some (zA 9 0), some (zI 0)] [] m) : z_RG (zk_P2 P b) (fun s _ => zk_XS P b s) M_law room_1 (lw_F (zl_P P b w_Ls)) 0 0 0 [some (zA 94 0), none, none, none] [] (zk_H P b []) := by
  refine zk_new2 (ci := 8) d_law_0 rfl w_cl7 ist_8 ini_8 z_df8 (k := 0) rfl (by decide) (by decide) ?_
  refine zg_dupa d_law_3 ?_
  refine zk_childI2 (cs0 := []) (fun _ _ h => h) d_law_4 mw_8_init rfl w_ml9 im_8_init rfl rfl rfl (by decide) ⟨by decide, by decide⟩ ⟨by decide, by decide⟩ (k8 P (b + 0)) rfl ?_
  refine zg_astore_n (i := 1) (l' := [some (zA 94 0), some (zA 0 0), none, none]) d_law_7 rfl (by decide) rfl ?_
  refine zk_new2 (ci := 9) d_law_8 rfl w_cl10 ist_9 ini_9 z_df9 (k := 277) (zk_l8 P b) (by decide) (by decide) ?_
  refine zg_dupa d_law_11 ?_
  refine zk_childI2 (cs0 := zk_c8 P b) (fun _ _ h => h) d_law_12 mw_9_init rfl w_ml12 im_9_init rfl rfl (zk_l8 P b) (by decide) ⟨by decide, by decide⟩ ⟨by decide, by decide⟩ (k9 P (b + 277) w_raw9 hm) rfl ?_
  refine zg_astore_n (i := 2) (l' := [some (zA 94 0), some (zA 0 0), some (zA 0 277), none]) d_law_15 rfl (by decide) rfl ?_
  refine zg_iconst (v := (0 : Int32)) d_law_16 rfl ?_
  refine zg_istore_n (i := 3) (l' := [some (zA 94 0), some (zA 0 0), some (zA 0 277), some (zI 0)]) d_law_17 rfl (by decide) rfl ?_
  exact w_to hfr k
/-- from the entry, for every script of at most 3072 ints, the law comes to its end with true -/
theorem whole_start {p : Program} {e : Env} {s : State} {m : MethodId} {below : List Frame} {meth : Method} {c : Code} (l : Launch) (hflags : l.flags = flags0) {b L : Nat} {xs : Nat → Int32} (hL : L ≤ 3072) (C0 : lw_At p s m meth c b L xs) : W p l e room_1 s m #[Value.ref b] below meth c s.heap [] 0 0 (lw_Z below #[Value.ref b] s) (entryFrame m ([Value.ref b] : List Value).toArray 4) := by
  obtain ⟨g1, g2, g3, g4, g5, hts, hX, hbl, hlk, hgv⟩ := C0
  have htg : ∀ w ∈ lw_gd, w.before #[Value.ref b] s = true := fun w hw => hts w (List.mem_filter.mp hw).1
  obtain ⟨ad, hbs, hRO⟩ := w_RO hts hX hbl hgv
  obtain ⟨D, hD⟩ := w_D htg
  obtain ⟨a0, a0a, a0b⟩ := w_arr (ty := .int) (fun c h => by cases h) (htg _ ac_0)
  obtain ⟨a1, a1a, a1b⟩ := w_arr (ty := .byte) (fun c h => by cases h) (htg _ (z_m1 (List.mem_of_getElem? (i := 61) rfl) rfl))
  obtain ⟨a2, a2a, a2b⟩ := w_arr (ty := .boolean) (fun c h => by cases h) (htg _ ac_2)
  obtain ⟨a3, a3a, a3b⟩ := w_arr (ty := .long) (fun c h => by cases h) (htg _ (z_m1 (List.mem_of_getElem? (i := 63) rfl) rfl))
  obtain ⟨a4, a4a, a4b⟩ := w_arrO (n := zR5) (hts _ w_t9)
  obtain ⟨m1, hm1, hinv⟩ := (first_inv w_raw)
  obtain ⟨m2, hm2, hfr⟩ := (first_fr w_raw)
  have e12 : m1 = m2 := Option.some.inj (hm1.symm.trans hm2)
  subst e12
  obtain ⟨μ', hlaw⟩ := law_1 (fun B => s_read) (sl := L) (xs := xs) hL hinv
  let P : zP := (l, D, ad, fun _ _ => True, fun t => if t = 0 then a0 else if t = 1 then a1 else if t = 2 then a2 else if t = 3 then a3 else a4, s.heap.size, L, xs, 0)
  have hq : z_RQ (zl_P P s.heap.size w_Ls) M_law room_1 (lw_F (zl_P P s.heap.size w_Ls)) 322 17971 18 [some (zA 94 0), some (zA 8 0), some (zA 9 0), some (zI 0)] [] m1 := s_law (sl := L) (xs := xs) rfl rfl hlaw
  have hw := w_walk (P := P) (b := s.heap.size) hm1 hfr hq
  have hK : va_K D classes (z_tys P) s := ⟨hD, fun k q hk => by
    match k, hk with
    | 0, hk => cases hk; exact ⟨a0a, a0b⟩
    | 1, hk => cases hk; exact ⟨a1a, a1b⟩
    | 2, hk => cases hk; exact ⟨a2a, a2b⟩
    | 3, hk => cases hk; exact ⟨a3a, a3b⟩
    | 4, hk => cases hk; exact ⟨a4a, a4b⟩
    | k + 5, hk => cases hk⟩
  rw [lg_entry_eq]
  have hl' := lv_entry [Value.ref b] (n := 4) (show 1 ≤ 4 from by decide)
  have key := hw p e s m #[Value.ref b] below meth c ⟨g1, g2, g3, g4, g5, htg, hlk, hK, va_AO.of (hts _ w_t9), hRO _ _ _ _ _⟩ s.heap [] _ ⟨rfl, fun k e h => by cases h⟩ va_S.rf ⟨hl'.1, hl'.2.1, fun i v hi => by
    match i, hi with
    | 0, hi =>
      cases hi
      refine ⟨?_, zk_okP2⟩
      have := hl'.2.2 (0, .ref b) List.mem_cons_self
      rw [this]
      show some (Slot.val (Value.ref b)) = some (Slot.val (Value.ref (ad 94 0)))
      rw [hbs]
    | 1, hi => cases hi
    | 2, hi => cases hi
    | 3, hi => cases hi
    | i + 4, hi => cases hi⟩ (fun _ h => by cases h)
  intro T hT X
  obtain ⟨t, k1, k2⟩ := key T hT X
  exact ⟨t, k1, k2 rfl⟩
