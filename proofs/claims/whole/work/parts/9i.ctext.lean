/-! READ XXXI: the class reads a text -/
def g4_D (xm8 : zMem) (q14 : Int32) : Option (Int32 × zMem) := ((if q14 = (128 : Int32) then (f4_readHouse xm8).bind (z_u2 fun q19 qm20 => some (q19, qm20)) else (if q14 = (129 : Int32) then (f4_readPerson xm8).bind (z_u2 fun q23 qm24 => some (q23, qm24)) else (if q14 = (130 : Int32) then (f4_readRight xm8).bind (z_u2 fun q27 qm28 => some (q27, qm28)) else (if q14 = (131 : Int32) then (f4_readAbsence xm8).bind (z_u2 fun q31 qm32 => some (q31, qm32)) else (if q14 = (132 : Int32) then (f4_kind xm8).bind (fun q35 => (f4_readLaw (q35 - (132 : Int32)) xm8).bind (z_u2 fun q37 qm38 => some (q37, qm38))) else (if q14 = (133 : Int32) then (f4_kind xm8).bind (fun q41 => (f4_readLaw (q41 - (132 : Int32)) xm8).bind (z_u2 fun q43 qm44 => some (q43, qm44))) else (if q14 = (134 : Int32) then (f4_kind xm8).bind (fun q47 => (f4_readLaw (q47 - (132 : Int32)) xm8).bind (z_u2 fun q49 qm50 => some (q49, qm50))) else (if q14 = (135 : Int32) then (f4_kind xm8).bind (fun q53 => (f4_readLaw (q53 - (132 : Int32)) xm8).bind (z_u2 fun q55 qm56 => some (q55, qm56))) else (if q14 = (136 : Int32) then (f4_readSeed xm8).bind (z_u2 fun q59 qm60 => some (q59, qm60)) else (f4_kind xm8).bind (fun q62 => (f4_readLaw (q62 - (132 : Int32)) xm8).bind (z_u2 fun q64 qm65 => some (q64, qm65)))))))))))) : Option (Int32 × zMem))
theorem g4_L5 (x6 x7 : Int32) (m : zMem) : f4_readTape_L5 (x6, x7, m) = (if (400 : Int32) < x7 then some (.inr m) else (if x6 = 0 then some (.inr m) else (f4_kind m).bind (fun q11 => (if q11 = 0 then some (.inr m) else (f4_kind m).bind (fun q14 => (g4_D m q14).bind (z_u2 fun j67 jm68 => some (.inl (j67, (x7 + (1 : Int32)), jm68)))))))) := rfl
theorem zw_bs2 {α β : Type} (x : Option (α × β)) : (x.bind (z_u2 fun a b => some (a, b))) = x := by
  cases x with
  | none => rfl
  | some p => rfl
section
variable {K V S : Nat → Nat} {A : Nat → Int64} {o t N k F H P p a : Nat} {m m' : zMem} {d : Nat × Nat} {c : Nat × Nat} {T : qT} {W G : Nat → Int32} {hn pn : Nat → Nat}
theorem p4_tell {z : qZ} (hK : ∀ j, K j < 149) (hV : ∀ j, K j = 3 → V j < 10000) (hz : qz_ok K S z) (h : c4_st K V S A o z m) : zw (g4_D m (nI (K z.1))) (c4_sp K V S A o m (x_tell K V S A z)) := by
  obtain ⟨t, T, W, G, c, hn, pn, d⟩ := z
  obtain ⟨z1, z2, z3, z4, z5, _⟩ := hz
  have hh := h.1
  obtain ⟨ho, ht, h3, h4, h5, h6, h7, hdb, htk, hval⟩ := id hh
  have hKt := hK t
  have hkd : f4_kind m = some (nI (K t)) := by rw [p4_kind ht h4, (htk t (by omega)).1]
  unfold g4_D x_tell
  have eq : ∀ n : Nat, n < 149 → (nI (K t) = nI n) = (K t = n) := fun n hn' => y_eq (by omega) (by omega)
  dsimp only
  by_cases c1 : K t = 128
  · rw [if_pos c1, if_pos (by rw [c1]; rfl), zw_bs2]
    exact p4_house hK hV z2 h
  rw [if_neg c1, if_neg (show ¬ nI (K t) = 128 from (show ¬ nI (K t) = nI 128 by rw [eq _ (by omega)]; exact c1))]
  by_cases c2 : K t = 129
  · rw [if_pos c2, if_pos (by rw [c2]; rfl), zw_bs2]
    exact p4_person hK hV z2 h
  rw [if_neg c2, if_neg (show ¬ nI (K t) = 129 from (show ¬ nI (K t) = nI 129 by rw [eq _ (by omega)]; exact c2))]
  by_cases c3 : K t = 130
  · rw [if_pos c3, if_pos (by rw [c3]; rfl), zw_bs2]
    exact p4_right hK z2 z4 h
  rw [if_neg c3, if_neg (show ¬ nI (K t) = 130 from (show ¬ nI (K t) = nI 130 by rw [eq _ (by omega)]; exact c3))]
  by_cases c4 : K t = 131
  · rw [if_pos c4, if_pos (by rw [c4]; rfl), zw_bs2]
    exact p4_away hK hV z2 z5 h
  rw [if_neg c4, if_neg (show ¬ nI (K t) = 131 from (show ¬ nI (K t) = nI 131 by rw [eq _ (by omega)]; exact c4)), hkd, Option.bind_some, zw_bs2]
  by_cases c6 : 132 ≤ K t ∧ K t < 136
  · have e1 : nI (K t) - 132 = nI (K t - 132) := by rw [show (132 : Int32) = nI 132 from rfl, pk_sub c6.1]
    have key := p4_lawS hK hV (show K t - 132 < 4 by omega) h
    rw [if_neg (show ¬ K t = 136 by omega), if_pos c6, e1, if_neg (show ¬ nI (K t) = 136 from (show ¬ nI (K t) = nI 136 by rw [eq _ (by omega)]; omega))]
    rw [ite_self, ite_self, ite_self, ite_self]
    exact key
  · have n2 : ¬ nI (K t) = nI 132 := by rw [eq _ (by omega)]; omega
    have n3 : ¬ nI (K t) = nI 133 := by rw [eq _ (by omega)]; omega
    have n4 : ¬ nI (K t) = nI 134 := by rw [eq _ (by omega)]; omega
    have n5 : ¬ nI (K t) = nI 135 := by rw [eq _ (by omega)]; omega
    rw [if_neg (show ¬ nI (K t) = 132 from n2), if_neg (show ¬ nI (K t) = 133 from n3), if_neg (show ¬ nI (K t) = 134 from n4), if_neg (show ¬ nI (K t) = 135 from n5)]
    by_cases c5 : K t = 136
    · rw [if_pos c5, if_pos (show nI (K t) = 136 by rw [c5]; rfl), zw_bs2]
      exact p4_seed hK h
    · rw [if_neg c5, if_neg (show ¬ nI (K t) = 136 from (show ¬ nI (K t) = nI 136 by rw [eq _ (by omega)]; exact c5)), if_neg c6]
      have ref : zw (f4_readLaw (nI (K t) - 132) m) (c4_sp K V S A o m (.inl (1, t))) := by
        have e2 : f4_readLaw (nI (K t) - 132) m = some ((0 : Int32), z_sI m 4 0 7 1) := by
          have hs := pk_sub_toInt (a := K t) (b := 132) (by omega) (by omega)
          have hs' : (nI (K t) - 132 : Int32).toInt = (K t : Int) - (132 : Nat) := hs
          unfold f4_readLaw
          by_cases cl : K t < 132
          · rw [if_pos (show nI (K t) - 132 < 0 by rw [y_i, hs', y_t0]; omega)]
            unfold f4_refuse
            simp only [z_let]
            rw [z_u2_ap, if_pos y_b0]
          · rw [if_neg (show ¬ nI (K t) - 132 < 0 by rw [y_i, hs', y_t0]; omega), if_neg (show ¬ nI (K t) - 132 < 4 by rw [y_i, hs', show (4 : Int32).toInt = 4 from rfl]; omega)]
            unfold f4_refuse
            simp only [z_let]
            rw [z_u2_ap, if_pos y_b0]
        rw [e2]
        refine zw_some.mpr ⟨zj_s (zj_r m) (by omega), fun F t' e => ?_, (fun z' e => by cases e)⟩
        cases e
        exact ⟨rfl, Or.inl rfl, ht, by rw [z_sI_1, if_neg (by omega)]; exact h4, by rw [z_sI_1, if_pos ⟨rfl, rfl, rfl⟩]; rfl⟩
      exact ref
def c4_tx (K V S : Nat → Nat) (A : Nat → Int64) (o : Nat) (m : zMem) (res : (Nat × Nat) ⊕ qZ) (m' : zMem) : Prop := zj (sPC o) l21 m m' ∧ (∀ F t', res = .inl (F, t') → (F = 1 ∨ F = 2) ∧ t' ≤ 400 ∧ m'.1 4 0 4 = nI t' ∧ m'.1 4 0 7 = nI F) ∧ (∀ z', res = .inr z' → qz_ok K S z' ∧ c4_st K V S A o z' m')
theorem p4_text (hK : ∀ j, K j < 149) (hV : ∀ j, K j = 3 → V j < 10000) : ∀ (n c f : Nat) (z : qZ) (m : zMem), c + n = 401 → n + 1 < f → qz_ok K S z → c4_st K V S A o z m → zw (z_it f4_readTape_L5 f (1, nI c, m)) (c4_tx K V S A o m (x_text K V S A n z))
  | n, c, 0, z, m, _, hf, _, _ => by omega
  | 0, c, f + 1, z, m, hc, hf, hz, h => by
    have e : f4_readTape_L5 (1, nI c, m) = some (.inr m) := by
      rw [g4_L5, show (400 : Int32) = nI 400 from rfl, if_pos (nI_lt (by omega) (by omega))]
    refine ⟨_, z_it_d e, zj_r m, (fun F t' q => by cases q), fun z' q => ?_⟩
    cases q
    exact ⟨hz, h⟩
  | n + 1, c, f + 1, z, m, hc, hf, hz, h => by
    have hh : c4_hd K V S A o z.1 z.2.2.2.2.1 z.2.2.2.2.2.2.2 m := h.1
    obtain ⟨ho, ht, h3, h4, h5, h6, h7, hdb, htk, hval⟩ := id hh
    have hKt := hK z.1
    have hkd : f4_kind m = some (nI (K z.1)) := by rw [p4_kind ht h4, (htk z.1 (by omega)).1]
    by_cases c0 : K z.1 = 0
    · have hx : x_text K V S A (n + 1) z = .inr z := by rw [x_text, if_pos c0]
      have e : f4_readTape_L5 (1, nI c, m) = some (.inr m) := by
        rw [g4_L5, show (400 : Int32) = nI 400 from rfl, if_neg (nI_nlt (by omega) (by omega)), if_neg n01, hkd, Option.bind_some, if_pos (show nI (K z.1) = 0 by rw [c0]; rfl)]
      rw [hx]
      refine ⟨_, z_it_d e, zj_r m, (fun F t' q => by cases q), fun z' q => ?_⟩
      cases q
      exact ⟨hz, h⟩
    · have hx : x_text K V S A (n + 1) z = Sum.elim Sum.inl (fun z' => x_text K V S A n z') (x_tell K V S A z) := by rw [x_text, if_neg c0]
      obtain ⟨⟨q, m1⟩, hq, j1, p1, p2⟩ := p4_tell hK hV hz h
      have j1' : zj (sPC o) l21 m m1 := j1
      have e : f4_readTape_L5 (1, nI c, m) = some (.inl (q, nI (c + 1), m1)) := by
        rw [g4_L5, show (400 : Int32) = nI 400 from rfl, if_neg (nI_nlt (by omega) (by omega)), if_neg n01, hkd, Option.bind_some, if_neg (show ¬ nI (K z.1) = 0 by rw [y_eq0 (by omega)]; exact c0), Option.bind_some, hq, Option.bind_some, z_u2_ap, y_s1]
      rw [z_it_s e]
      rcases ht : x_tell K V S A z with ⟨F, t'⟩ | z'
      · obtain ⟨q1, q2, q3, q4, q5⟩ := p1 F t' ht
        have q1' : q = 0 := q1
        subst q1'
        rw [ht] at hx
        have hx' : x_text K V S A (n + 1) z = .inl (F, t') := hx
        obtain ⟨f, rfl⟩ : ∃ k, f = k + 1 := ⟨f - 1, by omega⟩
        have e2 : f4_readTape_L5 (0, nI (c + 1), m1) = some (.inr m1) := by
          rw [g4_L5, if_pos rfl, ite_self]
        rw [hx']
        refine ⟨_, z_it_d e2, j1', fun F2 t2 q => ?_, (fun z' q => by cases q)⟩
        cases q
        exact ⟨q2, q3, q4, q5⟩
      · obtain ⟨q1, st1⟩ := p2 z' ht
        have q1' : q = 1 := q1
        subst q1'
        rw [ht] at hx
        have hx' : x_text K V S A (n + 1) z = x_text K V S A n z' := hx
        rw [hx']
        refine zw_mono (p4_text hK hV n (c + 1) f z' m1 (by omega) (by omega) (qz_tell hV hz ht).1 st1) ?_
        rintro m2 ⟨r1, r2, r3⟩
        exact ⟨zj_t j1' r1, r2, r3⟩
def q_z0 : qZ := (0, q_T0, fun _ => -1, fun _ => 0, (0, 0), fun _ => 0, fun _ => 0, (0, 0))
theorem q_pl_wf (k : Nat) : q_wf 16 (q_pl k) 0 1 := by
  unfold q_pl
  by_cases h3 : k = 3
  · rw [if_pos h3]; exact ⟨by omega, by omega, rfl⟩
  · rw [if_neg h3]; exact ⟨by omega, by omega, rfl⟩
theorem qz_0 : qz_ok K S q_z0 := ⟨by omega, ⟨by decide, by decide⟩, fun k _ => q_pl_wf k, by decide, by decide, fun h hh => absurd hh (Nat.not_lt_zero _), fun h hh => absurd hh (Nat.not_lt_zero _), fun h _ k _ _ => b_0 k, fun _ _ _ => rfl, fun _ _ _ => Or.inl rfl, by decide, fun q => absurd rfl q⟩
theorem p4_begin (ho : o < 2) (h3 : m.2.2 4 0 3 = o) (htk : c4_tok K S m) (hval : ∀ j, j < 401 → (K j = 2 → m.2.1 33 0 j = A j) ∧ (K j = 3 → m.2.1 33 0 j = lN (V j))) : zw (f4_begin m) fun m' => zj (sPC o) l21 m m' ∧ c4_st K V S A o q_z0 m' := by
  unfold f4_begin
  rw [h3, p6_empty, Option.bind_some]
  simp only [z_let]
  obtain ⟨E, hE⟩ : ∃ E, E = z_em o m := ⟨_, rfl⟩
  rw [← hE]
  have fE : zk (fun c i k => (c = 6 ∧ i = o) ∨ ((c = 27 ∨ c = 28 ∨ c = 29 ∨ c = 30) ∧ i = o)) m E := by
    rw [hE]
    exact zk_s (zk_s (zk_s (zk_s (zk_s (zk_s (zk_s (zk_s (zk_s (zk_s (zk_s (zk_s (zk_s (zk_u (zk_u (zk_s (zk_s (zk_s (zk_r m) (by omega)) (by omega)) (by omega)) (fun k => by omega)) (fun k => by omega)) (by omega)) (by omega)) (by omega)) (by omega)) (by omega)) (by omega)) (by omega)) (by omega)) (by omega)) (by omega)) (by omega)) (by omega)) (by omega)
  have a0 : E.1 6 o 0 = 0 ∧ E.1 6 o 1 = 0 ∧ E.1 6 o 2 = 0 ∧ E.1 6 o 9 = nI 4 := by
    rw [hE]
    unfold z_em
    simp only [z_sI_1, z_uI_1j]
    refine ⟨?_, ?_, ?_, ?_⟩ <;> simp
  have a1 : E.1 29 o 0 = 0 ∧ E.1 29 o 1 = -15 ∧ E.1 29 o 2 = -1 ∧ E.1 29 o 3 = -15 := by
    rw [hE]
    unfold z_em
    simp only [z_sI_1, z_uI_1j]
    refine ⟨?_, ?_, ?_, ?_⟩ <;> simp
  have a2 : E.1 30 o 0 = 0 ∧ E.1 30 o 1 = 0 ∧ E.1 30 o 2 = 0 ∧ E.1 30 o 3 = nI 2 := by
    rw [hE]
    unfold z_em
    simp only [z_sI_1, z_uI_1j]
    refine ⟨?_, ?_, ?_, ?_⟩ <;> simp
  have a3 : ∀ h, h < 5 → E.1 27 o h = 0 := fun h hh => by
    rw [hE]
    unfold z_em
    simp only [z_sI_1, z_uI_1j]
    simp [z_fl, hh]
  have a4 : ∀ p, p < 7 → E.1 28 o p = -1 := fun p hp => by
    rw [hE]
    unfold z_em
    simp only [z_sI_1, z_uI_1j]
    simp [z_fl, hp]
  clear hE
  obtain ⟨M, hM⟩ : ∃ M, M = z_sI (z_sI (z_sI (z_sI (z_sI (z_sI E 4 0 4 0) 4 0 5 0) 4 0 6 0) 4 0 7 0) 4 0 9 0) 4 0 10 (-1) := ⟨_, rfl⟩
  rw [← hM]
  have fM : zk (fun c i k => c = 4 ∧ i = 0 ∧ (k = 4 ∨ k = 5 ∨ k = 6 ∨ k = 7 ∨ k = 9 ∨ k = 10)) E M := by
    rw [hM]
    exact zk_s (zk_s (zk_s (zk_s (zk_s (zk_s (zk_r E) (by omega)) (by omega)) (by omega)) (by omega)) (by omega)) (by omega)
  have b : M.1 4 0 4 = 0 ∧ M.1 4 0 5 = 0 ∧ M.1 4 0 6 = 0 ∧ M.1 4 0 7 = 0 ∧ M.1 4 0 9 = 0 ∧ M.1 4 0 10 = -1 := by
    rw [hM]
    simp only [z_sI_1]
    refine ⟨?_, ?_, ?_, ?_, ?_, ?_⟩ <;> simp
  clear hM
  have J : zj (sPC o) l21 m M := zj_k (zk_t (zk_m fE (fun c i k e => by omega)) (zk_m fM (fun c i k e => by omega)))
  obtain ⟨b1, b2, b3, b4, b5, b6⟩ := b
  refine zw_some.mpr ⟨J, ⟨ho, by omega, by rw [fM.2, fE.2]; exact h3, b1, b2, b3, b4, ⟨by decide, b5, b6⟩, htk.fr J (fun c k e => by omega), fun j hj => by rw [fM.2, fE.2]; exact hval j hj⟩, ⟨?_, ?_, ?_, fun h hh => absurd hh (Nat.not_lt_zero _), fun h hh => absurd hh (Nat.not_lt_zero _)⟩, ⟨fun h hh => ?_, fun p hp => ?_⟩, ⟨fun h hh => absurd hh (Nat.not_lt_zero _), fun h hh => absurd hh (Nat.not_lt_zero _)⟩, 4, by omega, ?_, fun k hk => ?_⟩
  · rw [fM.1 _ _ _ (by omega)]; exact a0.1
  · rw [fM.1 _ _ _ (by omega)]; exact a0.2.1
  · rw [fM.1 _ _ _ (by omega)]; exact a0.2.2.1
  · rw [fM.1 _ _ _ (by omega)]; exact a3 h hh
  · rw [fM.1 _ _ _ (by omega)]; exact a4 p hp
  · rw [fM.1 _ _ _ (by omega)]; exact a0.2.2.2
  · have g29 : ∀ j, M.1 29 o j = E.1 29 o j := fun j => fM.1 _ _ _ (by omega)
    have g30 : ∀ j, M.1 30 o j = E.1 30 o j := fun j => fM.1 _ _ _ (by omega)
    show ∃ i, M.1 30 o k = nI i ∧ q_cl (M.1 29 o) 4 i [] (q_pl k)
    rw [g30]
    unfold q_pl
    by_cases h3 : k = 3
    · rw [if_pos h3, h3]
      exact ⟨2, a2.2.2.2, ⟨(g29 2).trans a1.2.2.1, trivial⟩, (g29 3).trans a1.2.2.2, by show 2 + 1 < 4; omega⟩
    · rw [if_neg h3]
      refine ⟨0, ?_, ⟨(g29 0).trans a1.1, trivial⟩, (g29 1).trans a1.2.1, by show 0 + 1 < 4; omega⟩
      match k, hk, h3 with
      | 0, _, _ => exact a2.1
      | 1, _, _ => exact a2.2.1
      | 2, _, _ => exact a2.2.2.1
      | 3, _, h => exact absurd rfl h
end
