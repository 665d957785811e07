/-! READ XXIX: the class's sentences: away, seed, LAWS; the text -/
section
variable {K V S : Nat → Nat} {A : Nat → Int64} {o t N k F H P p a : Nat} {m m' : zMem} {d : Nat × Nat} {y : Int64} {c : Nat × Nat} {T : qT} {W G : Nat → Int32} {hn pn : Nat → Nat}
theorem p4_away (hK : ∀ j, K j < 149) (hV : ∀ j, K j = 3 → V j < 10000) (hT : tOk T) (hc : c.2 ≤ 7) (h : c4_st K V S A o (t, T, W, G, c, hn, pn, d) m) : zw (f4_readAbsence m) (c4_sp K V S A o m (if c.2 < 7 then Sum.map id (fun _ => y_away V S A (t, T, W, G, c, hn, pn, d)) (e_4 K 131 2 3 59 t) else .inl (2, t))) := by
  obtain ⟨H, P, s, R, X, L⟩ := T
  obtain ⟨hh, htx, hgw, hnm, hlw⟩ := h
  obtain ⟨ho, ht, h3, h4, h5, h6, h7, hdb, htk, hval⟩ := id hh
  obtain ⟨hH, hP⟩ := hT
  have hH' : H ≤ 5 := hH
  have hP' : P ≤ 7 := hP
  have e61 : m.1 6 o 1 = nI P := htx.2.1
  unfold f4_readAbsence
  rw [h6, y_7]
  by_cases cR : c.2 < 7
  · rw [if_pos (nI_lt cR (by omega)), if_pos cR]
    simp only [z_let]
    rw [y_s1]
    obtain ⟨M, hM⟩ : ∃ M, M = z_sI m 4 0 6 (nI (c.2 + 1)) := ⟨_, rfl⟩
    rw [← hM]
    have fM : zk (fun c i k => c = 4 ∧ i = 0 ∧ k = 6) m M := by rw [hM]; exact zk_s (zk_r m) ⟨rfl, rfl, rfl⟩
    have M6 : M.1 4 0 6 = nI (c.2 + 1) := by rw [hM, z_sI_1, if_pos ⟨rfl, rfl, rfl⟩]
    clear hM
    have tM : c4_tok K S M := htk.fr (zj_k (L := l21) fM) (fun c k e => by omega)
    unfold e_4
    refine c4_tk (K := K) (k := 131) ht (by rw [fM.1 _ _ _ (by omega)]; exact h4) (by rw [fM.1 _ _ _ (by omega)]; exact h7) (tM t (by omega)).1 (hK t) (by omega) ?_ ?_
    · intro e1 _ c1 m1 f1 g14 g17
      rw [z_u2_ap, if_neg n01, e1, e_bd_r]
      have t1 : c4_tok K S m1 := tM.fr (zj_k (L := l21) f1) (fun c k e => by omega)
      have E1 : m1.2 = m.2 := by rw [f1.2, fM.2]
      refine zw_b (p4_findPerson (o := o) (P := P) (show t + 1 ≤ 400 by omega) (by rw [E1]; exact h3) g14 (t1 (t + 1) (by omega)).2 (hdb.fr (m' := m1) (by rw [f1.1 _ _ _ (by omega), fM.1 _ _ _ (by omega)]) (by rw [f1.1 _ _ _ (by omega), fM.1 _ _ _ (by omega)])) hP' (by rw [f1.1 _ _ _ (by omega), fM.1 _ _ _ (by omega)]; exact e61)) ?_
      rintro ⟨q2, m2⟩ ⟨r2, f2, db2⟩
      have f2' : zk sDb m1 m2 := f2
      rw [E1] at r2 db2
      rw [z_u2_ap]
      have t2 : c4_tok K S m2 := t1.fr (zj_k (L := l21) f2') (fun c k e => by omega)
      have E2 : m2.2 = m.2 := by rw [f2'.2, E1]
      have db2' : c4_db (z_su (q_se (fun j => decide (m.2.1 21 1 j = m.2.1 33 0 (t + 1))) P).isNone 4 (S (t + 1)) d) m2 := db2
      have r2' : q2 = o_i (q_se (fun j => decide (m.2.1 21 1 j = m.2.1 33 0 (t + 1))) P) := r2
      have FA : zk (fun c i k => c = 4 ∧ i = 0 ∧ (k = 4 ∨ k = 6 ∨ k = 7 ∨ k = 9 ∨ k = 10)) m m2 := zk_t (zk_m fM (fun c i k e => by omega)) (zk_t (zk_m f1 (fun c i k e => by omega)) (zk_m f2' (fun c i k e => by omega)))
      have m26 : m2.1 4 0 6 = nI (c.2 + 1) := by rw [f2'.1 _ _ _ (by omega), f1.1 _ _ _ (by omega)]; exact M6
      have m24 : m2.1 4 0 4 = nI (t + 1) := by rw [f2'.1 _ _ _ (by omega)]; exact g14
      have m27 : m2.1 4 0 7 = 0 := by rw [f2'.1 _ _ _ (by omega)]; exact g17
      clear r2 db2 f2 f2' f1 fM t1 tM g14 g17 M6 E1
      refine c4_tk (K := K) (k := 2) (show t + 1 ≤ 400 by omega) m24 m27 (t2 (t + 1) (by omega)).1 (hK _) (by omega) ?_ ?_
      · intro e3 k3 c3 m3 f3 g34 g37
        rw [z_u2_ap, if_neg n01, e3, e_bd_r]
        have E3 : m3.2 = m.2 := by rw [f3.2, E2]
        have t3 : c4_tok K S m3 := t2.fr (zj_k (L := l21) f3) (fun c k e => by omega)
        have F3 : zk (fun c i k => c = 4 ∧ i = 0 ∧ (k = 4 ∨ k = 6 ∨ k = 7 ∨ k = 9 ∨ k = 10)) m m3 := zk_t FA (zk_m f3 (fun c i k e => by omega))
        have db3 := db2'.fr (m' := m3) (f3.1 _ _ _ (by omega)) (f3.1 _ _ _ (by omega))
        have m36 : m3.1 4 0 6 = nI (c.2 + 1) := by rw [f3.1 _ _ _ (by omega)]; exact m26
        refine zw_b (p4_susNum (show t + 1 + 1 ≤ 400 by omega) g34 (t3 (t + 1 + 1) (by omega)).2 db3) ?_
        rintro m4 ⟨f4, db4⟩
        rw [E3] at db4
        have E4 : m4.2 = m.2 := by rw [f4.2, E3]
        have g44 : m4.1 4 0 4 = nI (t + 1 + 1) := by rw [f4.1 _ _ _ (by omega)]; exact g34
        have F4 : zk (fun c i k => c = 4 ∧ i = 0 ∧ (k = 4 ∨ k = 6 ∨ k = 7 ∨ k = 9 ∨ k = 10)) m m4 := zk_t F3 (zk_m f4 (fun c i k e => by omega))
        generalize hfp : q_se (fun j => decide (m.2.1 21 1 j = m.2.1 33 0 (t + 1))) P = fp at r2' db4
        -- the years AWAY
        have mid : zw ((if q2 = (-1 : Int32) then some m4 else (f4_value m4).bind (fun q20 => if z_in q2 7 = true then some (z_sI m4 28 ((m4.2.2 4 0 3)) q2.toNatClampNeg q20.toInt32) else none)) : Option (zMem)) fun m5 => zk (fun c i k => c = 28 ∧ i = o) m4 m5 ∧ (m.2.1 33 0 (t + 2) = lN (V (t + 2)) → ∀ p, p < 7 → m5.1 28 o p = y_aW W (V (t + 2)) fp p) := by
          have h28 : ∀ p, p < 7 → m4.1 28 o p = W p := fun p hp => by rw [F4.1 _ _ _ (by omega)]; exact hgw.2 p hp
          rcases fp with _ | jp
          · rw [if_pos (show q2 = -1 from r2')]
            exact zw_some.mpr ⟨zk_r m4, fun _ => h28⟩
          · have hjp : jp < P := q_se_lt hfp
            have r2'' : q2 = nI jp := r2'
            rw [r2'', if_neg (show ¬ nI jp = -1 by rw [y_ne1 (by omega)]; exact id), p4_value (show t + 1 + 1 ≤ 400 by omega) g44, Option.bind_some, if_pos (y_in (by omega) (by omega)), y_cl (by omega), E4, h3]
            refine zw_some.mpr ⟨zk_s (zk_r m4) (by omega), fun hv p hp => ?_⟩
            show _ = upd W jp (nI (V (t + 2))) p
            rw [z_sI_1]
            by_cases cp : p = jp
            · rw [if_pos ⟨rfl, rfl, cp⟩, cp, pk_us, hv, lN_i]
            · rw [if_neg (fun q => cp q.2.2), pk_un cp, h28 p hp]
        refine zw_b mid ?_
        rintro m5 ⟨f5, r28⟩
        have F5 : zk (fun c i k => (c = 4 ∧ i = 0 ∧ (k = 4 ∨ k = 6 ∨ k = 7 ∨ k = 9 ∨ k = 10)) ∨ (c = 28 ∧ i = o)) m m5 := zk_t (zk_m F4 (fun c i k e => by omega)) (zk_m f5 (fun c i k e => by omega))
        have t5 : c4_tok K S m5 := (t3.fr (zj_k (L := l21) f4) (fun c k e => by omega)).fr (zj_k (L := l21) f5) (fun c k e => by omega)
        refine c4_tk (K := K) (k := 3) (show t + 1 + 1 ≤ 400 by omega) (by rw [f5.1 _ _ _ (by omega)]; exact g44) (by rw [f5.1 _ _ _ (by omega), f4.1 _ _ _ (by omega)]; exact g37) (t5 (t + 1 + 1) (by omega)).1 (hK _) (by omega) ?_ ?_
        · intro e6 k6 c6 m6 f6 g64 g67
          rw [z_u2_ap, if_neg n01, e6, e_bd_r]
          have t6 : c4_tok K S m6 := t5.fr (zj_k (L := l21) f6) (fun c k e => by omega)
          refine c4_tk (K := K) (k := 59) (show t + 1 + 1 + 1 ≤ 400 by omega) g64 g67 (t6 (t + 1 + 1 + 1) (by omega)).1 (hK _) (by omega) ?_ ?_
          · intro e7 _ c7 m7 f7 g74 g77
            rw [z_u2_ap, if_neg n01, e7]
            have F7 : zk (fun c i k => (c = 4 ∧ i = 0 ∧ (k = 4 ∨ k = 6 ∨ k = 7 ∨ k = 9 ∨ k = 10)) ∨ (c = 28 ∧ i = o)) m m7 := zk_t F5 (zk_t (zk_m f6 (fun c i k e => by omega)) (zk_m f7 (fun c i k e => by omega)))
            have J7 : zj (fun c i k => (c = 4 ∧ i = 0 ∧ (k = 4 ∨ k = 6 ∨ k = 7 ∨ k = 9 ∨ k = 10)) ∨ (c = 28 ∧ i = o)) l21 m m7 := zj_k F7
            refine zw_some.mpr ⟨zj_m J7 (fun c i k e => by omega) (fun c e => e), (fun F t' e => by cases e), fun z' e => ⟨rfl, ?_⟩⟩
            have e' : y_away V S A (t, (H, P, s, R, X, L), W, G, c, hn, pn, d) = z' := Sum.inr.inj e
            rw [← e']
            have v1 : m.2.1 33 0 (t + 1) = A (t + 1) := (hval (t + 1) (by omega)).1 k3
            have v2 : m.2.1 33 0 (t + 2) = lN (V (t + 2)) := (hval (t + 2) (by omega)).2 k6
            have d1 := c4_fnd (a := 1) (H := P) hnm.2 v1
            have d1' : x_fh A pn P (t + 1) = fp := by rw [← d1]; exact hfp
            have db4' : c4_db (z_su (decide (99 < m.2.1 33 0 (t + 2))) 5 (S (t + 2)) (z_su fp.isNone 4 (S (t + 1)) d)) m4 := db4
            rw [v2, y_99L (hV _ k6)] at db4'
            have w1 : c4_hd K V S A o (t + 4) (c.1, c.2 + 1) (z_su (decide (99 < V (t + 2))) 5 (S (t + 2)) (z_su fp.isNone 4 (S (t + 1)) d)) m7 := ⟨ho, by omega, by rw [F7.2]; exact h3, g74, by rw [F7.1 _ _ _ (by omega)]; exact h5, by rw [f7.1 _ _ _ (by omega), f6.1 _ _ _ (by omega), f5.1 _ _ _ (by omega), f4.1 _ _ _ (by omega)]; exact m36, g77, db4'.fr (by rw [f7.1 _ _ _ (by omega), f6.1 _ _ _ (by omega), f5.1 _ _ _ (by omega)]) (by rw [f7.1 _ _ _ (by omega), f6.1 _ _ _ (by omega), f5.1 _ _ _ (by omega)]), htk.fr J7 (fun c k e => by omega), fun j hj => by rw [F7.2]; exact hval j hj⟩
            have w3 : c4_gw o G (y_aW W (V (t + 2)) fp) m7 := ⟨fun h' hh' => by rw [F7.1 _ _ _ (by omega)]; exact hgw.1 h' hh', fun p hp => by rw [f7.1 _ _ _ (by omega), f6.1 _ _ _ (by omega)]; exact r28 v2 p hp⟩
            show c4_hd K V S A o (t + 4) (c.1, c.2 + 1) (z_su (decide (99 < V (t + 2))) 5 (S (t + 2)) (z_su (x_fh A pn P (t + 1)).isNone 4 (S (t + 1)) d)) m7 ∧ qTx m7 o (H, P, s, R, X, L) ∧ c4_gw o G (y_aW W (V (t + 2)) (x_fh A pn P (t + 1))) m7 ∧ c4_nm A (H, P, s, R, X, L) hn pn m7 ∧ c4_lw o (t + 4) (H, P, s, R, X, L) m7
            rw [d1']
            exact ⟨w1, htx.zk F7 (fun i k => by omega), w3, hnm.fr (by rw [F7.2]), hlw.fr J7 (fun k => by omega) (by omega)⟩
          · intro F m7 e7 hF f7 g74 g77
            rw [z_u2_ap, if_pos rfl, e7]
            refine zw_some.mpr ⟨zj_k (zk_t (zk_m F5 (fun c i k e => by omega)) (zk_t (zk_m f6 (fun c i k e => by omega)) (zk_m f7 (fun c i k e => by omega)))), fun F2 t2 q => ?_, (fun z' e => by cases e)⟩
            cases q
            exact ⟨rfl, hF, by omega, g74, g77⟩
        · intro F m6 e6 hF f6 g64 g67
          rw [z_u2_ap, if_pos rfl, e6, e_bd_l]
          refine zw_some.mpr ⟨zj_k (zk_t (zk_m F5 (fun c i k e => by omega)) (zk_m f6 (fun c i k e => by omega))), fun F2 t2 q => ?_, (fun z' e => by cases e)⟩
          cases q
          exact ⟨rfl, hF, by omega, g64, g67⟩
      · intro F m3 e3 hF f3 g34 g37
        rw [z_u2_ap, if_pos rfl, e3, e_bd_l]
        refine zw_some.mpr ⟨zj_k (zk_t (zk_m FA (fun c i k e => by omega)) (zk_m f3 (fun c i k e => by omega))), fun F2 t2 q => ?_, (fun z' e => by cases e)⟩
        cases q
        exact ⟨rfl, hF, by omega, g34, g37⟩
    · intro F m1 e1 hF f1 g14 g17
      rw [z_u2_ap, if_pos rfl, e1, e_bd_l]
      refine zw_some.mpr ⟨zj_k (zk_t (zk_m fM (fun c i k e => by omega)) (zk_m f1 (fun c i k e => by omega))), fun F2 t2 q => ?_, (fun z' e => by cases e)⟩
      cases q
      exact ⟨rfl, hF, ht, g14, g17⟩
  · rw [if_neg (nI_nlt (by omega) (by omega)), if_neg cR]
    unfold f4_refuse
    simp only [z_let]
    rw [z_u2_ap, if_pos y_b0]
    refine zw_some.mpr ⟨zj_s (zj_r m) (by omega), fun F t' e => ?_, (fun z' e => by cases e)⟩
    cases e
    exact ⟨rfl, Or.inr rfl, ht, by rw [z_sI_1, if_neg (by omega)]; exact h4, by rw [z_sI_1, if_pos ⟨rfl, rfl, rfl⟩]; rfl⟩
theorem p4_seed (hK : ∀ j, K j < 149) (h : c4_st K V S A o (t, T, W, G, c, hn, pn, d) m) : zw (f4_readSeed m) (c4_sp K V S A o m (Sum.map id (fun _ => y_seed V (t, T, W, G, c, hn, pn, d)) (e_3 K 136 3 59 t))) := by
  obtain ⟨H, P, s, R, X, L⟩ := T
  obtain ⟨hh, htx, hgw, hnm, hlw⟩ := h
  obtain ⟨ho, ht, h3, h4, h5, h6, h7, hdb, htk, hval⟩ := id hh
  unfold f4_readSeed e_3
  refine c4_tk (K := K) (k := 136) ht h4 h7 (htk t (by omega)).1 (hK t) (by omega) ?_ ?_
  · intro e1 _ c1 m1 f1 g14 g17
    rw [z_u2_ap, if_neg n01, e1, e_bd_r, p4_value (show t + 1 ≤ 400 by omega) g14, Option.bind_some, f1.2, h3]
    simp only [z_let]
    obtain ⟨M, hM⟩ : ∃ M, M = z_sI m1 6 o 2 (m.2.1 33 0 (t + 1)).toInt32 := ⟨_, rfl⟩
    rw [← hM]
    have fM : zk (fun c i k => c = 6 ∧ i = o ∧ k = 2) m1 M := by rw [hM]; exact zk_s (zk_r m1) ⟨rfl, rfl, rfl⟩
    have M2 : M.1 6 o 2 = (m.2.1 33 0 (t + 1)).toInt32 := by rw [hM, z_sI_1, if_pos ⟨rfl, rfl, rfl⟩]
    clear hM
    have FM : zk (fun c i k => (c = 4 ∧ i = 0 ∧ (k = 4 ∨ k = 7)) ∨ (c = 6 ∧ i = o ∧ k = 2)) m M := zk_t (zk_m f1 (fun c i k e => by omega)) (zk_m fM (fun c i k e => by omega))
    have tM : c4_tok K S M := htk.fr (zj_k (L := l21) FM) (fun c k e => by omega)
    refine c4_tk (K := K) (k := 3) (show t + 1 ≤ 400 by omega) (by rw [fM.1 _ _ _ (by omega)]; exact g14) (by rw [fM.1 _ _ _ (by omega)]; exact g17) (tM (t + 1) (by omega)).1 (hK _) (by omega) ?_ ?_
    · intro e3 k3 c3 m3 f3 g34 g37
      rw [z_u2_ap, if_neg n01, e3, e_bd_r]
      have t3 : c4_tok K S m3 := tM.fr (zj_k (L := l21) f3) (fun c k e => by omega)
      refine c4_tk (K := K) (k := 59) (show t + 1 + 1 ≤ 400 by omega) g34 g37 (t3 (t + 1 + 1) (by omega)).1 (hK _) (by omega) ?_ ?_
      · intro e4 _ c4 m4 f4 g44 g47
        rw [z_u2_ap, if_neg n01, e4]
        have F4 : zk (fun c i k => (c = 4 ∧ i = 0 ∧ (k = 4 ∨ k = 7)) ∨ (c = 6 ∧ i = o ∧ k = 2)) m m4 := zk_t FM (zk_t (zk_m f3 (fun c i k e => by omega)) (zk_m f4 (fun c i k e => by omega)))
        have J4 : zj (fun c i k => (c = 4 ∧ i = 0 ∧ (k = 4 ∨ k = 7)) ∨ (c = 6 ∧ i = o ∧ k = 2)) l21 m m4 := zj_k F4
        refine zw_some.mpr ⟨zj_m J4 (fun c i k e => by omega) (fun c e => e), (fun F t' e => by cases e), fun z' e => ⟨rfl, ?_⟩⟩
        have e' : y_seed V (t, (H, P, s, R, X, L), W, G, c, hn, pn, d) = z' := Sum.inr.inj e
        rw [← e']
        have v1 : m.2.1 33 0 (t + 1) = lN (V (t + 1)) := (hval (t + 1) (by omega)).2 k3
        have w2 : qTx m4 o (H, P, nI (V (t + 1)), R, X, L) := ⟨by rw [F4.1 _ _ _ (by omega)]; exact htx.1, by rw [F4.1 _ _ _ (by omega)]; exact htx.2.1, by rw [f4.1 _ _ _ (by omega), f3.1 _ _ _ (by omega), M2, v1, lN_i]; rfl, fun h' hh' => by rw [F4.1 _ _ _ (by omega)]; exact htx.2.2.2.1 h' hh', fun p hp => by rw [F4.1 _ _ _ (by omega)]; exact htx.2.2.2.2 p hp⟩
        have w1 : c4_hd K V S A o (t + 3) c d m4 := ⟨ho, by omega, by rw [F4.2]; exact h3, g44, by rw [F4.1 _ _ _ (by omega)]; exact h5, by rw [F4.1 _ _ _ (by omega)]; exact h6, g47, hdb.fr (F4.1 _ _ _ (by omega)) (F4.1 _ _ _ (by omega)), htk.fr J4 (fun c k e => by omega), fun j hj => by rw [F4.2]; exact hval j hj⟩
        have w4 : c4_nm A (H, P, nI (V (t + 1)), R, X, L) hn pn m4 := c4_nm.fr (T := (H, P, nI (V (t + 1)), R, X, L)) hnm (by rw [F4.2])
        have w5 : c4_lw o (t + 3) (H, P, nI (V (t + 1)), R, X, L) m4 := c4_lw.fr (T := (H, P, nI (V (t + 1)), R, X, L)) hlw J4 (fun k => by omega) (by omega)
        exact ⟨w1, w2, hgw.fr J4 (fun k => by omega), w4, w5⟩
      · intro F m4 e4 hF f4 g44 g47
        rw [z_u2_ap, if_pos rfl, e4]
        refine zw_some.mpr ⟨zj_k (zk_t (zk_m FM (fun c i k e => by omega)) (zk_t (zk_m f3 (fun c i k e => by omega)) (zk_m f4 (fun c i k e => by omega)))), fun F2 t2 q => ?_, (fun z' e => by cases e)⟩
        cases q
        exact ⟨rfl, hF, by omega, g44, g47⟩
    · intro F m3 e3 hF f3 g34 g37
      rw [z_u2_ap, if_pos rfl, e3, e_bd_l]
      refine zw_some.mpr ⟨zj_k (zk_t (zk_m FM (fun c i k e => by omega)) (zk_m f3 (fun c i k e => by omega))), fun F2 t2 q => ?_, (fun z' e => by cases e)⟩
      cases q
      exact ⟨rfl, hF, by omega, g34, g37⟩
  · intro F m1 e1 hF f1 g14 g17
    rw [z_u2_ap, if_pos rfl, e1, e_bd_l]
    refine zw_some.mpr ⟨zj_k (zk_m f1 (fun c i k e => by omega)), fun F2 t2 q => ?_, (fun z' e => by cases e)⟩
    cases q
    exact ⟨rfl, hF, ht, g14, g17⟩
theorem p4_lawS (hK : ∀ j, K j < 149) (hV : ∀ j, K j = 3 → V j < 10000) (hk : k < 4) (h : c4_st K V S A o (t, T, W, G, c, hn, pn, d) m) : zw (f4_readLaw (nI k) m) (c4_sp K V S A o m (Sum.map id (fun p => y_law k p.1 p.2 (t, T, W, G, c, hn, pn, d)) (x_law K V k t))) := by
  obtain ⟨H, P, s, R, X, L⟩ := T
  obtain ⟨hh, htx, hgw, hnm, N, hN, h9, hl⟩ := h
  obtain ⟨ho, ht, h3, h4, h5, h6, h7, hdb, htk, hval⟩ := id hh
  have hin : c4_in K V o t N m := ⟨ht, hN, h3, h4, h7, h9, fun j hj => (htk j hj).1, fun j hj q => (hval j hj).2 q⟩
  refine zw_mono (p4_law hK hV hk hin) ?_
  rintro ⟨q, m1⟩ ⟨p1, p2⟩
  rcases hx : x_law K V k t with ⟨F, t'⟩ | ⟨t', bs, f⟩
  · obtain ⟨q1, q2, q3, q4, q5, q6⟩ := p1 F t' hx
    refine ⟨zj_k (zk_m q4 (fun c i k e => by omega)), fun F2 t2 e => ?_, (fun z' e => by cases e)⟩
    cases e
    exact ⟨q1, q2, q3, q5, q6⟩
  · obtain ⟨q1, q2, q3, N', q4, q5, q6, q7, q8, q9, q10⟩ := p2 t' bs f hx
    have q2' : zk (sL o) m m1 := q2
    have J : zj (sL o) l21 m m1 := zj_k q2'
    refine ⟨zj_m J (fun c i k e => by omega) (fun c e => e), (fun F t' e => by cases e), fun z' e => ⟨q1, ?_⟩⟩
    have e' : y_law k t' (bs, f) (t, (H, P, s, R, X, L), W, G, c, hn, pn, d) = z' := Sum.inr.inj e
    rw [← e']
    have w1 : c4_hd K V S A o t' c d m1 := ⟨ho, q4.1, by rw [q2'.2]; exact h3, q4.2.2.2.1, by rw [q2'.1 _ _ _ (by omega)]; exact h5, by rw [q2'.1 _ _ _ (by omega)]; exact h6, q4.2.2.2.2.1, hdb.fr (q2'.1 _ _ _ (by omega)) (q2'.1 _ _ _ (by omega)), htk.fr J (fun c k e => by omega), fun j hj => by rw [q2'.2]; exact hval j hj⟩
    have w2 : qTx m1 o (H, P, s, R, X, fun j => if j = k then (bs, f) else L j) := ⟨by rw [q2'.1 _ _ _ (by omega)]; exact htx.1, by rw [q2'.1 _ _ _ (by omega)]; exact htx.2.1, by rw [q2'.1 _ _ _ (by omega)]; exact htx.2.2.1, fun h' hh' => by rw [q2'.1 _ _ _ (by omega)]; exact htx.2.2.2.1 h' hh', fun p hp => by rw [q2'.1 _ _ _ (by omega)]; exact htx.2.2.2.2 p hp⟩
    have w4 : c4_nm A (H, P, s, R, X, fun j => if j = k then (bs, f) else L j) hn pn m1 := c4_nm.fr (T := (H, P, s, R, X, fun j => if j = k then (bs, f) else L j)) hnm (by rw [q2'.2])
    have w5 : c4_lw o t' (H, P, s, R, X, fun j => if j = k then (bs, f) else L j) m1 := by
      refine ⟨N', q4.2.1, q4.2.2.2.2.2.1, fun j hj => ?_⟩
      show ∃ i, m1.1 30 o j = nI i ∧ q_cl (m1.1 29 o) N' i (if j = k then (bs, f) else L j).1 (if j = k then (bs, f) else L j).2
      by_cases cj : j = k
      · rw [if_pos cj, cj]
        exact ⟨N, q7, q5⟩
      · rw [if_neg cj]
        obtain ⟨i, i1, i2⟩ := hl j hj
        exact ⟨i, (q8 j cj).trans i1, q_cl_cong q10 q9 i2⟩
    exact ⟨w1, w2, hgw.fr J (fun k => by omega), w4, w5⟩
end
