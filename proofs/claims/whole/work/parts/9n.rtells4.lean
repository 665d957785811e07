/-! READ XXXVI: the reference's sentences: away, seed, LAWS; the text -/
section
variable {K V S : Nat → Nat} {A B : Nat → Int64} {e t k F H P p a v c0 b0 C b : Nat} {m m' : zMem} {c d : Nat × Nat} {T : qT} {W G : Nat → Int32} {hn pn : Nat → Nat}
theorem p9_away (hk : r9_kk K e) (hV : ∀ j, K j = 3 → V j < 10000) (hp : r9_pl S e) (hAB : r9_ab K A B) (hz : qz_ok K S (t, T, W, G, c, hn, pn, d)) (hKt : K t = 131) (h : r9_st K V S B e c0 b0 v (t, T, W, G, c, hn, pn, d) m) : zw (g9_away m) (r9_sp K V S B e c0 b0 v m (if c.2 < 7 then Sum.map id (fun _ => y_away V S A (t, T, W, G, c, hn, pn, d)) (e_4 K 131 2 3 59 t) else .inl (2, t))) := by
  obtain ⟨H, P, s, R, X, L⟩ := T
  obtain ⟨C, b, ⟨hq, hv, h19, h129, h130, hdb, h108⟩, htx, hgw, hnm, hlw⟩ := h
  obtain ⟨z1, ⟨z2, z2'⟩, z3, z4, z5, z6, z7, z8, z9, z10, z11, z12⟩ := hz
  have hH : H ≤ 5 := z2
  have hP : P ≤ 7 := z2'
  have he := hk.1
  obtain ⟨ht, hC, hc0, h11, h12, h13, h40, htk⟩ := id hq
  have e20 : m.1 9 0 20 = nI (H + P) := hnm.1
  obtain ⟨_, od, o1, o2, o3, o4⟩ := id hnm
  have hnk : qz_nk K (H, P, s, R, X, L) hn pn := ⟨fun h' hh => (z6 h' hh).1, fun p' hp' => (z7 p' hp').1⟩
  have ho20 : ∀ k, k < H + P → m.1 122 0 k = nI (od k) ∧ od k < 20 := fun k hk' => by
    obtain ⟨a1, a2⟩ := o1 k hk'
    refine ⟨a1, ?_⟩
    rcases a2 with ⟨q, _⟩ | ⟨_, q, _⟩
    · have q' : od k < H := q
      omega
    · have q' : od k < 10 + P := q
      omega
  clear z6 z7 z8 z9 z10 z3
  unfold g9_away
  rw [h19, if_pos (y_in hv (by omega)), y_cl (by omega), h130, y_7]
  refine zw_b (p9_room he z5 (by omega) ht htk h11 h13) ?_
  rintro m1 ⟨f1, r1, r2⟩
  by_cases cc : c.2 < 7 ∧ t < 400
  · obtain ⟨g11, g13⟩ := r2 cc
    rw [g13, if_pos rfl, zw_bs, if_pos cc.1]
    have ht1 : t + 1 ≤ e := hk.2.2 t ht (by omega) cc.2
    have tk1 : r9_tk K V S e m1 := htk.fr f1 (fun c k e => by omega)
    have hx : e_4 K 131 2 3 59 t = e_bd (e_t K 2 (t + 1)) fun t2 _ => e_bd (e_t K 3 t2) fun t3 _ => e_t K 59 t3 := by
      unfold e_4
      rw [e_t_ok hKt cc.2, e_bd_r]
    have F1 : zk sK9 m m1 := zk_G9 f1
    unfold f9_tellAway
    refine zw_b (p9_known (l := 10) (n := H + P) (od := od) (by omega) hk hp ht1 tk1 g11 g13 (hdb.fr (f1.1 _ _ _ (by omega)) (f1.1 _ _ _ (by omega))) (r9_lt hp z12 (by omega) ht1) (by omega) (by rw [f1.1 _ _ _ (by omega)]; exact e20) (fun k hk' => by rw [f1.1 _ _ _ (by omega)]; exact ho20 k hk')) ?_
    rintro ⟨q1, m2⟩ ⟨f2, a2, a3⟩
    have f2' : zk sK9 m1 m2 := f2
    have F2 : zk sK9 m m2 := zk_t F1 f2'
    rw [z_u2_ap]
    rw [f1.2] at a3
    rcases e_t_d K 2 (t + 1) with ⟨F, e2, hF⟩ | ⟨e2, k2, c2⟩
    · obtain ⟨q1', _, g13', g14'⟩ := a2 F e2
      have g13'' : m2.1 9 0 13 = nI F := g13'
      rw [p9_boundedF hF g13'', Option.bind_some, z_u2_ap, p9_mustF hF g13'', Option.bind_some, g13'', if_pos (y_F hF).1]
      refine zw_some.mpr (r9_sp_l (F := F) (t' := t + 1) ?_ (i_K9 F2) ⟨hF, g13'', g14'⟩)
      rw [hx, e2]; rfl
    · obtain ⟨ex1, g211, g213, db2⟩ := a3 e2
      rw [e2, e_bd_r] at hx
      have g211' : m2.1 9 0 11 = nI (t + 1 + 1) := g211
      have g213' : m2.1 9 0 13 = 0 := g213
      have ht2 : t + 1 + 1 ≤ e := hk.2.2 (t + 1) ht1 (by omega) c2
      have b1 : m.2.1 108 0 (t + 1) = B (t + 1) := h108 (t + 1) ht1 k2
      have efp := r9_fp (T := (H, P, s, R, X, L)) (t := t + 1) hAB ⟨hH, hP⟩ hnk o1 o3 o4 k2 b1
      have efp' : (q_se (fun j => decide (m.2.1 121 0 j = m.2.1 108 0 (t + 1)) && (decide (10 ≤ od j) && decide (od j < 10 + 10))) (H + P)).map (fun j => od j - 10) = x_fh A pn P (t + 1) := efp
      have efn : (q_se (fun j => decide (m.2.1 121 0 j = m.2.1 108 0 (t + 1)) && (decide (10 ≤ od j) && decide (od j < 10 + 10))) (H + P)).isNone = (x_fh A pn P (t + 1)).isNone := by
        rw [← efp']; cases q_se (fun j => decide (m.2.1 121 0 j = m.2.1 108 0 (t + 1)) && (decide (10 ≤ od j) && decide (od j < 10 + 10))) (H + P) <;> rfl
      have ex1' : q1 = o_i (x_fh A pn P (t + 1)) := by rw [← efp']; exact ex1
      have db2' : r9_db (z_su (x_fh A pn P (t + 1)).isNone 4 (S (t + 1)) d) m2 := by rw [← efn]; exact db2
      have d1 := z_su_k (S := S) (a := 4) (c := (x_fh A pn P (t + 1)).isNone) (by omega) z11 (show t + 1 < t + 1 + 1 by omega) rfl (show t ≤ t + 1 + 1 by omega) z12
      clear efp efp' efn ex1 db2
      have hfp : ∀ j, x_fh A pn P (t + 1) = some j → j < P := fun j q => x_fh_lt q
      refine zw_b (p9_bounded (mx := 99) (by omega) hk hV hp ht2 (htk.fr F2 (fun c k e => by omega)) g211' g213' db2' (r9_lt hp d1.2 (Nat.le_refl _) ht2)) ?_
      rintro ⟨q4, m3⟩ ⟨f3, a4, a5⟩
      have f3' : zk sK9 m2 m3 := f3
      have F3 : zk sK9 m m3 := zk_t F2 f3'
      rw [z_u2_ap]
      rcases e_t_d K 3 (t + 1 + 1) with ⟨F, e3, hF⟩ | ⟨e3, k3, c3⟩
      · obtain ⟨_, g13', g14'⟩ := a4 F e3
        have g13'' : m3.1 9 0 13 = nI F := g13'
        rw [p9_mustF hF g13'', Option.bind_some, g13'', if_pos (y_F hF).1]
        refine zw_some.mpr (r9_sp_l (F := F) (t' := t + 1 + 1) ?_ (i_K9 F3) ⟨hF, g13'', g14'⟩)
        rw [hx, e3]; rfl
      · obtain ⟨ex2, g311, g313, db3⟩ := a5 e3
        rw [e3, e_bd_r] at hx
        have ex2' : q4 = nI (V (t + 1 + 1)) := ex2
        have g311' : m3.1 9 0 11 = nI (t + 1 + 1 + 1) := g311
        have g313' : m3.1 9 0 13 = 0 := g313
        have ht3 : t + 1 + 1 + 1 ≤ e := hk.2.2 (t + 1 + 1) ht2 (by omega) c3
        refine r9_mu (k := 59) hk (by decide) rfl ht3 (htk.fr F3 (fun c k e => by omega)) g311' g313' ?_ ?_
        · intro e4 k4 c4 m5 f5 g511 g513
          have F5 : zk sK9 m m5 := zk_t F3 (zk_G9 f5)
          have ht4 : t + 1 + 1 + 1 + 1 ≤ e := hk.2.2 (t + 1 + 1 + 1) ht3 (by omega) c4
          have j19 : m5.1 9 0 19 = nI v := by rw [F5.1 _ _ _ (by omega)]; exact h19
          have j130 : m5.1 130 0 v = nI c.2 := by rw [F5.1 _ _ _ (by omega)]; exact h130
          rw [g513, if_neg (show ¬ (0 : Int32) < 0 by decide), j19, if_pos (y_in hv (by omega)), y_cl (by omega), j130, y_s1]
          simp only [z_let]
          obtain ⟨M, hM⟩ : ∃ M, M = z_sI m5 130 0 v (nI (c.2 + 1)) := ⟨_, rfl⟩
          rw [← hM]
          have fM : zk (fun c i k => c = 130 ∧ i = 0 ∧ k = v) m5 M := by rw [hM]; exact zk_s (zk_r m5) ⟨rfl, rfl, rfl⟩
          have M130 : M.1 130 0 v = nI (c.2 + 1) := by rw [hM, z_sI_1, if_pos ⟨rfl, rfl, rfl⟩]
          clear hM
          have FM : zk (fun c i k => (c = 9 ∧ i = 0 ∧ (k = 11 ∨ k = 13 ∨ k = 14 ∨ k = 15 ∨ k = 16)) ∨ (c = 130 ∧ i = 0 ∧ k = v)) m M := zk_t (zk_m F5 (fun c i k e => Or.inl e)) (zk_m fM (fun c i k e => Or.inr e))
          have M19 : M.1 9 0 19 = nI v := by rw [fM.1 _ _ _ (by omega)]; exact j19
          have M128 : ∀ p', p' < 7 → M.1 128 0 (7 * v + p') = W p' := fun p' hp' => by rw [FM.1 _ _ _ (by omega)]; exact hgw.2 p' hp'
          have mid : zw (if q1 < 0 then some M else if z_in (((nI 7 : Int32) * (M.1 9 0 19)) + q1) 14 = true then some (z_sI M 128 0 (((nI 7 : Int32) * (M.1 9 0 19)) + q1).toNatClampNeg q4) else none) fun m6 => ∃ jp, jp < 7 ∧ zk (fun c i k => c = 128 ∧ i = 0 ∧ k = 7 * v + jp) M m6 ∧ ∀ p', p' < 7 → m6.1 128 0 (7 * v + p') = y_aW W (V (t + 2)) (x_fh A pn P (t + 1)) p' := by
            rcases efx : x_fh A pn P (t + 1) with _ | jp
            · rw [efx] at ex1'
              rw [if_pos (show q1 < 0 by rw [ex1']; decide)]
              exact zw_some.mpr ⟨0, by omega, zk_r M, M128⟩
            · have hjp : jp < P := hfp jp efx
              rw [efx] at ex1'
              have ex1'' : q1 = nI jp := ex1'
              rw [ex1'', if_neg (nI_pos (by omega)), M19, pk_mul, nI_add, if_pos (y_in (by omega) (by omega)), y_cl (by omega), ex2']
              refine zw_some.mpr ⟨jp, by omega, zk_s (zk_r M) ⟨rfl, rfl, rfl⟩, fun p' hp' => ?_⟩
              show _ = upd W jp (nI (V (t + 2))) p'
              rw [z_sI_1]
              by_cases cp : p' = jp
              · rw [if_pos ⟨rfl, rfl, by rw [cp]⟩, cp, pk_us]
              · rw [if_neg (by omega), pk_un cp, M128 p' hp']
          refine zw_mono mid ?_
          rintro m6 ⟨jp, hjp, f6, r128⟩
          have J6 : zj (fun c i k => (c = 9 ∧ i = 0 ∧ (k = 11 ∨ k = 13 ∨ k = 14 ∨ k = 15 ∨ k = 16)) ∨ (c = 130 ∧ i = 0 ∧ k = v) ∨ (c = 128 ∧ i = 0 ∧ k = 7 * v + jp)) l121 m m6 := zj_k (zk_t (zk_m F5 (fun c i k e => Or.inl e)) (zk_t (zk_m fM (fun c i k e => Or.inr (Or.inl e))) (zk_m f6 (fun c i k e => Or.inr (Or.inr e)))))
          refine ⟨zj_t (i_K9 F5) (zj_t (i_vv (by omega) fM) (i_128 hjp f6)), (fun F t' q => by rw [hx, e4] at q; cases q), fun z' q => ?_⟩
          rw [hx, e4] at q
          have e' : y_away V S A (t, (H, P, s, R, X, L), W, G, c, hn, pn, d) = z' := Sum.inr.inj q
          rw [← e']
          have w1 : r9_hd K V S B e c0 v (t + 4) C (c.1, c.2 + 1) (z_su (decide (99 < V (t + 2))) 5 (S (t + 2)) (z_su (x_fh A pn P (t + 1)).isNone 4 (S (t + 1)) d)) m6 := by
            refine ⟨⟨ht4, by omega, hc0, by rw [f6.1 _ _ _ (by omega), fM.1 _ _ _ (by omega)]; exact g511, by rw [J6.1 _ _ _ (by omega)]; exact h12, by rw [f6.1 _ _ _ (by omega), fM.1 _ _ _ (by omega)]; exact g513, by rw [J6.1 _ _ _ (by omega)]; exact h40, fun j hj => ⟨by rw [J6.1 _ _ _ (by omega)]; exact (htk j hj).1, by rw [J6.1 _ _ _ (by omega)]; exact (htk j hj).2.1, fun q => by rw [J6.1 _ _ _ (by omega)]; exact (htk j hj).2.2 q⟩⟩, hv, by rw [J6.1 _ _ _ (by omega)]; exact h19, by rw [J6.1 _ _ _ (by omega)]; exact h129, by rw [f6.1 _ _ _ (by omega)]; exact M130, ?_, fun j hj q => by rw [J6.2.1 108 (by omega)]; exact h108 j hj q⟩
            have db3' : r9_db (z_su (decide (99 < V (t + 2))) 5 (S (t + 2)) (z_su (x_fh A pn P (t + 1)).isNone 4 (S (t + 1)) d)) m3 := db3
            exact db3'.fr (by rw [f6.1 _ _ _ (by omega), fM.1 _ _ _ (by omega), f5.1 _ _ _ (by omega)]) (by rw [f6.1 _ _ _ (by omega), fM.1 _ _ _ (by omega), f5.1 _ _ _ (by omega)])
          have w3 : r9_gw v G (y_aW W (V (t + 2)) (x_fh A pn P (t + 1))) m6 := ⟨fun h' hh => by rw [J6.1 _ _ _ (by omega)]; exact hgw.1 h' hh, r128⟩
          have w4 : r9_nm B (H, P, s, R, X, L) hn pn m6 := hnm.fr (J6.1 _ _ _ (by omega)) (funext fun i => J6.1 _ _ _ (by omega)) (by rw [f6.2, fM.2, F5.2])
          exact ⟨C, b, w1, htx.fr J6 (fun c k e => by omega), w3, w4, hlw.fr J6 (fun c k e => by omega) (by omega)⟩
        · intro F m5 e4 hF f5 g13' g14'
          rw [g13', if_pos (y_F hF).1]
          exact zw_some.mpr (r9_sp_l (by rw [hx, e4]; rfl) (zj_t (i_K9 F3) (i_G9 f5)) ⟨hF, g13', g14'⟩)
  · have fl := r1 cc
    rw [fl.2.1, if_neg (y_F fl.1).2]
    refine zw_some.mpr (r9_sp_l ?_ (i_G9 f1) fl)
    by_cases cn : c.2 < 7
    · rw [if_pos cn]
      unfold e_4 e_t
      rw [if_pos hKt, if_neg (fun q => cc ⟨cn, q⟩)]; rfl
    · rw [if_neg cn]
theorem p9_seed (hk : r9_kk K e) (hV : ∀ j, K j = 3 → V j < 10000) (hp : r9_pl S e) (hz : qz_ok K S (t, T, W, G, c, hn, pn, d)) (hKt : K t = 136) (h : r9_st K V S B e c0 b0 v (t, T, W, G, c, hn, pn, d) m) : zw (g9_seed m) (r9_sp K V S B e c0 b0 v m (Sum.map id (fun _ => y_seed V (t, T, W, G, c, hn, pn, d)) (e_3 K 136 3 59 t))) := by
  obtain ⟨H, P, s, R, X, L⟩ := T
  obtain ⟨C, b, ⟨hq, hv, h19, h129, h130, hdb, h108⟩, htx, hgw, hnm, hlw⟩ := h
  obtain ⟨z1, ⟨z2, z2'⟩, z3, z4, z5, z6, z7, z8, z9, z10, z11, z12⟩ := hz
  have he := hk.1
  obtain ⟨ht, hC, hc0, h11, h12, h13, h40, htk⟩ := id hq
  clear z6 z7 z8 z9 z10 z3
  unfold g9_seed
  refine zw_b (p9_goesOn he ht htk h11 h13) ?_
  rintro m1 ⟨f1, r1, r2⟩
  have j19 : m1.1 9 0 19 = nI v := by rw [f1.1 _ _ _ (by omega)]; exact h19
  have F1 : zk sK9 m m1 := zk_G9 f1
  rw [j19]
  by_cases cc : t < 400
  · obtain ⟨g11, g13⟩ := r1 cc
    have ht1 : t + 1 ≤ e := hk.2.2 t ht (by omega) cc
    have hx : e_3 K 136 3 59 t = e_bd (e_t K 3 (t + 1)) fun t2 _ => e_t K 59 t2 := by
      unfold e_3
      rw [e_t_ok hKt cc, e_bd_r]
    refine zw_b (p9_bounded (mx := 9999) (d := d) (by omega) hk hV hp ht1 (htk.fr F1 (fun c k e => by omega)) g11 g13 (hdb.fr (f1.1 _ _ _ (by omega)) (f1.1 _ _ _ (by omega))) (r9_lt hp z12 (by omega) ht1)) ?_
    rintro ⟨q, m2⟩ ⟨f2, a4, a5⟩
    have f2' : zk sK9 m1 m2 := f2
    have F2 : zk sK9 m m2 := zk_t F1 f2'
    rw [z_u2_ap, if_pos (y_in hv (by omega)), y_cl (by omega)]
    simp only [z_let]
    obtain ⟨M, hM⟩ : ∃ M, M = z_sI m2 131 0 v q := ⟨_, rfl⟩
    rw [← hM]
    have fM : zk (fun c i k => c = 131 ∧ i = 0 ∧ k = v) m2 M := by rw [hM]; exact zk_s (zk_r m2) ⟨rfl, rfl, rfl⟩
    have M131 : M.1 131 0 v = q := by rw [hM, z_sI_1, if_pos ⟨rfl, rfl, rfl⟩]
    clear hM
    have FM : zk (fun c i k => (c = 9 ∧ i = 0 ∧ (k = 11 ∨ k = 13 ∨ k = 14 ∨ k = 15 ∨ k = 16)) ∨ (c = 131 ∧ i = 0 ∧ k = v)) m M := zk_t (zk_m F2 (fun c i k e => Or.inl e)) (zk_m fM (fun c i k e => Or.inr e))
    rcases e_t_d K 3 (t + 1) with ⟨F, e3, hF⟩ | ⟨e3, k3, c3⟩
    · obtain ⟨_, g13', g14'⟩ := a4 F e3
      have g13'' : M.1 9 0 13 = nI F := by rw [fM.1 _ _ _ (by omega)]; exact g13'
      rw [p9_mustF hF g13'', Option.bind_some]
      refine zw_some.mpr (r9_sp_l (F := F) (t' := t + 1) ?_ (zj_t (i_K9 F2) (i_vv (by omega) fM)) ⟨hF, g13'', by rw [fM.1 _ _ _ (by omega)]; exact g14'⟩)
      rw [hx, e3]; rfl
    · obtain ⟨ex, g211, g213, db2⟩ := a5 e3
      rw [e3, e_bd_r] at hx
      have ex' : q = nI (V (t + 1)) := ex
      have ht2 : t + 1 + 1 ≤ e := hk.2.2 (t + 1) ht1 (by omega) c3
      have hV1 := hV (t + 1) k3
      have db2' : r9_db d m2 := by
        have : r9_db (z_su (decide (9999 < V (t + 1))) 5 (S (t + 1)) d) m2 := db2
        rw [decide_eq_false (by omega), z_su_f] at this
        exact this
      refine r9_mu (k := 59) hk (by decide) rfl ht2 (htk.fr FM (fun c k e => by omega)) (by rw [fM.1 _ _ _ (by omega)]; exact g211) (by rw [fM.1 _ _ _ (by omega)]; exact g213) ?_ ?_
      · intro e4 k4 c4 m5 f5 g511 g513
        have ht3 : t + 1 + 1 + 1 ≤ e := hk.2.2 (t + 1 + 1) ht2 (by omega) c4
        have J5 : zj (fun c i k => (c = 9 ∧ i = 0 ∧ (k = 11 ∨ k = 13 ∨ k = 14 ∨ k = 15 ∨ k = 16)) ∨ (c = 131 ∧ i = 0 ∧ k = v)) l121 m m5 := zj_k (zk_t FM (zk_m (zk_G9 f5) (fun c i k e => Or.inl e)))
        refine zw_some.mpr ⟨zj_t (i_K9 F2) (zj_t (i_vv (by omega) fM) (i_G9 f5)), (fun F t' q => by rw [hx, e4] at q; cases q), fun z' q' => ?_⟩
        rw [hx, e4] at q'
        have e' : y_seed V (t, (H, P, s, R, X, L), W, G, c, hn, pn, d) = z' := Sum.inr.inj q'
        rw [← e']
        have w1 : r9_hd K V S B e c0 v (t + 3) C c d m5 := by
          refine ⟨⟨ht3, by omega, hc0, g511, by rw [J5.1 _ _ _ (by omega)]; exact h12, g513, by rw [J5.1 _ _ _ (by omega)]; exact h40, fun j hj => ⟨by rw [J5.1 _ _ _ (by omega)]; exact (htk j hj).1, by rw [J5.1 _ _ _ (by omega)]; exact (htk j hj).2.1, fun q => by rw [J5.1 _ _ _ (by omega)]; exact (htk j hj).2.2 q⟩⟩, hv, by rw [J5.1 _ _ _ (by omega)]; exact h19, by rw [J5.1 _ _ _ (by omega)]; exact h129, by rw [J5.1 _ _ _ (by omega)]; exact h130, ?_, fun j hj q => by rw [J5.2.1 108 (by omega)]; exact h108 j hj q⟩
          exact db2'.fr (by rw [f5.1 _ _ _ (by omega), fM.1 _ _ _ (by omega)]) (by rw [f5.1 _ _ _ (by omega), fM.1 _ _ _ (by omega)])
        have w2 : r9_tx v (H, P, nI (V (t + 1)), R, X, L) m5 := ⟨by rw [J5.1 _ _ _ (by omega)]; exact htx.1, by rw [J5.1 _ _ _ (by omega)]; exact htx.2.1, by rw [f5.1 _ _ _ (by omega), M131, ex']; rfl, fun h' hh' => by rw [J5.1 _ _ _ (by omega)]; exact htx.2.2.2.1 h' hh', fun p hp => by rw [J5.1 _ _ _ (by omega)]; exact htx.2.2.2.2 p hp⟩
        have w4 : r9_nm B (H, P, nI (V (t + 1)), R, X, L) hn pn m5 := r9_nm.fr (T := (H, P, nI (V (t + 1)), R, X, L)) hnm (J5.1 _ _ _ (by omega)) (funext fun i => J5.1 _ _ _ (by omega)) (by rw [f5.2, FM.2])
        have w5 : r9_lw v c0 b0 (t + 3) b C (H, P, nI (V (t + 1)), R, X, L) m5 := r9_lw.fr (T := (H, P, nI (V (t + 1)), R, X, L)) hlw J5 (fun c k e => by omega) (by omega)
        exact ⟨C, b, w1, w2, hgw.fr J5 (fun k => by omega), w4, w5⟩
      · intro F m5 e4 hF f5 g13' g14'
        exact zw_some.mpr (r9_sp_l (by rw [hx, e4]; rfl) (zj_t (i_K9 F2) (zj_t (i_vv (by omega) fM) (i_G9 f5))) ⟨hF, g13', g14'⟩)
  · obtain ⟨g13, g14⟩ := r2 cc
    rw [p9_boundedF (Or.inr rfl) g13, Option.bind_some, z_u2_ap, if_pos (y_in hv (by omega)), y_cl (by omega)]
    simp only [z_let]
    have e13 : (z_sI m1 131 0 v 0).1 9 0 13 = nI 2 := by rw [z_sI_1, if_neg (by omega)]; exact g13
    rw [p9_mustF (Or.inr rfl) e13, Option.bind_some]
    refine zw_some.mpr (r9_sp_l (F := 2) (t' := t) ?_ (zj_t (i_K9 F1) (i_vv (r := 131) (by omega) (zk_s (zk_r m1) ⟨rfl, rfl, rfl⟩))) ⟨Or.inr rfl, e13, by rw [z_sI_1, if_neg (by omega)]; exact g14⟩)
    unfold e_3 e_t
    rw [if_pos hKt, if_neg cc]; rfl
theorem p9_tellLawF {x : Int32} (hF : F = 1 ∨ F = 2) (h13 : m.1 9 0 13 = nI F) (hb0 : b0 ≤ 130) (hb : b0 ≤ b ∧ b < b0 + 128) (h34 : m.1 9 0 34 = nI b) : zw (f9_tellLaw x m) fun m' => zk (sRF b0) m m' := by
  obtain ⟨y1, y2⟩ := y_F hF
  unfold f9_tellLaw
  rw [p9_mustF hF h13, Option.bind_some]
  have e3 : f9_tellLaw_L3 (0, m) = some (.inr (.inl m)) := by
    rw [g9_L3, h13, if_neg y2]
  rw [show z_fu = 4999 + 1 from rfl, z_it_d e3, Option.bind_some, Sum.elim_inl]
  simp only [z_let]
  rw [h34, if_pos (y_in (by omega) (by omega)), y_cl (by omega)]
  have e13 : (z_sI m 135 0 b (vp_nar .boolean (0 : Int32))).1 9 0 13 = nI F := by rw [z_sI_1, if_neg (by omega)]; exact h13
  refine zw_b (p9_termF hF e13 hb0 (show b0 ≤ b ∧ b < b0 + 130 by omega) (by rw [z_sI_1, if_neg (by omega)]; exact h34)) ?_
  rintro m3 ⟨f3, g3⟩
  have e33 : m3.1 9 0 13 = nI F := by rw [f3.1 _ _ _ (by omega)]; exact e13
  rw [p9_mustF hF e33, Option.bind_some, e33, if_pos y1]
  exact zw_some.mpr (zk_t (zk_s (zk_r m) (by omega)) f3)
theorem p9_lawS (hk : r9_kk K e) (hV : ∀ j, K j = 3 → V j < 10000) (hz : qz_ok K S (t, T, W, G, c, hn, pn, d)) (hKt : 132 ≤ K t ∧ K t < 136) (h : r9_st K V S B e c0 b0 v (t, T, W, G, c, hn, pn, d) m) : zw (g9_law m) (r9_sp K V S B e c0 b0 v m (Sum.map id (fun p => y_law (K t - 132) p.1 p.2 (t, T, W, G, c, hn, pn, d)) (x_law K V (K t - 132) t))) := by
  obtain ⟨H, P, s, R, X, L⟩ := T
  obtain ⟨C, b, ⟨hq, hv, h19, h129, h130, hdb, h108⟩, htx, hgw, hnm, h34, hb0, hb, hl4⟩ := h
  obtain ⟨z1, ⟨z2, z2'⟩, z3, z4, z5, z6, z7, z8, z9, z10, z11, z12⟩ := hz
  have he := hk.1
  obtain ⟨ht, hC, hc0, h11, h12, h13, h40, htk⟩ := id hq
  clear z6 z7 z8 z9 z10 z3
  have hG : qk_G (K t) = K t - 108 := (by decide +kernel : ∀ k, k < 136 → 132 ≤ k → qk_G k = k - 108) (K t) hKt.2 hKt.1
  unfold g9_law
  simp only [z_let]
  rw [h11, y_cl (by omega), (htk t ht).1, hG, show (24 : Int32) = nI 24 from rfl, pk_sub (by omega), if_neg (nI_pos (by omega)), show (27 : Int32) = nI 27 from rfl, if_neg (nI_nlt (by omega) (by omega)), Option.bind_some, h13, if_neg (show ¬ (0 : Int32) < 0 by decide), show K t - 108 - 24 = K t - 132 by omega]
  refine zw_b (p9_goesOn he ht htk h11 h13) ?_
  rintro m1 ⟨f1, r1, r2⟩
  rw [zw_bs]
  have F1 : zk sK9 m m1 := zk_G9 f1
  have j34 : m1.1 9 0 34 = nI b := by rw [f1.1 _ _ _ (by omega)]; exact h34
  by_cases cc : t < 400
  · obtain ⟨g11, g13⟩ := r1 cc
    have ht1 : t + 1 ≤ e := hk.2.2 t ht (by omega) cc
    have q1 : r9_q K V S e c0 (t + 1) C m1 := ⟨ht1, by omega, hc0, g11, by rw [f1.1 _ _ _ (by omega)]; exact h12, g13, by rw [f1.1 _ _ _ (by omega)]; exact h40, htk.fr f1 (fun c k e => by omega)⟩
    have hx : x_law K V (K t - 132) t = x_lawR K V (t + 1) := by
      rw [x_law_R, e_t_ok (show K t = 132 + (K t - 132) by omega) cc, e_bd_r]
    rw [hx]
    refine zw_mono (p9_tellLaw (k := K t - 132) (v := v) hk hV hb0 q1 (by omega) j34 hv (by rw [f1.1 _ _ _ (by omega)]; exact h19) (by omega)) ?_
    rintro m2 ⟨f2, a1, a2⟩
    have jP : zj (sPR c0 b0 v) l121 m m2 := zj_t (i_K9 F1) (i_RM f2)
    rcases hi : x_lawR K V (t + 1) with ⟨F, t'⟩ | ⟨t', bs, f⟩
    · obtain ⟨hF, g13', g14'⟩ := a1 F t' hi
      exact r9_sp_l rfl jP ⟨hF, g13', g14'⟩
    · obtain ⟨C', q2, hCC, g34, ml, ag, a132, a133, aoth, hcnt, hlt⟩ := a2 t' bs f hi
      refine ⟨jP, (fun F t' q => by cases q), fun z' q => ?_⟩
      have e' : y_law (K t - 132) t' (bs, f) (t, (H, P, s, R, X, L), W, G, c, hn, pn, d) = z' := Sum.inr.inj q
      rw [← e']
      have w1 : r9_hd K V S B e c0 v t' C' c d m2 := by
        refine ⟨q2, hv, ?_, ?_, ?_, hdb.fr ?_ ?_, fun j hj q => ?_⟩
        · rw [f2.1 _ _ _ (by omega), f1.1 _ _ _ (by omega)]; exact h19
        · rw [f2.1 _ _ _ (by omega), f1.1 _ _ _ (by omega)]; exact h129
        · rw [f2.1 _ _ _ (by omega), f1.1 _ _ _ (by omega)]; exact h130
        · rw [f2.1 _ _ _ (by omega), f1.1 _ _ _ (by omega)]
        · rw [f2.1 _ _ _ (by omega), f1.1 _ _ _ (by omega)]
        · rw [f2.2, f1.2]; exact h108 j hj q
      have J2 : zj (fun c i k => c = 9 ∨ (132 ≤ c ∧ c ≤ 143)) l121 m m2 := zj_k (zk_t (zk_m f1 (fun c i k e => Or.inl e.1)) (zk_m f2 (fun c i k e => by
        rcases e with e | e | e | e | e <;> omega)))
      have w2 : r9_tx v (H, P, s, R, X, fun j => if j = K t - 132 then (bs, f) else L j) m2 := r9_tx.fr (T := (H, P, s, R, X, fun j => if j = K t - 132 then (bs, f) else L j)) htx J2 (fun c k e => by omega)
      have w4 : r9_nm B (H, P, s, R, X, fun j => if j = K t - 132 then (bs, f) else L j) hn pn m2 := r9_nm.fr (T := (H, P, s, R, X, fun j => if j = K t - 132 then (bs, f) else L j)) hnm (by rw [f2.1 _ _ _ (by omega), f1.1 _ _ _ (by omega)]) (funext fun i => J2.1 _ _ _ (by omega)) (by rw [f2.2, f1.2])
      have w5 : r9_lw v c0 b0 t' (b + bs.length + 1) C' (H, P, s, R, X, fun j => if j = K t - 132 then (bs, f) else L j) m2 := by
        refine ⟨g34, hb0, by omega, fun j hj => ?_⟩
        show (m2.1 132 0 (4 * v + j) = m2.1 133 0 (4 * v + j) ∧ (if j = K t - 132 then (bs, f) else L j) = ([], q_pl j)) ∨ ∃ i, (b0 ≤ i ∧ i + (if j = K t - 132 then (bs, f) else L j).1.length + 1 ≤ b + bs.length + 1) ∧ m2.1 132 0 (4 * v + j) = nI i ∧ m2.1 133 0 (4 * v + j) = nI (i + (if j = K t - 132 then (bs, f) else L j).1.length + 1) ∧ r9_ml m2 c0 C' i (if j = K t - 132 then (bs, f) else L j).1 (if j = K t - 132 then (bs, f) else L j).2
        by_cases cj : j = K t - 132
        · rw [if_pos cj, cj]
          exact Or.inr ⟨b, ⟨hb.1, Nat.le_refl _⟩, a132, a133, ml⟩
        · rw [if_neg cj, (aoth (4 * v + j) (by omega)).1, (aoth (4 * v + j) (by omega)).2, f1.1 _ _ _ (by omega), f1.1 _ _ _ (by omega)]
          have agm : r9_ag b C m m2 := r9_ag_t (r9_ag_k f1 (fun c j e => by omega)) ag (Nat.le_refl _) (Nat.le_refl _)
          rcases hl4 j hj with q | ⟨i, i1, i2, i3, i4⟩
          · exact Or.inl q
          · have i1' : b0 ≤ i ∧ i + (L j).1.length + 1 ≤ b := i1
            exact Or.inr ⟨i, by omega, i2, i3, r9_ml_cong agm i1.2 hCC i4⟩
      exact ⟨C', b + bs.length + 1, w1, w2, hgw.fr J2 (fun k => by omega), w4, w5⟩
  · obtain ⟨g13, g14⟩ := r2 cc
    refine zw_mono (p9_tellLawF (b0 := b0) (b := b) (Or.inr rfl) g13 hb0 (by omega) j34) ?_
    intro m2 f2
    refine r9_sp_l (F := 2) (t' := t) ?_ (zj_t (i_K9 F1) (i_RM (zk_FM f2))) ⟨Or.inr rfl, by rw [f2.1 _ _ _ (by omega)]; exact g13, by rw [f2.1 _ _ _ (by omega)]; exact g14⟩
    rw [x_law_R]
    unfold e_t
    rw [if_pos (show K t = 132 + (K t - 132) by omega), if_neg cc]; rfl
theorem p9_lawN (hk : r9_kk K e) (hKt : K t < 128 ∨ 136 < K t) (h : r9_st K V S B e c0 b0 v (t, T, W, G, c, hn, pn, d) m) : zw (g9_law m) (r9_sp K V S B e c0 b0 v m (.inl (1, t))) := by
  obtain ⟨C, b, ⟨hq, hv, h19, h129, h130, hdb, h108⟩, htx, hgw, hnm, hlw⟩ := h
  have he := hk.1
  obtain ⟨ht, hC, hc0, h11, h12, h13, h40, htk⟩ := id hq
  have hok := hk.2.1 t
  have hG := (by decide +kernel : ∀ k, k < 149 → qk_ok k = true → (k < 128 → qk_G k < 24) ∧ (136 < k → 27 < qk_G k)) (K t) (qk_ok_lt hok) hok
  have hG4 := qk_G_lt hok
  unfold g9_law
  simp only [z_let]
  rw [h11, y_cl (by omega), (htk t ht).1]
  obtain ⟨m1, hm1, f1, g1, g2⟩ := p9_fail (F := 1) (Or.inl rfl) he ht htk h11 h13
  have hs := pk_sub_toInt (a := qk_G (K t)) (b := 24) (by omega) (by omega)
  have hs' : (nI (qk_G (K t)) - 24 : Int32).toInt = (qk_G (K t) : Int) - (24 : Nat) := hs
  have fin : zw (some m1) (r9_sp K V S B e c0 b0 v m (.inl (1, t))) := zw_some.mpr (r9_sp_l rfl (i_G9 (zk_m f1 (fun c i k e => by omega))) ⟨Or.inl rfl, g1, g2⟩)
  rw [show (1 : Int32) = nI 1 from rfl, hm1, Option.bind_some]
  rcases hKt with q | q
  · rw [if_pos (show nI (qk_G (K t)) - 24 < 0 by rw [y_i, hs', y_t0]; have := hG.1 q; omega), Option.bind_some, g1, if_pos (show (0 : Int32) < nI 1 by decide)]
    exact fin
  · have h27 := hG.2 q
    rw [if_neg (show ¬ nI (qk_G (K t)) - 24 < 0 by rw [y_i, hs', y_t0]; omega), show (27 : Int32) = nI 27 from rfl, if_pos (nI_lt h27 (by omega)), Option.bind_some, g1, if_pos (show (0 : Int32) < nI 1 by decide)]
    exact fin
end
