/-! READ XXXV: the reference's sentences: right, away -/
section
variable {K V S : Nat → Nat} {A B : Nat → Int64} {e t k F H P p a v c0 b0 C b : Nat} {m m' : zMem} {c d : Nat × Nat} {T : qT} {W G : Nat → Int32} {hn pn : Nat → Nat}
abbrev sK9 : Nat → Nat → Nat → Prop := fun c i k => c = 9 ∧ i = 0 ∧ (k = 11 ∨ k = 13 ∨ k = 14 ∨ k = 15 ∨ k = 16)
theorem zk_G9 (h : zk sG m m') : zk sK9 m m' := zk_m h (fun c i k e => ⟨e.1, e.2.1, by omega⟩)
theorem zk_W9 (h : zk sWr m m') : zk sK9 m m' := zk_m h (fun c i k e => ⟨e.1, e.2.1, by omega⟩)
theorem o_i_neg : ∀ x : Option Nat, (∀ j, x = some j → j < 100) → (o_i x < 0) = (x = none)
  | none, _ => eq_true (by decide) |>.trans (eq_self _).symm
  | some j, h => by
    have := h j rfl
    rw [show o_i (some j) = nI j from rfl, y_lt0 (by omega)]
    exact (eq_false (by simp)).symm
theorem p9_tellRightF (hF : F = 1 ∨ F = 2) (h : m.1 9 0 13 = nI F) : f9_tellRight m = some m := by
  obtain ⟨y1, y2⟩ := y_F hF
  unfold f9_tellRight
  rw [p9_knownF hF h, Option.bind_some, z_u2_ap, p9_knownF hF h, Option.bind_some, z_u2_ap, h, if_neg y2, Option.bind_some, if_pos rfl, Option.bind_some, p9_mustF hF h, Option.bind_some, h, if_pos y1]
theorem p9_right (hk : r9_kk K e) (hp : r9_pl S e) (hAB : r9_ab K A B) (hz : qz_ok K S (t, T, W, G, c, hn, pn, d)) (hKt : K t = 130) (h : r9_st K V S B e c0 b0 v (t, T, W, G, c, hn, pn, d) m) : zw (g9_right m) (r9_sp K V S B e c0 b0 v m (if c.1 < 20 then Sum.map id (fun _ => y_right S A (t, T, W, G, c, hn, pn, d)) (e_4 K 130 2 2 59 t) else .inl (2, t))) := by
  obtain ⟨H, P, s, R, X, L⟩ := T
  obtain ⟨C, b, ⟨hq, hv, h19, h129, h130, hdb, h108⟩, htx, hgw, hnm, hlw⟩ := h
  obtain ⟨z1, ⟨z2, z2'⟩, z3, z4, z5, z6, z7, z8, z9, z10, z11, z12⟩ := hz
  have hH : H ≤ 5 := z2
  have hP : P ≤ 7 := z2'
  have he := hk.1
  obtain ⟨ht, hC, hc0, h11, h12, h13, h40, htk⟩ := id hq
  have e20 : m.1 9 0 20 = nI (H + P) := hnm.1
  obtain ⟨_, od, o1, o2, o3, o4⟩ := id hnm
  have hnk : qz_nk K (H, P, s, R, X, L) hn pn := ⟨fun h' hh => (z6 h' hh).1, fun p' hp' => (z7 p' hp').1⟩
  have ho20 : ∀ k, k < H + P → m.1 122 0 k = nI (od k) ∧ od k < 20 := fun k hk' => by
    obtain ⟨a1, a2⟩ := o1 k hk'
    refine ⟨a1, ?_⟩
    rcases a2 with ⟨q, _⟩ | ⟨_, q, _⟩
    · have q' : od k < H := q
      omega
    · have q' : od k < 10 + P := q
      omega
  clear z6 z7 z8 z9 z10 z3
  unfold g9_right
  rw [h19, if_pos (y_in hv (by omega)), y_cl (by omega), h129, y_20]
  refine zw_b (p9_room he z4 (by omega) ht htk h11 h13) ?_
  rintro m1 ⟨f1, r1, r2⟩
  by_cases cc : c.1 < 20 ∧ t < 400
  · obtain ⟨g11, g13⟩ := r2 cc
    rw [g13, if_pos rfl, zw_bs, if_pos cc.1]
    have ht1 : t + 1 ≤ e := hk.2.2 t ht (by omega) cc.2
    have tk1 : r9_tk K V S e m1 := htk.fr f1 (fun c k e => by omega)
    have hx : e_4 K 130 2 2 59 t = e_bd (e_t K 2 (t + 1)) fun t2 _ => e_bd (e_t K 2 t2) fun t3 _ => e_t K 59 t3 := by
      unfold e_4
      rw [e_t_ok hKt cc.2, e_bd_r]
    have F1 : zk sK9 m m1 := zk_G9 f1
    unfold f9_tellRight
    refine zw_b (p9_known (l := 10) (n := H + P) (od := od) (by omega) hk hp ht1 tk1 g11 g13 (hdb.fr (f1.1 _ _ _ (by omega)) (f1.1 _ _ _ (by omega))) (r9_lt hp z12 (by omega) ht1) (by omega) (by rw [f1.1 _ _ _ (by omega)]; exact e20) (fun k hk' => by rw [f1.1 _ _ _ (by omega)]; exact ho20 k hk')) ?_
    rintro ⟨q1, m2⟩ ⟨f2, a2, a3⟩
    have f2' : zk sK9 m1 m2 := f2
    have F2 : zk sK9 m m2 := zk_t F1 f2'
    rw [z_u2_ap]
    rw [f1.2] at a3
    rcases e_t_d K 2 (t + 1) with ⟨F, e2, hF⟩ | ⟨e2, k2, c2⟩
    · obtain ⟨q1', _, g13', g14'⟩ := a2 F e2
      have g13'' : m2.1 9 0 13 = nI F := g13'
      rw [p9_knownF hF g13'', Option.bind_some, z_u2_ap, g13'', if_neg (y_F hF).2, Option.bind_some, if_pos rfl, Option.bind_some, p9_mustF hF g13'', Option.bind_some, g13'', if_pos (y_F hF).1]
      refine zw_some.mpr (r9_sp_l (F := F) (t' := t + 1) ?_ (i_K9 F2) ⟨hF, g13'', g14'⟩)
      rw [hx, e2]; rfl
    · obtain ⟨ex1, g211, g213, db2⟩ := a3 e2
      rw [e2, e_bd_r] at hx
      have g211' : m2.1 9 0 11 = nI (t + 1 + 1) := g211
      have g213' : m2.1 9 0 13 = 0 := g213
      have ht2 : t + 1 + 1 ≤ e := hk.2.2 (t + 1) ht1 (by omega) c2
      have b1 : m.2.1 108 0 (t + 1) = B (t + 1) := h108 (t + 1) ht1 k2
      have efp := r9_fp (T := (H, P, s, R, X, L)) (t := t + 1) hAB ⟨hH, hP⟩ hnk o1 o3 o4 k2 b1
      have efp' : (q_se (fun j => decide (m.2.1 121 0 j = m.2.1 108 0 (t + 1)) && (decide (10 ≤ od j) && decide (od j < 10 + 10))) (H + P)).map (fun j => od j - 10) = x_fh A pn P (t + 1) := efp
      have efn : (q_se (fun j => decide (m.2.1 121 0 j = m.2.1 108 0 (t + 1)) && (decide (10 ≤ od j) && decide (od j < 10 + 10))) (H + P)).isNone = (x_fh A pn P (t + 1)).isNone := by
        rw [← efp']; cases q_se (fun j => decide (m.2.1 121 0 j = m.2.1 108 0 (t + 1)) && (decide (10 ≤ od j) && decide (od j < 10 + 10))) (H + P) <;> rfl
      have ex1' : q1 = o_i (x_fh A pn P (t + 1)) := by rw [← efp']; exact ex1
      have db2' : r9_db (z_su (x_fh A pn P (t + 1)).isNone 4 (S (t + 1)) d) m2 := by rw [← efn]; exact db2
      have d1 := z_su_k (S := S) (a := 4) (c := (x_fh A pn P (t + 1)).isNone) (by omega) z11 (show t + 1 < t + 1 + 1 by omega) rfl (show t ≤ t + 1 + 1 by omega) z12
      clear efp efp' efn ex1 db2
      have hfp : ∀ j, x_fh A pn P (t + 1) = some j → j < P := fun j q => x_fh_lt q
      obtain ⟨fp, hfpE⟩ : ∃ fp, fp = x_fh A pn P (t + 1) := ⟨_, rfl⟩
      rw [← hfpE] at ex1' db2' d1 hfp
      refine zw_b (p9_known (l := 0) (n := H + P) (od := od) (by omega) hk hp ht2 (htk.fr F2 (fun c k e => by omega)) g211' g213' db2' (r9_lt hp d1.2 (Nat.le_refl _) ht2) (by omega) (by rw [F2.1 _ _ _ (by omega)]; exact e20) (fun k hk' => by rw [F2.1 _ _ _ (by omega)]; exact ho20 k hk')) ?_
      rintro ⟨q4, m3⟩ ⟨f3, a4, a5⟩
      have f3' : zk sK9 m2 m3 := f3
      have F3 : zk sK9 m m3 := zk_t F2 f3'
      rw [z_u2_ap]
      rw [F2.2] at a5
      rcases e_t_d K 2 (t + 1 + 1) with ⟨F, e3, hF⟩ | ⟨e3, k3, c3⟩
      · obtain ⟨q4', _, g13', g14'⟩ := a4 F e3
        have g13'' : m3.1 9 0 13 = nI F := g13'
        rw [g13'', if_neg (y_F hF).2, Option.bind_some, if_pos rfl, Option.bind_some, p9_mustF hF g13'', Option.bind_some, g13'', if_pos (y_F hF).1]
        refine zw_some.mpr (r9_sp_l (F := F) (t' := t + 1 + 1) ?_ (i_K9 F3) ⟨hF, g13'', g14'⟩)
        rw [hx, e3]; rfl
      · obtain ⟨ex2, g311, g313, db3⟩ := a5 e3
        rw [e3, e_bd_r] at hx
        have g311' : m3.1 9 0 11 = nI (t + 1 + 1 + 1) := g311
        have g313' : m3.1 9 0 13 = 0 := g313
        have ht3 : t + 1 + 1 + 1 ≤ e := hk.2.2 (t + 1 + 1) ht2 (by omega) c3
        have b2 : m.2.1 108 0 (t + 1 + 1) = B (t + 1 + 1) := h108 (t + 1 + 1) ht2 k3
        have efh := r9_fh (T := (H, P, s, R, X, L)) (t := t + 1 + 1) hAB ⟨hH, hP⟩ hnk o1 o2 o4 k3 b2
        have efh' : (q_se (fun j => decide (m.2.1 121 0 j = m.2.1 108 0 (t + 1 + 1)) && (decide (0 ≤ od j) && decide (od j < 0 + 10))) (H + P)).map (fun j => od j - 0) = x_fh A hn H (t + 1 + 1) := efh
        have efn : (q_se (fun j => decide (m.2.1 121 0 j = m.2.1 108 0 (t + 1 + 1)) && (decide (0 ≤ od j) && decide (od j < 0 + 10))) (H + P)).isNone = (x_fh A hn H (t + 1 + 1)).isNone := by
          rw [← efh']; cases q_se (fun j => decide (m.2.1 121 0 j = m.2.1 108 0 (t + 1 + 1)) && (decide (0 ≤ od j) && decide (od j < 0 + 10))) (H + P) <;> rfl
        have ex2' : q4 = o_i (x_fh A hn H (t + 1 + 1)) := by rw [← efh']; exact ex2
        have db3' : r9_db (z_su (x_fh A hn H (t + 1 + 1)).isNone 4 (S (t + 1 + 1)) (z_su fp.isNone 4 (S (t + 1)) d)) m3 := by rw [← efn]; exact db3
        clear efh efh' efn ex2 db3
        have hfh : ∀ j, x_fh A hn H (t + 1 + 1) = some j → j < H := fun j q => x_fh_lt q
        have hfin : ∀ z', Sum.map id (fun _ => y_right S A (t, (H, P, s, R, X, L), W, G, c, hn, pn, d)) (Sum.inr (t + 1 + 1 + 1 + 1, ()) : qE Unit) = .inr z' → y_right S A (t, (H, P, s, R, X, L), W, G, c, hn, pn, d) = z' := fun z' q => Sum.inr.inj q
        have g125 : ∀ h', h' < 5 → m3.1 125 0 (5 * v + h') = G h' := fun h' hh => by rw [F3.1 _ _ _ (by omega)]; exact hgw.1 h' hh
        have i19 : m3.1 9 0 19 = nI v := by rw [F3.1 _ _ _ (by omega)]; exact h19
        have i129 : m3.1 129 0 v = nI c.1 := by rw [F3.1 _ _ _ (by omega)]; exact h129
        -- both there or not
        have last : ∀ (m4 : zMem) (D : Nat × Nat) (G' : Nat → Int32) (j12 : Int32) (g : zMem → Option zMem), zk sK9 m m4 → m4.1 9 0 11 = nI (t + 1 + 1 + 1) → m4.1 9 0 13 = 0 → r9_db D m4 → (∀ m5, zk (fun c i k => (c = 9 ∧ i = 0 ∧ (k = 11 ∨ k = 13 ∨ k = 14 ∨ k = 15 ∨ k = 16)) ∨ (c = 129 ∧ i = 0 ∧ k = v)) m m5 → zw (g m5) fun m6 => ∃ jh, jh < 5 ∧ zk (fun c i k => c = 125 ∧ i = 0 ∧ k = 5 * v + jh) m5 m6 ∧ ∀ h', h' < 5 → m6.1 125 0 (5 * v + h') = G' h') → y_right S A (t, (H, P, s, R, X, L), W, G, c, hn, pn, d) = (t + 4, (H, P, s, R, X, L), W, G', (c.1 + 1, c.2), hn, pn, D) → zw ((f9_must (4 : Int32) m4).bind (fun qm21 => (if 0 < (qm21.1 9 0 13) then some qm21 else if z_in (qm21.1 9 0 19) 2 = true then z_let (z_sI qm21 129 0 (qm21.1 9 0 19).toNatClampNeg ((qm21.1 129 0 (qm21.1 9 0 19).toNatClampNeg) + (1 : Int32))) fun m25 => g m25 else none))) (r9_sp K V S B e c0 b0 v m (Sum.map id (fun _ => y_right S A (t, (H, P, s, R, X, L), W, G, c, hn, pn, d)) (e_4 K 130 2 2 59 t))) := by
          intro m4 D G' j12 g F4 q11 q13 dbD hg hy
          refine r9_mu (k := 59) hk (by decide) rfl ht3 (htk.fr F4 (fun c k e => by omega)) q11 q13 ?_ ?_
          · intro e4 k4 c4 m5 f5 g511 g513
            have F5 : zk sK9 m m5 := zk_t F4 (zk_G9 f5)
            have ht4 : t + 1 + 1 + 1 + 1 ≤ e := hk.2.2 (t + 1 + 1 + 1) ht3 (by omega) c4
            have j19 : m5.1 9 0 19 = nI v := by rw [F5.1 _ _ _ (by omega)]; exact h19
            have j129 : m5.1 129 0 v = nI c.1 := by rw [F5.1 _ _ _ (by omega)]; exact h129
            rw [g513, if_neg (show ¬ (0 : Int32) < 0 by decide), j19, if_pos (y_in hv (by omega)), y_cl (by omega), j129, y_s1]
            simp only [z_let]
            obtain ⟨M, hM⟩ : ∃ M, M = z_sI m5 129 0 v (nI (c.1 + 1)) := ⟨_, rfl⟩
            rw [← hM]
            have fM : zk (fun c i k => c = 129 ∧ i = 0 ∧ k = v) m5 M := by rw [hM]; exact zk_s (zk_r m5) ⟨rfl, rfl, rfl⟩
            have M129 : M.1 129 0 v = nI (c.1 + 1) := by rw [hM, z_sI_1, if_pos ⟨rfl, rfl, rfl⟩]
            clear hM
            refine zw_mono (hg M (zk_t (zk_m F5 (fun c i k e => Or.inl e)) (zk_m fM (fun c i k e => Or.inr e)))) ?_
            rintro m6 ⟨jh, hjh, f6, r125⟩
            have J6 : zj (fun c i k => (c = 9 ∧ i = 0 ∧ (k = 11 ∨ k = 13 ∨ k = 14 ∨ k = 15 ∨ k = 16)) ∨ (c = 129 ∧ i = 0 ∧ k = v) ∨ (c = 125 ∧ i = 0 ∧ k = 5 * v + jh)) l121 m m6 := zj_k (zk_t (zk_m F5 (fun c i k e => Or.inl e)) (zk_t (zk_m fM (fun c i k e => Or.inr (Or.inl e))) (zk_m f6 (fun c i k e => Or.inr (Or.inr e)))))
            refine ⟨zj_t (i_K9 F5) (zj_t (i_vv (by omega) fM) (i_125 hjh f6)), (fun F t' q => by rw [hx, e4] at q; cases q), fun z' q => ?_⟩
            rw [hx, e4] at q
            rw [← hfin z' q, hy]
            have w1 : r9_hd K V S B e c0 v (t + 4) C (c.1 + 1, c.2) D m6 := by
              refine ⟨⟨ht4, by omega, hc0, by rw [f6.1 _ _ _ (by omega), fM.1 _ _ _ (by omega)]; exact g511, by rw [J6.1 _ _ _ (by omega)]; exact h12, by rw [f6.1 _ _ _ (by omega), fM.1 _ _ _ (by omega)]; exact g513, by rw [J6.1 _ _ _ (by omega)]; exact h40, fun j hj => ⟨by rw [J6.1 _ _ _ (by omega)]; exact (htk j hj).1, by rw [J6.1 _ _ _ (by omega)]; exact (htk j hj).2.1, fun q => by rw [J6.1 _ _ _ (by omega)]; exact (htk j hj).2.2 q⟩⟩, hv, by rw [J6.1 _ _ _ (by omega)]; exact h19, by rw [f6.1 _ _ _ (by omega)]; exact M129, by rw [J6.1 _ _ _ (by omega)]; exact h130, ?_, fun j hj q => by rw [J6.2.1 108 (by omega)]; exact h108 j hj q⟩
              exact dbD.fr (by rw [f6.1 _ _ _ (by omega), fM.1 _ _ _ (by omega), f5.1 _ _ _ (by omega)]) (by rw [f6.1 _ _ _ (by omega), fM.1 _ _ _ (by omega), f5.1 _ _ _ (by omega)])
            have w3 : r9_gw v G' W m6 := ⟨r125, fun p' hp' => by rw [J6.1 _ _ _ (by omega)]; exact hgw.2 p' hp'⟩
            have w4 : r9_nm B (H, P, s, R, X, L) hn pn m6 := hnm.fr (J6.1 _ _ _ (by omega)) (funext fun i => J6.1 _ _ _ (by omega)) (by rw [f6.2, fM.2, F5.2])
            exact ⟨C, b, w1, htx.fr J6 (fun c k e => by omega), w3, w4, hlw.fr J6 (fun c k e => by omega) (by omega)⟩
          · intro F m5 e4 hF f5 g13' g14'
            rw [g13', if_pos (y_F hF).1]
            exact zw_some.mpr (r9_sp_l (by rw [hx, e4]; rfl) (zj_t (i_K9 F4) (i_G9 f5)) ⟨hF, g13', g14'⟩)
        obtain ⟨fh, hfhE⟩ : ∃ fh, fh = x_fh A hn H (t + 1 + 1) := ⟨_, rfl⟩
        rw [← hfhE] at ex2' db3' hfh
        have hyr : y_right S A (t, (H, P, s, R, X, L), W, G, c, hn, pn, d) = (t + 4, (H, P, s, R, X, L), W, y_rG G (x_fh A pn P (t + 1)) (x_fh A hn H (t + 1 + 1)), (c.1 + 1, c.2), hn, pn, y_rD S G t d (x_fh A pn P (t + 1)) (x_fh A hn H (t + 1 + 1))) := rfl
        rw [← hfpE, ← hfhE] at hyr
        clear hfpE hfhE
        have keep : ∀ m5, zk (fun c i k => (c = 9 ∧ i = 0 ∧ (k = 11 ∨ k = 13 ∨ k = 14 ∨ k = 15 ∨ k = 16)) ∨ (c = 129 ∧ i = 0 ∧ k = v)) m m5 → ∀ h', h' < 5 → m5.1 125 0 (5 * v + h') = G h' := fun m5 F5 h' hh => by rw [F5.1 _ _ _ (by omega)]; exact hgw.1 h' hh
        rw [g313', if_pos rfl]
        rcases fp with _ | jp
        · rw [if_pos (show q1 < 0 by rw [ex1']; decide), Option.bind_some, if_pos rfl, Option.bind_some]
          rcases fh with _ | jh
          · refine last m3 _ _ 0 _ F3 g311' g313' db3' (fun m5 F5 => ?_) hyr
            rw [if_pos rfl]
            exact zw_some.mpr ⟨0, by omega, zk_r m5, keep m5 F5⟩
          · refine last m3 _ _ 0 _ F3 g311' g313' db3' (fun m5 F5 => ?_) hyr
            rw [if_pos rfl]
            exact zw_some.mpr ⟨0, by omega, zk_r m5, keep m5 F5⟩
        · have hjp : jp < P := hfp jp rfl
          have ex1'' : q1 = nI jp := ex1'
          rw [ex1'', if_neg (nI_pos (by omega))]
          rcases fh with _ | jh
          · rw [if_pos (show q4 < 0 by rw [ex2']; decide), Option.bind_some, if_pos rfl, Option.bind_some]
            refine last m3 _ _ 0 _ F3 g311' g313' db3' (fun m5 F5 => ?_) hyr
            rw [if_pos rfl]
            exact zw_some.mpr ⟨0, by omega, zk_r m5, keep m5 F5⟩
          · have hjh : jh < H := hfh jh rfl
            have ex2'' : q4 = nI jh := ex2'
            rw [ex2'', if_neg (nI_pos (by omega)), Option.bind_some, if_neg n01, i19, y_5, pk_mul, nI_add, if_pos (y_in (by omega) (by omega)), y_cl (by omega), g125 jh (by omega), b_bit (G jh) jp (by omega), g211']
            refine zw_b (p9_wrongC (a := 3) (d := d) (by omega) (by omega) he hp ht2 (htk.fr F3 (fun c k e => by omega)) g313' db3' (fun q => Or.inl (r9_lt hp z12 (by omega) ht2 q)) (bt (G jh) jp) ?_) ?_
            · cases bt (G jh) jp
              · rw [y_ff, y_ff, if_neg (show ¬ (0 : Int32) = 1 by decide)]
              · rw [if_pos rfl, if_pos rfl, if_pos rfl]; rfl
            rintro m4 ⟨f4, db4⟩
            refine last m4 _ _ 1 _ (zk_t F3 (zk_W9 f4)) (by rw [f4.1 _ _ _ (by omega)]; exact g311') (by rw [f4.1 _ _ _ (by omega)]; exact g313') db4 (fun m5 F5 => ?_) hyr
            have l19 : m5.1 9 0 19 = nI v := by rw [F5.1 _ _ _ (by omega)]; exact h19
            rw [if_neg n01, l19, pk_mul, nI_add, if_pos (y_in (by omega) (by omega)), y_cl (by omega), keep m5 F5 jh (by omega)]
            simp only [z_let]
            refine zw_some.mpr ⟨jh, by omega, zk_s (zk_r m5) ⟨rfl, rfl, rfl⟩, fun h' hh => ?_⟩
            show _ = upd G jh (G jh ||| ((1 : Int32) <<< (nI jp &&& 31))) h'
            rw [z_sI_1]
            by_cases ch : h' = jh
            · rw [if_pos ⟨rfl, rfl, by rw [ch]⟩, ch, pk_us]
            · rw [if_neg (by omega), pk_un ch, keep m5 F5 h' hh]
  · have fl := r1 cc
    rw [fl.2.1, if_neg (y_F fl.1).2]
    refine zw_some.mpr (r9_sp_l ?_ (i_G9 f1) fl)
    by_cases cn : c.1 < 20
    · rw [if_pos cn]
      unfold e_4 e_t
      rw [if_pos hKt, if_neg (fun q => cc ⟨cn, q⟩)]; rfl
    · rw [if_neg cn]
end
