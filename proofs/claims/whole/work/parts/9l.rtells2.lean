/-! READ XXXIV: the reference's sentences: house, person -/
abbrev sPR (c0 b0 v : Nat) : Nat → Nat → Nat → Prop := fun c i k => (c = 9 ∧ i = 0 ∧ (k = 11 ∨ k = 12 ∨ k = 13 ∨ k = 14 ∨ k = 15 ∨ k = 16 ∨ k = 20 ∨ k = 34 ∨ k = 40 ∨ k = 44)) ∨ c = 122 ∨ ((c = 123 ∨ c = 126 ∨ c = 129 ∨ c = 130 ∨ c = 131) ∧ k = v) ∨ ((c = 124 ∨ c = 125) ∧ 5 * v ≤ k ∧ k < 5 * v + 5) ∨ ((c = 127 ∨ c = 128) ∧ 7 * v ≤ k ∧ k < 7 * v + 7) ∨ ((c = 132 ∨ c = 133) ∧ 4 * v ≤ k ∧ k < 4 * v + 4) ∨ (135 ≤ c ∧ c ≤ 139 ∧ b0 ≤ k ∧ k < b0 + 130) ∨ ((c = 141 ∨ c = 142) ∧ c0 ≤ k ∧ k < c0 + 420) ∨ c = 143
section
variable {K V S : Nat → Nat} {A B : Nat → Int64} {e t k F H P p a v c0 b0 C b : Nat} {m m' : zMem} {c d : Nat × Nat} {T : qT} {W G : Nat → Int32} {hn pn : Nat → Nat}
def r9_hd (K V S : Nat → Nat) (B : Nat → Int64) (e c0 v t C : Nat) (c d : Nat × Nat) (m : zMem) : Prop := r9_q K V S e c0 t C m ∧ v < 2 ∧ m.1 9 0 19 = nI v ∧ m.1 129 0 v = nI c.1 ∧ m.1 130 0 v = nI c.2 ∧ r9_db d m ∧ ∀ j, j ≤ e → K j = 2 → m.2.1 108 0 j = B j
def r9_tx (v : Nat) (T : qT) (m : zMem) : Prop := m.1 123 0 v = nI (tH T) ∧ m.1 126 0 v = nI (tP T) ∧ m.1 131 0 v = tS T ∧ (∀ h, h < tH T → m.1 124 0 (5 * v + h) = tR T h) ∧ ∀ p, p < tP T → m.1 127 0 (7 * v + p) = tA T p
def r9_gw (v : Nat) (G W : Nat → Int32) (m : zMem) : Prop := (∀ h, h < 5 → m.1 125 0 (5 * v + h) = G h) ∧ ∀ p, p < 7 → m.1 128 0 (7 * v + p) = W p
def r9_lw (v c0 b0 t b C : Nat) (T : qT) (m : zMem) : Prop := m.1 9 0 34 = nI b ∧ b0 ≤ 130 ∧ (b0 ≤ b ∧ 4 * b ≤ 4 * b0 + t) ∧ ∀ k, k < 4 → (m.1 132 0 (4 * v + k) = m.1 133 0 (4 * v + k) ∧ tL T k = ([], q_pl k)) ∨ ∃ i, (b0 ≤ i ∧ i + (tL T k).1.length + 1 ≤ b) ∧ m.1 132 0 (4 * v + k) = nI i ∧ m.1 133 0 (4 * v + k) = nI (i + (tL T k).1.length + 1) ∧ r9_ml m c0 C i (tL T k).1 (tL T k).2
def r9_st (K V S : Nat → Nat) (B : Nat → Int64) (e c0 b0 v : Nat) : qZ → zMem → Prop
  | (t, T, W, G, c, hn, pn, d), m => ∃ C b, r9_hd K V S B e c0 v t C c d m ∧ r9_tx v T m ∧ r9_gw v G W m ∧ r9_nm B T hn pn m ∧ r9_lw v c0 b0 t b C T m
def r9_sp (K V S : Nat → Nat) (B : Nat → Int64) (e c0 b0 v : Nat) (m : zMem) (res : (Nat × Nat) ⊕ qZ) (m' : zMem) : Prop := zj (sPR c0 b0 v) l121 m m' ∧ (∀ F t', res = .inl (F, t') → r9_fl S F t' m') ∧ (∀ z', res = .inr z' → r9_st K V S B e c0 b0 v z' m')
theorem r9_sp_l {res : (Nat × Nat) ⊕ qZ} {t' : Nat} (hr : res = .inl (F, t')) (f1 : zj (sPR c0 b0 v) l121 m m') (h : r9_fl S F t' m') : r9_sp K V S B e c0 b0 v m res m' := ⟨f1, fun F2 t2 q => by
    rw [hr] at q
    cases q
    exact h, fun z' q => by rw [hr] at q; cases q⟩
theorem r9_gw.fr {U : Nat → Nat → Nat → Prop} {L : Nat → Prop} (h : r9_gw v G W m) (hf : zj U L m m') (hs : ∀ k, ¬ U 125 0 k ∧ ¬ U 128 0 k) : r9_gw v G W m' := ⟨fun h' hh => by rw [hf.1 _ _ _ (hs _).1]; exact h.1 h' hh, fun p hp => by rw [hf.1 _ _ _ (hs _).2]; exact h.2 p hp⟩
theorem r9_tx.fr {U : Nat → Nat → Nat → Prop} {L : Nat → Prop} (h : r9_tx v T m) (hf : zj U L m m') (hs : ∀ c k, (c = 123 ∨ c = 126 ∨ c = 131 ∨ c = 124 ∨ c = 127) → ¬ U c 0 k) : r9_tx v T m' := ⟨by rw [hf.1 _ _ _ (hs _ _ (by omega))]; exact h.1, by rw [hf.1 _ _ _ (hs _ _ (by omega))]; exact h.2.1, by rw [hf.1 _ _ _ (hs _ _ (by omega))]; exact h.2.2.1, fun h' hh => by rw [hf.1 _ _ _ (hs _ _ (by omega))]; exact h.2.2.2.1 h' hh, fun p hp => by rw [hf.1 _ _ _ (hs _ _ (by omega))]; exact h.2.2.2.2 p hp⟩
theorem r9_lw.fr {U : Nat → Nat → Nat → Prop} {L : Nat → Prop} (h : r9_lw v c0 b0 t b C T m) (hf : zj U L m m') (hs : ∀ c k, ((c = 9 ∧ k = 34) ∨ c = 132 ∨ c = 133 ∨ (135 ≤ c ∧ c ≤ 139) ∨ c = 141 ∨ c = 142) → ¬ U c 0 k) {t' : Nat} (ht : t ≤ t') : r9_lw v c0 b0 t' b C T m' := by
  obtain ⟨h1, h2, h3, h4⟩ := h
  have ag : ∀ b, r9_ag b C m m' := fun b => ⟨fun c j q1 q2 _ => hf.1 _ _ _ (hs _ _ (by omega)), fun j _ => ⟨hf.1 _ _ _ (hs _ _ (by omega)), hf.1 _ _ _ (hs _ _ (by omega))⟩⟩
  refine ⟨by rw [hf.1 _ _ _ (hs _ _ (by omega))]; exact h1, h2, by omega, fun k hk => ?_⟩
  rw [hf.1 132 0 _ (hs _ _ (by omega)), hf.1 133 0 _ (hs _ _ (by omega))]
  rcases h4 k hk with q | ⟨i, q1, q2, q3, q4⟩
  · exact Or.inl q
  · exact Or.inr ⟨i, q1, q2, q3, r9_ml_cong (ag b) q1.2 (Nat.le_refl _) q4⟩
/-! small frames within the large one -/
abbrev sEn : Nat → Nat → Nat → Prop := fun c i k => (c = 9 ∧ i = 0 ∧ (k = 11 ∨ k = 13 ∨ k = 14 ∨ k = 20)) ∨ c = 122
theorem i_K9 (h : zk (fun c i k => c = 9 ∧ i = 0 ∧ (k = 11 ∨ k = 13 ∨ k = 14 ∨ k = 15 ∨ k = 16)) m m') : zj (sPR c0 b0 v) l121 m m' := zj_k (zk_m h (fun c i k e => Or.inl ⟨e.1, e.2.1, by omega⟩))
theorem i_G9 (h : zk sG m m') : zj (sPR c0 b0 v) l121 m m' := zj_k (zk_m h (fun c i k e => Or.inl ⟨e.1, e.2.1, by omega⟩))
theorem i_124 (hH : H < 5) (h : zk (fun c i k => c = 124 ∧ i = 0 ∧ k = 5 * v + H) m m') : zj (sPR c0 b0 v) l121 m m' := zj_k (zk_m h (fun c i k e => Or.inr (Or.inr (Or.inr (Or.inl ⟨Or.inl e.1, by omega, by omega⟩)))))
theorem i_125 (hH : H < 5) (h : zk (fun c i k => c = 125 ∧ i = 0 ∧ k = 5 * v + H) m m') : zj (sPR c0 b0 v) l121 m m' := zj_k (zk_m h (fun c i k e => Or.inr (Or.inr (Or.inr (Or.inl ⟨Or.inr e.1, by omega, by omega⟩)))))
theorem i_127 (hP : P < 7) (h : zk (fun c i k => c = 127 ∧ i = 0 ∧ k = 7 * v + P) m m') : zj (sPR c0 b0 v) l121 m m' := zj_k (zk_m h (fun c i k e => Or.inr (Or.inr (Or.inr (Or.inr (Or.inl ⟨Or.inl e.1, by omega, by omega⟩))))))
theorem i_128 (hP : P < 7) (h : zk (fun c i k => c = 128 ∧ i = 0 ∧ k = 7 * v + P) m m') : zj (sPR c0 b0 v) l121 m m' := zj_k (zk_m h (fun c i k e => Or.inr (Or.inr (Or.inr (Or.inr (Or.inl ⟨Or.inr e.1, by omega, by omega⟩))))))
theorem i_vv {r : Nat} (hr : r = 123 ∨ r = 126 ∨ r = 129 ∨ r = 130 ∨ r = 131) (h : zk (fun c i k => c = r ∧ i = 0 ∧ k = v) m m') : zj (sPR c0 b0 v) l121 m m' := zj_k (zk_m h (fun c i k e => Or.inr (Or.inr (Or.inl ⟨by rw [e.1]; exact hr, e.2.2⟩))))
theorem i_En (h : zj sEn l121 m m') : zj (sPR c0 b0 v) l121 m m' := zj_m h (fun c i k e => by
    rcases e with e | e
    · exact Or.inl ⟨e.1, e.2.1, by omega⟩
    · exact Or.inr (Or.inl e)) (fun c e => e)
theorem i_RM (h : zk (sRM c0 b0 v) m m') : zj (sPR c0 b0 v) l121 m m' := zj_k (zk_m h (fun c i k e => by
    rcases e with e | e | e | e | e
    · exact Or.inl ⟨e.1, e.2.1, by omega⟩
    · exact Or.inr (Or.inr (Or.inr (Or.inr (Or.inr (Or.inr (Or.inl e))))))
    · exact Or.inr (Or.inr (Or.inr (Or.inr (Or.inr (Or.inr (Or.inr (Or.inl e)))))))
    · exact Or.inr (Or.inr (Or.inr (Or.inr (Or.inr (Or.inr (Or.inr (Or.inr e)))))))
    · exact Or.inr (Or.inr (Or.inr (Or.inr (Or.inr (Or.inl e)))))))
theorem p9_room {n mx : Nat} (he : e ≤ 400) (hn : n ≤ mx) (hmx : mx < 100) (ht : t ≤ e) (htk : r9_tk K V S e m) (h11 : m.1 9 0 11 = nI t) (h13 : m.1 9 0 13 = 0) : zw (f9_roomFor (nI n) (nI mx) m) fun m' => zk sG m m' ∧ (¬ (n < mx ∧ t < 400) → r9_fl S 2 t m') ∧ (n < mx ∧ t < 400 → m'.1 9 0 11 = nI (t + 1) ∧ m'.1 9 0 13 = 0) := by
  unfold f9_roomFor
  by_cases cn : n < mx
  · rw [if_neg (show ¬ nI n = nI mx by rw [y_eq (by omega) (by omega)]; omega), Option.bind_some, h13, if_pos rfl, zw_bs]
    refine zw_mono (p9_goesOn he ht htk h11 h13) ?_
    rintro m1 ⟨f1, g1, g2⟩
    exact ⟨f1, fun q => ⟨Or.inr rfl, g2 (fun q' => q ⟨cn, q'⟩)⟩, fun q => g1 q.2⟩
  · rw [if_pos (show nI n = nI mx by congr 1; omega)]
    obtain ⟨m1, hm1, f1, g1, g2⟩ := p9_fail (F := 2) (Or.inr rfl) he ht htk h11 h13
    rw [show (2 : Int32) = nI 2 from rfl, hm1, Option.bind_some, Option.bind_some, g1, if_neg (show ¬ nI 2 = 0 by decide)]
    exact zw_some.mpr ⟨zk_m f1 (fun c i k e => by omega), fun _ => ⟨Or.inr rfl, g1, g2⟩, fun q => absurd q.1 cn⟩
theorem p9_endsName {tok at_ n : Nat} (hk : r9_kk K e) (ht : t ≤ e) (htk : r9_tk K V S e m) (h11 : m.1 9 0 11 = nI t) (h13 : m.1 9 0 13 = 0) (htok : tok ≤ e) (hn : n < 12) (h20 : m.1 9 0 20 = nI n) : zw (f9_endsName (nI tok) (nI at_) m) fun m' => zj sEn l121 m m' ∧ (∀ F, e_t K 59 t = .inl (F, t) → r9_fl S F t m') ∧ (e_t K 59 t = .inr (t + 1, ()) → m'.1 9 0 11 = nI (t + 1) ∧ m'.1 9 0 13 = 0 ∧ m'.1 9 0 20 = nI (n + 1) ∧ m'.2.1 121 0 n = m.2.1 108 0 tok ∧ m'.1 122 0 n = nI at_ ∧ ∀ j, j ≠ n → m'.2.1 121 0 j = m.2.1 121 0 j ∧ m'.1 122 0 j = m.1 122 0 j) := by
  have he := hk.1
  unfold f9_endsName
  refine r9_mu (k := 59) hk (by decide) rfl ht htk h11 h13 ?_ ?_
  · intro e1 k1 c1 m1 f1 g11 g13
    have e20 : m1.1 9 0 20 = nI n := by rw [f1.1 _ _ _ (by omega)]; exact h20
    simp only [z_let]
    rw [g13, if_neg (show ¬ (0 : Int32) < 0 by decide), if_pos (y_in (by omega) (by omega)), e20, if_pos (y_in hn (by omega)), y_cl (by omega), y_cl (by omega)]
    have a20 : (z_sL m1 121 0 n (m1.2.1 108 0 tok)).1 9 0 20 = nI n := e20
    rw [a20, if_pos (y_in hn (by omega)), y_cl (by omega)]
    have b20 : (z_sI (z_sL m1 121 0 n (m1.2.1 108 0 tok)) 122 0 n (nI at_)).1 9 0 20 = nI n := by rw [z_sI_1, if_neg (by omega)]; exact e20
    rw [b20, y_s1]
    refine zw_some.mpr ⟨zj_s (zj_s (zj_l (zj_k (zk_m f1 (fun c i k e => by omega))) rfl) (by omega)) (by omega), fun F q => ?_, fun _ => ⟨?_, ?_, ?_, ?_, ?_, fun j hj => ⟨?_, ?_⟩⟩⟩
    · rw [e1] at q; cases q
    · rw [z_sI_1, if_neg (by omega), z_sI_1, if_neg (by omega)]; exact g11
    · rw [z_sI_1, if_neg (by omega), z_sI_1, if_neg (by omega)]; exact g13
    · rw [z_sI_1, if_pos ⟨rfl, rfl, rfl⟩]
    · rw [z_sI_2, z_sI_2, z_sL_j, if_pos ⟨rfl, rfl, rfl⟩, f1.2]
    · rw [z_sI_1, if_neg (by omega), z_sI_1, if_pos ⟨rfl, rfl, rfl⟩]
    · rw [z_sI_2, z_sI_2, z_sL_j, if_neg (fun q => hj q.2.2), f1.2]
    · rw [z_sI_1, if_neg (by omega), z_sI_1, if_neg (by omega), z_sL_a, f1.1 _ _ _ (by omega)]
  · intro F m1 e1 hF f1 g13 g14
    rw [g13, if_pos (y_F hF).1]
    refine zw_some.mpr ⟨zj_k (zk_m f1 (fun c i k e => by omega)), fun F2 q => ?_, fun q => ?_⟩
    · rw [e1] at q
      cases q
      exact ⟨hF, g13, g14⟩
    · rw [e1] at q; cases q
theorem p9_endsNameF {x y : Int32} (hF : F = 1 ∨ F = 2) (h : m.1 9 0 13 = nI F) : f9_endsName x y m = some m := by
  unfold f9_endsName
  rw [p9_mustF hF h, Option.bind_some, h, if_pos (y_F hF).1]
theorem r9_lt (hp : r9_pl S e) (h : d.1 ≠ 0 → ∃ t0, t0 < t ∧ d.2 = S t0) {t' : Nat} (ht : t ≤ t') (ht' : t' ≤ e) : d.1 ≠ 0 → d.2 < S t' := fun q => by
  obtain ⟨t0, q1, q2⟩ := h q
  rw [q2]
  exact hp.2 t0 t' (by omega) ht'
theorem e_t_d (K : Nat → Nat) (k t : Nat) : (∃ F, e_t K k t = .inl (F, t) ∧ (F = 1 ∨ F = 2)) ∨ (e_t K k t = .inr (t + 1, ()) ∧ K t = k ∧ t < 400) := by
  unfold e_t
  by_cases c : K t = k
  · rw [if_pos c]
    by_cases c4 : t < 400
    · rw [if_pos c4]; exact Or.inr ⟨rfl, c, c4⟩
    · rw [if_neg c4]; exact Or.inl ⟨2, rfl, Or.inr rfl⟩
  · rw [if_neg c]; exact Or.inl ⟨1, rfl, Or.inl rfl⟩
theorem p9_house (hk : r9_kk K e) (hV : ∀ j, K j = 3 → V j < 10000) (hp : r9_pl S e) (hAB : r9_ab K A B) (hz : qz_ok K S (t, T, W, G, c, hn, pn, d)) (hKt : K t = 128) (h : r9_st K V S B e c0 b0 v (t, T, W, G, c, hn, pn, d) m) : zw (g9_house m) (r9_sp K V S B e c0 b0 v m (if tH T < 5 then Sum.map id (fun _ => y_house V S A (t, T, W, G, c, hn, pn, d)) (e_4 K 128 2 3 59 t) else .inl (2, t))) := by
  obtain ⟨H, P, s, R, X, L⟩ := T
  obtain ⟨C, b, ⟨hq, hv, h19, h129, h130, hdb, h108⟩, htx, hgw, hnm, hlw⟩ := h
  obtain ⟨z1, ⟨z2, z2'⟩, z3, z4, z5, z6, z7, z8, z9, z10, z11, z12⟩ := hz
  have hH : H ≤ 5 := z2
  have hP : P ≤ 7 := z2'
  have he := hk.1
  obtain ⟨ht, hC, hc0, h11, h12, h13, h40, htk⟩ := id hq
  have e123 : m.1 123 0 v = nI H := htx.1
  have e126 : m.1 126 0 v = nI P := htx.2.1
  have e20 : m.1 9 0 20 = nI (H + P) := hnm.1
  unfold g9_house
  rw [h19, if_pos (y_in hv (by omega)), y_cl (by omega), e123, y_5]
  refine zw_b (p9_room he (show H ≤ 5 by omega) (by omega) ht htk h11 h13) ?_
  rintro m1 ⟨f1, r1, r2⟩
  by_cases cc : H < 5 ∧ t < 400
  · obtain ⟨g11, g13⟩ := r2 cc
    rw [g13, if_neg (show ¬ (0 : Int32) < 0 by decide), if_pos (show tH (H, P, s, R, X, L) < 5 from cc.1)]
    have ht1 : t + 1 ≤ e := hk.2.2 t ht (by omega) cc.2
    have tk1 : r9_tk K V S e m1 := htk.fr f1 (fun c k e => by omega)
    have hx : e_4 K 128 2 3 59 t = e_bd (e_t K 2 (t + 1)) fun t2 _ => e_bd (e_t K 3 t2) fun t3 _ => e_t K 59 t3 := by
      unfold e_4
      rw [e_t_ok hKt cc.2, e_bd_r]
    refine zw_b (p9_named (n := H + P) hk hp ht1 tk1 g11 g13 (hdb.fr (f1.1 _ _ _ (by omega)) (f1.1 _ _ _ (by omega))) (r9_lt hp z12 (by omega) ht1) (by omega) (by rw [f1.1 _ _ _ (by omega)]; exact e20)) ?_
    rintro ⟨q7, m2⟩ ⟨a1, f2, a2, a3⟩
    have a1' : q7 = nI (t + 1) := a1
    have f2' : zk sKn m1 m2 := f2
    rw [f1.2] at a3
    subst a1'
    rw [z_u2_ap]
    have F2 : zk (fun c i k => c = 9 ∧ i = 0 ∧ (k = 11 ∨ k = 13 ∨ k = 14 ∨ k = 15 ∨ k = 16)) m m2 := zk_t (zk_m f1 (fun c i k e => by omega)) (zk_m f2' (fun c i k e => by omega))
    have b19 : m2.1 9 0 19 = nI v := by rw [F2.1 _ _ _ (by omega)]; exact h19
    have b12 : m2.1 123 0 v = nI H := by rw [F2.1 _ _ _ (by omega)]; exact e123
    rw [b19, if_pos (y_in hv (by omega)), y_cl (by omega), b12, pk_mul, nI_add]
    -- what is behind bounded
    have rest : ∀ (x : Int32) (m3 : zMem), zk (fun c i k => c = 9 ∧ i = 0 ∧ (k = 11 ∨ k = 13 ∨ k = 14 ∨ k = 15 ∨ k = 16)) m m3 → ∃ M, zk (fun c i k => c = 124 ∧ i = 0 ∧ k = 5 * v + H) m3 M ∧ M.1 124 0 (5 * v + H) = x ∧ (if z_in (nI (5 * v + H)) 10 = true then z_let (z_sI m3 124 0 (nI (5 * v + H)).toNatClampNeg x) fun m14 => if z_in (m14.1 9 0 19) 2 = true then (f9_endsName (nI (t + 1)) (m14.1 123 0 (m14.1 9 0 19).toNatClampNeg) m14).bind (fun qm18 => (if (qm18.1 9 0 13) = 0 then if z_in (qm18.1 9 0 19) 2 = true then z_let (z_sI qm18 123 0 (qm18.1 9 0 19).toNatClampNeg ((qm18.1 123 0 (qm18.1 9 0 19).toNatClampNeg) + (1 : Int32))) fun m22 => some m22 else none else some qm18)) else none else none) = (f9_endsName (nI (t + 1)) (nI H) M).bind (fun qm18 => (if (qm18.1 9 0 13) = 0 then if z_in (qm18.1 9 0 19) 2 = true then z_let (z_sI qm18 123 0 (qm18.1 9 0 19).toNatClampNeg ((qm18.1 123 0 (qm18.1 9 0 19).toNatClampNeg) + (1 : Int32))) fun m22 => some m22 else none else some qm18)) := by
      intro x m3 F3
      refine ⟨z_sI m3 124 0 (5 * v + H) x, zk_s (zk_r m3) ⟨rfl, rfl, rfl⟩, by rw [z_sI_1, if_pos ⟨rfl, rfl, rfl⟩], ?_⟩
      have c19 : (z_sI m3 124 0 (5 * v + H) x).1 9 0 19 = nI v := by rw [z_sI_1, if_neg (by omega), F3.1 _ _ _ (by omega)]; exact h19
      have c12 : (z_sI m3 124 0 (5 * v + H) x).1 123 0 v = nI H := by rw [z_sI_1, if_neg (by omega), F3.1 _ _ _ (by omega)]; exact e123
      rw [if_pos (y_in (by omega) (by omega)), y_cl (by omega)]
      show (if z_in ((z_sI m3 124 0 (5 * v + H) x).1 9 0 19) 2 = true then _ else _) = _
      rw [c19, if_pos (y_in hv (by omega)), y_cl (by omega), c12]
    rcases e_t_d K 2 (t + 1) with ⟨F, e2, hF⟩ | ⟨e2, k2, c2⟩
    · obtain ⟨_, g13', g14'⟩ := a2 F e2
      have g13'' : m2.1 9 0 13 = nI F := g13'
      rw [p9_boundedF hF g13'', Option.bind_some, z_u2_ap]
      obtain ⟨M, fM, _, hM⟩ := rest 0 m2 F2
      rw [hM, p9_endsNameF hF (by rw [fM.1 _ _ _ (by omega)]; exact g13''), Option.bind_some, fM.1 _ _ _ (by omega), g13'', if_neg (y_F hF).2]
      refine zw_some.mpr (r9_sp_l (F := F) (t' := t + 1) ?_ (zj_t (i_K9 F2) (i_124 cc.1 fM)) ⟨hF, by rw [fM.1 _ _ _ (by omega)]; exact g13'', by rw [fM.1 _ _ _ (by omega)]; exact g14'⟩)
      rw [hx, e2]; rfl
    · obtain ⟨g211, g213, db2⟩ := a3 e2
      rw [e2, e_bd_r] at hx
      have g211' : m2.1 9 0 11 = nI (t + 1 + 1) := g211
      have g213' : m2.1 9 0 13 = 0 := g213
      have ht2 : t + 1 + 1 ≤ e := hk.2.2 (t + 1) ht1 (by omega) c2
      have b108 : m.2.1 108 0 (t + 1) = B (t + 1) := h108 (t + 1) ht1 k2
      have hany := r9_any (T := (H, P, s, R, X, L)) (t := t + 1) hAB ⟨hH, hP⟩ ⟨fun h' hh => (z6 h' hh).1, fun p' hp' => (z7 p' hp').1⟩ hnm k2 b108
      have db2' : r9_db (z_su ((x_fh A hn H (t + 1)).isSome || (x_fh A pn P (t + 1)).isSome) 3 (S (t + 1)) d) m2 := by
        have hany' : (q_se (fun j => decide (m.2.1 121 0 j = m.2.1 108 0 (t + 1))) (H + P)).isSome = ((x_fh A hn H (t + 1)).isSome || (x_fh A pn P (t + 1)).isSome) := hany
        rw [← hany']; exact db2
      have d1 := z_su_k (S := S) (a := 3) (c := (x_fh A hn H (t + 1)).isSome || (x_fh A pn P (t + 1)).isSome) (by omega) z11 (show t + 1 < t + 1 + 1 by omega) rfl (show t ≤ t + 1 + 1 by omega) z12
      refine zw_b (p9_bounded (mx := 99) (by omega) hk hV hp ht2 (htk.fr F2 (fun c k e => by omega)) g211' g213' db2' (r9_lt hp d1.2 (Nat.le_refl _) ht2)) ?_
      rintro ⟨q11, m3⟩ ⟨f3, a4, a5⟩
      have f3' : zk sKn m2 m3 := f3
      rw [z_u2_ap]
      have F3 : zk (fun c i k => c = 9 ∧ i = 0 ∧ (k = 11 ∨ k = 13 ∨ k = 14 ∨ k = 15 ∨ k = 16)) m m3 := zk_t F2 (zk_m f3' (fun c i k e => by omega))
      obtain ⟨M, fM, Mx, hM⟩ := rest q11 m3 F3
      rw [hM]
      rcases e_t_d K 3 (t + 1 + 1) with ⟨F, e3, hF⟩ | ⟨e3, k3, c3⟩
      · obtain ⟨_, g13', g14'⟩ := a4 F e3
        have g13'' : m3.1 9 0 13 = nI F := g13'
        rw [p9_endsNameF hF (by rw [fM.1 _ _ _ (by omega)]; exact g13''), Option.bind_some, fM.1 _ _ _ (by omega), g13'', if_neg (y_F hF).2]
        refine zw_some.mpr (r9_sp_l (F := F) (t' := t + 1 + 1) ?_ (zj_t (i_K9 F3) (i_124 cc.1 fM)) ⟨hF, by rw [fM.1 _ _ _ (by omega)]; exact g13'', by rw [fM.1 _ _ _ (by omega)]; exact g14'⟩)
        rw [hx, e3]; rfl
      · obtain ⟨ex, g311, g313, db3⟩ := a5 e3
        rw [e3, e_bd_r] at hx
        have ex' : q11 = nI (V (t + 1 + 1)) := ex
        have g311' : m3.1 9 0 11 = nI (t + 1 + 1 + 1) := g311
        have g313' : m3.1 9 0 13 = 0 := g313
        have ht3 : t + 1 + 1 + 1 ≤ e := hk.2.2 (t + 1 + 1) ht2 (by omega) c3
        have FM : zk (fun c i k => (c = 9 ∧ i = 0 ∧ (k = 11 ∨ k = 13 ∨ k = 14 ∨ k = 15 ∨ k = 16)) ∨ (c = 124 ∧ i = 0 ∧ k = 5 * v + H)) m M := zk_t (zk_m F3 (fun c i k e => by omega)) (zk_m fM (fun c i k e => by omega))
        refine zw_b (p9_endsName (tok := t + 1) (at_ := H) (n := H + P) hk ht3 (htk.fr FM (fun c k e => by omega)) (by rw [fM.1 _ _ _ (by omega)]; exact g311') (by rw [fM.1 _ _ _ (by omega)]; exact g313') ht1 (by omega) (by rw [FM.1 _ _ _ (by omega)]; exact e20)) ?_
        rintro m4 ⟨f4, a6, a7⟩
        have J4 : zj (fun c i k => (c = 9 ∧ i = 0 ∧ (k = 11 ∨ k = 13 ∨ k = 14 ∨ k = 15 ∨ k = 16 ∨ k = 20)) ∨ c = 122 ∨ (c = 124 ∧ i = 0 ∧ k = 5 * v + H)) l121 m m4 := zj_t (zj_k (zk_m FM (fun c i k e => by omega))) (zj_m f4 (fun c i k e => by omega) (fun c e => e))
        have jP4 : zj (sPR c0 b0 v) l121 m m4 := zj_t (zj_t (i_K9 F3) (i_124 cc.1 fM)) (i_En f4)
        rcases e_t_d K 59 (t + 1 + 1 + 1) with ⟨F, e4, hF⟩ | ⟨e4, k4, c4⟩
        · have fl := a6 F e4
          rw [fl.2.1, if_neg (y_F hF).2]
          exact zw_some.mpr (r9_sp_l (by rw [hx, e4]; rfl) jP4 fl)
        · obtain ⟨g411, g413, g420, n1, n2, n3⟩ := a7 e4
          have c19 : m4.1 9 0 19 = nI v := by rw [J4.1 _ _ _ (by omega)]; exact h19
          have c12 : m4.1 123 0 v = nI H := by rw [J4.1 _ _ _ (by omega)]; exact e123
          rw [g413, if_pos rfl, c19, if_pos (y_in hv (by omega)), y_cl (by omega), c12, y_s1]
          simp only [z_let]
          obtain ⟨M5, hM5⟩ : ∃ M5, M5 = z_sI m4 123 0 v (nI (H + 1)) := ⟨_, rfl⟩
          rw [← hM5]
          have f5 : zk (fun c i k => c = 123 ∧ i = 0 ∧ k = v) m4 M5 := by rw [hM5]; exact zk_s (zk_r m4) ⟨rfl, rfl, rfl⟩
          have M51 : M5.1 123 0 v = nI (H + 1) := by rw [hM5, z_sI_1, if_pos ⟨rfl, rfl, rfl⟩]
          clear hM5
          have J5 : zj (fun c i k => (c = 9 ∧ i = 0 ∧ (k = 11 ∨ k = 13 ∨ k = 14 ∨ k = 15 ∨ k = 16 ∨ k = 20)) ∨ c = 122 ∨ (c = 124 ∧ i = 0 ∧ k = 5 * v + H) ∨ (c = 123 ∧ i = 0 ∧ k = v)) l121 m M5 := zj_t (zj_m J4 (fun c i k e => by omega) (fun c e => e)) (zj_k (zk_m f5 (fun c i k e => by omega)))
          have ht4 : t + 1 + 1 + 1 + 1 ≤ e := hk.2.2 (t + 1 + 1 + 1) ht3 (by omega) c4
          refine zw_some.mpr ⟨zj_t jP4 (i_vv (by omega) f5), (fun F t' q => by rw [hx, e4] at q; cases q), fun z' q => ?_⟩
          rw [hx, e4] at q
          have e' : y_house V S A (t, (H, P, s, R, X, L), W, G, c, hn, pn, d) = z' := Sum.inr.inj q
          rw [← e']
          have R2x : M5.1 124 0 (5 * v + H) = nI (V (t + 2)) := by rw [f5.1 _ _ _ (by omega), f4.1 _ _ _ (by omega), Mx, ex']
          have w1 : r9_hd K V S B e c0 v (t + 4) C c (z_su (decide (99 < V (t + 2))) 5 (S (t + 2)) (z_su ((x_fh A hn H (t + 1)).isSome || (x_fh A pn P (t + 1)).isSome) 3 (S (t + 1)) d)) M5 := by
            refine ⟨⟨ht4, by omega, hc0, by rw [f5.1 _ _ _ (by omega)]; exact g411, by rw [J5.1 _ _ _ (by omega)]; exact h12, by rw [f5.1 _ _ _ (by omega)]; exact g413, by rw [J5.1 _ _ _ (by omega)]; exact h40, fun j hj => ⟨by rw [J5.1 _ _ _ (by omega)]; exact (htk j hj).1, by rw [J5.1 _ _ _ (by omega)]; exact (htk j hj).2.1, fun q => by rw [J5.1 _ _ _ (by omega)]; exact (htk j hj).2.2 q⟩⟩, hv, by rw [J5.1 _ _ _ (by omega)]; exact h19, by rw [J5.1 _ _ _ (by omega)]; exact h129, by rw [J5.1 _ _ _ (by omega)]; exact h130, ?_, fun j hj q => by rw [J5.2.1 108 (by omega)]; exact h108 j hj q⟩
            have db3' : r9_db (z_su (decide (99 < V (t + 2))) 5 (S (t + 2)) (z_su ((x_fh A hn H (t + 1)).isSome || (x_fh A pn P (t + 1)).isSome) 3 (S (t + 1)) d)) m3 := db3
            exact db3'.fr (by rw [f5.1 _ _ _ (by omega), f4.1 _ _ _ (by omega), fM.1 _ _ _ (by omega)]) (by rw [f5.1 _ _ _ (by omega), f4.1 _ _ _ (by omega), fM.1 _ _ _ (by omega)])
          have w2 : r9_tx v (H + 1, P, s, upd R H (nI (V (t + 2))), X, L) M5 := by
            refine ⟨?_, ?_, ?_, fun h' hh' => ?_, fun p hp => ?_⟩
            · exact M51
            · rw [J5.1 _ _ _ (by omega)]; exact htx.2.1
            · rw [J5.1 _ _ _ (by omega)]; exact htx.2.2.1
            · have hh2 : h' < H + 1 := hh'
              show _ = upd R H (nI (V (t + 2))) h'
              by_cases ch : h' = H
              · rw [ch, pk_us]; exact R2x
              · rw [pk_un ch, J5.1 _ _ _ (by omega)]; exact htx.2.2.2.1 h' (show h' < H by omega)
            · rw [J5.1 _ _ _ (by omega)]; exact htx.2.2.2.2 p hp
          have w4 : r9_nm B (H + 1, P, s, upd R H (nI (V (t + 2))), X, L) (uN hn H (t + 1)) pn M5 := by
            refine r9_nm_h cc.1 hnm (by rw [f5.1 _ _ _ (by omega)]; exact g420) (k := t + 1) ?_ (by rw [f5.1 _ _ _ (by omega)]; exact n2) (fun j hj => ⟨?_, ?_⟩)
            · rw [f5.2, n1, FM.2]; exact b108
            · rw [f5.2, (n3 j hj).1, FM.2]
            · rw [f5.1 _ _ _ (by omega), (n3 j hj).2, FM.1 _ _ _ (by omega)]
          have w5 : r9_lw v c0 b0 (t + 4) b C (H + 1, P, s, upd R H (nI (V (t + 2))), X, L) M5 := r9_lw.fr (T := (H + 1, P, s, upd R H (nI (V (t + 2))), X, L)) hlw J5 (fun c k e => by omega) (by omega)
          exact ⟨C, b, w1, w2, hgw.fr J5 (fun k => by omega), w4, w5⟩
  · have fl := r1 cc
    rw [fl.2.1, if_pos (y_F fl.1).1]
    refine zw_some.mpr (r9_sp_l ?_ (i_G9 f1) fl)
    by_cases cn : H < 5
    · rw [if_pos (show tH (H, P, s, R, X, L) < 5 from cn)]
      unfold e_4 e_t
      rw [if_pos hKt, if_neg (fun q => cc ⟨cn, q⟩)]; rfl
    · rw [if_neg (show ¬ tH (H, P, s, R, X, L) < 5 from cn)]
theorem p9_person (hk : r9_kk K e) (hV : ∀ j, K j = 3 → V j < 10000) (hp : r9_pl S e) (hAB : r9_ab K A B) (hz : qz_ok K S (t, T, W, G, c, hn, pn, d)) (hKt : K t = 129) (h : r9_st K V S B e c0 b0 v (t, T, W, G, c, hn, pn, d) m) : zw (g9_person m) (r9_sp K V S B e c0 b0 v m (if tP T < 7 then Sum.map id (fun _ => y_person V S A (t, T, W, G, c, hn, pn, d)) (e_4 K 129 2 3 59 t) else .inl (2, t))) := by
  obtain ⟨H, P, s, R, X, L⟩ := T
  obtain ⟨C, b, ⟨hq, hv, h19, h129, h130, hdb, h108⟩, htx, hgw, hnm, hlw⟩ := h
  obtain ⟨z1, ⟨z2, z2'⟩, z3, z4, z5, z6, z7, z8, z9, z10, z11, z12⟩ := hz
  have hH : H ≤ 5 := z2
  have hP : P ≤ 7 := z2'
  have he := hk.1
  obtain ⟨ht, hC, hc0, h11, h12, h13, h40, htk⟩ := id hq
  have e123 : m.1 123 0 v = nI H := htx.1
  have e126 : m.1 126 0 v = nI P := htx.2.1
  have e20 : m.1 9 0 20 = nI (H + P) := hnm.1
  unfold g9_person
  rw [h19, if_pos (y_in hv (by omega)), y_cl (by omega), e126, y_7]
  refine zw_b (p9_room he (show P ≤ 7 by omega) (by omega) ht htk h11 h13) ?_
  rintro m1 ⟨f1, r1, r2⟩
  by_cases cc : P < 7 ∧ t < 400
  · obtain ⟨g11, g13⟩ := r2 cc
    rw [g13, if_neg (show ¬ (0 : Int32) < 0 by decide), if_pos (show tP (H, P, s, R, X, L) < 7 from cc.1)]
    have ht1 : t + 1 ≤ e := hk.2.2 t ht (by omega) cc.2
    have tk1 : r9_tk K V S e m1 := htk.fr f1 (fun c k e => by omega)
    have hx : e_4 K 129 2 3 59 t = e_bd (e_t K 2 (t + 1)) fun t2 _ => e_bd (e_t K 3 t2) fun t3 _ => e_t K 59 t3 := by
      unfold e_4
      rw [e_t_ok hKt cc.2, e_bd_r]
    refine zw_b (p9_named (n := H + P) hk hp ht1 tk1 g11 g13 (hdb.fr (f1.1 _ _ _ (by omega)) (f1.1 _ _ _ (by omega))) (r9_lt hp z12 (by omega) ht1) (by omega) (by rw [f1.1 _ _ _ (by omega)]; exact e20)) ?_
    rintro ⟨q7, m2⟩ ⟨a1, f2, a2, a3⟩
    have a1' : q7 = nI (t + 1) := a1
    have f2' : zk sKn m1 m2 := f2
    rw [f1.2] at a3
    subst a1'
    rw [z_u2_ap]
    have F2 : zk (fun c i k => c = 9 ∧ i = 0 ∧ (k = 11 ∨ k = 13 ∨ k = 14 ∨ k = 15 ∨ k = 16)) m m2 := zk_t (zk_m f1 (fun c i k e => by omega)) (zk_m f2' (fun c i k e => by omega))
    have b19 : m2.1 9 0 19 = nI v := by rw [F2.1 _ _ _ (by omega)]; exact h19
    have b12 : m2.1 126 0 v = nI P := by rw [F2.1 _ _ _ (by omega)]; exact e126
    rw [b19, if_pos (y_in hv (by omega)), y_cl (by omega), b12, pk_mul, nI_add]
    -- what is behind bounded
    have rest : ∀ (x : Int32) (m3 : zMem), zk (fun c i k => c = 9 ∧ i = 0 ∧ (k = 11 ∨ k = 13 ∨ k = 14 ∨ k = 15 ∨ k = 16)) m m3 → ∃ M, zk (fun c i k => c = 127 ∧ i = 0 ∧ k = 7 * v + P) m3 M ∧ M.1 127 0 (7 * v + P) = x ∧ (if z_in (nI (7 * v + P)) 14 = true then z_let (z_sI m3 127 0 (nI (7 * v + P)).toNatClampNeg x) fun m14 => if z_in (m14.1 9 0 19) 2 = true then (f9_endsName (nI (t + 1)) ((10 : Int32) + (m14.1 126 0 (m14.1 9 0 19).toNatClampNeg)) m14).bind (fun qm18 => (if (qm18.1 9 0 13) = 0 then if z_in (qm18.1 9 0 19) 2 = true then z_let (z_sI qm18 126 0 (qm18.1 9 0 19).toNatClampNeg ((qm18.1 126 0 (qm18.1 9 0 19).toNatClampNeg) + (1 : Int32))) fun m22 => some m22 else none else some qm18)) else none else none) = (f9_endsName (nI (t + 1)) (nI (10 + P)) M).bind (fun qm18 => (if (qm18.1 9 0 13) = 0 then if z_in (qm18.1 9 0 19) 2 = true then z_let (z_sI qm18 126 0 (qm18.1 9 0 19).toNatClampNeg ((qm18.1 126 0 (qm18.1 9 0 19).toNatClampNeg) + (1 : Int32))) fun m22 => some m22 else none else some qm18)) := by
      intro x m3 F3
      refine ⟨z_sI m3 127 0 (7 * v + P) x, zk_s (zk_r m3) ⟨rfl, rfl, rfl⟩, by rw [z_sI_1, if_pos ⟨rfl, rfl, rfl⟩], ?_⟩
      have c19 : (z_sI m3 127 0 (7 * v + P) x).1 9 0 19 = nI v := by rw [z_sI_1, if_neg (by omega), F3.1 _ _ _ (by omega)]; exact h19
      have c12 : (z_sI m3 127 0 (7 * v + P) x).1 126 0 v = nI P := by rw [z_sI_1, if_neg (by omega), F3.1 _ _ _ (by omega)]; exact e126
      rw [if_pos (y_in (by omega) (by omega)), y_cl (by omega)]
      show (if z_in ((z_sI m3 127 0 (7 * v + P) x).1 9 0 19) 2 = true then _ else _) = _
      rw [c19, if_pos (y_in hv (by omega)), y_cl (by omega), c12, show (10 : Int32) = nI 10 from rfl, nI_add]
    rcases e_t_d K 2 (t + 1) with ⟨F, e2, hF⟩ | ⟨e2, k2, c2⟩
    · obtain ⟨_, g13', g14'⟩ := a2 F e2
      have g13'' : m2.1 9 0 13 = nI F := g13'
      rw [p9_boundedF hF g13'', Option.bind_some, z_u2_ap]
      obtain ⟨M, fM, _, hM⟩ := rest 0 m2 F2
      rw [hM, p9_endsNameF hF (by rw [fM.1 _ _ _ (by omega)]; exact g13''), Option.bind_some, fM.1 _ _ _ (by omega), g13'', if_neg (y_F hF).2]
      refine zw_some.mpr (r9_sp_l (F := F) (t' := t + 1) ?_ (zj_t (i_K9 F2) (i_127 cc.1 fM)) ⟨hF, by rw [fM.1 _ _ _ (by omega)]; exact g13'', by rw [fM.1 _ _ _ (by omega)]; exact g14'⟩)
      rw [hx, e2]; rfl
    · obtain ⟨g211, g213, db2⟩ := a3 e2
      rw [e2, e_bd_r] at hx
      have g211' : m2.1 9 0 11 = nI (t + 1 + 1) := g211
      have g213' : m2.1 9 0 13 = 0 := g213
      have ht2 : t + 1 + 1 ≤ e := hk.2.2 (t + 1) ht1 (by omega) c2
      have b108 : m.2.1 108 0 (t + 1) = B (t + 1) := h108 (t + 1) ht1 k2
      have hany := r9_any (T := (H, P, s, R, X, L)) (t := t + 1) hAB ⟨hH, hP⟩ ⟨fun h' hh => (z6 h' hh).1, fun p' hp' => (z7 p' hp').1⟩ hnm k2 b108
      have db2' : r9_db (z_su ((x_fh A hn H (t + 1)).isSome || (x_fh A pn P (t + 1)).isSome) 3 (S (t + 1)) d) m2 := by
        have hany' : (q_se (fun j => decide (m.2.1 121 0 j = m.2.1 108 0 (t + 1))) (H + P)).isSome = ((x_fh A hn H (t + 1)).isSome || (x_fh A pn P (t + 1)).isSome) := hany
        rw [← hany']; exact db2
      have d1 := z_su_k (S := S) (a := 3) (c := (x_fh A hn H (t + 1)).isSome || (x_fh A pn P (t + 1)).isSome) (by omega) z11 (show t + 1 < t + 1 + 1 by omega) rfl (show t ≤ t + 1 + 1 by omega) z12
      refine zw_b (p9_bounded (mx := 99) (by omega) hk hV hp ht2 (htk.fr F2 (fun c k e => by omega)) g211' g213' db2' (r9_lt hp d1.2 (Nat.le_refl _) ht2)) ?_
      rintro ⟨q11, m3⟩ ⟨f3, a4, a5⟩
      have f3' : zk sKn m2 m3 := f3
      rw [z_u2_ap]
      have F3 : zk (fun c i k => c = 9 ∧ i = 0 ∧ (k = 11 ∨ k = 13 ∨ k = 14 ∨ k = 15 ∨ k = 16)) m m3 := zk_t F2 (zk_m f3' (fun c i k e => by omega))
      obtain ⟨M, fM, Mx, hM⟩ := rest q11 m3 F3
      rw [hM]
      rcases e_t_d K 3 (t + 1 + 1) with ⟨F, e3, hF⟩ | ⟨e3, k3, c3⟩
      · obtain ⟨_, g13', g14'⟩ := a4 F e3
        have g13'' : m3.1 9 0 13 = nI F := g13'
        rw [p9_endsNameF hF (by rw [fM.1 _ _ _ (by omega)]; exact g13''), Option.bind_some, fM.1 _ _ _ (by omega), g13'', if_neg (y_F hF).2]
        refine zw_some.mpr (r9_sp_l (F := F) (t' := t + 1 + 1) ?_ (zj_t (i_K9 F3) (i_127 cc.1 fM)) ⟨hF, by rw [fM.1 _ _ _ (by omega)]; exact g13'', by rw [fM.1 _ _ _ (by omega)]; exact g14'⟩)
        rw [hx, e3]; rfl
      · obtain ⟨ex, g311, g313, db3⟩ := a5 e3
        rw [e3, e_bd_r] at hx
        have ex' : q11 = nI (V (t + 1 + 1)) := ex
        have g311' : m3.1 9 0 11 = nI (t + 1 + 1 + 1) := g311
        have g313' : m3.1 9 0 13 = 0 := g313
        have ht3 : t + 1 + 1 + 1 ≤ e := hk.2.2 (t + 1 + 1) ht2 (by omega) c3
        have FM : zk (fun c i k => (c = 9 ∧ i = 0 ∧ (k = 11 ∨ k = 13 ∨ k = 14 ∨ k = 15 ∨ k = 16)) ∨ (c = 127 ∧ i = 0 ∧ k = 7 * v + P)) m M := zk_t (zk_m F3 (fun c i k e => by omega)) (zk_m fM (fun c i k e => by omega))
        refine zw_b (p9_endsName (tok := t + 1) (at_ := (10 + P)) (n := H + P) hk ht3 (htk.fr FM (fun c k e => by omega)) (by rw [fM.1 _ _ _ (by omega)]; exact g311') (by rw [fM.1 _ _ _ (by omega)]; exact g313') ht1 (by omega) (by rw [FM.1 _ _ _ (by omega)]; exact e20)) ?_
        rintro m4 ⟨f4, a6, a7⟩
        have J4 : zj (fun c i k => (c = 9 ∧ i = 0 ∧ (k = 11 ∨ k = 13 ∨ k = 14 ∨ k = 15 ∨ k = 16 ∨ k = 20)) ∨ c = 122 ∨ (c = 127 ∧ i = 0 ∧ k = 7 * v + P)) l121 m m4 := zj_t (zj_k (zk_m FM (fun c i k e => by omega))) (zj_m f4 (fun c i k e => by omega) (fun c e => e))
        have jP4 : zj (sPR c0 b0 v) l121 m m4 := zj_t (zj_t (i_K9 F3) (i_127 cc.1 fM)) (i_En f4)
        rcases e_t_d K 59 (t + 1 + 1 + 1) with ⟨F, e4, hF⟩ | ⟨e4, k4, c4⟩
        · have fl := a6 F e4
          rw [fl.2.1, if_neg (y_F hF).2]
          exact zw_some.mpr (r9_sp_l (by rw [hx, e4]; rfl) jP4 fl)
        · obtain ⟨g411, g413, g420, n1, n2, n3⟩ := a7 e4
          have c19 : m4.1 9 0 19 = nI v := by rw [J4.1 _ _ _ (by omega)]; exact h19
          have c12 : m4.1 126 0 v = nI P := by rw [J4.1 _ _ _ (by omega)]; exact e126
          rw [g413, if_pos rfl, c19, if_pos (y_in hv (by omega)), y_cl (by omega), c12, y_s1]
          simp only [z_let]
          obtain ⟨M5, hM5⟩ : ∃ M5, M5 = z_sI m4 126 0 v (nI (P + 1)) := ⟨_, rfl⟩
          rw [← hM5]
          have f5 : zk (fun c i k => c = 126 ∧ i = 0 ∧ k = v) m4 M5 := by rw [hM5]; exact zk_s (zk_r m4) ⟨rfl, rfl, rfl⟩
          have M51 : M5.1 126 0 v = nI (P + 1) := by rw [hM5, z_sI_1, if_pos ⟨rfl, rfl, rfl⟩]
          clear hM5
          have J5 : zj (fun c i k => (c = 9 ∧ i = 0 ∧ (k = 11 ∨ k = 13 ∨ k = 14 ∨ k = 15 ∨ k = 16 ∨ k = 20)) ∨ c = 122 ∨ (c = 127 ∧ i = 0 ∧ k = 7 * v + P) ∨ (c = 126 ∧ i = 0 ∧ k = v)) l121 m M5 := zj_t (zj_m J4 (fun c i k e => by omega) (fun c e => e)) (zj_k (zk_m f5 (fun c i k e => by omega)))
          have ht4 : t + 1 + 1 + 1 + 1 ≤ e := hk.2.2 (t + 1 + 1 + 1) ht3 (by omega) c4
          refine zw_some.mpr ⟨zj_t jP4 (i_vv (by omega) f5), (fun F t' q => by rw [hx, e4] at q; cases q), fun z' q => ?_⟩
          rw [hx, e4] at q
          have e' : y_person V S A (t, (H, P, s, R, X, L), W, G, c, hn, pn, d) = z' := Sum.inr.inj q
          rw [← e']
          have R2x : M5.1 127 0 (7 * v + P) = nI (V (t + 2)) := by rw [f5.1 _ _ _ (by omega), f4.1 _ _ _ (by omega), Mx, ex']
          have w1 : r9_hd K V S B e c0 v (t + 4) C c (z_su (decide (99 < V (t + 2))) 5 (S (t + 2)) (z_su ((x_fh A hn H (t + 1)).isSome || (x_fh A pn P (t + 1)).isSome) 3 (S (t + 1)) d)) M5 := by
            refine ⟨⟨ht4, by omega, hc0, by rw [f5.1 _ _ _ (by omega)]; exact g411, by rw [J5.1 _ _ _ (by omega)]; exact h12, by rw [f5.1 _ _ _ (by omega)]; exact g413, by rw [J5.1 _ _ _ (by omega)]; exact h40, fun j hj => ⟨by rw [J5.1 _ _ _ (by omega)]; exact (htk j hj).1, by rw [J5.1 _ _ _ (by omega)]; exact (htk j hj).2.1, fun q => by rw [J5.1 _ _ _ (by omega)]; exact (htk j hj).2.2 q⟩⟩, hv, by rw [J5.1 _ _ _ (by omega)]; exact h19, by rw [J5.1 _ _ _ (by omega)]; exact h129, by rw [J5.1 _ _ _ (by omega)]; exact h130, ?_, fun j hj q => by rw [J5.2.1 108 (by omega)]; exact h108 j hj q⟩
            have db3' : r9_db (z_su (decide (99 < V (t + 2))) 5 (S (t + 2)) (z_su ((x_fh A hn H (t + 1)).isSome || (x_fh A pn P (t + 1)).isSome) 3 (S (t + 1)) d)) m3 := db3
            exact db3'.fr (by rw [f5.1 _ _ _ (by omega), f4.1 _ _ _ (by omega), fM.1 _ _ _ (by omega)]) (by rw [f5.1 _ _ _ (by omega), f4.1 _ _ _ (by omega), fM.1 _ _ _ (by omega)])
          have w2 : r9_tx v (H, P + 1, s, R, upd X P (nI (V (t + 2))), L) M5 := by
            refine ⟨?_, ?_, ?_, fun h' hh' => ?_, fun p hp => ?_⟩
            · rw [J5.1 _ _ _ (by omega)]; exact htx.1
            · exact M51
            · rw [J5.1 _ _ _ (by omega)]; exact htx.2.2.1
            · rw [J5.1 _ _ _ (by omega)]; exact htx.2.2.2.1 h' hh'
            · have hh2 : p < P + 1 := hp
              show _ = upd X P (nI (V (t + 2))) p
              by_cases ch : p = P
              · rw [ch, pk_us]; exact R2x
              · rw [pk_un ch, J5.1 _ _ _ (by omega)]; exact htx.2.2.2.2 p (show p < P by omega)
          have w4 : r9_nm B (H, P + 1, s, R, upd X P (nI (V (t + 2))), L) hn (uN pn P (t + 1)) M5 := by
            refine r9_nm_p hH cc.1 hnm (by rw [f5.1 _ _ _ (by omega)]; exact g420) (k := t + 1) ?_ (by rw [f5.1 _ _ _ (by omega)]; exact n2) (fun j hj => ⟨?_, ?_⟩)
            · rw [f5.2, n1, FM.2]; exact b108
            · rw [f5.2, (n3 j hj).1, FM.2]
            · rw [f5.1 _ _ _ (by omega), (n3 j hj).2, FM.1 _ _ _ (by omega)]
          have w5 : r9_lw v c0 b0 (t + 4) b C (H, P + 1, s, R, upd X P (nI (V (t + 2))), L) M5 := r9_lw.fr (T := (H, P + 1, s, R, upd X P (nI (V (t + 2))), L)) hlw J5 (fun c k e => by omega) (by omega)
          exact ⟨C, b, w1, w2, hgw.fr J5 (fun k => by omega), w4, w5⟩
  · have fl := r1 cc
    rw [fl.2.1, if_pos (y_F fl.1).1]
    refine zw_some.mpr (r9_sp_l ?_ (i_G9 f1) fl)
    by_cases cn : P < 7
    · rw [if_pos (show tP (H, P, s, R, X, L) < 7 from cn)]
      unfold e_4 e_t
      rw [if_pos hKt, if_neg (fun q => cc ⟨cn, q⟩)]; rfl
    · rw [if_neg (show ¬ tP (H, P, s, R, X, L) < 7 from cn)]
end
