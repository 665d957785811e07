/-! READ XXVII: the class's sentences -/
abbrev sPC (o : Nat) : Nat → Nat → Nat → Prop := fun c i k => (c = 4 ∧ i = 0 ∧ (k = 4 ∨ k = 5 ∨ k = 6 ∨ k = 7 ∨ k = 9 ∨ k = 10)) ∨ (c = 6 ∧ i = o) ∨ (c = 26 ∧ (i = 2 * o ∨ i = 2 * o + 1)) ∨ ((c = 27 ∨ c = 28 ∨ c = 29 ∨ c = 30) ∧ i = o)
section
variable {K V S : Nat → Nat} {A : Nat → Int64} {o t N k F H P p a : Nat} {m m' : zMem} {d : Nat × Nat} {y : Int64} {c : Nat × Nat} {T : qT} {W G : Nat → Int32} {hn pn : Nat → Nat}
def c4_hd (K V S : Nat → Nat) (A : Nat → Int64) (o t : Nat) (c d : Nat × Nat) (m : zMem) : Prop := o < 2 ∧ t ≤ 400 ∧ m.2.2 4 0 3 = o ∧ m.1 4 0 4 = nI t ∧ m.1 4 0 5 = nI c.1 ∧ m.1 4 0 6 = nI c.2 ∧ m.1 4 0 7 = 0 ∧ c4_db d m ∧ c4_tok K S m ∧ ∀ j, j < 401 → (K j = 2 → m.2.1 33 0 j = A j) ∧ (K j = 3 → m.2.1 33 0 j = lN (V j))
def c4_gw (o : Nat) (G W : Nat → Int32) (m : zMem) : Prop := (∀ h, h < 5 → m.1 27 o h = G h) ∧ ∀ p, p < 7 → m.1 28 o p = W p
def c4_nm (A : Nat → Int64) (T : qT) (hn pn : Nat → Nat) (m : zMem) : Prop := (∀ h, h < tH T → m.2.1 21 0 h = A (hn h)) ∧ ∀ p, p < tP T → m.2.1 21 1 p = A (pn p)
def c4_lw (o t : Nat) (T : qT) (m : zMem) : Prop := ∃ N, N ≤ t + 4 ∧ m.1 6 o 9 = nI N ∧ ∀ k, k < 4 → ∃ i, m.1 30 o k = nI i ∧ q_cl (m.1 29 o) N i (tL T k).1 (tL T k).2
def c4_st (K V S : Nat → Nat) (A : Nat → Int64) (o : Nat) : qZ → zMem → Prop
  | (t, T, W, G, c, hn, pn, d), m => c4_hd K V S A o t c d m ∧ qTx m o T ∧ c4_gw o G W m ∧ c4_nm A T hn pn m ∧ c4_lw o t T m
def c4_sp (K V S : Nat → Nat) (A : Nat → Int64) (o : Nat) (m : zMem) (res : (Nat × Nat) ⊕ qZ) (q : Int32 × zMem) : Prop := zj (sPC o) l21 m q.2 ∧ (∀ F t', res = .inl (F, t') → c4_fl F t' q) ∧ (∀ z', res = .inr z' → q.1 = 1 ∧ c4_st K V S A o z' q.2)
theorem qk_se_cong {f g : Nat → Bool} : ∀ {n : Nat}, (∀ j, j < n → f j = g j) → q_se f n = q_se g n
  | 0, _ => rfl
  | n + 1, h => by rw [q_se, q_se, qk_se_cong fun j hj => h j (by omega), h n (by omega)]
theorem c4_gw.fr {T : Nat → Nat → Nat → Prop} {L : Nat → Prop} (h : c4_gw o G W m) (hf : zj T L m m') (hs : ∀ k, ¬ T 27 o k ∧ ¬ T 28 o k) : c4_gw o G W m' := ⟨fun h' hh => by rw [hf.1 _ _ _ (hs _).1]; exact h.1 h' hh, fun p hp => by rw [hf.1 _ _ _ (hs _).2]; exact h.2 p hp⟩
theorem c4_lw.fr {U : Nat → Nat → Nat → Prop} {L : Nat → Prop} (h : c4_lw o t T m) (hf : zj U L m m') (hs : ∀ k, ¬ U 6 o 9 ∧ ¬ U 30 o k ∧ ¬ U 29 o k) {t' : Nat} (ht : t ≤ t') : c4_lw o t' T m' := by
  obtain ⟨N, h1, h2, h3⟩ := h
  refine ⟨N, by omega, by rw [hf.1 _ _ _ (hs 0).1]; exact h2, fun k hk => ?_⟩
  obtain ⟨i, h4, h5⟩ := h3 k hk
  exact ⟨i, by rw [hf.1 _ _ _ (hs k).2.1]; exact h4, q_cl_cong (Nat.le_refl _) (fun a _ => hf.1 _ _ _ (hs a).2.2) h5⟩
theorem c4_nm.fr (h : c4_nm A T hn pn m) (h21 : m'.2.1 21 = m.2.1 21) : c4_nm A T hn pn m' := by unfold c4_nm at *; rw [h21]; exact h
/-- an INT's long -/
theorem y_99L {v : Nat} (hv : v < 10000) : decide ((99 : Int64) < lN v) = decide (99 < v) := by
  refine decide_eq_decide.mpr ?_
  rw [show (99 : Int64) = lN 99 from rfl]
  exact pk_lLT (by omega) (by omega)
theorem c4_fnd (hx : ∀ j, j < H → m.2.1 21 a j = A (hn j)) (hy : m.2.1 33 0 t = A t) : q_se (fun j => decide (m.2.1 21 a j = m.2.1 33 0 t)) H = x_fh A hn H t := by
  unfold x_fh
  exact qk_se_cong fun j hj => by rw [hx j hj, hy]
theorem p4_house (hK : ∀ j, K j < 149) (hV : ∀ j, K j = 3 → V j < 10000) (hT : tOk T) (h : c4_st K V S A o (t, T, W, G, c, hn, pn, d) m) : zw (f4_readHouse m) (c4_sp K V S A o m (if tH T < 5 then Sum.map id (fun _ => y_house V S A (t, T, W, G, c, hn, pn, d)) (e_4 K 128 2 3 59 t) else .inl (2, t))) := by
  obtain ⟨H, P, s, R, X, L⟩ := T
  obtain ⟨hh, htx, hgw, hnm, hlw⟩ := h
  obtain ⟨ho, ht, h3, h4, h5, h6, h7, hdb, htk, hval⟩ := id hh
  obtain ⟨hH, hP⟩ := hT
  have hH' : H ≤ 5 := hH
  have hP' : P ≤ 7 := hP
  have e60 : m.1 6 o 0 = nI H := htx.1
  have e61 : m.1 6 o 1 = nI P := htx.2.1
  unfold f4_readHouse
  rw [h3, e60, y_5]
  by_cases cH : H < 5
  · rw [if_pos (nI_lt cH (by omega)), if_pos (show tH (H, P, s, R, X, L) < 5 from cH)]
    have hl3 : z_len 26 (2 * o) = 5 := by
      rcases (show o = 0 ∨ o = 1 by omega) with h | h <;> subst h <;> rfl
    refine zw_b (p4_named (kw := 128) (i2 := 0) (i3 := 2 * o) (n := H) hK (by omega) (by omega) (show H < z_len 21 0 from cH) (by omega) (by omega) ht h3 h4 h7 htk hdb hH' hP' e60 e61) ?_
    rintro ⟨q, m1⟩ ⟨j1, p1, p2⟩
    have j1' : zj (sNm (2 * o) H) l21 m m1 := j1
    rw [z_u2_ap]
    simp only [z_let]
    have e43 : m1.2.2 4 0 3 = o := by rw [j1'.2.2]; exact h3
    rw [e43]
    obtain ⟨M, hM⟩ : ∃ M, M = z_sI m1 6 o 0 (m1.1 6 o 0 + 1) := ⟨_, rfl⟩
    rw [← hM]
    have fM : zk (fun c i k => c = 6 ∧ i = o ∧ k = 0) m1 M := by rw [hM]; exact zk_s (zk_r m1) ⟨rfl, rfl, rfl⟩
    have M60 : M.1 6 o 0 = nI (H + 1) := by rw [hM, z_sI_1, if_pos ⟨rfl, rfl, rfl⟩, j1'.1 _ _ _ (by omega), e60, y_s1]
    clear hM
    have jS : zj (fun c i k => (c = 4 ∧ i = 0 ∧ (k = 4 ∨ k = 7 ∨ k = 9 ∨ k = 10)) ∨ (c = 26 ∧ i = 2 * o ∧ k = H) ∨ (c = 6 ∧ i = o ∧ k = 0)) l21 m M := zj_t (zj_m j1' (fun c i k e => by omega) (fun c e => e)) (zj_k (zk_m fM (fun c i k e => by omega)))
    have jM : zj (sPC o) l21 m M := zj_m jS (fun c i k e => by omega) (fun c e => e)
    rcases he : e_4 K 128 2 3 59 t with ⟨F, t'⟩ | pr
    · obtain ⟨q1, q2, q3, q4, q5⟩ := p1 F t' he
      have q1' : q = 0 := q1
      subst q1'
      rw [if_pos y_b0]
      refine zw_some.mpr ⟨jM, fun F2 t2 e => ?_, (fun z' e => by cases e)⟩
      cases e
      exact ⟨rfl, q2, q3, by rw [fM.1 _ _ _ (by omega)]; exact q4, by rw [fM.1 _ _ _ (by omega)]; exact q5⟩
    · obtain ⟨q1, t4, g4, g7, k1, k2, db, r26, r21, r21'⟩ := p2 pr he
      have q1' : q = 1 := q1
      subst q1'
      rw [if_pos y_b1]
      refine zw_some.mpr ⟨jM, (fun F2 t2 e => by cases e), fun z' e => ⟨rfl, ?_⟩⟩
      have e' : y_house V S A (t, (H, P, s, R, X, L), W, G, c, hn, pn, d) = z' := Sum.inr.inj e
      rw [← e']
      have v1 : m.2.1 33 0 (t + 1) = A (t + 1) := (hval (t + 1) (by omega)).1 k1
      have v2 : m.2.1 33 0 (t + 2) = lN (V (t + 2)) := (hval (t + 2) (by omega)).2 k2
      have d0 := c4_fnd (a := 0) (H := H) hnm.1 v1
      have d1 := c4_fnd (a := 1) (H := P) hnm.2 v1
      rw [d0, d1, v2, y_99L (hV _ k2)] at db
      have r26' : M.1 26 (2 * o) H = nI (V (t + 2)) := by
        have : m1.1 26 (2 * o) H = (m.2.1 33 0 (t + 2)).toInt32 := r26
        rw [fM.1 _ _ _ (by omega), this, v2, lN_i]
      have r21a : M.2.1 21 0 H = A (t + 1) := by
        have : m1.2.1 21 0 H = m.2.1 33 0 (t + 1) := r21
        rw [fM.2, this, v1]
      have r21b : ∀ i j, ¬ (i = 0 ∧ j = H) → M.2.1 21 i j = m.2.1 21 i j := fun i j hij => by
        rw [fM.2]; exact r21' i j hij
      have w1 : c4_hd K V S A o (t + 4) c (z_su (decide (99 < V (t + 2))) 5 (S (t + 2)) (z_su ((x_fh A hn H (t + 1)).isSome || (x_fh A pn P (t + 1)).isSome) 3 (S (t + 1)) d)) M := ⟨ho, t4, by rw [fM.2]; exact e43, by rw [fM.1 _ _ _ (by omega)]; exact g4, by rw [jS.1 _ _ _ (by omega)]; exact h5, by rw [jS.1 _ _ _ (by omega)]; exact h6, by rw [fM.1 _ _ _ (by omega)]; exact g7, db.fr (fM.1 _ _ _ (by omega)) (fM.1 _ _ _ (by omega)), htk.fr jS (fun c k e => by omega), fun j hj => by rw [jS.2.1 33 (by omega)]; exact hval j hj⟩
      have w2 : qTx M o (H + 1, P, s, upd R H (nI (V (t + 2))), X, L) := by
        refine ⟨?_, ?_, ?_, fun h' hh' => ?_, fun p hp => ?_⟩
        · exact M60
        · rw [jS.1 _ _ _ (by omega)]; exact htx.2.1
        · rw [jS.1 _ _ _ (by omega)]; exact htx.2.2.1
        · have hh2 : h' < H + 1 := hh'
          show _ = upd R H (nI (V (t + 2))) h'
          by_cases ch : h' = H
          · rw [ch, pk_us]; exact r26'
          · rw [pk_un ch, jS.1 _ _ _ (by omega)]; exact htx.2.2.2.1 h' (show h' < H by omega)
        · rw [jS.1 _ _ _ (by omega)]; exact htx.2.2.2.2 p hp
      have w4 : c4_nm A (H + 1, P, s, upd R H (nI (V (t + 2))), X, L) (uN hn H (t + 1)) pn M := by
        refine ⟨fun h' hh' => ?_, fun p hp => ?_⟩
        · have hh2 : h' < H + 1 := hh'
          unfold uN
          by_cases ch : h' = H
          · rw [if_pos ch, ch]; exact r21a
          · rw [if_neg ch, r21b _ _ (by omega)]; exact hnm.1 h' (show h' < H by omega)
        · rw [r21b _ _ (by omega)]; exact hnm.2 p hp
      have w5 : c4_lw o (t + 4) (H + 1, P, s, upd R H (nI (V (t + 2))), X, L) M := c4_lw.fr (T := (H + 1, P, s, upd R H (nI (V (t + 2))), X, L)) hlw jS (fun k => by omega) (by omega)
      exact ⟨w1, w2, hgw.fr jS (fun k => by omega), w4, w5⟩
  · rw [if_neg (nI_nlt (by omega) (by omega)), if_neg (show ¬ tH (H, P, s, R, X, L) < 5 from cH)]
    unfold f4_refuse
    simp only [z_let]
    rw [z_u2_ap, if_pos y_b0]
    refine zw_some.mpr ⟨zj_s (zj_r m) (by omega), fun F t' e => ?_, (fun z' e => by cases e)⟩
    cases e
    exact ⟨rfl, Or.inr rfl, ht, by rw [z_sI_1, if_neg (by omega)]; exact h4, by rw [z_sI_1, if_pos ⟨rfl, rfl, rfl⟩]; rfl⟩
theorem p4_person (hK : ∀ j, K j < 149) (hV : ∀ j, K j = 3 → V j < 10000) (hT : tOk T) (h : c4_st K V S A o (t, T, W, G, c, hn, pn, d) m) : zw (f4_readPerson m) (c4_sp K V S A o m (if tP T < 7 then Sum.map id (fun _ => y_person V S A (t, T, W, G, c, hn, pn, d)) (e_4 K 129 2 3 59 t) else .inl (2, t))) := by
  obtain ⟨H, P, s, R, X, L⟩ := T
  obtain ⟨hh, htx, hgw, hnm, hlw⟩ := h
  obtain ⟨ho, ht, h3, h4, h5, h6, h7, hdb, htk, hval⟩ := id hh
  obtain ⟨hH, hP⟩ := hT
  have hH' : H ≤ 5 := hH
  have hP' : P ≤ 7 := hP
  have e60 : m.1 6 o 0 = nI H := htx.1
  have e61 : m.1 6 o 1 = nI P := htx.2.1
  unfold f4_readPerson
  rw [h3, e61, y_7]
  by_cases cH : P < 7
  · rw [if_pos (nI_lt cH (by omega)), if_pos (show tP (H, P, s, R, X, L) < 7 from cH)]
    have hl3 : z_len 26 (2 * o + 1) = 7 := by
      rcases (show o = 0 ∨ o = 1 by omega) with h | h <;> subst h <;> rfl
    refine zw_b (p4_named (kw := 129) (i2 := 1) (i3 := 2 * o + 1) (n := P) hK (by omega) (by omega) (show P < z_len 21 1 from cH) (by omega) (by omega) ht h3 h4 h7 htk hdb hH' hP' e60 e61) ?_
    rintro ⟨q, m1⟩ ⟨j1, p1, p2⟩
    have j1' : zj (sNm (2 * o + 1) P) l21 m m1 := j1
    rw [z_u2_ap]
    simp only [z_let]
    have e43 : m1.2.2 4 0 3 = o := by rw [j1'.2.2]; exact h3
    rw [e43]
    obtain ⟨M, hM⟩ : ∃ M, M = z_sI m1 6 o 1 (m1.1 6 o 1 + 1) := ⟨_, rfl⟩
    rw [← hM]
    have fM : zk (fun c i k => c = 6 ∧ i = o ∧ k = 1) m1 M := by rw [hM]; exact zk_s (zk_r m1) ⟨rfl, rfl, rfl⟩
    have M60 : M.1 6 o 1 = nI (P + 1) := by rw [hM, z_sI_1, if_pos ⟨rfl, rfl, rfl⟩, j1'.1 _ _ _ (by omega), e61, y_s1]
    clear hM
    have jS : zj (fun c i k => (c = 4 ∧ i = 0 ∧ (k = 4 ∨ k = 7 ∨ k = 9 ∨ k = 10)) ∨ (c = 26 ∧ i = 2 * o + 1 ∧ k = P) ∨ (c = 6 ∧ i = o ∧ k = 1)) l21 m M := zj_t (zj_m j1' (fun c i k e => by omega) (fun c e => e)) (zj_k (zk_m fM (fun c i k e => by omega)))
    have jM : zj (sPC o) l21 m M := zj_m jS (fun c i k e => by omega) (fun c e => e)
    rcases he : e_4 K 129 2 3 59 t with ⟨F, t'⟩ | pr
    · obtain ⟨q1, q2, q3, q4, q5⟩ := p1 F t' he
      have q1' : q = 0 := q1
      subst q1'
      rw [if_pos y_b0]
      refine zw_some.mpr ⟨jM, fun F2 t2 e => ?_, (fun z' e => by cases e)⟩
      cases e
      exact ⟨rfl, q2, q3, by rw [fM.1 _ _ _ (by omega)]; exact q4, by rw [fM.1 _ _ _ (by omega)]; exact q5⟩
    · obtain ⟨q1, t4, g4, g7, k1, k2, db, r26, r21, r21'⟩ := p2 pr he
      have q1' : q = 1 := q1
      subst q1'
      rw [if_pos y_b1]
      refine zw_some.mpr ⟨jM, (fun F2 t2 e => by cases e), fun z' e => ⟨rfl, ?_⟩⟩
      have e' : y_person V S A (t, (H, P, s, R, X, L), W, G, c, hn, pn, d) = z' := Sum.inr.inj e
      rw [← e']
      have v1 : m.2.1 33 0 (t + 1) = A (t + 1) := (hval (t + 1) (by omega)).1 k1
      have v2 : m.2.1 33 0 (t + 2) = lN (V (t + 2)) := (hval (t + 2) (by omega)).2 k2
      have d0 := c4_fnd (a := 0) (H := H) hnm.1 v1
      have d1 := c4_fnd (a := 1) (H := P) hnm.2 v1
      rw [d0, d1, v2, y_99L (hV _ k2)] at db
      have r26' : M.1 26 (2 * o + 1) P = nI (V (t + 2)) := by
        have : m1.1 26 (2 * o + 1) P = (m.2.1 33 0 (t + 2)).toInt32 := r26
        rw [fM.1 _ _ _ (by omega), this, v2, lN_i]
      have r21a : M.2.1 21 1 P = A (t + 1) := by
        have : m1.2.1 21 1 P = m.2.1 33 0 (t + 1) := r21
        rw [fM.2, this, v1]
      have r21b : ∀ i j, ¬ (i = 1 ∧ j = P) → M.2.1 21 i j = m.2.1 21 i j := fun i j hij => by
        rw [fM.2]; exact r21' i j hij
      have w1 : c4_hd K V S A o (t + 4) c (z_su (decide (99 < V (t + 2))) 5 (S (t + 2)) (z_su ((x_fh A hn H (t + 1)).isSome || (x_fh A pn P (t + 1)).isSome) 3 (S (t + 1)) d)) M := ⟨ho, t4, by rw [fM.2]; exact e43, by rw [fM.1 _ _ _ (by omega)]; exact g4, by rw [jS.1 _ _ _ (by omega)]; exact h5, by rw [jS.1 _ _ _ (by omega)]; exact h6, by rw [fM.1 _ _ _ (by omega)]; exact g7, db.fr (fM.1 _ _ _ (by omega)) (fM.1 _ _ _ (by omega)), htk.fr jS (fun c k e => by omega), fun j hj => by rw [jS.2.1 33 (by omega)]; exact hval j hj⟩
      have w2 : qTx M o (H, P + 1, s, R, upd X P (nI (V (t + 2))), L) := by
        refine ⟨?_, ?_, ?_, fun h' hh' => ?_, fun p hp => ?_⟩
        · rw [jS.1 _ _ _ (by omega)]; exact htx.1
        · exact M60
        · rw [jS.1 _ _ _ (by omega)]; exact htx.2.2.1
        · rw [jS.1 _ _ _ (by omega)]; exact htx.2.2.2.1 h' hh'
        · have hh2 : p < P + 1 := hp
          show _ = upd X P (nI (V (t + 2))) p
          by_cases ch : p = P
          · rw [ch, pk_us]; exact r26'
          · rw [pk_un ch, jS.1 _ _ _ (by omega)]; exact htx.2.2.2.2 p (show p < P by omega)
      have w4 : c4_nm A (H, P + 1, s, R, upd X P (nI (V (t + 2))), L) hn (uN pn P (t + 1)) M := by
        refine ⟨fun h' hh' => ?_, fun p hp => ?_⟩
        · rw [r21b _ _ (by omega)]; exact hnm.1 h' hh'
        · have hh2 : p < P + 1 := hp
          unfold uN
          by_cases ch : p = P
          · rw [if_pos ch, ch]; exact r21a
          · rw [if_neg ch, r21b _ _ (by omega)]; exact hnm.2 p (show p < P by omega)
      have w5 : c4_lw o (t + 4) (H, P + 1, s, R, upd X P (nI (V (t + 2))), L) M := c4_lw.fr (T := (H, P + 1, s, R, upd X P (nI (V (t + 2))), L)) hlw jS (fun k => by omega) (by omega)
      exact ⟨w1, w2, hgw.fr jS (fun k => by omega), w4, w5⟩
  · rw [if_neg (nI_nlt (by omega) (by omega)), if_neg (show ¬ tP (H, P, s, R, X, L) < 7 from cH)]
    unfold f4_refuse
    simp only [z_let]
    rw [z_u2_ap, if_pos y_b0]
    refine zw_some.mpr ⟨zj_s (zj_r m) (by omega), fun F t' e => ?_, (fun z' e => by cases e)⟩
    cases e
    exact ⟨rfl, Or.inr rfl, ht, by rw [z_sI_1, if_neg (by omega)]; exact h4, by rw [z_sI_1, if_pos ⟨rfl, rfl, rfl⟩]; rfl⟩
end
