/-! READ XXVIII: the class's sentences: right, away, seed, LAWS -/
section
variable {K V S : Nat → Nat} {A : Nat → Int64} {o t N k F H P p a : Nat} {m m' : zMem} {d : Nat × Nat} {y : Int64} {c : Nat × Nat} {T : qT} {W G : Nat → Int32} {hn pn : Nat → Nat}
def o_i : Option Nat → Int32
  | some j => nI j
  | none => -1
theorem p4_findNameI {i n : Nat} (hi : i < 2) (hn : n ≤ z_len 21 i) (ht : t ≤ 400) (h4 : m.1 4 0 4 = nI t) : f4_findName i (nI n) m = some (o_i (q_se (fun j => decide (m.2.1 21 i j = m.2.1 33 0 t)) n)) := by
  rw [p4_findName hi hn ht h4]
  cases q_se (fun j => decide (m.2.1 21 i j = m.2.1 33 0 t)) n <;> rfl
theorem p4_findPerson (ht : t ≤ 400) (h3 : m.2.2 4 0 3 = o) (h4 : m.1 4 0 4 = nI t) (h32 : m.1 32 0 t = nI p) (h : c4_db d m) (hP : P ≤ 7) (h61 : m.1 6 o 1 = nI P) : zw (f4_findPerson m) fun q => q.1 = o_i (q_se (fun j => decide (m.2.1 21 1 j = m.2.1 33 0 t)) P) ∧ zk sDb m q.2 ∧ c4_db (z_su (q_se (fun j => decide (m.2.1 21 1 j = m.2.1 33 0 t)) P).isNone 4 p d) q.2 := by
  have hl1 : z_len 21 1 = 7 := rfl
  unfold f4_findPerson
  rw [h3, h61, p4_findName (by omega) (by omega) ht h4, Option.bind_some]
  rcases e1 : q_se (fun j => decide (m.2.1 21 1 j = m.2.1 33 0 t)) P with _ | j
  · rw [if_pos rfl]
    refine zw_b (p4_sus (a := 4) (by omega) (by omega) ht h4 h32 h) ?_
    rintro m1 ⟨f1, db1⟩
    exact zw_some.mpr ⟨rfl, f1, db1⟩
  · have := q_se_lt e1
    show zw (if nI j = -1 then _ else _) _
    rw [if_neg (show ¬ nI j = -1 by rw [y_ne1 (by omega)]; exact id)]
    exact zw_some.mpr ⟨rfl, zk_r m, h⟩
theorem p4_right (hK : ∀ j, K j < 149) (hT : tOk T) (hc : c.1 ≤ 20) (h : c4_st K V S A o (t, T, W, G, c, hn, pn, d) m) : zw (f4_readRight m) (c4_sp K V S A o m (if c.1 < 20 then Sum.map id (fun _ => y_right S A (t, T, W, G, c, hn, pn, d)) (e_4 K 130 2 2 59 t) else .inl (2, t))) := by
  obtain ⟨H, P, s, R, X, L⟩ := T
  obtain ⟨hh, htx, hgw, hnm, hlw⟩ := h
  obtain ⟨ho, ht, h3, h4, h5, h6, h7, hdb, htk, hval⟩ := id hh
  obtain ⟨hH, hP⟩ := hT
  have hH' : H ≤ 5 := hH
  have hP' : P ≤ 7 := hP
  have e60 : m.1 6 o 0 = nI H := htx.1
  have e61 : m.1 6 o 1 = nI P := htx.2.1
  unfold f4_readRight
  rw [h5, y_20]
  by_cases cR : c.1 < 20
  · rw [if_pos (nI_lt cR (by omega)), if_pos cR]
    simp only [z_let]
    rw [y_s1]
    obtain ⟨M, hM⟩ : ∃ M, M = z_sI m 4 0 5 (nI (c.1 + 1)) := ⟨_, rfl⟩
    rw [← hM]
    have fM : zk (fun c i k => c = 4 ∧ i = 0 ∧ k = 5) m M := by rw [hM]; exact zk_s (zk_r m) ⟨rfl, rfl, rfl⟩
    have M5 : M.1 4 0 5 = nI (c.1 + 1) := by rw [hM, z_sI_1, if_pos ⟨rfl, rfl, rfl⟩]
    clear hM
    have tM : c4_tok K S M := htk.fr (zj_k (L := l21) fM) (fun c k e => by omega)
    unfold e_4
    refine c4_tk (K := K) (k := 130) ht (by rw [fM.1 _ _ _ (by omega)]; exact h4) (by rw [fM.1 _ _ _ (by omega)]; exact h7) (tM t (by omega)).1 (hK t) (by omega) ?_ ?_
    · intro e1 _ c1 m1 f1 g14 g17
      rw [z_u2_ap, if_neg n01, e1, e_bd_r]
      have t1 : c4_tok K S m1 := tM.fr (zj_k (L := l21) f1) (fun c k e => by omega)
      have E1 : m1.2 = m.2 := by rw [f1.2, fM.2]
      refine zw_b (p4_findPerson (o := o) (P := P) (show t + 1 ≤ 400 by omega) (by rw [E1]; exact h3) g14 (t1 (t + 1) (by omega)).2 (hdb.fr (m' := m1) (by rw [f1.1 _ _ _ (by omega), fM.1 _ _ _ (by omega)]) (by rw [f1.1 _ _ _ (by omega), fM.1 _ _ _ (by omega)])) hP' (by rw [f1.1 _ _ _ (by omega), fM.1 _ _ _ (by omega)]; exact e61)) ?_
      rintro ⟨q2, m2⟩ ⟨r2, f2, db2⟩
      have f2' : zk sDb m1 m2 := f2
      rw [E1] at r2 db2
      rw [z_u2_ap]
      have t2 : c4_tok K S m2 := t1.fr (zj_k (L := l21) f2') (fun c k e => by omega)
      have E2 : m2.2 = m.2 := by rw [f2'.2, E1]
      have db2' : c4_db (z_su (q_se (fun j => decide (m.2.1 21 1 j = m.2.1 33 0 (t + 1))) P).isNone 4 (S (t + 1)) d) m2 := db2
      have r2' : q2 = o_i (q_se (fun j => decide (m.2.1 21 1 j = m.2.1 33 0 (t + 1))) P) := r2
      have FA : zk (fun c i k => c = 4 ∧ i = 0 ∧ (k = 4 ∨ k = 5 ∨ k = 7 ∨ k = 9 ∨ k = 10)) m m2 := zk_t (zk_m fM (fun c i k e => by omega)) (zk_t (zk_m f1 (fun c i k e => by omega)) (zk_m f2' (fun c i k e => by omega)))
      have m25 : m2.1 4 0 5 = nI (c.1 + 1) := by rw [f2'.1 _ _ _ (by omega), f1.1 _ _ _ (by omega)]; exact M5
      have m24 : m2.1 4 0 4 = nI (t + 1) := by rw [f2'.1 _ _ _ (by omega)]; exact g14
      have m27 : m2.1 4 0 7 = 0 := by rw [f2'.1 _ _ _ (by omega)]; exact g17
      clear r2 db2 f2 f2' f1 fM t1 tM g14 g17 M5 E1
      refine c4_tk (K := K) (k := 2) (show t + 1 ≤ 400 by omega) m24 m27 (t2 (t + 1) (by omega)).1 (hK _) (by omega) ?_ ?_
      · intro e3 k3 c3 m3 f3 g34 g37
        rw [z_u2_ap, if_neg n01, e3, e_bd_r]
        have E3 : m3.2 = m.2 := by rw [f3.2, E2]
        have t3 : c4_tok K S m3 := t2.fr (zj_k (L := l21) f3) (fun c k e => by omega)
        have F3 : zk (fun c i k => c = 4 ∧ i = 0 ∧ (k = 4 ∨ k = 5 ∨ k = 7 ∨ k = 9 ∨ k = 10)) m m3 := zk_t FA (zk_m f3 (fun c i k e => by omega))
        have hl0 : z_len 21 0 = 5 := rfl
        have e33 : m3.2.2 4 0 3 = o := by rw [E3]; exact h3
        rw [e33, F3.1 _ _ _ (by omega), e60, p4_findNameI (m := m3) (by omega) (by omega) (show t + 1 + 1 ≤ 400 by omega) g34, Option.bind_some, E3]
        have db3 := db2'.fr (m' := m3) (f3.1 _ _ _ (by omega)) (f3.1 _ _ _ (by omega))
        have m35 : m3.1 4 0 5 = nI (c.1 + 1) := by rw [f3.1 _ _ _ (by omega)]; exact m25
        generalize hfh : q_se (fun j => decide (m.2.1 21 0 j = m.2.1 33 0 (t + 1 + 1))) H = fh
        generalize hfp : q_se (fun j => decide (m.2.1 21 1 j = m.2.1 33 0 (t + 1))) P = fp at r2' db3
        -- the doubt, and the RIGHT
        have mid : zw ((if (o_i fh) = (-1 : Int32) then (f4_suspect (4 : Int32) m3).bind (fun qm20 => some qm20) else (if q2 = (-1 : Int32) then some m3 else (f4_suspectOldRight q2 (o_i fh) m3).bind (fun qm23 => if z_in (o_i fh) 5 = true then some (z_sI qm23 27 ((qm23.2.2 4 0 3)) (o_i fh).toNatClampNeg ((qm23.1 27 ((qm23.2.2 4 0 3)) (o_i fh).toNatClampNeg) ||| ((1 : Int32) <<< (q2 &&& 31)))) else none))) : Option (zMem)) fun m4 => zk (fun c i k => (c = 4 ∧ i = 0 ∧ (k = 9 ∨ k = 10)) ∨ (c = 27 ∧ i = o)) m3 m4 ∧ c4_db (y_rD S G t d fp fh) m4 ∧ ∀ h', h' < 5 → m4.1 27 o h' = y_rG G fp fh h' := by
          have h27 : ∀ h', h' < 5 → m3.1 27 o h' = G h' := fun h' hh' => by rw [F3.1 _ _ _ (by omega)]; exact hgw.1 h' hh'
          rcases fh with _ | jh
          · rw [if_pos (show o_i none = -1 from rfl)]
            refine zw_b (p4_sus (a := 4) (by omega) (by omega) (show t + 1 + 1 ≤ 400 by omega) g34 (t3 (t + 1 + 1) (by omega)).2 db3) ?_
            rintro m4 ⟨f4, db4⟩
            refine zw_some.mpr ⟨zk_m f4 (fun c i k e => by omega), ?_, fun h' hh' => ?_⟩
            · rcases fp with _ | jp
              · exact db4
              · exact db4
            · rw [f4.1 _ _ _ (by omega), h27 h' hh']
              rcases fp with _ | jp <;> rfl
          · have hjh : jh < H := q_se_lt hfh
            rw [show o_i (some jh) = nI jh from rfl]
            rw [if_neg (show ¬ nI jh = -1 by rw [y_ne1 (by omega)]; exact id)]
            rcases fp with _ | jp
            · rw [if_pos (show q2 = -1 from r2')]
              exact zw_some.mpr ⟨zk_r m3, db3, h27⟩
            · have hjp : jp < P := q_se_lt hfp
              have r2'' : q2 = nI jp := r2'
              rw [r2'', if_neg (show ¬ nI jp = -1 by rw [y_ne1 (by omega)]; exact id)]
              have hor : zw (f4_suspectOldRight (nI jp) (nI jh) m3) fun m' => zk sDb m3 m' ∧ c4_db (z_su (bt (G jh) jp) 3 (S (t + 1 + 1)) d) m' := by
                refine p4_susC (a := 3) (by omega) (by omega) (show t + 1 + 1 ≤ 400 by omega) g34 (t3 (t + 1 + 1) (by omega)).2 db3 (bt (G jh) jp) ?_
                unfold f4_suspectOldRight
                rw [if_pos (y_in (by omega) (by omega)), y_cl (by omega), e33, h27 jh (by omega)]
                simp only [y_has0 (G jh) jp (show jp < 32 by omega)]
                cases bt (G jh) jp <;> rfl
              refine zw_b hor ?_
              rintro m4 ⟨f4, db4⟩
              rw [if_pos (y_in (show jh < 5 by omega) (by omega)), y_cl (by omega), f4.2, e33, f4.1 27 o jh (by omega), h27 jh (by omega)]
              refine zw_some.mpr ⟨zk_s (zk_m f4 (fun c i k e => by omega)) (by omega), db4.fr (by rw [z_sI_1, if_neg (by omega)]) (by rw [z_sI_1, if_neg (by omega)]), fun h' hh' => ?_⟩
              show _ = upd G jh (G jh ||| ((1 : Int32) <<< (nI jp &&& 31))) h'
              rw [z_sI_1]
              by_cases ch : h' = jh
              · rw [if_pos ⟨rfl, rfl, ch⟩, ch, pk_us]
              · rw [if_neg (fun q => ch q.2.2), pk_un ch, f4.1 _ _ _ (by omega), h27 h' hh']
        refine zw_b mid ?_
        rintro m4 ⟨f4, db4, r27⟩
        have F4 : zk (fun c i k => (c = 4 ∧ i = 0 ∧ (k = 4 ∨ k = 5 ∨ k = 7 ∨ k = 9 ∨ k = 10)) ∨ (c = 27 ∧ i = o)) m m4 := zk_t (zk_m F3 (fun c i k e => by omega)) (zk_m f4 (fun c i k e => by omega))
        have t4 : c4_tok K S m4 := t3.fr (zj_k (L := l21) f4) (fun c k e => by omega)
        refine c4_tk (K := K) (k := 2) (show t + 1 + 1 ≤ 400 by omega) (by rw [f4.1 _ _ _ (by omega)]; exact g34) (by rw [f4.1 _ _ _ (by omega)]; exact g37) (t4 (t + 1 + 1) (by omega)).1 (hK _) (by omega) ?_ ?_
        · intro e5 k5 c5 m5 f5 g54 g57
          rw [z_u2_ap, if_neg n01, e5, e_bd_r]
          have t5 : c4_tok K S m5 := t4.fr (zj_k (L := l21) f5) (fun c k e => by omega)
          refine c4_tk (K := K) (k := 59) (show t + 1 + 1 + 1 ≤ 400 by omega) g54 g57 (t5 (t + 1 + 1 + 1) (by omega)).1 (hK _) (by omega) ?_ ?_
          · intro e6 _ c6 m6 f6 g64 g67
            rw [z_u2_ap, if_neg n01, e6]
            have F6 : zk (fun c i k => (c = 4 ∧ i = 0 ∧ (k = 4 ∨ k = 5 ∨ k = 7 ∨ k = 9 ∨ k = 10)) ∨ (c = 27 ∧ i = o)) m m6 := zk_t F4 (zk_t (zk_m f5 (fun c i k e => by omega)) (zk_m f6 (fun c i k e => by omega)))
            have J6 : zj (fun c i k => (c = 4 ∧ i = 0 ∧ (k = 4 ∨ k = 5 ∨ k = 7 ∨ k = 9 ∨ k = 10)) ∨ (c = 27 ∧ i = o)) l21 m m6 := zj_k F6
            refine zw_some.mpr ⟨zj_m J6 (fun c i k e => by omega) (fun c e => e), (fun F t' e => by cases e), fun z' e => ⟨rfl, ?_⟩⟩
            have e' : y_right S A (t, (H, P, s, R, X, L), W, G, c, hn, pn, d) = z' := Sum.inr.inj e
            rw [← e']
            have v1 : m.2.1 33 0 (t + 1) = A (t + 1) := (hval (t + 1) (by omega)).1 k3
            have v2 : m.2.1 33 0 (t + 2) = A (t + 2) := (hval (t + 2) (by omega)).1 k5
            have d1 := c4_fnd (a := 1) (H := P) hnm.2 v1
            have d0 := c4_fnd (a := 0) (H := H) hnm.1 v2
            have d0' : x_fh A hn H (t + 2) = fh := by rw [← d0]; exact hfh
            have d1' : x_fh A pn P (t + 1) = fp := by rw [← d1]; exact hfp
            have w1 : c4_hd K V S A o (t + 4) (c.1 + 1, c.2) (y_rD S G t d fp fh) m6 := ⟨ho, by omega, by rw [F6.2]; exact h3, g64, by rw [f6.1 _ _ _ (by omega), f5.1 _ _ _ (by omega), f4.1 _ _ _ (by omega)]; exact m35, by rw [F6.1 _ _ _ (by omega)]; exact h6, g67, db4.fr (by rw [f6.1 _ _ _ (by omega), f5.1 _ _ _ (by omega)]) (by rw [f6.1 _ _ _ (by omega), f5.1 _ _ _ (by omega)]), htk.fr J6 (fun c k e => by omega), fun j hj => by rw [F6.2]; exact hval j hj⟩
            have w3 : c4_gw o (y_rG G fp fh) W m6 := ⟨fun h' hh' => by rw [f6.1 _ _ _ (by omega), f5.1 _ _ _ (by omega)]; exact r27 h' hh', fun p hp => by rw [F6.1 _ _ _ (by omega)]; exact hgw.2 p hp⟩
            show c4_hd K V S A o (t + 4) (c.1 + 1, c.2) (y_rD S G t d (x_fh A pn P (t + 1)) (x_fh A hn H (t + 2))) m6 ∧ qTx m6 o (H, P, s, R, X, L) ∧ c4_gw o (y_rG G (x_fh A pn P (t + 1)) (x_fh A hn H (t + 2))) W m6 ∧ c4_nm A (H, P, s, R, X, L) hn pn m6 ∧ c4_lw o (t + 4) (H, P, s, R, X, L) m6
            rw [d0', d1']
            exact ⟨w1, htx.zk F6 (fun i k => by omega), w3, hnm.fr (by rw [F6.2]), hlw.fr J6 (fun k => by omega) (by omega)⟩
          · intro F m6 e6 hF f6 g64 g67
            rw [z_u2_ap, if_pos rfl, e6]
            refine zw_some.mpr ⟨zj_k (zk_t (zk_m F4 (fun c i k e => by omega)) (zk_t (zk_m f5 (fun c i k e => by omega)) (zk_m f6 (fun c i k e => by omega)))), fun F2 t2 q => ?_, (fun z' e => by cases e)⟩
            cases q
            exact ⟨rfl, hF, by omega, g64, g67⟩
        · intro F m5 e5 hF f5 g54 g57
          rw [z_u2_ap, if_pos rfl, e5, e_bd_l]
          refine zw_some.mpr ⟨zj_k (zk_t (zk_m F4 (fun c i k e => by omega)) (zk_m f5 (fun c i k e => by omega))), fun F2 t2 q => ?_, (fun z' e => by cases e)⟩
          cases q
          exact ⟨rfl, hF, by omega, g54, g57⟩
      · intro F m3 e3 hF f3 g34 g37
        rw [z_u2_ap, if_pos rfl, e3, e_bd_l]
        refine zw_some.mpr ⟨zj_k (zk_t (zk_m FA (fun c i k e => by omega)) (zk_m f3 (fun c i k e => by omega))), fun F2 t2 q => ?_, (fun z' e => by cases e)⟩
        cases q
        exact ⟨rfl, hF, by omega, g34, g37⟩
    · intro F m1 e1 hF f1 g14 g17
      rw [z_u2_ap, if_pos rfl, e1, e_bd_l]
      refine zw_some.mpr ⟨zj_k (zk_t (zk_m fM (fun c i k e => by omega)) (zk_m f1 (fun c i k e => by omega))), fun F2 t2 q => ?_, (fun z' e => by cases e)⟩
      cases q
      exact ⟨rfl, hF, ht, g14, g17⟩
  · rw [if_neg (nI_nlt (by omega) (by omega)), if_neg cR]
    unfold f4_refuse
    simp only [z_let]
    rw [z_u2_ap, if_pos y_b0]
    refine zw_some.mpr ⟨zj_s (zj_r m) (by omega), fun F t' e => ?_, (fun z' e => by cases e)⟩
    cases e
    exact ⟨rfl, Or.inr rfl, ht, by rw [z_sI_1, if_neg (by omega)]; exact h4, by rw [z_sI_1, if_pos ⟨rfl, rfl, rfl⟩]; rfl⟩
end
