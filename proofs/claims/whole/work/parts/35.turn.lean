/-! YEARS III: the class's turn, goOn, standStill -/
theorem p0_turn {m : zMem} {o1 o2 B : Nat} {T : qT} {r d u : Nat → Int32} {dy go co : Int32} (hr : qRep m o2 T r) (hw : qRow T B r) (hT : tOk T) (ht : qTx m o1 T) (hd : q_dOk T r d) (h1 : ∀ p, p < tP T → bt dy p = decide (d p = 2)) (h2 : ∀ p, p < tP T → bt go p = (decide (d p = 1) && decide (r p = 0))) (h3 : ∀ p, p < tP T → bt co p = (decide (d p = 1) && decide (r p = 1))) (hu : ∀ p, p < 7 → m.1 14 0 p = u p) (hu0 : ∀ p, tP T ≤ p → p < 7 → u p = 0) : zw (f0_turn o1 o2 dy go co m) fun m' => qRep m' o2 T (q_nx T r d u) ∧ zk (sState o2) m m' := by
  have hP := hT.2
  unfold f0_turn
  refine zw_b (zw_for (Q := fun m1 => zk (sState o2) m m1 ∧ m1.1 5 o2 0 = r 33 ∧ (∀ p, p < 32 → bt (m1.1 5 o2 1) p = (decide (p < tP T) && decide (q_nx T r d u p = 0))) ∧ (∀ p, p < 32 → bt (m1.1 5 o2 2) p = (decide (p < tP T) && decide (q_nx T r d u p = 1))) ∧ (∀ p, p < 7 → m1.1 22 o2 p = q_nx T r d u (7 + p)) ∧ (∀ p, p < 7 → m1.1 23 o2 p = q_nx T r d u (14 + p)) ∧ (∀ p, p < tP T → m1.1 24 o2 p = q_age T (q_nx T r d u) p) ∧ m1.1 25 o2 = m.1 25 o2) (tP T)
    (fun k m1 => zk (sState o2) m m1 ∧ m1.1 5 o2 0 = r 33 ∧ (∀ p, p < 32 → bt (m1.1 5 o2 1) p = if p < k then decide (q_nx T r d u p = 0) else (decide (p < tP T) && decide (r p = 0))) ∧ (∀ p, p < 32 → bt (m1.1 5 o2 2) p = if p < k then decide (q_nx T r d u p = 1) else (decide (p < tP T) && decide (r p = 1))) ∧ (∀ p, p < 7 → m1.1 22 o2 p = if p < k then q_nx T r d u (7 + p) else r (7 + p)) ∧ (∀ p, p < 7 → m1.1 23 o2 p = if p < k then q_nx T r d u (14 + p) else r (14 + p)) ∧ (∀ p, p < tP T → m1.1 24 o2 p = if p < k then q_age T (q_nx T r d u) p else q_age T r p) ∧ m1.1 25 o2 = m.1 25 o2) (by omega) ?_ ?_ ?_) ?_
  · exact ⟨zk_r m, hr.1, fun p hp => by rw [if_neg (by omega)]; exact hr.2.1 p hp, fun p hp => by rw [if_neg (by omega)]; exact hr.2.2.1 p hp, fun p hp => by rw [if_neg (by omega)]; exact hr.2.2.2.1 p hp, fun p hp => by rw [if_neg (by omega)]; exact hr.2.2.2.2.1 p hp, fun p hp => by rw [if_neg (by omega)]; exact hr.2.2.2.2.2.1 p hp, rfl⟩
  · rintro k m1 hk ⟨hf, i0, iH, iA, iG, iT, iY, iR⟩
    have ht2 : qTx m1 o1 T := ht.zk hf (fun i k => by omega)
    have e14 : m1.1 14 0 k = u k := by rw [hf.1 14 0 k (by omega)]; exact hu k (by omega)
    unfold f0_turn_L1
    simp (disch := omega) only [z_u2, ht2.2.1, y_lt, hk, if_true, y_in, y_cl, z_let, y_s1, y_has0]
    rw [e14]
    generalize hm6 : z_sI m1 23 o2 k (m1.1 23 o2 k + u k) = m6
    have hf6 : zk (sState o2) m m6 := by rw [← hm6]; exact zk_s hf (by omega)
    have g5 : ∀ j, m6.1 5 o2 j = m1.1 5 o2 j := fun j => by rw [← hm6, z_sI_1, if_neg (by omega)]
    have g22 : ∀ j, m6.1 22 o2 j = m1.1 22 o2 j := fun j => by rw [← hm6, z_sI_1, if_neg (by omega)]
    have g24 : ∀ j, m6.1 24 o2 j = m1.1 24 o2 j := fun j => by rw [← hm6, z_sI_1, if_neg (by omega)]
    have g25 : m6.1 25 o2 = m1.1 25 o2 := funext fun j => by rw [← hm6, z_sI_1, if_neg (by omega)]
    have g23 : ∀ p, p < 7 → m6.1 23 o2 p = if p < k + 1 then q_nx T r d u (14 + p) else r (14 + p) := fun p hp => by
      rw [← hm6, z_sI_1]
      by_cases e : p = k
      · rw [if_pos ⟨rfl, rfl, e⟩, iT k (by omega), if_neg (by omega), if_pos (by omega), e, q_nx_t (by omega)]
      · rw [if_neg (fun q => e q.2.2), iT p hp]
        by_cases e2 : p < k
        · rw [if_pos e2, if_pos (by omega)]
        · rw [if_neg e2, if_neg (by omega)]
    have kH : bt (m6.1 5 o2 1) k = decide (r k = 0) := by rw [g5, iH k (by omega), if_neg (by omega), decide_eq_true hk]; rfl
    have kA : bt (m6.1 5 o2 2) k = decide (r k = 1) := by rw [g5, iA k (by omega), if_neg (by omega), decide_eq_true hk]; rfl
    have kG : m6.1 22 o2 k = r (7 + k) := by rw [g22, iG k (by omega), if_neg (by omega)]
    have kY : m6.1 24 o2 k = q_age T r k := by rw [g24, iY k hk, if_neg (by omega)]
    have stage : ∀ (X : Option zMem), X = (if bt dy k = false then (if bt go k = false then (if bt co k = false then (if bt (m6.1 5 o2 2) k = false then some m6 else some (z_sI m6 22 o2 k (m6.1 22 o2 k + 1))) else (f5_comeHome o2 (nI k) m6).bind (fun qm20 => some qm20)) else (f5_goAway o2 (nI k) m6).bind (fun qm22 => some qm22)) else (f5_die o2 (nI k) m6).bind (fun qm24 => some qm24)) → zw X (fun m7 => qSet m6 m7 o2 k (decide (q_nx T r d u k = 0)) (decide (q_nx T r d u k = 1)) (q_nx T r d u (7 + k))) := by
      rintro X rfl
      rw [h1 k hk, h2 k hk, h3 k hk, q_nx_s hT hk, q_nx_g hT hk]
      rcases hd k hk with e | ⟨e, er⟩ | ⟨e, er⟩
      · rw [e, show decide ((0 : Int32) = 2) = false from rfl, show decide ((0 : Int32) = 1) = false from rfl, if_pos (show false = false from rfl), Bool.false_and, Bool.false_and, if_pos (show false = false from rfl), if_pos (show false = false from rfl), kA, if_neg (show ¬ (0 : Int32) = 2 by decide), if_neg (show ¬ (0 : Int32) = 1 by decide), if_neg (show ¬ ((0 : Int32) = 2 ∨ (0 : Int32) = 1) by decide)]
        by_cases e1 : r k = 1
        · rw [decide_eq_true e1, if_neg (by decide), if_pos e1]
          refine zw_some.mpr ⟨zk_s (zk_r m6) (by omega), fun p hp => ?_, fun p hp => ?_, ?_⟩
          · rw [z_sI_1, if_neg (by omega)]
            by_cases e2 : p = k
            · rw [if_pos e2, e2, kH]
            · rw [if_neg e2]
          · rw [z_sI_1, if_neg (by omega)]
            by_cases e2 : p = k
            · rw [if_pos e2, e2, kA, decide_eq_true e1]
            · rw [if_neg e2]
          · rw [z_sI_1, if_pos ⟨rfl, rfl, rfl⟩, kG]
        · rw [decide_eq_false e1, if_pos rfl, if_neg e1]
          have := qSet_r m6 o2 k
          rw [kH, kA, kG, decide_eq_false e1] at this
          exact zw_some.mpr this
      · rw [e, show decide ((1 : Int32) = 2) = false from rfl, show decide ((1 : Int32) = 1) = true from rfl, if_pos rfl, if_neg (show ¬ (1 : Int32) = 2 by decide), if_pos (show (1 : Int32) = 1 from rfl), if_pos (show ((1 : Int32) = 2 ∨ (1 : Int32) = 1) by decide)]
        rcases er with er | er
        · rw [er, if_neg (by decide)]
          exact zw_b (p5_goAway o2 (by omega) m6) (fun m7 h7 => zw_some.mpr h7)
        · rw [er, if_pos (show (true && decide ((1 : Int32) = 0)) = false from rfl), if_neg (by decide)]
          exact zw_b (p5_comeHome o2 (by omega) m6) (fun m7 h7 => zw_some.mpr h7)
      · rw [e, show decide ((2 : Int32) = 2) = true from rfl, if_neg (by decide), if_pos (show (2 : Int32) = 2 from rfl), if_pos (show ((2 : Int32) = 2 ∨ (2 : Int32) = 1) by decide)]
        exact zw_b (p5_die o2 (by omega) m6) (fun m7 h7 => zw_some.mpr h7)
    refine zw_b (stage _ rfl) ?_
    rintro m7 ⟨hf7, sH, sA, sG⟩
    have hf67 : zk (sState o2) m m7 := zk_t hf6 (zk_m hf7 (fun c i j h => by omega))
    have live : bt (f5_alive o2 m7) k = (decide (q_nx T r d u k = 0) || decide (q_nx T r d u k = 1)) := by
      unfold f5_alive
      rw [b_or, sH k (by omega), sA k (by omega), if_pos rfl, if_pos rfl]
    have kH' : ∀ p, p < 32 → bt (m7.1 5 o2 1) p = if p < k + 1 then decide (q_nx T r d u p = 0) else (decide (p < tP T) && decide (r p = 0)) := fun p hp => by
      rw [sH p hp]
      by_cases e : p = k
      · rw [if_pos e, if_pos (by omega), e]
      · rw [if_neg e, g5, iH p hp]
        by_cases e2 : p < k
        · rw [if_pos e2, if_pos (by omega)]
        · rw [if_neg e2, if_neg (by omega)]
    have kA' : ∀ p, p < 32 → bt (m7.1 5 o2 2) p = if p < k + 1 then decide (q_nx T r d u p = 1) else (decide (p < tP T) && decide (r p = 1)) := fun p hp => by
      rw [sA p hp]
      by_cases e : p = k
      · rw [if_pos e, if_pos (by omega), e]
      · rw [if_neg e, g5, iA p hp]
        by_cases e2 : p < k
        · rw [if_pos e2, if_pos (by omega)]
        · rw [if_neg e2, if_neg (by omega)]
    have kG' : ∀ p, p < 7 → m7.1 22 o2 p = if p < k + 1 then q_nx T r d u (7 + p) else r (7 + p) := fun p hp => by
      by_cases e : p = k
      · rw [e, sG, if_pos (by omega)]
      · rw [hf7.1 22 o2 p (by omega), g22, iG p hp]
        by_cases e2 : p < k
        · rw [if_pos e2, if_pos (by omega)]
        · rw [if_neg e2, if_neg (by omega)]
    have kT' : ∀ p, p < 7 → m7.1 23 o2 p = if p < k + 1 then q_nx T r d u (14 + p) else r (14 + p) := fun p hp => by
      rw [hf7.1 23 o2 p (by omega)]
      exact g23 p hp
    have y24 : ∀ p, m7.1 24 o2 p = m1.1 24 o2 p := fun p => by rw [hf7.1 24 o2 p (by omega), g24]
    have y25 : m7.1 25 o2 = m.1 25 o2 := (funext fun p => hf7.1 25 o2 p (by omega)).trans (g25.trans iR)
    have y0 : m7.1 5 o2 0 = r 33 := by rw [hf7.1 5 o2 0 (by omega), g5, i0]
    rw [live]
    have dead : ∀ a, decide (a = (0 : Int32)) = false → decide (a = (1 : Int32)) = false → (a = 0 ∨ a = 1 ∨ a = 2) → a = 2 := fun a p q h => by
      rcases h with h | h | h
      · rw [h] at p; exact absurd p (by decide)
      · rw [h] at q; exact absurd q (by decide)
      · exact h
    have std : q_nx T r d u k = 0 ∨ q_nx T r d u k = 1 ∨ q_nx T r d u k = 2 := by
      rw [q_nx_s hT hk]
      rcases hd k hk with e | ⟨e, er⟩ | ⟨e, er⟩
      · rw [e]; exact hw.1 k hk
      · rw [e]
        rcases er with er | er
        · rw [er]; exact Or.inr (Or.inl rfl)
        · rw [er]; exact Or.inl rfl
      · rw [e]; exact Or.inr (Or.inr rfl)
    have age' : q_age T (q_nx T r d u) k = if (decide (q_nx T r d u k = 0) || decide (q_nx T r d u k = 1)) = false then q_age T r k else q_age T r k + 1 := by
      unfold q_age
      rw [q_nx_y, q_nx_d (by omega)]
      rcases hd k hk with e | ⟨e, er⟩ | ⟨e, er⟩
      · have es : q_nx T r d u k = r k := by rw [q_nx_s hT hk, e]; rfl
        rw [es, e, if_neg (show ¬ (k < tP T ∧ (0 : Int32) = 2) from fun q => absurd q.2 (by decide))]
        rcases hw.1 k hk with h | h | h
        · rw [h]
          show tA T k + (r 33 + 1) = tA T k + r 33 + 1
          rw [Int32.add_assoc]
        · rw [h]
          show tA T k + (r 33 + 1) = tA T k + r 33 + 1
          rw [Int32.add_assoc]
        · rw [h]; rfl
      · have es : q_nx T r d u k = 1 - r k := by rw [q_nx_s hT hk, e]; rfl
        rw [es]
        rcases er with h | h
        · rw [h]
          show tA T k + (r 33 + 1) = tA T k + r 33 + 1
          rw [Int32.add_assoc]
        · rw [h]
          show tA T k + (r 33 + 1) = tA T k + r 33 + 1
          rw [Int32.add_assoc]
      · have es : q_nx T r d u k = 2 := by rw [q_nx_s hT hk, e]; rfl
        rw [es, e, if_pos (show k < tP T ∧ (2 : Int32) = 2 from ⟨hk, rfl⟩)]
        rcases er with h | h
        · rw [h]; rfl
        · rw [h]; rfl
    cases hb : (decide (q_nx T r d u k = 0) || decide (q_nx T r d u k = 1))
    · rw [if_pos rfl]
      refine zw_some.mpr ⟨rfl, hf67, y0, kH', kA', kG', kT', fun p hp => ?_, y25⟩
      rw [y24, iY p hp]
      by_cases e : p = k
      · rw [if_neg (by omega), if_pos (by omega), e, age', hb, if_pos rfl]
      · by_cases e2 : p < k
        · rw [if_pos e2, if_pos (by omega)]
        · rw [if_neg e2, if_neg (by omega)]
    · rw [if_neg (by decide)]
      refine zw_some.mpr ⟨rfl, zk_s hf67 (by omega), ?_, fun p hp => ?_, fun p hp => ?_, fun p hp => ?_, fun p hp => ?_, fun p hp => ?_, ?_⟩
      · rw [z_sI_1, if_neg (by omega)]; exact y0
      · rw [z_sI_1, if_neg (by omega)]; exact kH' p hp
      · rw [z_sI_1, if_neg (by omega)]; exact kA' p hp
      · rw [z_sI_1, if_neg (by omega)]; exact kG' p hp
      · rw [z_sI_1, if_neg (by omega)]; exact kT' p hp
      · rw [z_sI_1]
        by_cases e : p = k
        · rw [if_pos ⟨rfl, rfl, e⟩, if_pos (by omega), e, age', hb, if_neg (by decide), y24, iY k hk, if_neg (by omega)]
        · rw [if_neg (fun q => e q.2.2), y24, iY p hp]
          by_cases e2 : p < k
          · rw [if_pos e2, if_pos (by omega)]
          · rw [if_neg e2, if_neg (by omega)]
      · exact (funext fun p => by rw [z_sI_1, if_neg (by omega)]).trans y25
  · rintro m1 ⟨hf, i0, iH, iA, iG, iT, iY, iR⟩
    have ht2 : qTx m1 o1 T := ht.zk hf (fun i k => by omega)
    unfold f0_turn_L1
    simp (disch := omega) only [z_u2, ht2.2.1, y_lt, Nat.lt_irrefl, if_false]
    refine zw_some.mpr ⟨hf, i0, fun p hp => ?_, fun p hp => ?_, fun p hp => ?_, fun p hp => ?_, fun p hp => ?_, iR⟩
    · rw [iH p hp]
      by_cases e : p < tP T
      · rw [if_pos e, decide_eq_true e, Bool.true_and]
      · rw [if_neg e, decide_eq_false e, Bool.false_and, Bool.false_and]
    · rw [iA p hp]
      by_cases e : p < tP T
      · rw [if_pos e, decide_eq_true e, Bool.true_and]
      · rw [if_neg e, decide_eq_false e, Bool.false_and, Bool.false_and]
    · rw [iG p hp]
      by_cases e : p < tP T
      · rw [if_pos e]
      · rw [if_neg e, q_nx_g' (by omega) hp]
    · rw [iT p hp]
      by_cases e : p < tP T
      · rw [if_pos e]
      · rw [if_neg e, q_nx_t hp, hu0 p (by omega) hp, Int32.add_zero]
    · rw [iY p hp, if_pos hp]
  · rintro m1 ⟨hf, i0, iH, iA, iG, iT, iY, iR⟩
    simp only [z_let]
    refine zw_some.mpr ⟨⟨?_, fun p hp => ?_, fun p hp => ?_, fun p hp => ?_, fun p hp => ?_, fun p hp => ?_, fun h hh => ?_⟩, zk_s hf (by omega)⟩
    · rw [z_sI_1, if_pos ⟨rfl, rfl, rfl⟩, i0]; rfl
    · rw [z_sI_1, if_neg (by omega)]; exact iH p hp
    · rw [z_sI_1, if_neg (by omega)]; exact iA p hp
    · rw [z_sI_1, if_neg (by omega)]; exact iG p hp
    · rw [z_sI_1, if_neg (by omega)]; exact iT p hp
    · rw [z_sI_1, if_neg (by omega)]; exact iY p hp
    · rw [z_sI_1, if_neg (by omega), iR, q_nx_h hh]; exact hr.2.2.2.2.2.2 h hh
