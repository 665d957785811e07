/-! BEGIN II: the class's begin -/
section
variable {T : qT} {o v B : Nat} {r r' : Nat → Int32} {m m' : zMem} {W G : Nat → Int32}
abbrev sB1 : Nat → Nat → Nat → Prop := fun c i _ => (c = 5 ∨ c = 22 ∨ c = 23 ∨ c = 24) ∧ i = 0
theorem y_evb : ∀ P, P < 8 → ∀ k, k < 32 → bt (f8_everybody (nI P)) k = decide (k < P) := by decide +kernel
theorem q_bx_e (hH : tH T ≤ 5) {i : Nat} {X : Nat → Int32} : q_bx W (fun h => if h < 5 then (if h < tH T then G h else 0) else X h) i 5 = q_bx W G i (tH T) := funext fun k => by
  unfold q_bx
  by_cases c : k < 7
  · simp only [if_pos c]
  · by_cases c2 : k < 14
    · simp only [if_neg c, if_pos c2]
    · by_cases c3 : k < 28
      · simp only [if_neg c, if_neg c2, if_pos c3]
      · by_cases c4 : k < 33
        · simp only [if_neg c, if_neg c2, if_neg c3, if_pos c4, if_pos (show k - 28 < 5 by omega)]
        · simp only [if_neg c, if_neg c2, if_neg c3, if_neg c4]
theorem p5_begin (hT : tOk T) (ht : qTx m o T) (hW : ∀ k, k < tP T → m.1 28 o k = W k) (hWr : ∀ k, k < tP T → W k = -1 ∨ ¬ W k < 0) (hG : ∀ h, h < 5 → m.1 27 o h = if h < tH T then G h else 0) : zw (f5_begin 0 o m) fun m' => zk (sState 0) m m' ∧ qRep m' 0 T (q_bx W G (tP T) (tH T)) := by
  have hP := hT.2
  have hH := hT.1
  obtain ⟨t1, t2, t3, t4, t5⟩ := ht
  unfold f5_begin
  simp only [z_let]
  have e6 : (z_sI m 5 0 0 0).1 6 o 1 = nI (tP T) := by rw [z_sI_1, if_neg (by omega)]; exact t2
  rw [e6]
  refine zw_b (zw_for (Q := fun m' => zk (sState 0) m m' ∧ qRep m' 0 T (q_bx W (fun h => m.1 25 0 h) 0 5)) 7 (fun i m' => zk sB1 m m' ∧ (m'.1 5 0 0 = 0 ∧ m'.1 5 0 1 = f8_everybody (nI (tP T)) ∧ m'.1 5 0 2 = 0) ∧ ∀ k, k < i → m'.1 22 0 k = 0 ∧ m'.1 23 0 k = 0 ∧ m'.1 24 0 k = m.1 26 (2 * o + 1) k) (by omega) ⟨zk_s (zk_s (zk_s (zk_r m) (by omega)) (by omega)) (by omega), ⟨?_, ?_, ?_⟩, fun k hk => absurd hk (by omega)⟩ ?_ ?_) ?_
  · rw [z_sI_1, if_neg (by omega), z_sI_1, if_neg (by omega), z_sI_1, if_pos ⟨rfl, rfl, rfl⟩]
  · rw [z_sI_1, if_neg (by omega), z_sI_1, if_pos ⟨rfl, rfl, rfl⟩]
  · rw [z_sI_1, if_pos ⟨rfl, rfl, rfl⟩]
  · rintro i m1 hi ⟨hf, ⟨a1, a2, a3⟩, h0⟩
    have hl : z_len 26 (2 * o + 1) = 7 := by
      show (if (2 * o + 1) % 2 = 0 then 5 else 7) = 7
      rw [if_neg (by omega)]
    unfold f5_begin_L8
    simp only [z_u2, z_let]
    rw [y_7, if_pos (show nI i < nI 7 from nI_lt hi (by decide)), if_pos (y_in (by omega) (by omega)), hl, if_pos (y_in (by omega) (by omega)), y_cl (by omega)]
    refine zw_some.mpr ⟨y_s1 i, zk_s (zk_s (zk_s hf (by omega)) (by omega)) (by omega), ⟨?_, ?_, ?_⟩, fun k hk => ⟨?_, ?_, ?_⟩⟩
    · rw [z_sI_1, if_neg (by omega), z_sI_1, if_neg (by omega), z_sI_1, if_neg (by omega)]; exact a1
    · rw [z_sI_1, if_neg (by omega), z_sI_1, if_neg (by omega), z_sI_1, if_neg (by omega)]; exact a2
    · rw [z_sI_1, if_neg (by omega), z_sI_1, if_neg (by omega), z_sI_1, if_neg (by omega)]; exact a3
    · rw [z_sI_1, if_neg (by omega), z_sI_1, if_neg (by omega), z_sI_1]
      by_cases e : k = i
      · rw [if_pos ⟨rfl, rfl, e⟩]
      · rw [if_neg (by omega)]; exact (h0 k (by omega)).1
    · rw [z_sI_1, if_neg (by omega), z_sI_1]
      by_cases e : k = i
      · rw [if_pos ⟨rfl, rfl, e⟩]
      · rw [if_neg (by omega), z_sI_1, if_neg (by omega)]; exact (h0 k (by omega)).2.1
    · rw [z_sI_1]
      by_cases e : k = i
      · rw [if_pos ⟨rfl, rfl, e⟩, z_sI_1, if_neg (by omega), z_sI_1, if_neg (by omega), hf.1 _ _ _ (by omega), e]
      · rw [if_neg (by omega), z_sI_1, if_neg (by omega), z_sI_1, if_neg (by omega)]; exact (h0 k (by omega)).2.2
  · rintro m1 ⟨hf, ⟨a1, a2, a3⟩, h0⟩
    unfold f5_begin_L8
    simp only [z_u2]
    rw [if_neg (show ¬ nI 7 < 7 by decide)]
    refine zw_some.mpr ⟨zk_m hf (fun c i k e => by omega), ?_, fun k hk => ?_, fun k hk => ?_, fun k hk => ?_, fun k hk => ?_, fun k hk => ?_, fun k hk => ?_⟩
    · rw [a1, q_bx_y]
    · rw [a2, y_evb _ (by omega) k hk]
      by_cases c : k < tP T
      · rw [q_bx_a (by omega), if_neg (by omega), decide_eq_true (show (0 : Int32) = 0 from rfl), Bool.and_true]
      · rw [decide_eq_false c, Bool.false_and]
    · rw [a3, b_0]
      by_cases c : k < tP T
      · rw [q_bx_a (by omega), if_neg (by omega), decide_eq_false (show ¬ (0 : Int32) = 1 by decide), Bool.and_false]
      · rw [decide_eq_false c, Bool.false_and]
    · rw [(h0 k hk).1, q_bx_g hk, if_neg (by omega)]
    · rw [(h0 k hk).2.1, q_bx_0 (by omega) (by omega)]
    · have e1 : q_bx W (fun h => m.1 25 0 h) 0 5 k = 0 := by rw [q_bx_a (by omega), if_neg (by omega)]
      rw [(h0 k (by omega)).2.2, t5 k hk, e1, if_neg (show ¬ (0 : Int32) = 2 by decide), q_bx_y, Int32.add_zero]
    · rw [hf.1 25 0 k (by omega), q_bx_r hk, if_pos hk]
  rintro m1 ⟨hf1, hr1⟩
  refine zw_b (zw_for (Q := fun m' => zk (sState 0) m m' ∧ qRep m' 0 T (q_bx W (fun h => m.1 25 0 h) (tP T) 5)) (tP T) (fun i m' => zk (sState 0) m m' ∧ qRep m' 0 T (q_bx W (fun h => m.1 25 0 h) i 5)) (by omega) ⟨hf1, hr1⟩ ?_ ?_) ?_
  · rintro i m2 hi ⟨hf, hr⟩
    have u1 : m2.1 6 o 1 = nI (tP T) := by rw [hf.1 6 o 1 (by omega)]; exact t2
    have u2 : m2.1 28 o i = W i := by rw [hf.1 28 o i (by omega)]; exact hW i hi
    unfold f5_begin_L22
    simp only [z_u2]
    rw [u1, if_pos (nI_lt hi (by omega)), if_pos (y_in (by omega) (by omega)), y_cl (by omega), u2]
    rcases hWr i hi with c | c
    · rw [if_pos c]
      refine zw_some.mpr ⟨y_s1 i, hf, ?_⟩
      rw [q_bx_n (by omega) (by rw [c]; decide)]; exact hr
    · rw [if_neg (fun q => c (by rw [q]; decide))]
      refine zw_b (zw_b (p5_goAwayR hT hr hi ?_) (Q' := fun m3 => zk (sState 0) m m3 ∧ qRep m3 0 T (q_bx W (fun h => m.1 25 0 h) (i + 1) 5)) ?_) ?_
      · rw [q_bx_a (by omega), if_neg (by omega)]; decide
      · rintro m3 ⟨hr3, hf3⟩
        have u3 : m3.1 28 o i = W i := by rw [hf3.1 28 o i (by omega)]; exact u2
        simp only [z_let]
        rw [u3]
        refine zw_some.mpr ⟨zk_s (zk_t hf hf3) (by omega), q_rep22 hP hr3 (fun k hk => ?_) (by omega)⟩
        unfold q_be
        by_cases c1 : k = 7 + i
        · rw [if_pos c1, c1, q_bx_g (by omega), if_pos ⟨by omega, c⟩]
        · rw [if_neg c1]
          by_cases c2 : k = i
          · rw [if_pos c2, c2, q_bx_a (by omega), if_pos ⟨by omega, c⟩]
          · rw [if_neg c2, if_neg c1, if_neg (fun q => absurd q.2 (by decide)), q_bx_i c2 c1]
      · rintro m3 ⟨hf3, hr3⟩
        exact zw_some.mpr ⟨y_s1 i, hf3, hr3⟩
  · rintro m2 ⟨hf, hr⟩
    have u1 : m2.1 6 o 1 = nI (tP T) := by rw [hf.1 6 o 1 (by omega)]; exact t2
    unfold f5_begin_L22
    simp only [z_u2]
    rw [u1, if_neg (nI_nlt (by omega) (by omega))]
    exact zw_some.mpr ⟨hf, hr⟩
  rintro m2 ⟨hf2, hr2⟩
  refine zw_b (zw_for (Q := fun m' => zk (sState 0) m m' ∧ qRep m' 0 T (q_bx W G (tP T) (tH T))) 5 (fun i m' => zk (sState 0) m m' ∧ qRep m' 0 T (q_bx W (fun h => if h < i then (if h < tH T then G h else 0) else m.1 25 0 h) (tP T) 5)) (by omega) ⟨hf2, ?_⟩ ?_ ?_) ?_
  · simp only [Nat.not_lt_zero, if_false]; exact hr2
  · rintro i m3 hi ⟨hf, hr⟩
    have u2 : m3.1 27 o i = if i < tH T then G i else 0 := by rw [hf.1 27 o i (by omega)]; exact hG i hi
    unfold f5_begin_L37
    simp only [z_u2, z_let]
    rw [y_5, if_pos (show nI i < nI 5 from nI_lt hi (by decide)), if_pos (y_in (by omega) (by omega)), y_cl (by omega), u2]
    refine zw_some.mpr ⟨y_s1 i, zk_s hf (by omega), q_rep25 hP hr (fun k hk => ?_) hi⟩
    by_cases c : k = 28 + i
    · rw [if_pos c, c, q_bx_r hi, if_pos hi, if_pos (by omega)]
    · rw [if_neg c]
      unfold q_bx
      by_cases c1 : k < 28
      · by_cases c2 : k < 7
        · simp only [if_pos c2]
        · by_cases c3 : k < 14
          · simp only [if_neg c2, if_pos c3]
          · simp only [if_neg c2, if_neg c3, if_pos c1]
      · simp only [show (k - 28 < i + 1) ↔ (k - 28 < i) by omega]
  · rintro m3 ⟨hf, hr⟩
    unfold f5_begin_L37
    simp only [z_u2]
    rw [if_neg (show ¬ nI 5 < 5 by decide)]
    refine zw_some.mpr ⟨hf, ?_⟩
    rw [q_bx_e hH] at hr
    exact hr
  rintro m3 ⟨hf, hr⟩
  exact zw_some.mpr ⟨hf, hr⟩
end
