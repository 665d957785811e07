/-! QUERIES VI: duel, rest, lordIn, then, gotIn, year -/
section
variable {T : qT} {o v B : Nat} {r : Nat → Int32} {m m' : zMem}
theorem c_duel (hT : tOk T) (hB : B < 900000) (a b c d e : Int32) : ∃ x, qAn T o v B r (f8_duel a b c d e) x ∧ qAn T o v B r (f9_duel a b c d e) x := by
  have hP := hT.2
  rcases y_can (o := o) (v := v) (B := B) (r := r) hT a b c with hc | ⟨p, s, n, hp, hs, hne, h0, h1, hn1, hn', rfl, rfl, rfl, hc⟩
  · refine ⟨-1, fun m h hn => ?_, fun m h hn => ?_⟩
    · unfold f8_duel
      rw [(hc m h hn).1, if_pos rfl]
      exact q_some m
    · unfold f9_duel
      refine zw_eq (hc m h hn).2 ?_
      rw [if_pos rfl]
      exact q_some m
  rcases y_span d (l := 0) (u := 3) (by omega) with hd | ⟨hd, k, _, hk, rfl⟩ | hd
  · have hd' : f9_in d 0 3 = 0 := hd
    refine ⟨-1, fun m h hn => ?_, fun m h hn => ?_⟩
    · unfold f8_duel
      rw [(hc m h hn).1, if_neg n01]
      by_cases d1 : d < 0
      · rw [if_pos d1]; exact q_some m
      · rw [if_neg d1]
        by_cases d2 : d < 4
        · exfalso
          unfold f9_in at hd'
          rw [if_neg d1] at hd'
          by_cases d3 : (3 : Int32) < d
          · rw [y_i] at d2 d3
            rw [show (4 : Int32).toInt = 4 from rfl] at d2
            rw [show (3 : Int32).toInt = 3 from rfl] at d3
            omega
          · rw [if_neg d3] at hd'
            exact absurd hd' (by decide)
        · rw [if_neg d2]; exact q_some m
    · unfold f9_duel
      refine zw_eq (hc m h hn).2 ?_
      rw [if_neg n01, hd', if_pos rfl]
      exact q_some m
  · have hd' : f9_in (nI k) 0 3 = 1 := hd
    rcases y_w01 e with he | he | ⟨he, he'⟩
    · refine ⟨q_dg T r p s n k p, fun m h hn => ?_, fun m h hn => ?_⟩
      · unfold f8_duel
        rw [(hc m h hn).1, if_neg n01, if_neg (nI_pos (by omega)), if_pos (show nI k < 4 from nI_lt (b := 4) (by omega) (by omega)), he, if_neg (by decide), if_neg (by decide)]
        refine zw_b (p8_playDuel h hn hB hp hs hne h0 h1 hn' (show k < 4 by omega)) ?_
        rintro m2 ⟨hf, e1, e2, _⟩
        rw [if_pos rfl, if_pos (y_in (by omega) (by omega)), y_cl (by omega), e1]
        exact zw_some.mpr ⟨rfl, hf⟩
      · unfold f9_duel
        refine zw_eq (hc m h hn).2 ?_
        rw [if_neg n01, hd', if_neg n01, he, if_neg (by decide), if_pos rfl, Option.bind_some]
        exact zw_b (p9_duelGain h hn hp hs (show p < 7 by omega) hn' (show k < 4 by omega)) (fun q hq => zw_some.mpr hq)
    · refine ⟨q_dg T r p s n k s, fun m h hn => ?_, fun m h hn => ?_⟩
      · unfold f8_duel
        rw [(hc m h hn).1, if_neg n01, if_neg (nI_pos (by omega)), if_pos (show nI k < 4 from nI_lt (b := 4) (by omega) (by omega)), he, if_neg (by decide), if_neg (by decide)]
        refine zw_b (p8_playDuel h hn hB hp hs hne h0 h1 hn' (show k < 4 by omega)) ?_
        rintro m2 ⟨hf, e1, e2, _⟩
        rw [if_neg n01, if_pos (y_in (by omega) (by omega)), y_cl (by omega), e2]
        exact zw_some.mpr ⟨rfl, hf⟩
      · unfold f9_duel
        refine zw_eq (hc m h hn).2 ?_
        rw [if_neg n01, hd', if_neg n01, he, if_neg (by decide), if_neg n01, Option.bind_some]
        exact zw_b (p9_duelGain h hn hp hs (show s < 7 by omega) hn' (show k < 4 by omega)) (fun q hq => zw_some.mpr hq)
    · refine ⟨-1, fun m h hn => ?_, fun m h hn => ?_⟩
      · unfold f8_duel
        rw [(hc m h hn).1, if_neg n01, if_neg (nI_pos (by omega)), if_pos (show nI k < 4 from nI_lt (b := 4) (by omega) (by omega))]
        rcases he' with h' | h'
        · rw [if_pos h']; exact q_some m
        · by_cases h2 : e < 0
          · rw [if_pos h2]; exact q_some m
          · rw [if_neg h2, if_pos h']; exact q_some m
      · unfold f9_duel
        refine zw_eq (hc m h hn).2 ?_
        rw [if_neg n01, hd', if_neg n01, he, if_pos rfl]
        exact q_some m
  · omega
/-! rest -/
def q_rst (T : qT) (r : Nat → Int32) (p s n : Nat) : Nat → Bool := fun c => !decide (q_dg T r p s n c p < q_dg T r p s n (c ^^^ 1) p) && !decide (q_dg T r p s n c s < q_dg T r p s n (c ^^^ 2) s)
theorem y_xor : ∀ c, c < 4 → nI c ^^^ 1 = nI (c ^^^ 1) ∧ nI c ^^^ 2 = nI (c ^^^ 2) ∧ c ^^^ 1 < 4 ∧ c ^^^ 2 < 4 := by decide +kernel
theorem c_rest (hT : tOk T) (hB : B < 900000) (a b c : Int32) : ∃ x, qAn T o v B r (f8_rest a b c) x ∧ qAn T o v B r (f9_rest a b c) x := by
  have hP := hT.2
  rcases y_can (o := o) (v := v) (B := B) (r := r) hT a b c with hc | ⟨p, s, n, hp, hs, hne, h0, h1, hn1, hn', rfl, rfl, rfl, hc⟩
  · refine ⟨-1, fun m h hn => ?_, fun m h hn => ?_⟩
    · unfold f8_rest
      rw [(hc m h hn).1, if_pos rfl]
      exact q_some m
    · unfold f9_rest
      refine zw_eq (hc m h hn).2 ?_
      rw [if_pos rfl]
      exact q_some m
  refine ⟨q_mk (q_rst T r p s n) 4, fun m h hn => ?_, fun m h hn => ?_⟩
  · unfold f8_rest
    rw [(hc m h hn).1, if_neg n01]
    refine zw_b (zw_for (Q := fun m1 => zk sQ m m1 ∧ ∀ i, i < 4 → m1.1 35 0 i = q_dg T r p s n i p ∧ m1.1 36 0 i = q_dg T r p s n i s) 4 (fun k m1 => zk sQ m m1 ∧ ∀ i, i < k → m1.1 35 0 i = q_dg T r p s n i p ∧ m1.1 36 0 i = q_dg T r p s n i s) (by omega) ⟨zk_r m, fun i hi => absurd hi (by omega)⟩ ?_ ?_) ?_
    · rintro k m1 hk ⟨hf, hd⟩
      unfold f8_rest_L3
      simp (disch := omega) only [z_u2, y_4, y_lt, hk, ↓reduceIte]
      refine zw_b (p8_playDuel (q_T_q h hf) (q_N_q hn hf) hB hp hs hne h0 h1 hn' hk) ?_
      rintro m2 ⟨hf2, e1, e2, e3⟩
      refine zw_some.mpr ⟨y_s1 k, zk_t hf hf2, fun i hi => ?_⟩
      by_cases e : i = k
      · rw [e]; exact ⟨e1, e2⟩
      · rw [(e3 i e).1, (e3 i e).2]; exact hd i (by omega)
    · rintro m1 hI
      unfold f8_rest_L3
      simp only [z_u2]
      rw [if_neg (show ¬ nI 4 < 4 by decide)]
      exact zw_some.mpr hI
    · rintro m1 ⟨hf, hd⟩
      refine zw_eq (z_it_e (e := q_mk (q_rst T r p s n) 4) (fun k => (q_mk (q_rst T r p s n) k, nI k)) 4 rfl (fun k hk => ?_) ?_ (by decide)) ?_
      · obtain ⟨x1, x2, x3, x4⟩ := y_xor k hk
        unfold f8_rest_L11
        simp (disch := omega) only [z_u2, y_4, y_lt, hk, ↓reduceIte, x1, x2, y_in, y_cl, z_let, y_s1]
        rw [(hd k hk).1, (hd k hk).2, (hd _ x3).1, (hd _ x4).2, q_mk]
        unfold q_rst
        by_cases c1 : q_dg T r p s n k p < q_dg T r p s n (k ^^^ 1) p
        · rw [if_pos c1, decide_eq_true c1]; rfl
        · rw [if_neg c1, decide_eq_false c1]
          by_cases c2 : q_dg T r p s n k s < q_dg T r p s n (k ^^^ 2) s
          · rw [if_pos c2, decide_eq_true c2]; rfl
          · rw [if_neg c2, decide_eq_false c2]; rfl
      · unfold f8_rest_L11
        simp only [z_u2]
        rw [if_neg (show ¬ nI 4 < 4 by decide)]
      · exact zw_some.mpr ⟨rfl, hf⟩
  · unfold f9_rest
    refine zw_eq (hc m h hn).2 ?_
    rw [if_neg n01]
    refine zw_b (zw_for2 (Q := fun q => q.1 = q_mk (q_rst T r p s n) 4 ∧ zk sQ m q.2) 4 (fun k a m1 => a = q_mk (q_rst T r p s n) k ∧ zk sQ m m1) (by omega) ⟨rfl, zk_r m⟩ ?_ ?_) (fun q hq => zw_some.mpr hq)
    · rintro k a m1 hk ⟨rfl, hf⟩
      obtain ⟨x1, x2, x3, x4⟩ := y_xor k hk
      unfold f9_rest_L4
      simp (disch := omega) only [z_u3, y_4, y_lt, hk, ↓reduceIte, x1, x2]
      refine zw_b (p9_duelGain (q_T_q h hf) (q_N_q hn hf) hp hs (show p < 7 by omega) hn' x3) ?_
      rintro ⟨g1, m2⟩ ⟨e1, hf2⟩
      have e1' : g1 = _ := e1
      have hf2' : zk sQ m m2 := zk_t hf hf2
      simp only [z_u2]
      refine zw_b (p9_duelGain (q_T_q h hf2') (q_N_q hn hf2') hp hs (show p < 7 by omega) hn' hk) ?_
      rintro ⟨g2, m3⟩ ⟨e2, hf3⟩
      have e2' : g2 = _ := e2
      have hf3' : zk sQ m m3 := zk_t hf2' hf3
      simp only [z_u2]
      rw [e1', e2']
      by_cases c1 : q_dg T r p s n k p < q_dg T r p s n (k ^^^ 1) p
      · rw [if_pos c1, Option.bind_some, if_pos rfl]
        refine zw_some.mpr ⟨y_s1 k, ?_, hf3'⟩
        show q_mk (q_rst T r p s n) k = q_mk (q_rst T r p s n) (k + 1)
        rw [q_mk]
        unfold q_rst
        rw [decide_eq_true c1]; rfl
      · rw [if_neg c1, Option.bind_some, if_neg n01, Option.bind_assoc]
        refine zw_b (p9_duelGain (q_T_q h hf3') (q_N_q hn hf3') hp hs (show s < 7 by omega) hn' x4) ?_
        rintro ⟨g3, m4⟩ ⟨e3, hf4⟩
        have e3' : g3 = _ := e3
        have hf4' : zk sQ m m4 := zk_t hf3' hf4
        simp only [z_u2]
        rw [Option.bind_assoc]
        refine zw_b (p9_duelGain (q_T_q h hf4') (q_N_q hn hf4') hp hs (show s < 7 by omega) hn' hk) ?_
        rintro ⟨g4, m5⟩ ⟨e4, hf5⟩
        have e4' : g4 = _ := e4
        have hf5' : zk sQ m m5 := zk_t hf4' hf5
        simp only [z_u2, z_let]
        rw [e3', e4']
        by_cases c2 : q_dg T r p s n k s < q_dg T r p s n (k ^^^ 2) s
        · rw [if_pos c2]
          refine zw_some.mpr ⟨y_s1 k, ?_, hf5'⟩
          show q_mk (q_rst T r p s n) k = q_mk (q_rst T r p s n) (k + 1)
          rw [q_mk]
          unfold q_rst
          rw [decide_eq_true c2, decide_eq_false c1]; rfl
        · rw [if_neg c2]
          refine zw_some.mpr ⟨y_s1 k, ?_, hf5'⟩
          show _ = q_mk (q_rst T r p s n) (k + 1)
          rw [q_mk]
          unfold q_rst
          rw [decide_eq_false c2, decide_eq_false c1]; rfl
    · rintro a m1 hI
      unfold f9_rest_L4
      simp only [z_u3]
      rw [if_neg (show ¬ nI 4 < 4 by decide)]
      exact zw_some.mpr hI
/-! IN n YEARS -/
theorem p8_foresee (h : qI_T T o v m) (hn : qI_N B T r m) {n : Nat} (hn' : n ≤ 40) (sd : Int32) : zw (f8_foresee (nI n) sd m) fun m' => qRep m' 1 T (q_ys T false sd n r) ∧ zk sQ m m' := by
  unfold f8_foresee
  simp only [z_let]
  obtain ⟨hc1, hf1⟩ := p5_copyFrom (o := 1) hn.2.1 h.ok
  have hf1' := zk_st hf1 (Or.inl rfl)
  have h1 := q_T_q h hf1'
  rw [h1.ox]
  exact zw_b (p0_goOn hc1 hn.1 h.ok h.lw h1.tx h1.cl hn') (fun m2 h2 => zw_some.mpr ⟨h2.1, zk_t hf1' (zk_co h2.2 (Or.inl rfl))⟩)
theorem c_lordIn (hT : tOk T) (a b : Int32) : ∃ x, qAn T o v B r (f8_lordIn a b) x ∧ qAn T o v B r (f9_lordIn a b) x := by
  have hH := hT.1
  rcases y_is a (n := tH T) (by omega) with ha | ⟨j, hj, rfl⟩
  · refine ⟨-1, fun m h hn => ?_, fun m h hn => ?_⟩
    · unfold f8_lordIn
      rw [p8_isHouse_n h ha, if_pos rfl]
      exact q_some m
    · unfold f9_lordIn
      refine zw_eq (p9_isHouse_n h ha) ?_
      rw [if_pos rfl]
      exact q_some m
  rcases y_long b with ⟨e8, e9⟩ | ⟨e8, e9, n, hn', rfl⟩
  · refine ⟨-1, fun m h hn => ?_, fun m h hn => ?_⟩
    · unfold f8_lordIn
      rw [p8_isHouse_y h hj, if_neg n01, e8, if_pos rfl]
      exact q_some m
    · unfold f9_lordIn
      refine zw_eq (p9_isHouse_y h hj) ?_
      rw [if_neg n01]
      refine zw_eq e9 ?_
      rw [if_pos rfl]
      exact q_some m
  · refine ⟨q_lord T (q_ys T false (tS T) n r) j, fun m h hn => ?_, fun m h hn => ?_⟩
    · unfold f8_lordIn
      rw [p8_isHouse_y h hj, if_neg n01, e8, if_neg n01, h.ox, h.tx.2.2.1]
      refine zw_b (p8_foresee h hn hn' _) ?_
      rintro m2 ⟨hc2, hf2⟩
      rw [p5_landlordOf hc2 hT (by omega)]
      exact zw_some.mpr ⟨rfl, hf2⟩
    · unfold f9_lordIn
      refine zw_eq (p9_isHouse_y h hj) ?_
      rw [if_neg n01]
      refine zw_eq e9 ?_
      rw [if_neg n01]
      refine q_cp h hn (fun m1 h1 hn1 hr1 hs1 => ?_)
      refine zw_b (p9_goes h1.mx hT h1.lw h1.ml hr1 hn.1 hs1 hn') ?_
      rintro m2 ⟨hf2, hr2⟩
      rw [p9_lordOf (q_T_q h1 (zk_my hf2)).mx hT hr2 (by omega)]
      exact zw_some.mpr ⟨rfl, zk_my hf2⟩
theorem c_gotIn (hT : tOk T) (a b : Int32) : ∃ x, qAn T o v B r (f8_gotIn a b) x ∧ qAn T o v B r (f9_gotIn a b) x := by
  have hP := hT.2
  rcases y_is a (n := tP T) (by omega) with ha | ⟨j, hj, rfl⟩
  · refine ⟨-1, fun m h hn => ?_, fun m h hn => ?_⟩
    · unfold f8_gotIn
      rw [p8_isPerson_n h ha, if_pos rfl]
      exact q_some m
    · unfold f9_gotIn
      refine zw_eq (p9_isPerson_n h ha) ?_
      rw [if_pos rfl]
      exact q_some m
  rcases y_long b with ⟨e8, e9⟩ | ⟨e8, e9, n, hn', rfl⟩
  · refine ⟨-1, fun m h hn => ?_, fun m h hn => ?_⟩
    · unfold f8_gotIn
      rw [p8_isPerson_y h hj, if_neg n01, e8, if_pos rfl]
      exact q_some m
    · unfold f9_gotIn
      refine zw_eq (p9_isPerson_y h hj) ?_
      rw [if_neg n01]
      refine zw_eq e9 ?_
      rw [if_pos rfl]
      exact q_some m
  · refine ⟨q_ys T false (tS T) n r (14 + j), fun m h hn => ?_, fun m h hn => ?_⟩
    · unfold f8_gotIn
      rw [p8_isPerson_y h hj, if_neg n01, e8, if_neg n01, h.ox, h.tx.2.2.1]
      refine zw_b (p8_foresee h hn hn' _) ?_
      rintro m2 ⟨hc2, hf2⟩
      rw [if_pos (y_in (by omega) (by omega)), y_cl (by omega), hc2.2.2.2.2.1 j (by omega)]
      exact zw_some.mpr ⟨rfl, hf2⟩
    · unfold f9_gotIn
      refine zw_eq (p9_isPerson_y h hj) ?_
      rw [if_neg n01]
      refine zw_eq e9 ?_
      rw [if_neg n01]
      refine q_cp h hn (fun m1 h1 hn1 hr1 hs1 => ?_)
      refine zw_b (p9_goes h1.mx hT h1.lw h1.ml hr1 hn.1 hs1 hn') ?_
      rintro m2 ⟨hf2, hr2⟩
      rw [show (14 : Int32) + nI j = nI (14 + j) from nI_add 14 j, if_pos (y_in (by omega) (by omega)), y_cl (by omega), hr2 _ (by omega)]
      exact zw_some.mpr ⟨rfl, zk_my hf2⟩
theorem y_012 (a : Int32) : (f9_in a 0 2 = 0 ∧ ¬ (a = 0 ∨ a = 1 ∨ a = 2)) ∨ (f9_in a 0 2 = 1 ∧ (a = 0 ∨ a = 1 ∨ a = 2)) := by
  by_cases h : a = 0 ∨ a = 1 ∨ a = 2
  · refine Or.inr ⟨?_, h⟩
    rcases h with h | h | h <;> rw [h] <;> rfl
  · refine Or.inl ⟨?_, h⟩
    rcases y_span a (l := 0) (u := 2) (by omega) with h' | ⟨h', j, _, hj, e⟩ | h'
    · exact h'
    · refine absurd ?_ h
      match j, hj with
      | 0, _ => exact Or.inl e
      | 1, _ => exact Or.inr (Or.inl e)
      | 2, _ => exact Or.inr (Or.inr e)
    · omega
theorem c_then (hT : tOk T) (a b : Int32) : ∃ x, qAn T o v B r (f8_then a b) x ∧ qAn T o v B r (f9_then a b) x := by
  rcases y_long a with ⟨e8, e9⟩ | ⟨e8, e9, n, hn', rfl⟩
  · refine ⟨-1, fun m h hn => ?_, fun m h hn => ?_⟩
    · unfold f8_then
      rw [e8, if_pos rfl]
      exact q_some m
    · unfold f9_then
      refine zw_eq e9 ?_
      rw [if_pos rfl]
      exact q_some m
  have s8 : ∀ {m : zMem}, qI_T T o v m → qI_N B T r m → zw (f8_then (nI n) b m) fun q => q.1 = (if b = 0 ∨ b = 1 ∨ b = 2 then q_st T (q_ys T false (tS T) n r) b else -1) ∧ zk sQ m q.2 := by
    intro m h hn
    unfold f8_then
    rw [e8, if_neg n01, h.ox, h.tx.2.2.1]
    refine zw_b (p8_foresee h hn hn' _) ?_
    rintro m2 ⟨hc2, hf2⟩
    have h2 := q_T_q h hf2
    rw [h2.ox, p5_whoStands hc2 hT h2.tx (q_ys_row hT hn.1)]
    exact zw_some.mpr ⟨rfl, hf2⟩
  rcases y_012 b with ⟨eb, hb⟩ | ⟨eb, hb⟩
  · refine ⟨-1, fun m h hn => ?_, fun m h hn => ?_⟩
    · have := s8 h hn
      rw [if_neg hb] at this
      exact this
    · unfold f9_then
      refine zw_eq e9 ?_
      rw [if_neg n01, eb, if_pos rfl]
      exact q_some m
  · refine ⟨q_st T (q_ys T false (tS T) n r) b, fun m h hn => ?_, fun m h hn => ?_⟩
    · have := s8 h hn
      rw [if_pos hb] at this
      exact this
    · unfold f9_then
      refine zw_eq e9 ?_
      rw [if_neg n01, eb, if_neg n01]
      refine q_cp h hn (fun m1 h1 hn1 hr1 hs1 => ?_)
      refine zw_b (p9_goes h1.mx hT h1.lw h1.ml hr1 hn.1 hs1 hn') ?_
      rintro m2 ⟨hf2, hr2⟩
      rw [p9_inState (q_T_q h1 (zk_my hf2)).mx hT hr2]
      exact zw_some.mpr ⟨rfl, zk_my hf2⟩
end
