/-! QUERIES IV: one is sent, called, buried in a State; best, loss -/
section
variable {T : qT} {o v B : Nat} {r : Nat → Int32} {m m' : zMem}
theorem q_be_p (q : Nat → Int32) (p : Nat) (a : Int32) : q_be q p a p = a := if_pos rfl
theorem q_be_s {q : Nat → Int32} {p k : Nat} {a : Int32} (hk : k < 7) (hne : k ≠ p) : q_be q p a k = q k := by
  unfold q_be
  rw [if_neg hne, if_neg (by omega), if_neg (by omega)]
theorem q_be_gp {q : Nat → Int32} {p : Nat} {a : Int32} : q_be q p a (7 + p) = 0 := by
  unfold q_be
  rw [if_neg (by omega), if_pos rfl]
theorem q_be_g {q : Nat → Int32} {p k : Nat} {a : Int32} (hk : k < 7) (hp : p < 7) (hne : k ≠ p) : q_be q p a (7 + k) = q (7 + k) := by
  unfold q_be
  rw [if_neg (by omega), if_neg (by omega), if_neg (by omega)]
theorem q_be_t {q : Nat → Int32} {p k : Nat} {a : Int32} (hk : k < 7) (hp : p < 7) : q_be q p a (14 + k) = q (14 + k) := by
  unfold q_be
  rw [if_neg (by omega), if_neg (by omega), if_neg (by omega)]
theorem q_be_d {q : Nat → Int32} {p k : Nat} {a : Int32} (hk : k < 7) (hp : p < 7) (hne : k ≠ p) : q_be q p a (21 + k) = q (21 + k) := by
  unfold q_be
  rw [if_neg (by omega), if_neg (by omega), if_neg (by omega)]
theorem q_be_h {q : Nat → Int32} {p k : Nat} {a : Int32} (hp : p < 7) (hk : k < 5) : q_be q p a (28 + k) = q (28 + k) := by
  unfold q_be
  rw [if_neg (by omega), if_neg (by omega), if_neg (by omega)]
theorem q_be_y {q : Nat → Int32} {p : Nat} {a : Int32} (hp : p < 7) : q_be q p a 33 = q 33 := by
  unfold q_be
  rw [if_neg (by omega), if_neg (by omega), if_neg (by omega)]
theorem q_be_row {q : Nat → Int32} {p : Nat} {a : Int32} (hT : tOk T) (hw : qRow T B q) (hp : p < tP T) (ha : a = 0 ∨ a = 1 ∨ a = 2) : qRow T B (q_be q p a) := by
  have hP := hT.2
  obtain ⟨w1, w2, w3, w4, w5, w6, w7⟩ := hw
  refine ⟨fun k hk => ?_, fun k h1 h2 => ?_, fun k hk hne => ?_, fun k hk => ?_, ?_, fun h h1 h2 => ?_, fun h hh k h1 h2 => ?_⟩
  · by_cases e : k = p
    · rw [e, q_be_p]; exact ha
    · rw [q_be_s (by omega) e]; exact w1 k hk
  · rw [q_be_s h2 (by omega), q_be_g h2 (by omega) (by omega), q_be_t h2 (by omega)]; exact w2 k h1 h2
  · by_cases e : k = p
    · rw [e, q_be_gp]
    · rw [q_be_s hk e] at hne
      rw [q_be_g hk (by omega) e]; exact w3 k hk hne
  · by_cases e : k = p
    · rw [e, q_be_gp]; exact ⟨0, by omega, rfl⟩
    · rw [q_be_g hk (by omega) e]; exact w4 k hk
  · rw [q_be_y (by omega)]; exact w5
  · rw [q_be_h (by omega) h2]; exact w6 h h1 h2
  · rw [q_be_h (by omega) hh]; exact w7 h hh k h1 h2
theorem q_set_be {q : Nat → Int32} {p i : Nat} {a : Int32} (hT : tOk T) (hq : qRep m i T q) (hs : qSet m m' i p (decide (a = 0)) (decide (a = 1)) 0) (hp : p < tP T) (h2 : q p ≠ 2) : qRep m' i T (q_be q p a) ∧ zk (sState i) m m' := by
  have hP := hT.2
  obtain ⟨hf, sH, sA, sG⟩ := hs
  refine ⟨⟨?_, fun k hk => ?_, fun k hk => ?_, fun k hk => ?_, fun k hk => ?_, fun k hk => ?_, fun h hh => ?_⟩, zk_m hf (fun c j k h => by omega)⟩
  · rw [hf.1 5 i 0 (by omega), q_be_y (by omega)]; exact hq.1
  · rw [sH k hk]
    by_cases e : k = p
    · rw [if_pos e, e, q_be_p, decide_eq_true hp, Bool.true_and]
    · rw [if_neg e, hq.2.1 k hk]
      by_cases e2 : k < tP T
      · rw [q_be_s (by omega) e]
      · rw [decide_eq_false e2, Bool.false_and, Bool.false_and]
  · rw [sA k hk]
    by_cases e : k = p
    · rw [if_pos e, e, q_be_p, decide_eq_true hp, Bool.true_and]
    · rw [if_neg e, hq.2.2.1 k hk]
      by_cases e2 : k < tP T
      · rw [q_be_s (by omega) e]
      · rw [decide_eq_false e2, Bool.false_and, Bool.false_and]
  · by_cases e : k = p
    · rw [e, sG, q_be_gp]
    · rw [hf.1 22 i k (by omega), q_be_g hk (by omega) e]; exact hq.2.2.2.1 k hk
  · rw [hf.1 23 i k (by omega), q_be_t hk (by omega)]; exact hq.2.2.2.2.1 k hk
  · rw [hf.1 24 i k (by omega), hq.2.2.2.2.2.1 k hk, q_be_y (by omega)]
    by_cases e : k = p
    · subst e
      rw [if_neg h2, q_be_p]
      by_cases e2 : a = 2
      · rw [if_pos e2]
        unfold q_be
        rw [if_neg (by omega), if_neg (by omega), if_pos ⟨rfl, e2⟩]
      · rw [if_neg e2]
    · rw [q_be_s (by omega) e, q_be_d (by omega) (by omega) e]
  · rw [hf.1 25 i h (by omega), q_be_h (by omega) hh]; exact hq.2.2.2.2.2.2 h hh
theorem p5_goAwayR {q : Nat → Int32} {p i : Nat} (hT : tOk T) (hq : qRep m i T q) (hp : p < tP T) (h2 : q p ≠ 2) : zw (f5_goAway i (nI p) m) fun m' => qRep m' i T (q_be q p 1) ∧ zk (sState i) m m' := zw_mono (p5_goAway i (by have := hT.2; omega) m) (fun m' h => q_set_be (a := 1) hT hq h hp h2)
theorem p5_comeHomeR {q : Nat → Int32} {p i : Nat} (hT : tOk T) (hq : qRep m i T q) (hp : p < tP T) (h2 : q p ≠ 2) : zw (f5_comeHome i (nI p) m) fun m' => qRep m' i T (q_be q p 0) ∧ zk (sState i) m m' := zw_mono (p5_comeHome i (by have := hT.2; omega) m) (fun m' h => q_set_be (a := 0) hT hq h hp h2)
theorem p5_dieR {q : Nat → Int32} {p i : Nat} (hT : tOk T) (hq : qRep m i T q) (hp : p < tP T) (h2 : q p ≠ 2) : zw (f5_die i (nI p) m) fun m' => qRep m' i T (q_be q p 2) ∧ zk (sState i) m m' := zw_mono (p5_die i (by have := hT.2; omega) m) (fun m' h => q_set_be (a := 2) hT hq h hp h2)
theorem q_ys_ss (hT : tOk T) {p : Nat} (hp : p < tP T) {sd : Int32} : ∀ (n : Nat) (q : Nat → Int32), q_ys T true sd n q p = q p
  | 0, q => rfl
  | n + 1, q => by
    rw [q_ys, q_ys_ss hT hp n]
    unfold q_yr
    rw [q_does_t, q_nx_s hT hp]
    rfl
/-- who is HOME (0), AWAY (1): the class's and the reference's test -/
theorem p8_hasH (hT : tOk T) (hn : qI_N B T r m) {p : Nat} (hp : p < tP T) : f8_has (m.1 5 0 1) (nI p) = if r p = 0 then 1 else 0 := by
  rw [y_has _ p (by have := hT.2; omega), hn.2.1.2.1 p (by have := hT.2; omega), decide_eq_true hp, Bool.true_and]
  by_cases e : r p = 0
  · rw [decide_eq_true e, if_pos e]; rfl
  · rw [decide_eq_false e, if_neg e]; rfl
theorem p8_hasA (hT : tOk T) (hn : qI_N B T r m) {p : Nat} (hp : p < tP T) : f8_has (m.1 5 0 2) (nI p) = if r p = 1 then 1 else 0 := by
  rw [y_has _ p (by have := hT.2; omega), hn.2.1.2.2.1 p (by have := hT.2; omega), decide_eq_true hp, Bool.true_and]
  by_cases e : r p = 1
  · rw [decide_eq_true e, if_pos e]; rfl
  · rw [decide_eq_false e, if_neg e]; rfl
theorem p9_isNow_n (h : qI_T T o v m) {a b : Int32} (ha : ¬ (0 ≤ a ∧ a < nI (tP T))) : f9_isNow a b m = some 0 := by
  unfold f9_isNow
  rw [p9_isPerson_n h ha]
  rfl
theorem p9_isNow_y (h : qI_T T o v m) (hn : qI_N B T r m) {p : Nat} (hp : p < tP T) (b : Int32) : f9_isNow (nI p) b m = some (if r p = b then 1 else 0) := by
  have := h.ok.2
  unfold f9_isNow
  rw [p9_isPerson_y h hp]
  rw [Option.bind_some, if_neg n01, if_pos (y_in (by omega) (by omega)), y_cl (by omega), hn.2.2 p (by omega)]
  by_cases e : r p = b
  · rw [if_pos e, if_pos e]
  · rw [if_neg e, if_neg e]
/-! best -/
def q_G (T : qT) (r : Nat → Int32) (p n k : Nat) : Int32 := q_ys T true 0 (n - k) (q_be (q_ys T true 0 k r) p 1) (14 + p) - r (14 + p)
theorem p9_gainBy (h : qI_T T o v m) (hn : qI_N B T r m) {p n k : Nat} (hp : p < tP T) (hn' : n ≤ 40) (hk : k ≤ n) : zw (f9_gainBy (nI p) (nI n) (nI k) m) fun q => q.1 = q_G T r p n k ∧ zk sQ m q.2 := by
  have hP := h.ok.2
  unfold f9_gainBy
  refine q_cs' h hn (fun m1 h1 hn1 hr1 hs1 => ?_)
  refine zw_b (p9_goes h1.mx h.ok h1.lw h1.ml hr1 hn.1 hs1 (show k ≤ 40 by omega)) ?_
  rintro m2 ⟨hf2, hr2⟩
  refine zw_b (p9_becomes hr2 (show p < 7 by omega) 1) ?_
  rintro m3 ⟨hf3, hr3⟩
  have hf3' : zk sQ m2 m3 := zk_m hf3 (fun c i k h => by omega)
  have h3 := q_T_q (q_T_q h1 (zk_my hf2)) hf3'
  have hs3 : qSd m3 true (tS T) := (hs1.zk hf2 (by omega)).zk hf3 (by omega)
  have hw3 := q_be_row (p := p) (a := 1) h.ok (q_ys_row (st := true) (sd := tS T) (n := k) h.ok hn.1) hp (by decide)
  rw [pk_sub hk]
  refine zw_b (p9_goes h3.mx h.ok h3.lw h3.ml hr3 hw3 hs3 (show n - k ≤ 40 by omega)) ?_
  rintro m4 ⟨hf4, hr4⟩
  rw [show (14 : Int32) + nI p = nI (14 + p) from nI_add 14 p, if_pos (y_in (by omega) (by omega)), y_cl (by omega)]
  refine zw_some.mpr ⟨?_, zk_t (zk_my hf2) (zk_t hf3' (zk_my hf4))⟩
  show m4.1 149 0 (14 + p) - m4.1 148 0 (14 + p) = _
  rw [hr4 _ (by omega), hf4.1 148 0 _ (by omega), hf3.1 148 0 _ (by omega), hf2.1 148 0 _ (by omega), hn1.2.2 _ (by omega), q_ys_t T (tS T) 0, q_ys_t T (tS T) 0]
  rfl
theorem p8_best (h : qI_T T o v m) (hn : qI_N B T r m) (hB : B < 800000) {p n : Nat} (hp : p < tP T) (h0 : r p = 0) (hn' : n ≤ 40) (hn1 : 1 ≤ n) (hc : qRep m 2 T r) : zw (z_it (f8_best_L11 (nI p) (nI n)) z_fu (0, -1, 0, m)) fun q => q.1 = q_lg (fun _ => true) (q_G T r p n) n ∧ q.2.1 = q_G T r p n (q_lg (fun _ => true) (q_G T r p n) n).toNatClampNeg ∧ zk sQ m q.2.2 := by
  have hP := h.ok.2
  refine zw_forG n (fun k s => s.2.2.1 = nI k ∧ zk sQ m s.2.2.2 ∧ qRep s.2.2.2 2 T (q_ys T true 0 k r) ∧ (0 < k → s.1 = q_lg (fun _ => true) (q_G T r p n) k ∧ s.2.1 = q_G T r p n (q_lg (fun _ => true) (q_G T r p n) k).toNatClampNeg)) (by omega) ⟨rfl, zk_r m, hc, fun q => absurd q (by omega)⟩ ?_ ?_
  · rintro k ⟨b, g, x, m1⟩ hk ⟨ex, hf1, hc1, hb⟩
    have ex' : x = nI k := ex
    subst ex'
    have hf1' : zk sQ m m1 := hf1
    have hc1' : qRep m1 2 T (q_ys T true 0 k r) := hc1
    have hw1 : qRow T (B + k) (q_ys T true 0 k r) := q_ys_row h.ok hn.1
    unfold f8_best_L11
    simp (disch := omega) only [z_u4, y_lt, hk, ↓reduceIte, z_let]
    obtain ⟨hc2, hf2⟩ := p5_copyFrom (o := 1) hc1' h.ok
    refine zw_b (p5_goAwayR h.ok hc2 hp (by rw [q_ys_ss h.ok hp, h0]; decide)) ?_
    rintro m3 ⟨hc3, hf3⟩
    have hf3' : zk sQ m m3 := zk_t hf1' (zk_t (zk_st hf2 (Or.inl rfl)) (zk_st hf3 (Or.inl rfl)))
    rw [pk_sub (show k ≤ n by omega)]
    refine zw_b (p8_gainOnTrial (q_T_q h hf3') (q_N_q hn hf3') hc3 (q_be_row h.ok hw1 hp (by decide)) (by omega) (show p < 7 by omega) (show n - k ≤ 40 by omega)) ?_
    rintro ⟨y, m4⟩ ⟨ey, hf4⟩
    have ey' : y = q_G T r p n k := ey
    subst ey'
    have hf4' : zk sQ m m4 := zk_t hf3' (zk_co hf4 (Or.inl rfl))
    have hc4 : qRep m4 2 T (q_ys T true 0 k r) := ((hc1'.zk hf2 (fun k => by omega)).zk hf3 (fun k => by omega)).zk hf4 (fun k => by omega)
    have h4 := q_T_q h hf4'
    simp only [z_u2, h4.ox]
    have step : ∀ (bb gg : Int32), bb = q_lg (fun _ => true) (q_G T r p n) (k + 1) → gg = q_G T r p n (q_lg (fun _ => true) (q_G T r p n) (k + 1)).toNatClampNeg → zw ((f0_standStill o 2 (1 : Int32) m4).bind (fun qm30 => some (Sum.inl (bb, gg, (nI k + (1 : Int32)), qm30)))) (Sum.elim (fun s : Int32 × Int32 × Int32 × zMem => s.2.2.1 = nI (k + 1) ∧ zk sQ m s.2.2.2 ∧ qRep s.2.2.2 2 T (q_ys T true 0 (k + 1) r) ∧ (0 < k + 1 → s.1 = q_lg (fun _ => true) (q_G T r p n) (k + 1) ∧ s.2.1 = q_G T r p n (q_lg (fun _ => true) (q_G T r p n) (k + 1)).toNatClampNeg)) (fun q : Int32 × Int32 × zMem => q.1 = q_lg (fun _ => true) (q_G T r p n) n ∧ q.2.1 = q_G T r p n (q_lg (fun _ => true) (q_G T r p n) n).toNatClampNeg ∧ zk sQ m q.2.2)) := by
      intro bb gg e1 e2
      refine zw_b (p0_standStill (n := 1) hc4 hw1 (by omega) h.ok h.lw h4.tx h4.cl (by omega)) ?_
      rintro m5 ⟨hc5, hf5⟩
      refine zw_some.mpr ⟨y_s1 k, zk_t hf4' (zk_co hf5 (Or.inr rfl)), ?_, fun _ => ⟨e1, e2⟩⟩
      rw [q_ys_s]
      exact hc5
    by_cases hk0 : k = 0
    · subst hk0
      rw [if_pos (show nI 0 = 0 from rfl)]
      refine step _ _ ?_ ?_
      · rw [q_lg, if_pos rfl, q_lg, if_pos (Or.inl (by decide))]
      · rw [q_lg, if_pos rfl, q_lg, if_pos (Or.inl (by decide))]; rfl
    · obtain ⟨eb, eg⟩ := hb (by omega)
      have eb' : b = q_lg (fun _ => true) (q_G T r p n) k := eb
      have eg' : g = q_G T r p n (q_lg (fun _ => true) (q_G T r p n) k).toNatClampNeg := eg
      obtain ⟨k', rfl⟩ : ∃ k', k = k' + 1 := ⟨k - 1, by omega⟩
      obtain ⟨j, hj, e⟩ := q_lg_t (g := q_G T r p n) (n := k') (by omega)
      have es := q_lg_ts (g := q_G T r p n) (n := k' + 1) (by omega) e
      rw [e, y_cl (by omega)] at eg'
      rw [e] at eb'
      rw [if_neg (show ¬ nI (k' + 1) = 0 by rw [y_eq0 (by omega)]; omega), eg']
      by_cases c : q_G T r p n j < q_G T r p n (k' + 1)
      · rw [if_pos c] at es ⊢
        exact step _ _ es.symm (by rw [es, y_cl (by omega)])
      · rw [if_neg c] at es ⊢
        exact step _ _ (by rw [es, eb']) (by rw [es, y_cl (by omega)])
  · rintro ⟨b, g, x, m1⟩ ⟨ex, hf1, hc1, hb⟩
    have ex' : x = nI n := ex
    subst ex'
    unfold f8_best_L11
    simp only [z_u4]
    rw [if_neg Int32.lt_irrefl]
    exact zw_some.mpr ⟨(hb (by omega)).1, (hb (by omega)).2, hf1⟩
theorem p9_best (h : qI_T T o v m) (hn : qI_N B T r m) {p n : Nat} (hp : p < tP T) (hn' : n ≤ 40) (hn1 : 1 ≤ n) : zw (z_it (f9_best_L9 (nI p) (nI n)) z_fu (0, 1, m)) fun q => q.1 = q_lg (fun _ => true) (q_G T r p n) n ∧ zk sQ m q.2 := by
  refine zw_forG (n - 1) (fun k s => s.1 = q_lg (fun _ => true) (q_G T r p n) (k + 1) ∧ s.2.1 = nI (k + 1) ∧ zk sQ m s.2.2) (by omega) ⟨by rw [q_lg, if_pos rfl, q_lg, if_pos (Or.inl (by decide))]; rfl, rfl, zk_r m⟩ ?_ ?_
  · rintro k ⟨b, x, m1⟩ hk ⟨eb, ex, hf1⟩
    have ex' : x = nI (k + 1) := ex
    have eb' : b = q_lg (fun _ => true) (q_G T r p n) (k + 1) := eb
    have hf1' : zk sQ m m1 := hf1
    obtain ⟨j, hj, e⟩ := q_lg_t (g := q_G T r p n) (n := k) (by omega)
    have es := q_lg_ts (g := q_G T r p n) (n := k + 1) (by omega) e
    rw [e] at eb'
    subst ex' eb'
    unfold f9_best_L9
    have hk' : k + 1 < n := by omega
    simp (disch := omega) only [z_u3, y_lt, hk', ↓reduceIte]
    refine zw_b (p9_gainBy (k := k + 1) (q_T_q h hf1') (q_N_q hn hf1') hp hn' (by omega)) ?_
    rintro ⟨y1, m2⟩ ⟨ey1, hf2⟩
    have ey1' : y1 = q_G T r p n (k + 1) := ey1
    subst ey1'
    have hf2' : zk sQ m m2 := zk_t hf1' hf2
    simp only [z_u2]
    refine zw_b (p9_gainBy (k := j) (q_T_q h hf2') (q_N_q hn hf2') hp hn' (by omega)) ?_
    rintro ⟨y2, m3⟩ ⟨ey2, hf3⟩
    have ey2' : y2 = q_G T r p n j := ey2
    subst ey2'
    simp only [z_u2]
    by_cases c : q_G T r p n j < q_G T r p n (k + 1)
    · rw [if_pos c] at es ⊢
      exact zw_some.mpr ⟨es.symm, y_s1 _, zk_t hf2' hf3⟩
    · rw [if_neg c] at es ⊢
      exact zw_some.mpr ⟨es.symm, y_s1 _, zk_t hf2' hf3⟩
  · rintro ⟨b, x, m1⟩ ⟨eb, ex, hf1⟩
    have ex' : x = nI (n - 1 + 1) := ex
    rw [show n - 1 + 1 = n by omega] at ex'
    have eb' : b = q_lg (fun _ => true) (q_G T r p n) (n - 1 + 1) := eb
    rw [show n - 1 + 1 = n by omega] at eb'
    subst ex'
    unfold f9_best_L9
    simp only [z_u3]
    rw [if_neg Int32.lt_irrefl]
    exact zw_some.mpr ⟨eb', hf1⟩
theorem c_best (hT : tOk T) (hB : B < 800000) (a b c : Int32) : ∃ x, qAn T o v B r (f8_best a b c) x ∧ qAn T o v B r (f9_best a b c) x := by
  have hP := hT.2
  rcases y_is a (n := tP T) (by omega) with ha | ⟨j, hj, rfl⟩
  · refine ⟨-1, fun m h hn => ?_, fun m h hn => ?_⟩
    · unfold f8_best
      rw [p8_isPerson_n h ha, if_pos rfl]
      exact q_some m
    · unfold f9_best
      refine zw_eq (p9_isNow_n h ha) ?_
      rw [if_pos rfl]
      exact q_some m
  by_cases h0 : r j = 0
  case neg =>
    refine ⟨-1, fun m h hn => ?_, fun m h hn => ?_⟩
    · unfold f8_best
      rw [p8_isPerson_y h hj, if_neg n01, p8_hasH hT hn hj, if_neg h0, if_pos rfl]
      exact q_some m
    · unfold f9_best
      refine zw_eq (p9_isNow_y h hn hj 0) ?_
      rw [if_neg h0, if_pos rfl]
      exact q_some m
  rcases y_spn b with ⟨e8, e9⟩ | ⟨e8, e9, n, hn1, hn', rfl⟩
  · refine ⟨-1, fun m h hn => ?_, fun m h hn => ?_⟩
    · unfold f8_best
      rw [p8_isPerson_y h hj, if_neg n01, p8_hasH hT hn hj, if_pos h0, if_neg n01, e8, if_pos rfl]
      exact q_some m
    · unfold f9_best
      refine zw_eq (p9_isNow_y h hn hj 0) ?_
      rw [if_pos h0, if_neg n01]
      refine zw_eq e9 ?_
      rw [if_pos rfl]
      exact q_some m
  have s8 : ∀ {m : zMem} {Q : Int32 × zMem → Prop}, qI_T T o v m → qI_N B T r m → (∀ m', zk sQ m m' → zw (if c < 0 then some ((-1 : Int32), m) else (if (1 : Int32) < c then some ((-1 : Int32), m) else (if c = 0 then some (q_lg (fun _ => true) (q_G T r j n) n, m') else some (q_G T r j n (q_lg (fun _ => true) (q_G T r j n) n).toNatClampNeg, m')))) Q) → zw (f8_best (nI j) (nI n) c m) Q := by
    intro m Q h hn k
    unfold f8_best
    rw [p8_isPerson_y h hj, if_neg n01, p8_hasH hT hn hj, if_pos h0, if_neg n01, e8, if_neg n01]
    by_cases c1 : c < 0
    · have := k m (zk_r m)
      rw [if_pos c1] at this ⊢
      exact this
    by_cases c2 : (1 : Int32) < c
    · have := k m (zk_r m)
      rw [if_neg c1, if_pos c2] at this ⊢
      exact this
    rw [if_neg c1, if_neg c2]
    simp only [z_let]
    obtain ⟨hc, hf⟩ := p5_copyFrom (o := 2) hn.2.1 hT
    have hf' := zk_st hf (Or.inr rfl)
    refine zw_b (p8_best (q_T_q h hf') (q_N_q hn hf') hB hj h0 hn' hn1 hc) ?_
    rintro ⟨x1, x2, m2⟩ ⟨e1, e2, hf2⟩
    have := k m2 (zk_t hf' hf2)
    rw [if_neg c1, if_neg c2] at this
    have e1' : x1 = _ := e1
    have e2' : x2 = _ := e2
    simp only [z_u3]
    rw [e1', e2']
    exact this
  have s9 : ∀ {m : zMem}, qI_T T o v m → qI_N B T r m → f9_best (nI j) (nI n) c m = (if (f9_in c (0 : Int32) (1 : Int32)) = 0 then some ((-1 : Int32), m) else (z_it (f9_best_L9 (nI j) (nI n)) z_fu ((0 : Int32), (1 : Int32), m)).bind (z_u2 fun e24 e25 => (if c = 0 then some (e24, e25) else (f9_gainBy (nI j) (nI n) e24 e25).bind (z_u2 fun q28 qm29 => some (q28, qm29))))) := by
    intro m h hn
    unfold f9_best
    rw [p9_isNow_y h hn hj 0, if_pos h0, e9]
    rfl
  rcases y_w01 c with hc | hc | ⟨hc, hc'⟩
  · refine ⟨q_lg (fun _ => true) (q_G T r j n) n, fun m h hn => s8 h hn (fun m' hf => ?_), fun m h hn => ?_⟩
    · rw [hc, if_neg (by decide), if_neg (by decide), if_pos rfl]
      exact zw_some.mpr ⟨rfl, hf⟩
    · rw [s9 h hn, hc, if_neg (by decide)]
      refine zw_b (p9_best h hn hj hn' hn1) ?_
      rintro ⟨x1, m2⟩ ⟨e1, hf2⟩
      simp only [z_u2, if_true]
      exact zw_some.mpr ⟨e1, hf2⟩
  · refine ⟨q_G T r j n (q_lg (fun _ => true) (q_G T r j n) n).toNatClampNeg, fun m h hn => s8 h hn (fun m' hf => ?_), fun m h hn => ?_⟩
    · rw [hc, if_neg (by decide), if_neg (by decide), if_neg n01]
      exact zw_some.mpr ⟨rfl, hf⟩
    · rw [s9 h hn, hc, if_neg (by decide)]
      refine zw_b (p9_best h hn hj hn' hn1) ?_
      rintro ⟨x1, m2⟩ ⟨e1, hf2⟩
      have e1' : x1 = q_lg (fun _ => true) (q_G T r j n) n := e1
      have hf2' : zk sQ m m2 := hf2
      obtain ⟨i, hi, e⟩ := q_lg_t (g := q_G T r j n) (n := n - 1) (by omega)
      rw [show n - 1 + 1 = n by omega] at e hi
      rw [e] at e1'
      simp only [z_u2]
      rw [if_neg n01, e1', e, y_cl (by omega)]
      refine zw_b (p9_gainBy (q_T_q h hf2') (q_N_q hn hf2') hj hn' (show i ≤ n by omega)) ?_
      rintro ⟨y, m3⟩ ⟨ey, hf3⟩
      exact zw_some.mpr ⟨ey, zk_t hf2' hf3⟩
  · refine ⟨-1, fun m h hn => s8 h hn (fun m' hf => ?_), fun m h hn => ?_⟩
    · rcases hc' with h' | h'
      · rw [if_pos h']; exact q_some m
      · by_cases h2 : c < 0
        · rw [if_pos h2]; exact q_some m
        · rw [if_neg h2, if_pos h']; exact q_some m
    · rw [s9 h hn, hc, if_pos rfl]
      exact q_some m
end
