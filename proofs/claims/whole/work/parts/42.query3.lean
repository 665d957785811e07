/-! QUERIES III: eldest; spans; what would be: gain, best, loss, duel, rest -/
section
variable {T : qT} {o v B : Nat} {r : Nat → Int32} {m : zMem}
abbrev q_elc (r : Nat → Int32) : Nat → Bool := fun p => !decide (r p = 2)
def q_eld (T : qT) (r : Nat → Int32) : Int32 := q_lg (q_elc r) (q_age T r) (tP T)
theorem p8_eld (h : qI_T T o v m) (hn : qI_N B T r m) : z_it (f8_eldest_L3 m) z_fu (-2, -2, 0) = some (q_eld T r, if q_eld T r < 0 then -2 else q_age T r (q_eld T r).toNatClampNeg) := by
  have hP := h.ok.2
  refine z_it_e (fun k => (q_lg (q_elc r) (q_age T r) k, (if q_lg (q_elc r) (q_age T r) k < 0 then -2 else q_age T r (q_lg (q_elc r) (q_age T r) k).toNatClampNeg), nI k)) (tP T) _ rfl (fun k hk => ?_) ?_ (z_fu_lt (by omega))
  · have eb : bt (f5_alive 0 m) k = q_elc r k := by
      rw [p5_alive_b hn.2.1 (by omega), decide_eq_true hk, Bool.true_and]
      show _ = !decide (r k = 2)
      rw [q_three hn.1 hk, Bool.not_not]
    have ea : m.1 24 0 k = q_age T r k := q_age_rep hn.2.1 hk
    unfold f8_eldest_L3
    simp (disch := omega) only [z_u3, h.ox, h.P, y_lt, hk, ↓reduceIte, y_in, y_cl, z_let, y_has0, y_s1]
    rw [eb, ea, q_lg]
    rcases q_lg_in (q_elc r) (q_age T r) k with e | ⟨j, hj, e, _⟩
    · rw [e, if_pos (show (-2 : Int32) < 0 by decide)]
      cases q_elc r k
      · rw [if_pos rfl, if_neg (by decide), if_pos (show (-2 : Int32) < 0 by decide)]
        rfl
      · rw [if_neg (by decide), if_pos rfl, if_pos rfl, if_pos (Or.inl (by decide)), if_neg (nI_pos (by omega)), y_cl (by omega)]
        rfl
    · rw [e, if_neg (nI_pos (by omega)), y_cl (by omega), if_neg (show ¬ nI j = -2 by rw [y_ne2 (by omega)]; exact id)]
      cases q_elc r k
      · rw [if_pos rfl, if_neg (by decide), if_neg (nI_pos (by omega)), y_cl (by omega)]
        rfl
      · rw [if_neg (by decide), if_pos rfl]
        by_cases hg : q_age T r j < q_age T r k
        · rw [if_pos hg, if_pos (Or.inr hg), if_neg (nI_pos (by omega)), y_cl (by omega)]
          rfl
        · rw [if_neg hg, if_neg (fun q => q.elim (nI_pos (by omega)) hg), if_neg (nI_pos (by omega)), y_cl (by omega)]
          rfl
  · unfold f8_eldest_L3
    simp (disch := omega) only [z_u3, h.ox, h.P, y_lt, Nat.lt_irrefl, ↓reduceIte]
    rfl
theorem p9_eld (hx : qMx m T v) (hT : tOk T) (hr : qMr m r) : z_it (f9_eldest_L5 m) z_fu (-2, 0) = some (q_eld T r) := by
  have hP := hT.2
  have hx' := hx
  obtain ⟨hv, h9, _, h1, _⟩ := hx'
  refine z_it_e (fun k => (q_lg (q_elc r) (q_age T r) k, nI k)) (tP T) (q_eld T r) rfl (fun k hk => ?_) ?_ (z_fu_lt (by omega))
  · unfold f9_eldest_L5
    simp (disch := omega) only [z_u2, h9, h1, y_in, y_cl, y_lt, hk, ↓reduceIte, hr _, p9_ageNow hx hT hr hk, Option.bind_some, y_s1]
    rw [q_lg]
    show _ = some (Sum.inl ((if (!decide (r k = 2)) = true then _ else _), _))
    by_cases h2 : r k = 2
    · rw [if_pos h2, decide_eq_true h2]; rfl
    · rw [if_neg h2, decide_eq_false h2]
      rcases q_lg_in (q_elc r) (q_age T r) k with e | ⟨j, hj, e, _⟩
      · rw [e, if_pos (by decide), if_pos (by decide), if_pos (Or.inl (by decide))]; rfl
      · rw [e, if_neg (nI_pos (by omega)), p9_ageNow hx hT hr (show j < tP T by omega), if_pos (by decide), y_cl (by omega)]
        by_cases hg : q_age T r j < q_age T r k
        · rw [if_pos (Or.inr hg)]
          rw [Option.bind_some, if_pos hg]; rfl
        · rw [if_neg (fun q => q.elim (nI_pos (by omega)) hg)]
          rw [Option.bind_some, if_neg hg]; rfl
  · unfold f9_eldest_L5
    simp (disch := omega) only [z_u2, h9, h1, y_in, y_cl, y_lt, Nat.lt_irrefl, ↓reduceIte]
    rfl
theorem c_eldest (hT : tOk T) (a : Int32) : ∃ x, qAp T o v B r (f8_eldest a) x ∧ qAn T o v B r (f9_eldest a) x := by
  have hP := hT.2
  rcases y_w01 a with ha | ha | ⟨ha, ha'⟩
  · refine ⟨q_eld T r, fun m h hn => ?_, fun m h hn => ?_⟩
    · unfold f8_eldest
      rw [ha, if_neg (by decide), if_neg (by decide), p8_eld h hn]
      rfl
    · unfold f9_eldest
      rw [ha, if_neg (by decide)]
      refine q_cp h hn (fun m' h' hn' hr' _ => ?_)
      rw [p9_eld h'.mx hT hr']
      show zw (if q_eld T r < 0 then _ else (if (0 : Int32) = 0 then _ else _)) _
      rw [if_pos rfl]
      by_cases e : q_eld T r < 0
      · rw [if_pos e]; exact q_some m'
      · rw [if_neg e]; exact q_some m'
  · refine ⟨if q_eld T r < 0 then -2 else q_age T r (q_eld T r).toNatClampNeg, fun m h hn => ?_, fun m h hn => ?_⟩
    · unfold f8_eldest
      rw [ha, if_neg (by decide), if_neg (by decide), p8_eld h hn]
      rfl
    · unfold f9_eldest
      rw [ha, if_neg (by decide)]
      refine q_cp h hn (fun m' h' hn' hr' _ => ?_)
      rw [p9_eld h'.mx hT hr']
      show zw (if q_eld T r < 0 then _ else (if (1 : Int32) = 0 then _ else _)) _
      rw [if_neg n01]
      rcases q_lg_in (q_elc r) (q_age T r) (tP T) with e | ⟨j, hj, e, _⟩
      · have e' : q_eld T r = -2 := e
        rw [e', if_pos (by decide), if_pos (by decide)]; exact q_some m'
      · have e' : q_eld T r = nI j := e
        rw [e', if_neg (nI_pos (by omega)), if_neg (nI_pos (by omega)), p9_ageNow h'.mx hT hr' hj, y_cl (by omega)]
        exact q_some m'
  · refine ⟨-1, fun m h hn => ?_, fun m h hn => ?_⟩
    · unfold f8_eldest
      rcases ha' with h' | h'
      · rw [if_pos h']
      · by_cases h2 : a < 0
        · rw [if_pos h2]
        · rw [if_neg h2, if_pos h']
    · unfold f9_eldest
      rw [ha, if_pos rfl]
      exact q_some m
/-! spans of years -/
theorem y_span (a : Int32) {l u : Nat} (hu : u < 1000000) : f9_in a (nI l) (nI u) = 0 ∨ (f9_in a (nI l) (nI u) = 1 ∧ ∃ j, l ≤ j ∧ j ≤ u ∧ a = nI j) ∨ 1000000 ≤ l := by
  by_cases hl : 1000000 ≤ l
  · exact Or.inr (Or.inr hl)
  unfold f9_in
  by_cases h1 : a < nI l
  · rw [if_pos h1]; exact Or.inl rfl
  · rw [if_neg h1]
    by_cases h2 : nI u < a
    · rw [if_pos h2]; exact Or.inl rfl
    · rw [if_neg h2]
      refine Or.inr (Or.inl ⟨rfl, ?_⟩)
      rcases y_or a with h | ⟨j, hj, rfl⟩
      · rw [y_i] at *
        rw [y_ti (by omega)] at *
        rw [y_t0] at *
        omega
      · rw [y_lt (by omega) (by omega)] at h1 h2
        exact ⟨j, by omega, by omega, rfl⟩
theorem y_long (a : Int32) : (f8_areYears a 0 = 0 ∧ f9_isLong a = some 0) ∨ (f8_areYears a 0 = 1 ∧ f9_isLong a = some 1 ∧ ∃ j, j ≤ 40 ∧ a = nI j) := by
  have e8 : f8_areYears a 0 = f9_in a 0 40 := rfl
  rw [e8]
  unfold f9_isLong
  rcases y_span a (l := 0) (u := 40) (by omega) with h | ⟨h, j, _, hj, e⟩ | h
  · have h' : f9_in a 0 40 = 0 := h
    rw [h']; exact Or.inl ⟨rfl, rfl⟩
  · have h' : f9_in a 0 40 = 1 := h
    rw [h']; exact Or.inr ⟨rfl, rfl, j, hj, e⟩
  · omega
theorem y_spn (a : Int32) : (f8_areYears a 1 = 0 ∧ f9_isSpan a = some 0) ∨ (f8_areYears a 1 = 1 ∧ f9_isSpan a = some 1 ∧ ∃ j, 1 ≤ j ∧ j ≤ 40 ∧ a = nI j) := by
  have e8 : f8_areYears a 1 = f9_in a 1 40 := rfl
  rw [e8]
  unfold f9_isSpan
  rcases y_span a (l := 1) (u := 40) (by omega) with h | ⟨h, j, hl, hj, e⟩ | h
  · have h' : f9_in a 1 40 = 0 := h
    rw [h']; exact Or.inl ⟨rfl, rfl⟩
  · have h' : f9_in a 1 40 = 1 := h
    rw [h']; exact Or.inr ⟨rfl, rfl, j, hl, hj, e⟩
  · omega
theorem zk_co {m m' : zMem} {i : Nat} (h : zk (sCourse i) m m') (hi : i = 1 ∨ i = 2) : zk sQ m m' := zk_m h (fun c j k h => by omega)
theorem zk_st {m m' : zMem} {i : Nat} (h : zk (sState i) m m') (hi : i = 1 ∨ i = 2) : zk sQ m m' := zk_m h (fun c j k h => by omega)
/-! gain -/
theorem p8_gainOnTrial {q : Nat → Int32} {B' : Nat} (h : qI_T T o v m) (hn : qI_N B T r m) (hq : qRep m 1 T q) (hw : qRow T B' q) (hB : B' < 900000) {p n : Nat} (hp : p < 7) (hn' : n ≤ 40) : zw (f8_gainOnTrial (nI p) (nI n) m) fun x => x.1 = q_ys T true 0 n q (14 + p) - r (14 + p) ∧ zk (sCourse 1) m x.2 := by
  unfold f8_gainOnTrial
  rw [h.ox]
  refine zw_b (p0_standStill hq hw hB h.ok h.lw h.tx h.cl hn') ?_
  rintro m1 ⟨hr1, hf1⟩
  rw [if_pos (y_in hp (by omega)), y_cl (by omega)]
  refine zw_some.mpr ⟨?_, hf1⟩
  show m1.1 23 1 p - m1.1 23 0 p = _
  rw [hr1.2.2.2.2.1 p hp, hf1.1 23 0 p (by omega), hn.2.1.2.2.2.2.1 p hp]
theorem c_gain (hT : tOk T) (hB : B < 900000) (a b : Int32) : ∃ x, qAn T o v B r (f8_gain a b) x ∧ qAn T o v B r (f9_gain a b) x := by
  have hP := hT.2
  rcases y_is a (n := tP T) (by omega) with ha | ⟨j, hj, rfl⟩
  · refine ⟨-1, fun m h hn => ?_, fun m h hn => ?_⟩
    · unfold f8_gain
      rw [p8_isPerson_n h ha, if_pos rfl]
      exact q_some m
    · unfold f9_gain
      refine zw_eq (p9_isPerson_n h ha) ?_
      rw [if_pos rfl]
      exact q_some m
  rcases y_long b with ⟨e8, e9⟩ | ⟨e8, e9, n, hn', rfl⟩
  · refine ⟨-1, fun m h hn => ?_, fun m h hn => ?_⟩
    · unfold f8_gain
      rw [p8_isPerson_y h hj, if_neg n01, e8, if_pos rfl]
      exact q_some m
    · unfold f9_gain
      refine zw_eq (p9_isPerson_y h hj) ?_
      rw [if_neg n01]
      refine zw_eq e9 ?_
      rw [if_pos rfl]
      exact q_some m
  · refine ⟨q_ys T true 0 n r (14 + j) - r (14 + j), fun m h hn => ?_, fun m h hn => ?_⟩
    · unfold f8_gain
      rw [p8_isPerson_y h hj, if_neg n01, e8, if_neg n01]
      simp only [z_let]
      obtain ⟨hc, hf⟩ := p5_copyFrom (o := 1) hn.2.1 hT
      have hf' := zk_st hf (Or.inl rfl)
      refine zw_b (p8_gainOnTrial (q_T_q h hf') (q_N_q hn hf') hc hn.1 hB (by omega) hn') ?_
      rintro ⟨x, m2⟩ ⟨ex, hf2⟩
      exact zw_some.mpr ⟨ex, zk_t hf' (zk_co hf2 (Or.inl rfl))⟩
    · unfold f9_gain
      refine zw_eq (p9_isPerson_y h hj) ?_
      rw [if_neg n01]
      refine zw_eq e9 ?_
      rw [if_neg n01]
      refine q_cs' h hn (fun m' h' hn'' hr' hs' => ?_)
      refine zw_b (p9_goes h'.mx hT h'.lw h'.ml hr' hn.1 hs' hn') ?_
      rintro m2 ⟨hf2, hr2⟩
      rw [show (14 : Int32) + nI j = nI (14 + j) from nI_add 14 j, if_pos (y_in (by omega) (by omega)), y_cl (by omega)]
      refine zw_some.mpr ⟨?_, zk_my hf2⟩
      show m2.1 149 0 (14 + j) - m2.1 148 0 (14 + j) = _
      rw [hr2 _ (by omega), hf2.1 148 0 _ (by omega), hn''.2.2 _ (by omega), q_ys_t T (tS T) 0]
end
