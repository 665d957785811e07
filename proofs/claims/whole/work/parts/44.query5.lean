/-! QUERIES V: loss, duel, rest -/
section
variable {T : qT} {o v B : Nat} {r : Nat → Int32} {m m' : zMem}
theorem y_neg (a b : Int32) : -(a + b) = -a + -b := by rw [Int32.neg_add, Int32.sub_eq_add_neg]
theorem y_ar1 (a b x n : Int32) : (a - b) + (x - n) = (a + x) - (b + n) := by
  rw [Int32.sub_eq_add_neg, Int32.sub_eq_add_neg, Int32.sub_eq_add_neg, y_neg, Int32.add_assoc, Int32.add_assoc, ← Int32.add_assoc (-b), Int32.add_comm (-b) x, Int32.add_assoc]
theorem y_ar2 (x y n : Int32) : (x - n) - (y - n) = x - y := by
  have e : x - n + (n - y) = (x + n) - (n + y) := y_ar1 x n n y
  have e2 : -(y - n) = n - y := Int32.neg_sub
  rw [Int32.sub_eq_add_neg (x - n), e2, e, Int32.add_comm n y, ← y_ar1, Int32.sub_self, Int32.add_zero]
theorem y_ar3 : (0 : Int32) - 0 = 0 := rfl
theorem q_sm_dif (x n : Nat → Int32) (p : Nat) : ∀ N, q_sm (fun k => if k = p then 0 else x k - n k) N = q_sm (fun k => if k = p then 0 else x k) N - q_sm (fun k => if k = p then 0 else n k) N
  | 0 => y_ar3.symm
  | N + 1 => by
    have ih := q_sm_dif x n p N
    show q_sm (fun k => if k = p then 0 else x k - n k) N + (if N = p then 0 else x N - n N) = (q_sm (fun k => if k = p then 0 else x k) N + (if N = p then 0 else x N)) - (q_sm (fun k => if k = p then 0 else n k) N + (if N = p then 0 else n N))
    rw [ih]
    by_cases e : N = p
    · rw [if_pos e, if_pos e, if_pos e, Int32.add_zero, Int32.add_zero, Int32.add_zero]
    · rw [if_neg e, if_neg e, if_neg e, y_ar1]
theorem p8_gainOfOthers {q : Nat → Int32} {B' : Nat} (h : qI_T T o v m) (hn : qI_N B T r m) (hq : qRep m 1 T q) (hw : qRow T B' q) (hB : B' < 900000) {p n : Nat} (hp : p < tP T) (hn' : n ≤ 40) : zw (f8_gainOfOthers (nI p) (nI n) m) fun x => x.1 = q_sm (fun k => if k = p then 0 else q_ys T true 0 n q (14 + k) - r (14 + k)) (tP T) ∧ zk (sCourse 1) m x.2 := by
  have hP := h.ok.2
  unfold f8_gainOfOthers
  rw [h.ox]
  refine zw_b (p0_standStill hq hw hB h.ok h.lw h.tx h.cl hn') ?_
  rintro m1 ⟨hr1, hf1⟩
  have h1 := q_T_q h (zk_co hf1 (Or.inl rfl))
  refine zw_eq (z_it_e (e := q_sm (fun k => if k = p then 0 else q_ys T true 0 n q (14 + k) - r (14 + k)) (tP T)) (fun k => (q_sm (fun k => if k = p then 0 else q_ys T true 0 n q (14 + k) - r (14 + k)) k, nI k)) (tP T) rfl (fun k hk => ?_) ?_ (z_fu_lt (by omega))) ?_
  · unfold f8_gainOfOthers_L3
    have e1 : m1.1 23 1 k = q_ys T true 0 n q (14 + k) := hr1.2.2.2.2.1 k (by omega)
    have e0 : m1.1 23 0 k = r (14 + k) := by rw [hf1.1 23 0 k (by omega)]; exact hn.2.1.2.2.2.2.1 k (by omega)
    simp (disch := omega) only [z_u2, h1.ox, h1.P, y_lt, hk, ↓reduceIte, y_in, y_cl, z_let, e1, e0, y_eq, y_s1]
    by_cases e : k = p
    · rw [if_pos e]
      show some (Sum.inl (_, _)) = some (Sum.inl (q_sm (fun k => if k = p then 0 else q_ys T true 0 n q (14 + k) - r (14 + k)) k + (if k = p then 0 else _), _))
      rw [if_pos e, Int32.add_zero]
    · rw [if_neg e]
      show some (Sum.inl (_, _)) = some (Sum.inl (q_sm (fun k => if k = p then 0 else q_ys T true 0 n q (14 + k) - r (14 + k)) k + (if k = p then 0 else _), _))
      rw [if_neg e]
  · unfold f8_gainOfOthers_L3
    simp (disch := omega) only [z_u2, h1.ox, h1.P, y_lt, Nat.lt_irrefl, ↓reduceIte]
  · exact zw_some.mpr ⟨rfl, hf1⟩
theorem p9_gotBy {q : Nat → Int32} {B' : Nat} (h : qI_T T o v m) (hr : qMr m q) (hw : qRow T B' q) (hs : qSd m true (tS T)) {p n : Nat} (hp : p < tP T) (hn' : n ≤ 40) : zw (f9_gotBy (nI n) (nI p) m) fun x => x.1 = q_sm (fun k => if k = p then 0 else q_ys T true 0 n q (14 + k)) (tP T) ∧ zk sMY m x.2 := by
  have hP := h.ok.2
  unfold f9_gotBy
  refine zw_b (p9_goes h.mx h.ok h.lw h.ml hr hw hs hn') ?_
  rintro m1 ⟨hf1, hr1⟩
  rw [q_ys_t T (tS T) 0] at hr1
  obtain ⟨hv, h9, _, h1, _⟩ := h.mx.zk hf1 (fun k => by omega)
  refine zw_eq (z_it_e (e := q_sm (fun k => if k = p then 0 else q_ys T true 0 n q (14 + k)) (tP T)) (fun k => (q_sm (fun k => if k = p then 0 else q_ys T true 0 n q (14 + k)) k, nI k)) (tP T) rfl (fun k hk => ?_) ?_ (z_fu_lt (by omega))) ?_
  · unfold f9_gotBy_L3
    have e14 : (14 : Int32) + nI k = nI (14 + k) := nI_add 14 k
    simp (disch := omega) only [z_u2, h9, h1, y_lt, hk, ↓reduceIte, y_in, y_cl, z_let, e14, hr1 _, y_eq, y_s1]
    by_cases e : k = p
    · rw [if_pos e]
      show some (Sum.inl (_, _)) = some (Sum.inl (q_sm (fun k => if k = p then 0 else q_ys T true 0 n q (14 + k)) k + (if k = p then 0 else _), _))
      rw [if_pos e, Int32.add_zero]
    · rw [if_neg e]
      show some (Sum.inl (_, _)) = some (Sum.inl (q_sm (fun k => if k = p then 0 else q_ys T true 0 n q (14 + k)) k + (if k = p then 0 else _), _))
      rw [if_neg e]
  · unfold f9_gotBy_L3
    simp (disch := omega) only [z_u2, h9, h1, y_lt, y_in, y_cl, Nat.lt_irrefl, ↓reduceIte]
  · exact zw_some.mpr ⟨rfl, hf1⟩
theorem c_loss (hT : tOk T) (hB : B < 900000) (a b : Int32) : ∃ x, qAn T o v B r (f8_loss a b) x ∧ qAn T o v B r (f9_loss a b) x := by
  have hP := hT.2
  rcases y_is a (n := tP T) (by omega) with ha | ⟨j, hj, rfl⟩
  · refine ⟨-100000, fun m h hn => ?_, fun m h hn => ?_⟩
    · unfold f8_loss
      rw [p8_isPerson_n h ha, if_pos rfl]
      exact q_some m
    · unfold f9_loss
      refine zw_eq (p9_isNow_n h ha) ?_
      rw [if_pos rfl]
      exact q_some m
  by_cases h0 : r j = 1
  case neg =>
    refine ⟨-100000, fun m h hn => ?_, fun m h hn => ?_⟩
    · unfold f8_loss
      rw [p8_isPerson_y h hj, if_neg n01, p8_hasA hT hn hj, if_neg h0, if_pos rfl]
      exact q_some m
    · unfold f9_loss
      refine zw_eq (p9_isNow_y h hn hj 1) ?_
      rw [if_neg h0, if_pos rfl]
      exact q_some m
  rcases y_long b with ⟨e8, e9⟩ | ⟨e8, e9, n, hn', rfl⟩
  · refine ⟨-100000, fun m h hn => ?_, fun m h hn => ?_⟩
    · unfold f8_loss
      rw [p8_isPerson_y h hj, if_neg n01, p8_hasA hT hn hj, if_pos h0, if_neg n01, e8, if_pos rfl]
      exact q_some m
    · unfold f9_loss
      refine zw_eq (p9_isNow_y h hn hj 1) ?_
      rw [if_pos h0, if_neg n01]
      refine zw_eq e9 ?_
      rw [if_pos rfl]
      exact q_some m
  refine ⟨q_sm (fun k => if k = j then 0 else q_ys T true 0 n (q_be r j 0) (14 + k)) (tP T) - q_sm (fun k => if k = j then 0 else q_ys T true 0 n r (14 + k)) (tP T), fun m h hn => ?_, fun m h hn => ?_⟩
  · unfold f8_loss
    rw [p8_isPerson_y h hj, if_neg n01, p8_hasA hT hn hj, if_pos h0, if_neg n01, e8, if_neg n01]
    simp only [z_let]
    obtain ⟨hc1, hf1⟩ := p5_copyFrom (o := 1) hn.2.1 hT
    have hf1' := zk_st hf1 (Or.inl rfl)
    refine zw_b (p8_gainOfOthers (q_T_q h hf1') (q_N_q hn hf1') hc1 hn.1 hB hj hn') ?_
    rintro ⟨x1, m2⟩ ⟨ex1, hf2⟩
    have ex1' : x1 = _ := ex1
    have hf2' : zk sQ m m2 := zk_t hf1' (zk_co hf2 (Or.inl rfl))
    simp only [z_u2]
    obtain ⟨hc3, hf3⟩ := p5_copyFrom (o := 1) (q_N_q hn hf2').2.1 hT
    have hf3' : zk sQ m _ := zk_t hf2' (zk_st hf3 (Or.inl rfl))
    refine zw_b (p5_comeHomeR hT hc3 hj (by rw [h0]; decide)) ?_
    rintro m4 ⟨hc4, hf4⟩
    have hf4' : zk sQ m m4 := zk_t hf3' (zk_st hf4 (Or.inl rfl))
    refine zw_b (p8_gainOfOthers (q_T_q h hf4') (q_N_q hn hf4') hc4 (q_be_row hT hn.1 hj (by decide)) hB hj hn') ?_
    rintro ⟨x2, m5⟩ ⟨ex2, hf5⟩
    have ex2' : x2 = _ := ex2
    refine zw_some.mpr ⟨?_, zk_t hf4' (zk_co hf5 (Or.inl rfl))⟩
    show x2 - x1 = _
    rw [ex2', ex1', q_sm_dif, q_sm_dif, y_ar2]
  · unfold f9_loss
    refine zw_eq (p9_isNow_y h hn hj 1) ?_
    rw [if_pos h0, if_neg n01]
    refine zw_eq e9 ?_
    rw [if_neg n01]
    refine q_cs' h hn (fun m1 h1 hn1 hr1 hs1 => ?_)
    refine zw_b (p9_gotBy h1 hr1 hn1.1 hs1 hj hn') ?_
    rintro ⟨x1, m2⟩ ⟨ex1, hf2⟩
    have ex1' : x1 = _ := ex1
    have hf2' : zk sQ m1 m2 := zk_my hf2
    simp only [z_u2]
    refine zw_mono (q_cs' (a := q_sm (fun k => if k = j then 0 else q_ys T true 0 n (q_be r j 0) (14 + k)) (tP T) - x1) (q_T_q h1 hf2') (q_N_q hn1 hf2') (fun m3 h3 hn3 hr3 hs3 => ?_)) (fun q hq => ⟨by rw [hq.1, ex1'], zk_t hf2' hq.2⟩)
    refine zw_b (p9_becomes hr3 (show j < 7 by omega) 0) ?_
    rintro m4 ⟨hf4, hr4⟩
    have hf4' : zk sQ m3 m4 := zk_m hf4 (fun c i k h => by omega)
    refine zw_b (p9_gotBy (q_T_q h3 hf4') hr4 (q_be_row hT hn3.1 hj (by decide)) (hs3.zk hf4 (by omega)) hj hn') ?_
    rintro ⟨x2, m5⟩ ⟨ex2, hf5⟩
    have ex2' : x2 = _ := ex2
    refine zw_some.mpr ⟨?_, zk_t hf4' (zk_my hf5)⟩
    show x2 - x1 = _
    rw [ex2']
/-! duel -/
def q_D (r : Nat → Int32) (p s c : Nat) : Nat → Int32 := if c / 2 = 0 then (if c % 2 = 0 then r else q_be r p 1) else q_be (if c % 2 = 0 then r else q_be r p 1) s 1
def q_dg (T : qT) (r : Nat → Int32) (p s n c w : Nat) : Int32 := q_ys T true 0 n (q_D r p s c) (14 + w) - r (14 + w)
theorem y_duel : ∀ c, c < 4 → ((nI c &&& 1 = 0) ↔ c % 2 = 0) ∧ ((nI c &&& 1 = 1) ↔ ¬ c % 2 = 0) ∧ ((nI c &&& 2 = 0) ↔ c / 2 = 0) ∧ ((nI c &&& 2 = 2) ↔ ¬ c / 2 = 0) := by decide +kernel
theorem q_D_row {p s c : Nat} (hT : tOk T) (hw : qRow T B r) (hp : p < tP T) (hs : s < tP T) : qRow T B (q_D r p s c) := by
  have h1 : qRow T B (if c % 2 = 0 then r else q_be r p 1) := by
    by_cases e : c % 2 = 0
    · rw [if_pos e]; exact hw
    · rw [if_neg e]; exact q_be_row hT hw hp (by decide)
  unfold q_D
  by_cases e : c / 2 = 0
  · rw [if_pos e]; exact h1
  · rw [if_neg e]; exact q_be_row hT h1 hs (by decide)
abbrev sDuel : Nat → Nat → Nat → Prop := fun c i _ => ((c = 5 ∨ c = 22 ∨ c = 23 ∨ c = 24 ∨ c = 25) ∧ i = 1) ∨ ((c = 10 ∨ c = 11 ∨ c = 12 ∨ c = 13) ∧ i = 1) ∨ (c = 14 ∧ i = 0)
theorem p8_playDuel (h : qI_T T o v m) (hn : qI_N B T r m) (hB : B < 900000) {p s n c : Nat} (hp : p < tP T) (hs : s < tP T) (hne : p ≠ s) (h0 : r p = 0) (h1 : r s = 0) (hn' : n ≤ 40) (hc : c < 4) : zw (f8_playDuel (nI p) (nI s) (nI n) (nI c) m) fun m' => zk sQ m m' ∧ m'.1 35 0 c = q_dg T r p s n c p ∧ m'.1 36 0 c = q_dg T r p s n c s ∧ (∀ k, k ≠ c → m'.1 35 0 k = m.1 35 0 k ∧ m'.1 36 0 k = m.1 36 0 k) := by
  have hP := h.ok.2
  obtain ⟨y1, _, y2, _⟩ := y_duel c hc
  unfold f8_playDuel
  simp only [z_let]
  obtain ⟨hc1, hf1⟩ := p5_copyFrom (o := 1) hn.2.1 h.ok
  generalize f5_copyFrom 1 0 m = m1 at *
  have hf1' : zk sDuel m m1 := zk_m hf1 (fun c i k h => by omega)
  have st1 : zw (if (nI c &&& 1) = 0 then some m1 else (f5_goAway 1 (nI p) m1).bind (fun qm6 => some qm6)) fun m2 => qRep m2 1 T (if c % 2 = 0 then r else q_be r p 1) ∧ zk sDuel m m2 := by
    by_cases e : c % 2 = 0
    · rw [if_pos (y1.mpr e), if_pos e]
      exact zw_some.mpr ⟨hc1, hf1'⟩
    · rw [if_neg (fun q => e (y1.mp q)), if_neg e]
      exact zw_b (p5_goAwayR h.ok hc1 hp (by rw [h0]; decide)) (fun m2 h2 => zw_some.mpr ⟨h2.1, zk_t hf1' (zk_m h2.2 (fun c i k h => by omega))⟩)
  refine zw_b st1 ?_
  rintro m2 ⟨hc2, hf2⟩
  have st2 : zw (if (nI c &&& 2) = 0 then some m2 else (f5_goAway 1 (nI s) m2).bind (fun qm6 => some qm6)) fun m3 => qRep m3 1 T (q_D r p s c) ∧ zk sDuel m m3 := by
    unfold q_D
    by_cases e : c / 2 = 0
    · rw [if_pos (y2.mpr e), if_pos e]
      exact zw_some.mpr ⟨hc2, hf2⟩
    · rw [if_neg (fun q => e (y2.mp q)), if_neg e]
      refine zw_b (p5_goAwayR h.ok hc2 hs ?_) (fun m3 h3 => zw_some.mpr ⟨h3.1, zk_t hf2 (zk_m h3.2 (fun c i k h => by omega))⟩)
      by_cases e2 : c % 2 = 0
      · rw [if_pos e2, h1]; decide
      · rw [if_neg e2, q_be_s (by omega) (fun q => hne q.symm), h1]; decide
  refine zw_b st2 ?_
  rintro m3 ⟨hc3, hf3⟩
  have hf3' : zk sQ m m3 := zk_m hf3 (fun c i k h => by omega)
  have h3 := q_T_q h hf3'
  rw [h3.ox]
  refine zw_b (p0_standStill hc3 (q_D_row h.ok hn.1 hp hs) hB h.ok h.lw h3.tx h3.cl hn') ?_
  rintro m4 ⟨hc4, hf4⟩
  have hf4' : zk sDuel m m4 := zk_t hf3 (zk_m hf4 (fun c i k h => by omega))
  have e23 : ∀ w, w < 7 → m4.1 23 1 w - m4.1 23 0 w = q_dg T r p s n c w := fun w hw => by
    rw [hc4.2.2.2.2.1 w hw, hf4'.1 23 0 w (by omega), hn.2.1.2.2.2.2.1 w hw]
    rfl
  simp (disch := omega) only [y_in, y_cl, ↓reduceIte]
  refine zw_some.mpr ⟨zk_s (zk_s (zk_m hf4' (fun c i k h => by omega)) (by omega)) (by omega), ?_, ?_, fun k hk => ⟨?_, ?_⟩⟩
  · rw [z_sI_1, if_neg (by omega), z_sI_1, if_pos ⟨rfl, rfl, rfl⟩]
    exact e23 p (by omega)
  · rw [z_sI_1, if_pos ⟨rfl, rfl, rfl⟩, z_sI_1, if_neg (by omega), z_sI_1, if_neg (by omega)]
    exact e23 s (by omega)
  · rw [z_sI_1, if_neg (by omega), z_sI_1, if_neg (by omega)]
    exact hf4'.1 35 0 k (by omega)
  · rw [z_sI_1, if_neg (by omega), z_sI_1, if_neg (by omega)]
    exact hf4'.1 36 0 k (by omega)
theorem p9_duelGain (h : qI_T T o v m) (hn : qI_N B T r m) {p s n c w : Nat} (hp : p < tP T) (hs : s < tP T) (hw : w < 7) (hn' : n ≤ 40) (hc : c < 4) : zw (f9_duelGain (nI p) (nI s) (nI n) (nI c) (nI w) m) fun q => q.1 = q_dg T r p s n c w ∧ zk sQ m q.2 := by
  have hP := h.ok.2
  obtain ⟨_, y1, _, y2⟩ := y_duel c hc
  unfold f9_duelGain
  refine q_cs' h hn (fun m1 h1 hn1 hr1 hs1 => ?_)
  have st1 : zw (if (nI c &&& 1) = 1 then (f9_becomes (nI p) 1 m1).bind (fun qm6 => some qm6) else some m1) fun m2 => zk sRow m1 m2 ∧ qMr m2 (if c % 2 = 0 then r else q_be r p 1) := by
    by_cases e : c % 2 = 0
    · rw [if_neg (fun q => y1.mp q e), if_pos e]
      exact zw_some.mpr ⟨zk_r m1, hr1⟩
    · rw [if_pos (y1.mpr e), if_neg e]
      exact zw_b (p9_becomes hr1 (show p < 7 by omega) 1) (fun m2 h2 => zw_some.mpr h2)
  refine zw_b st1 ?_
  rintro m2 ⟨hf2, hr2⟩
  have st2 : zw (if (nI c &&& 2) = 2 then (f9_becomes (nI s) 1 m2).bind (fun qm6 => some qm6) else some m2) fun m3 => zk sRow m1 m3 ∧ qMr m3 (q_D r p s c) := by
    unfold q_D
    by_cases e : c / 2 = 0
    · rw [if_neg (fun q => y2.mp q e), if_pos e]
      exact zw_some.mpr ⟨hf2, hr2⟩
    · rw [if_pos (y2.mpr e), if_neg e]
      exact zw_b (p9_becomes hr2 (show s < 7 by omega) 1) (fun m3 h3 => zw_some.mpr ⟨zk_t hf2 h3.1, h3.2⟩)
  refine zw_b st2 ?_
  rintro m3 ⟨hf3, hr3⟩
  have hf3' : zk sQ m1 m3 := zk_m hf3 (fun c i k h => by omega)
  have h3 := q_T_q h1 hf3'
  refine zw_b (p9_goes h3.mx h.ok h3.lw h3.ml hr3 (q_D_row h.ok hn.1 hp hs) (hs1.zk hf3 (by omega)) hn') ?_
  rintro m4 ⟨hf4, hr4⟩
  rw [show (14 : Int32) + nI w = nI (14 + w) from nI_add 14 w, if_pos (y_in (by omega) (by omega)), y_cl (by omega)]
  refine zw_some.mpr ⟨?_, zk_t hf3' (zk_my hf4)⟩
  show m4.1 149 0 (14 + w) - m4.1 148 0 (14 + w) = _
  rw [hr4 _ (by omega), hf4.1 148 0 _ (by omega), hf3.1 148 0 _ (by omega), hn1.2.2 _ (by omega), q_ys_t T (tS T) 0]
  rfl
/-- may two duel? -/
theorem y_can (hT : tOk T) (a b c : Int32) : (∀ m, qI_T T o v m → qI_N B T r m → f8_canDuel a b c m = 0 ∧ f9_isDuel a b c m = some 0) ∨ ∃ p s n, p < tP T ∧ s < tP T ∧ p ≠ s ∧ r p = 0 ∧ r s = 0 ∧ 1 ≤ n ∧ n ≤ 40 ∧ a = nI p ∧ b = nI s ∧ c = nI n ∧ (∀ m, qI_T T o v m → qI_N B T r m → f8_canDuel a b c m = 1 ∧ f9_isDuel a b c m = some 1) := by
  have hP := hT.2
  unfold f8_canDuel f9_isDuel
  rcases y_is a (n := tP T) (by omega) with ha | ⟨p, hp, rfl⟩
  · refine Or.inl fun m h hn => ⟨?_, ?_⟩
    · rw [p8_isPerson_n h ha, if_pos rfl]
    · rw [p9_isNow_n h ha]; rfl
  by_cases h0 : r p = 0
  case neg =>
    refine Or.inl fun m h hn => ⟨?_, ?_⟩
    · rw [p8_isPerson_y h hp, if_neg n01, p8_hasH hT hn hp, if_neg h0, if_pos rfl]
      by_cases e : f8_isPerson b m = 0
      · rw [if_pos e]
      · rw [if_neg e]
        by_cases e2 : nI p = b
        · rw [if_pos e2]
        · rw [if_neg e2]
    · rw [p9_isNow_y h hn hp 0, if_neg h0]; rfl
  rcases y_is b (n := tP T) (by omega) with hb | ⟨s, hs, rfl⟩
  · refine Or.inl fun m h hn => ⟨?_, ?_⟩
    · rw [p8_isPerson_y h hp, if_neg n01, p8_isPerson_n h hb, if_pos rfl]
    · rw [p9_isNow_y h hn hp 0, if_pos h0, p9_isNow_n h hb]; rfl
  by_cases h1 : r s = 0
  case neg =>
    refine Or.inl fun m h hn => ⟨?_, ?_⟩
    · rw [p8_isPerson_y h hp, if_neg n01, p8_isPerson_y h hs, if_neg n01, p8_hasH hT hn hp, if_pos h0, if_neg n01, p8_hasH hT hn hs, if_neg h1, if_pos rfl]
      by_cases e2 : nI p = nI s
      · rw [if_pos e2]
      · rw [if_neg e2]
    · rw [p9_isNow_y h hn hp 0, if_pos h0, p9_isNow_y h hn hs 0, if_neg h1]; rfl
  by_cases hne : p = s
  · refine Or.inl fun m h hn => ⟨?_, ?_⟩
    · rw [p8_isPerson_y h hp, if_neg n01, p8_isPerson_y h hs, if_neg n01, if_pos (by rw [hne])]
    · rw [p9_isNow_y h hn hp 0, if_pos h0, p9_isNow_y h hn hs 0, if_pos h1]
      show (if nI p = nI s then _ else _) = _
      rw [if_pos (by rw [hne])]
  have hne' : ¬ nI p = nI s := by rw [y_eq (by omega) (by omega)]; exact hne
  rcases y_spn c with ⟨e8, e9⟩ | ⟨e8, e9, n, hn1, hn', rfl⟩
  · refine Or.inl fun m h hn => ⟨?_, ?_⟩
    · rw [p8_isPerson_y h hp, if_neg n01, p8_isPerson_y h hs, if_neg n01, if_neg hne', p8_hasH hT hn hp, if_pos h0, if_neg n01, p8_hasH hT hn hs, if_pos h1, if_neg n01, e8, if_pos rfl]
    · rw [p9_isNow_y h hn hp 0, if_pos h0, p9_isNow_y h hn hs 0, if_pos h1]
      show (if nI p = nI s then _ else _) = _
      rw [if_neg hne', e9]; rfl
  · refine Or.inr ⟨p, s, n, hp, hs, hne, h0, h1, hn1, hn', rfl, rfl, rfl, fun m h hn => ⟨?_, ?_⟩⟩
    · rw [p8_isPerson_y h hp, if_neg n01, p8_isPerson_y h hs, if_neg n01, if_neg hne', p8_hasH hT hn hp, if_pos h0, if_neg n01, p8_hasH hT hn hs, if_pos h1, if_neg n01, e8, if_neg n01]
    · rw [p9_isNow_y h hn hp 0, if_pos h0, p9_isNow_y h hn hs 0, if_pos h1]
      show (if nI p = nI s then _ else _) = _
      rw [if_neg hne', e9]; rfl
end
