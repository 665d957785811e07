/-! STEPS II: give, undo, hold, restore, tell, forget, feed, back, place -/
section
variable {T : qT} {o v B B' u nx : Nat} {r r' : Nat → Int32} {hs : Nat → Nat → Int32} {m m' m2 m3 : zMem}
def q_gv (r : Nat → Int32) (p h : Nat) : Nat → Int32 := fun k => if k = 28 + h then r (28 + h) ^^^ ((1 : Int32) <<< (nI p &&& 31)) else r k
theorem q_gv_row (hT : tOk T) {p h : Nat} (hp : p < tP T) (hh : h < tH T) (hw : qRow T B r) : qRow T B (q_gv r p h) := by
  have hP := hT.2
  have hH := hT.1
  obtain ⟨w1, w2, w3, w4, w5, w6, w7⟩ := hw
  have e : ∀ k, k ≠ 28 + h → q_gv r p h k = r k := fun k hk => if_neg hk
  refine ⟨fun k hk => ?_, fun k h1 h2 => ?_, fun k hk hne => ?_, fun k hk => ?_, ?_, fun i h1 h2 => ?_, fun i hi k h1 h2 => ?_⟩
  · rw [e k (by omega)]; exact w1 k hk
  · rw [e k (by omega), e (7 + k) (by omega), e (14 + k) (by omega)]; exact w2 k h1 h2
  · rw [e k (by omega)] at hne; rw [e (7 + k) (by omega)]; exact w3 k hk hne
  · rw [e (7 + k) (by omega)]; exact w4 k hk
  · rw [e 33 (by omega)]; exact w5
  · rw [e (28 + i) (by omega)]; exact w6 i h1 h2
  · by_cases c : i = h
    · subst c
      unfold q_gv
      rw [if_pos rfl, b_xor, w7 i hi k h1 h2, b_p p (by omega) h2, decide_eq_false (by omega)]; rfl
    · rw [e (28 + i) (by omega)]; exact w7 i hi k h1 h2
theorem s_give (a b c : Int32) (hc : c = 0 ∨ c = 1) : qSt B (f8_give a b c) (f9_give a b c) := by
  rintro m ⟨T, o, v, r, h1, h2, h3⟩
  have hT := h1.ok
  have hP := hT.2
  have hH := hT.1
  rcases y_is a (n := tP T) (by omega) with ha | ⟨p, hp, rfl⟩
  · refine q_nothing ⟨T, o, v, r, h1, h2, h3⟩ (x := 0) ?_ ?_
    · unfold f8_give; rw [p8_isPerson_n h1 ha, if_pos rfl]
    · unfold f9_give; rw [p9_isPerson_n h1 ha]; rfl
  rcases y_is b (n := tH T) (by omega) with hb | ⟨h, hh, rfl⟩
  · refine q_nothing ⟨T, o, v, r, h1, h2, h3⟩ (x := 0) ?_ ?_
    · unfold f8_give; rw [p8_isPerson_y h1 hp, if_neg n01, p8_isHouse_n h1 hb, if_pos rfl]
    · unfold f9_give; rw [p9_isPerson_y h1 hp, Option.bind_some, if_neg n01, p9_isHouse_n h1 hb]; rfl
  have e28 : (28 : Int32) + nI h = nI (28 + h) := nI_add 28 h
  have g8 : ∀ m', qRep m' 0 T r → f8_has (m'.1 25 0 h) (nI p) = if bt (r (28 + h)) p then 1 else 0 := fun m' hr => by rw [hr.2.2.2.2.2.2 h (by omega), y_has _ p (by omega)]
  have g9 : ∀ m', qMn m' r → ((if (((m'.1 148 0 (28 + h)) >>> (nI p &&& 31)) &&& (1 : Int32)) = (1 : Int32) then some (1 : Int32) else some (0 : Int32)) : Option Int32) = some (if bt (r (28 + h)) p then 1 else 0) := fun m' hn => by
    rw [hn _ (by omega), b_bit _ _ (by omega)]
    cases bt (r (28 + h)) p <;> rfl
  by_cases e0 : (if bt (r (28 + h)) p then (1 : Int32) else 0) = c
  · refine q_nothing ⟨T, o, v, r, h1, h2, h3⟩ (x := 0) ?_ ?_
    · unfold f8_give
      rw [p8_isPerson_y h1 hp, if_neg n01, p8_isHouse_y h1 hh, if_neg n01, if_pos (y_in (by omega) (by omega)), y_cl (by omega), g8 m h2.2.1, if_pos e0]
    · unfold f9_give
      rw [p9_isPerson_y h1 hp, Option.bind_some, if_neg n01, p9_isHouse_y h1 hh, Option.bind_some, if_neg n01, e28, if_pos (y_in (by omega) (by omega)), y_cl (by omega), g9 m h2.2.2, Option.bind_some, if_pos e0]
  refine q_thing (x := 1) (r' := q_gv r p h) h1 h2 h3 ((q_gv_row hT hp hh h2.1).mn (by omega)) (fun u nx hs hu hU => ?_) (fun m2 u hs hf hu hT2 hn2 hU => ?_)
  · unfold f8_give
    rw [p8_isPerson_y h1 hp, if_neg n01, p8_isHouse_y h1 hh, if_neg n01, if_pos (y_in (by omega) (by omega)), y_cl (by omega), g8 m h2.2.1, if_neg e0]
    refine zw_b (p3_keep hT hu hU h2.2.1) ?_
    rintro m1 ⟨hf1, hU1⟩
    have hr1 : qRep m1 0 T r := h2.2.1.zk hf1 (fun k => by omega)
    simp only [z_let]
    have hf2 : zk (sState 0) m1 (z_sI m1 25 0 h (m1.1 25 0 h ^^^ ((1 : Int32) <<< (nI p &&& 31)))) := zk_s (zk_r m1) (by omega)
    refine zw_some.mpr ⟨rfl, zk_t (zk_kp hf1 hU.1) (zk_s0 hf2), ?_, hU1.zk hf2 (fun c i k h => by omega)⟩
    have e : ∀ k, k ≠ 28 + h → q_gv r p h k = r k := fun k hk => if_neg hk
    refine ⟨?_, fun k hk => ?_, fun k hk => ?_, fun k hk => ?_, fun k hk => ?_, fun k hk => ?_, fun i hi => ?_⟩
    · rw [z_sI_1, if_neg (by omega), e 33 (by omega)]; exact hr1.1
    · rw [z_sI_1, if_neg (by omega), hr1.2.1 k hk]
      by_cases c1 : k < tP T
      · rw [e k (by omega)]
      · rw [decide_eq_false c1, Bool.false_and, Bool.false_and]
    · rw [z_sI_1, if_neg (by omega), hr1.2.2.1 k hk]
      by_cases c1 : k < tP T
      · rw [e k (by omega)]
      · rw [decide_eq_false c1, Bool.false_and, Bool.false_and]
    · rw [z_sI_1, if_neg (by omega), e (7 + k) (by omega)]; exact hr1.2.2.2.1 k hk
    · rw [z_sI_1, if_neg (by omega), e (14 + k) (by omega)]; exact hr1.2.2.2.2.1 k hk
    · rw [z_sI_1, if_neg (by omega), e k (by omega), e (21 + k) (by omega), e 33 (by omega)]; exact hr1.2.2.2.2.2.1 k hk
    · rw [z_sI_1]
      by_cases c1 : i = h
      · rw [if_pos ⟨rfl, rfl, c1⟩, c1, hr1.2.2.2.2.2.2 h (by omega)]
        unfold q_gv
        rw [if_pos rfl]
      · rw [if_neg (fun q => c1 q.2.2), e (28 + i) (by omega)]; exact hr1.2.2.2.2.2.2 i hi
  · unfold f9_give
    rw [p9_isPerson_y hT2 hp, Option.bind_some, if_neg n01, p9_isHouse_y hT2 hh, Option.bind_some, if_neg n01, e28, if_pos (y_in (by omega) (by omega)), y_cl (by omega), g9 m2 hn2, Option.bind_some, if_neg e0]
    refine zw_b (p9_copiesK hT2.mx hn2) ?_
    rintro m1 ⟨hf1, hr1, _⟩
    simp only [z_let]
    have hf3 : zk sRow m1 (z_sI m1 149 0 (28 + h) (m1.1 149 0 (28 + h) ^^^ ((1 : Int32) <<< (nI p &&& 31)))) := zk_s (zk_r m1) rfl
    have hr3 : qMr (z_sI m1 149 0 (28 + h) (m1.1 149 0 (28 + h) ^^^ ((1 : Int32) <<< (nI p &&& 31)))) (q_gv r p h) := fun k hk => by
      rw [z_sI_1]
      unfold q_gv
      by_cases c1 : k = 28 + h
      · rw [if_pos ⟨rfl, rfl, c1⟩, if_pos c1, hr1 _ (by omega)]
      · rw [if_neg (fun q => c1 q.2.2), if_neg c1]; exact hr1 k hk
    generalize z_sI m1 149 0 (28 + h) (m1.1 149 0 (28 + h) ^^^ ((1 : Int32) <<< (nI p &&& 31))) = m3 at *
    have hn3 : qMn m3 r := (hn2.zk hf1 (fun k => by omega)).zk hf3 (fun k => by omega)
    have hU3 : qU9 u hs m3 := ⟨by rw [hf3.1 9 0 55 (by omega), hf1.1 9 0 55 (by omega)]; exact hU.1, fun j hj k hk => by rw [hf3.1 156 0 _ (by omega), hf1.1 156 0 _ (by omega)]; exact hU.2 j hj k hk⟩
    refine zw_b (p9_records hu hn3 hr3 hU3) ?_
    rintro m4 ⟨hf4, hn4, hU4⟩
    exact zw_some.mpr ⟨rfl, zk_t (zk_m hf1 (fun c i k h => by omega)) (zk_t (zk_m hf3 (fun c i k h => by omega)) (zk_m hf4 (fun c i k h => by omega))), hn4, hU4⟩
/-- undo -/
theorem s_undo : qSt B f8_undo f9_undo := by
  rintro m ⟨T, o, v, r, h1, h2, h3⟩
  have hT := h1.ok
  obtain ⟨u, nx, hs, hU⟩ := h3.1
  have hu := hU.1
  have hnx := hU.2.1
  by_cases u0 : u = 0
  · subst u0
    refine q_nothing ⟨T, o, v, r, h1, h2, h3⟩ (x := 0) ?_ ?_
    · unfold f8_undo f3_takeBack; rw [hU.2.2.2.1, if_pos (show nI 0 = 0 from rfl)]; rfl
    · unfold f9_undo; rw [hU.2.2.2.2.1, if_pos (show nI 0 = 0 from rfl)]
  have hne : ¬ nI u = 0 := by rw [y_eq0 (by omega)]; exact u0
  obtain ⟨hw0, hr0, h90⟩ := hU.2.2.2.2.2 0 (by omega)
  have er : (nI nx + 40 - 1) - (nI nx + 40 - 1) / 40 * 40 = nI ((nx + 39) % 40) := by
    rw [show (40 : Int32) = nI 40 from rfl, nI_add, show nI (nx + 40) - 1 = nI (nx + 39) from nI_pred (nx + 39)]
    exact pk_rem (by omega) (by omega) (by omega)
  have eu : nI u - 1 = nI (u - 1) := by
    have := nI_pred (u - 1)
    rw [show u - 1 + 1 = u by omega] at this; exact this
  have hm40 : (nx + 39) % 40 < 40 := Nat.mod_lt _ (by omega)
  -- the class
  have a8 : zw (f8_undo m) fun q => q.1 = 1 ∧ zk sD8 m q.2 ∧ qRep q.2 0 T (hs 0) ∧ qU8 T (u - 1) ((nx + 39) % 40) (fun j => hs (j + 1)) q.2 := by
    unfold f8_undo f3_takeBack
    rw [hU.2.2.2.1, if_neg hne, hU.2.2.1, er]
    simp only [z_let]
    have g1 : (z_sI m 3 0 1 (nI ((nx + 39) % 40))).1 3 0 2 = nI u := by rw [z_sI_1, if_neg (by omega)]; exact hU.2.2.2.1
    rw [g1, eu]
    have hfa : zk (fun c i k => c = 3 ∧ (k = 1 ∨ k = 2)) m (z_sI (z_sI m 3 0 1 (nI ((nx + 39) % 40))) 3 0 2 (nI (u - 1))) := zk_s (zk_s (zk_r m) (by omega)) (by omega)
    have g2 : (z_sI (z_sI m 3 0 1 (nI ((nx + 39) % 40))) 3 0 2 (nI (u - 1))).1 3 0 1 = nI ((nx + 39) % 40) := by rw [z_sI_1, if_neg (by omega), z_sI_1, if_pos ⟨rfl, rfl, rfl⟩]
    have g3 : (z_sI (z_sI m 3 0 1 (nI ((nx + 39) % 40))) 3 0 2 (nI (u - 1))).1 3 0 2 = nI (u - 1) := by rw [z_sI_1, if_pos ⟨rfl, rfl, rfl⟩]
    generalize z_sI (z_sI m 3 0 1 (nI ((nx + 39) % 40))) 3 0 2 (nI (u - 1)) = m1 at *
    rw [g2, if_pos (y_in hm40 (by omega)), y_cl (by omega)]
    have hr1 : qRep m1 (3 + (nx + 39) % 40) T (hs 0) := hr0.zk hfa (fun k => by omega)
    obtain ⟨hc, hf⟩ := p5_copyFrom (o := 0) hr1 hT
    rw [Option.bind_some]
    simp only [z_u2]
    rw [if_pos (by decide)]
    refine zw_some.mpr ⟨rfl, zk_t (zk_m hfa (fun c i k h => by omega)) (zk_s0 hf), hc, hm40, ?_, ?_, fun j hj => ?_⟩
    · rw [hf.1 3 0 1 (by omega)]; exact g2
    · rw [hf.1 3 0 2 (by omega)]; exact g3
    · have := ((hU.2.2.2.2.2 (j + 1) (by omega)).2.1.zk hfa (fun k => by omega)).zk hf (fun k => by omega)
      rw [show (nx + 39 - (j + 1)) % 40 = ((nx + 39) % 40 + 39 - j) % 40 by omega] at this
      exact this
  refine zw_mono a8 ?_
  rintro ⟨y, m2⟩ ⟨ey, hf, hr, h8⟩
  have hf' : zk sD8 m m2 := hf
  have e55 : m2.1 9 0 55 = nI u := by rw [hf'.1 9 0 55 (by omega)]; exact hU.2.2.2.2.1
  have eH : ∀ j, j < u → ∀ k, k < 34 → m2.1 156 0 (34 * (u - 1 - j) + k) = hs j k := fun j hj k hk => by rw [hf'.1 156 0 _ (by omega)]; exact (hU.2.2.2.2.2 j hj).2.2 k hk
  have a9 : zw (f9_undo m2) fun q => q.1 = 1 ∧ zk sD9 m2 q.2 ∧ qMn q.2 (hs 0) ∧ qU9 (u - 1) (fun j => hs (j + 1)) q.2 := by
    unfold f9_undo
    rw [e55, if_neg hne, eu]
    simp only [z_let]
    have hfa : zk (fun c i k => c = 9 ∧ k = 55) m2 (z_sI m2 9 0 55 (nI (u - 1))) := zk_s (zk_r m2) (by omega)
    have g2 : (z_sI m2 9 0 55 (nI (u - 1))).1 9 0 55 = nI (u - 1) := by rw [z_sI_1, if_pos ⟨rfl, rfl, rfl⟩]
    generalize z_sI m2 9 0 55 (nI (u - 1)) = m1 at *
    refine zw_b (zw_for (Q := fun m4 => zk (fun c _ _ => c = 148) m1 m4 ∧ qMn m4 (hs 0)) 34 (fun i m4 => zk (fun c _ _ => c = 148) m1 m4 ∧ ∀ x, x < i → m4.1 148 0 x = hs 0 x) (by omega) ⟨zk_r m1, fun x hx => absurd hx (by omega)⟩ ?_ ?_) ?_
    · rintro i m4 hi ⟨hf4, hq⟩
      have e55' : m4.1 9 0 55 = nI (u - 1) := by rw [hf4.1 9 0 55 (by omega)]; exact g2
      have hlt : 34 * (u - 1) + i < 1360 := by omega
      unfold f9_undo_L4
      simp (disch := omega) only [z_u2, y_34, y_lt, hi, ↓reduceIte, e55', pk_mul, nI_add, y_in, y_cl, z_let, y_s1]
      refine zw_some.mpr ⟨rfl, zk_s hf4 rfl, fun x hx => ?_⟩
      rw [z_sI_1]
      by_cases e : x = i
      · rw [if_pos ⟨rfl, rfl, e⟩, hf4.1 156 0 _ (by omega), hfa.1 156 0 _ (by omega), e]
        exact eH 0 (by omega) i hi
      · rw [if_neg (fun q => e q.2.2)]; exact hq x (by omega)
    · rintro m4 hI
      unfold f9_undo_L4
      simp only [z_u2]
      rw [if_neg (show ¬ nI 34 < 34 by decide)]
      exact zw_some.mpr hI
    · rintro m4 ⟨hf4, hn4⟩
      refine zw_some.mpr ⟨rfl, zk_t (zk_m hfa (fun c i k h => by omega)) (zk_m hf4 (fun c i k h => by omega)), hn4, ?_, fun j hj k hk => ?_⟩
      · rw [hf4.1 9 0 55 (by omega)]; exact g2
      · rw [hf4.1 156 0 _ (by omega), hfa.1 156 0 _ (by omega), show u - 1 - 1 - j = u - 1 - (j + 1) by omega]
        exact eH (j + 1) (by omega) k hk
  refine zw_mono a9 ?_
  rintro ⟨y2, m3⟩ ⟨ey2, hf2, hn, h9⟩
  exact ⟨ey.trans ey2.symm, q_close h1 h3 (by omega) hf' hf2 (hw0.mn (by omega)) hr hn (by omega) h8 h9 (fun j hj => (hU.2.2.2.2.2 (j + 1) (by omega)).1.mn (by omega))⟩
end
