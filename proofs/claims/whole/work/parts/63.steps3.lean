/-! STEPS III: hold, restore, tell, forget, feed, back -/
section
variable {T : qT} {o v B B' u nx : Nat} {r r' : Nat → Int32} {hs : Nat → Nat → Int32} {m m' m2 m3 : zMem}
theorem vp_b1 : vp_nar .boolean (1 : Int32) = 1 := by decide
theorem vp_b0 : vp_nar .boolean (0 : Int32) = 0 := by decide
def q_sf (s : Nat) (sf : Nat → Bool) (i : Nat) : Bool := if i = s then true else sf i
def q_ss (s : Nat) (r : Nat → Int32) (ss : Nat → Nat → Int32) (i : Nat) : Nat → Int32 := if i = s then r else ss i
theorem y_slot (a : Int32) : (f9_in a 0 2 = 0 ∧ (a < 0 ∨ ¬ a < 3)) ∨ ∃ s, s < 3 ∧ a = nI s ∧ f9_in a 0 2 = 1 := by
  rcases y_is a (n := 3) (by omega) with h | ⟨s, hs, rfl⟩
  · refine Or.inl ⟨?_, ?_⟩
    · rcases y_span a (l := 0) (u := 2) (by omega) with h' | ⟨h', j, _, hj, e⟩ | h'
      · exact h'
      · exact absurd (by rw [e]; exact y_isn (n := 3) (by omega) (by omega)) h
      · omega
    · by_cases c : a < 0
      · exact Or.inl c
      · exact Or.inr (fun q => h ⟨by rw [y_il, y_t0]; rw [y_i, y_t0] at c; omega, q⟩)
  · exact Or.inr ⟨s, hs, rfl, (by decide +kernel : ∀ s, s < 3 → f9_in (nI s) 0 2 = 1) s hs⟩
theorem s_hold (a : Int32) : qSt B (f8_hold a) (f9_hold a) := by
  rintro m ⟨T, o, v, r, h1, h2, h3⟩
  have hT := h1.ok
  rcases y_slot a with ⟨e0, hc⟩ | ⟨s, hs, rfl, e1⟩
  · refine q_nothing ⟨T, o, v, r, h1, h2, h3⟩ (x := 0) ?_ ?_
    · unfold f8_hold
      rcases hc with c | c
      · rw [if_pos c]
      · by_cases c0 : a < 0
        · rw [if_pos c0]
        · rw [if_neg c0, if_neg c]
    · unfold f9_hold; rw [e0, if_pos rfl]
  obtain ⟨⟨u, nx, hs', hU⟩, ⟨sf, ss, hS⟩, ⟨td, te, tf, hL⟩, n, hPp⟩ := h3.mn (show B ≤ B + 40 by omega)
  obtain ⟨hc, hf⟩ := p5_copyFrom (o := 43 + s) h2.2.1 hT
  unfold f8_hold
  rw [if_neg (nI_pos (by omega)), if_pos (show nI s < 3 from nI_lt (b := 3) hs (by omega)), if_pos (y_in hs (by omega)), y_cl (by omega)]
  simp only [z_let]
  generalize f5_copyFrom (43 + s) 0 m = m1 at *
  have hfb : zk (fun c i k => c = 8 ∧ k = 11) m1 (z_sI m1 8 0 11 (m1.1 8 0 11 ||| ((1 : Int32) <<< (nI s &&& 31)))) := zk_s (zk_r m1) (by omega)
  have gb : ∀ i, i < 32 → bt ((z_sI m1 8 0 11 (m1.1 8 0 11 ||| ((1 : Int32) <<< (nI s &&& 31)))).1 8 0 11) i = if i = s then true else (decide (i < 3) && sf i) := fun i hi => by
    rw [z_sI_1, if_pos ⟨rfl, rfl, rfl⟩, b_set (by omega) hi, hf.1 8 0 11 (by omega), hS.1 i hi]
  generalize z_sI m1 8 0 11 (m1.1 8 0 11 ||| ((1 : Int32) <<< (nI s &&& 31))) = m2 at *
  have hf2 : zk (fun c i k => ((c = 5 ∨ c = 22 ∨ c = 23 ∨ c = 24 ∨ c = 25) ∧ i = 43 + s) ∨ (c = 8 ∧ k = 11)) m m2 := zk_t (zk_m hf (fun c i k h => by omega)) (zk_m hfb (fun c i k h => by omega))
  refine zw_some.mpr ?_
  show zw (f9_hold (nI s) m2) _
  unfold f9_hold
  rw [e1, if_neg n01, if_pos (y_in hs (by omega)), y_cl (by omega), vp_b1]
  simp only [z_let]
  have hn2 : qMn m2 r := h2.2.2.zk hf2 (fun k => by omega)
  refine zw_b (zw_for (Q := fun m4 => zk (fun c i k => (c = 164 ∧ k = s) ∨ (c = 165 ∧ 34 * s ≤ k ∧ k < 34 * s + 34)) m2 m4 ∧ m4.1 164 0 s = 1 ∧ ∀ x, x < 34 → m4.1 165 0 (34 * s + x) = r x) 34 (fun i m4 => zk (fun c i k => (c = 164 ∧ k = s) ∨ (c = 165 ∧ 34 * s ≤ k ∧ k < 34 * s + 34)) m2 m4 ∧ m4.1 164 0 s = 1 ∧ ∀ x, x < i → m4.1 165 0 (34 * s + x) = r x) (by omega) ⟨zk_s (zk_r m2) (by omega), by rw [z_sI_1, if_pos ⟨rfl, rfl, rfl⟩], fun x hx => absurd hx (by omega)⟩ ?_ ?_) ?_
  · rintro i m4 hi ⟨hf4, h164, hq⟩
    have e148 : m4.1 148 0 i = r i := by rw [hf4.1 148 0 i (by omega)]; exact hn2 i hi
    have hlt : 34 * s + i < 102 := by omega
    unfold f9_hold_L6
    simp (disch := omega) only [z_u2, y_34, y_lt, hi, ↓reduceIte, pk_mul, nI_add, y_in, y_cl, z_let, e148, y_s1]
    refine zw_some.mpr ⟨rfl, zk_s hf4 (by omega), by rw [z_sI_1, if_neg (by omega)]; exact h164, fun x hx => ?_⟩
    rw [z_sI_1]
    by_cases e : x = i
    · rw [if_pos ⟨rfl, rfl, by omega⟩, e]
    · rw [if_neg (fun q => e (by omega))]; exact hq x (by omega)
  · rintro m4 hI
    unfold f9_hold_L6
    simp only [z_u2]
    rw [if_neg (show ¬ nI 34 < 34 by decide)]
    exact zw_some.mpr hI
  · rintro m4 ⟨hf4, h164, hq⟩
    refine zw_some.mpr ⟨rfl, T, o, v, r, (h1.zk hf2 (fun c i k h => by omega)).zk hf4 (fun c i k h => by omega), ⟨h2.1.mn (by omega), (h2.2.1.zk hf2 (fun k => by omega)).zk hf4 (fun k => by omega), hn2.zk hf4 (fun k => by omega)⟩, ⟨u, nx, hs', (hU.zk hf2 (fun c i k h => by omega)).zk hf4 (fun c i k h => by omega)⟩, ⟨q_sf s sf, q_ss s r ss, fun i hi => ?_, fun i hi => ?_⟩, ⟨td, te, tf, (hL.zk hf2 (fun c i k h => by omega)).zk hf4 (fun c i k h => by omega)⟩, n, (hPp.zk hf2 (fun c i k h => by omega)).zk hf4 (fun c i k h => by omega)⟩
    · rw [hf4.1 8 0 11 (by omega), gb i hi]
      by_cases e : i = s
      · unfold q_sf; rw [if_pos e, if_pos e, e, decide_eq_true hs]; rfl
      · unfold q_sf; rw [if_neg e, if_neg e]
    · by_cases e : i = s
      · subst e
        have e1 : q_sf i sf i = true := if_pos rfl
        have e2 : q_ss i r ss i = r := if_pos rfl
        rw [e1, e2]
        refine ⟨h164, fun _ => ?_⟩
        exact ⟨h2.1.mn (by omega), (hc.zk hfb (fun k => by omega)).zk hf4 (fun k => by omega), hq⟩
      · obtain ⟨a1, a2⟩ := hS.2 i hi
        unfold q_sf q_ss
        rw [if_neg e, if_neg e]
        refine ⟨by rw [hf4.1 164 0 i (by omega), hf2.1 164 0 i (by omega)]; exact a1, fun hb => ?_⟩
        obtain ⟨b1, b2, b3⟩ := a2 hb
        exact ⟨b1, (b2.zk hf2 (fun k => by omega)).zk hf4 (fun k => by omega), fun k hk => by rw [hf4.1 165 0 _ (by omega), hf2.1 165 0 _ (by omega)]; exact b3 k hk⟩
theorem s_restore (a : Int32) : qSt B (f8_restore a) (f9_restore a) := by
  rintro m ⟨T, o, v, r, h1, h2, h3⟩
  have hT := h1.ok
  rcases y_slot a with ⟨e0, hc⟩ | ⟨s, hs, rfl, e1⟩
  · refine q_nothing ⟨T, o, v, r, h1, h2, h3⟩ (x := 0) ?_ ?_
    · unfold f8_restore
      rcases hc with c | c
      · rw [if_pos c]
      · by_cases c0 : a < 0
        · rw [if_pos c0]
        · rw [if_neg c0, if_neg c]
    · unfold f9_restore; rw [e0, if_pos rfl]
  have h3' := h3
  obtain ⟨⟨u, nx, hs', hU⟩, ⟨sf, ss, hS⟩, _, _⟩ := h3'
  have hb8 : f8_has (m.1 8 0 11) (nI s) = if sf s then 1 else 0 := by rw [y_has _ s (by omega), hS.1 s (by omega), decide_eq_true hs, Bool.true_and]
  cases hsf : sf s
  · refine q_nothing ⟨T, o, v, r, h1, h2, h3⟩ (x := 0) ?_ ?_
    · unfold f8_restore
      rw [if_neg (nI_pos (by omega)), if_pos (show nI s < 3 from nI_lt (b := 3) hs (by omega)), hb8, hsf, y_ff, if_pos rfl]
    · unfold f9_restore
      rw [e1, if_neg n01, if_pos (y_in hs (by omega)), y_cl (by omega), (hS.2 s hs).1, hsf, y_ff, if_pos rfl]
  obtain ⟨w1, w2, w3⟩ := (hS.2 s hs).2 hsf
  have a8 : zw (f8_restore (nI s) m) fun q => q.1 = 1 ∧ zk sD8 m q.2 ∧ qRep q.2 0 T (ss s) ∧ qU8 T 0 nx hs' q.2 := by
    unfold f8_restore f3_clear
    rw [if_neg (nI_pos (by omega)), if_pos (show nI s < 3 from nI_lt (b := 3) hs (by omega)), hb8, hsf, if_pos rfl, if_neg n01, if_pos (y_in hs (by omega)), y_cl (by omega)]
    simp only [z_let]
    obtain ⟨hc, hf⟩ := p5_copyFrom (o := 0) w2 hT
    generalize f5_copyFrom 0 (43 + s) m = m1 at *
    have hfb : zk (fun c i k => c = 3 ∧ k = 2) m1 (z_sI m1 3 0 2 0) := zk_s (zk_r m1) (by omega)
    refine zw_some.mpr ⟨rfl, zk_t (zk_s0 hf) (zk_m hfb (fun c i k h => by omega)), hc.zk hfb (fun k => by omega), hU.2.1, ?_, ?_, fun j hj => absurd hj (by omega)⟩
    · rw [hfb.1 3 0 1 (by omega), hf.1 3 0 1 (by omega)]; exact hU.2.2.1
    · show (z_sI m1 3 0 2 0).1 3 0 2 = nI 0
      rw [z_sI_1, if_pos ⟨rfl, rfl, rfl⟩]; rfl
  refine zw_mono a8 ?_
  rintro ⟨y, m2⟩ ⟨ey, hf, hr, h8⟩
  have hf' : zk sD8 m m2 := hf
  have a9 : zw (f9_restore (nI s) m2) fun q => q.1 = 1 ∧ zk sD9 m2 q.2 ∧ qMn q.2 (ss s) ∧ qU9 0 hs' q.2 := by
    unfold f9_restore
    have e164 : m2.1 164 0 s = 1 := by rw [hf'.1 164 0 s (by omega), (hS.2 s hs).1, hsf]; rfl
    rw [e1, if_neg n01, if_pos (y_in hs (by omega)), y_cl (by omega), e164, if_neg n01]
    refine zw_b (zw_for (Q := fun m4 => zk (fun c _ _ => c = 148) m2 m4 ∧ qMn m4 (ss s)) 34 (fun i m4 => zk (fun c _ _ => c = 148) m2 m4 ∧ ∀ x, x < i → m4.1 148 0 x = ss s x) (by omega) ⟨zk_r m2, fun x hx => absurd hx (by omega)⟩ ?_ ?_) ?_
    · rintro i m4 hi ⟨hf4, hq⟩
      have hlt : 34 * s + i < 102 := by omega
      unfold f9_restore_L5
      simp (disch := omega) only [z_u2, y_34, y_lt, hi, ↓reduceIte, pk_mul, nI_add, y_in, y_cl, z_let, y_s1]
      refine zw_some.mpr ⟨rfl, zk_s hf4 rfl, fun x hx => ?_⟩
      rw [z_sI_1]
      by_cases e : x = i
      · rw [if_pos ⟨rfl, rfl, e⟩, hf4.1 165 0 _ (by omega), hf'.1 165 0 _ (by omega), e]
        exact w3 i hi
      · rw [if_neg (fun q => e q.2.2)]; exact hq x (by omega)
    · rintro m4 hI
      unfold f9_restore_L5
      simp only [z_u2]
      rw [if_neg (show ¬ nI 34 < 34 by decide)]
      exact zw_some.mpr hI
    · rintro m4 ⟨hf4, hn4⟩
      simp only [z_let]
      have hfb : zk (fun c i k => c = 9 ∧ k = 55) m4 (z_sI m4 9 0 55 0) := zk_s (zk_r m4) (by omega)
      refine zw_some.mpr ⟨rfl, zk_t (zk_m hf4 (fun c i k h => by omega)) (zk_m hfb (fun c i k h => by omega)), hn4.zk hfb (fun k => by omega), ?_, fun j hj => absurd hj (by omega)⟩
      show (z_sI m4 9 0 55 0).1 9 0 55 = nI 0
      rw [z_sI_1, if_pos ⟨rfl, rfl, rfl⟩]; rfl
  refine zw_mono a9 ?_
  rintro ⟨y2, m3⟩ ⟨ey2, hf2, hn, h9⟩
  exact ⟨ey.trans ey2.symm, q_close h1 h3 (by omega) hf' hf2 (w1.mn (by omega)) hr hn (by omega) h8 h9 (fun j hj => absurd hj (by omega))⟩
end
