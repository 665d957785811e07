/-! STEPS IV: tell, forget, feed, back -/
section
variable {T : qT} {o v B B' u nx : Nat} {r r' : Nat → Int32} {hs : Nat → Nat → Int32} {m m' m2 m3 : zMem}
abbrev sL8 : Nat → Nat → Nat → Prop := fun c _ k => c = 15 ∨ c = 16 ∨ (c = 2 ∧ k = 2)
abbrev sL9 : Nat → Nat → Nat → Prop := fun c _ k => c = 159 ∨ c = 160 ∨ (c = 9 ∧ k = 58)
/-- only what is told changes -/
theorem q_closeL (h1 : qI_T T o v m) (h2 : qI_N B T r m) (h3 : qI_R B T m) (hB : B ≤ B') {td : Nat} {te tf : Nat → Nat} (hf : zk sL8 m m2) (hf' : zk sL9 m2 m3) (hl : qI_L T td te tf m3) : qInv B' m3 := by
  obtain ⟨⟨u, nx, hs, hU⟩, ⟨sf, ss, s2⟩, _, n, p2⟩ := h3.mn hB
  exact ⟨T, o, v, r, (h1.zk hf (fun c i k h => by omega)).zk hf' (fun c i k h => by omega), ((h2.mn hB).zk hf (fun c k h => by omega)).zk hf' (fun c k h => by omega), ⟨u, nx, hs, (hU.zk hf (fun c i k h => by omega)).zk hf' (fun c i k h => by omega)⟩, ⟨sf, ss, (s2.zk hf (fun c i k h => by omega)).zk hf' (fun c i k h => by omega)⟩, ⟨td, te, tf, hl⟩, n, (p2.zk hf (fun c i k h => by omega)).zk hf' (fun c i k h => by omega)⟩
def q_te (te : Nat → Nat) (td p : Nat) (i : Nat) : Nat := if i = td then p else te i
theorem s_tell (a b : Int32) : qSt B (f8_tell a b) (f9_tell a b) := by
  rintro m ⟨T, o, v, r, h1, h2, h3⟩
  have hT := h1.ok
  have hP := hT.2
  have h3' := h3
  obtain ⟨_, _, ⟨td, te, tf, hL⟩, _⟩ := h3'
  have htd := hL.1
  have full : ∀ (hx : td = 20), f9_tell a b m = some (-1, m) := fun hx => by
    unfold f9_tell
    rw [hL.2.2.1, hx, if_pos (show nI 20 = 20 from rfl)]
  have nf : td ≠ 20 → ¬ m.1 9 0 58 = 20 := fun hx q => hx (by rw [hL.2.2.1] at q; exact (nI_eq (b := 20) (by omega) (by omega)).mp q)
  rcases y_is a (n := tP T) (by omega) with ha | ⟨p, hp, rfl⟩
  · refine q_nothing ⟨T, o, v, r, h1, h2, h3⟩ (x := -1) ?_ ?_
    · unfold f8_tell; rw [p8_isPerson_n h1 ha, if_pos rfl]
    · by_cases hx : td = 20
      · exact full hx
      · unfold f9_tell; rw [if_neg (nf hx), p9_isPerson_n h1 ha]; rfl
  rcases y_is b (n := tP T) (by omega) with hb | ⟨s, hs, rfl⟩
  · refine q_nothing ⟨T, o, v, r, h1, h2, h3⟩ (x := -1) ?_ ?_
    · unfold f8_tell; rw [p8_isPerson_y h1 hp, if_neg n01, p8_isPerson_n h1 hb, if_pos rfl]
    · by_cases hx : td = 20
      · exact full hx
      · unfold f9_tell; rw [if_neg (nf hx), p9_isPerson_y h1 hp, Option.bind_some, if_neg n01, p9_isPerson_n h1 hb]; rfl
  by_cases e : nI p = nI s
  · refine q_nothing ⟨T, o, v, r, h1, h2, h3⟩ (x := -1) ?_ ?_
    · unfold f8_tell; rw [p8_isPerson_y h1 hp, if_neg n01, p8_isPerson_y h1 hs, if_neg n01, if_pos e]
    · by_cases hx : td = 20
      · exact full hx
      · unfold f9_tell; rw [if_neg (nf hx), p9_isPerson_y h1 hp, Option.bind_some, if_neg n01, p9_isPerson_y h1 hs, Option.bind_some, if_neg n01, if_pos e]
  by_cases hx : td = 20
  · refine q_nothing ⟨T, o, v, r, h1, h2, h3⟩ (x := -1) ?_ (full hx)
    unfold f8_tell f2_add
    rw [p8_isPerson_y h1 hp, if_neg n01, p8_isPerson_y h1 hs, if_neg n01, if_neg e, hL.2.1, hx, if_neg (show ¬ nI 20 < 20 by decide)]
    rfl
  have htd' : td < 20 := by omega
  have a8 : zw (f8_tell (nI p) (nI s) m) fun q => q.1 = nI td ∧ zk sL8 m q.2 ∧ q.2.1 2 0 2 = nI (td + 1) ∧ (∀ i, i < td + 1 → q.2.1 15 0 i = nI (q_te te td p i) ∧ q.2.1 16 0 i = nI (q_te tf td s i)) := by
    unfold f8_tell f2_add
    rw [p8_isPerson_y h1 hp, if_neg n01, p8_isPerson_y h1 hs, if_neg n01, if_neg e, hL.2.1, if_pos (show nI td < 20 from nI_lt (b := 20) htd' (by omega)), if_pos (y_in htd' (by omega)), y_cl (by omega)]
    simp only [z_let]
    have g1 : (z_sI m 15 0 td (nI p)).1 2 0 2 = nI td := by rw [z_sI_1, if_neg (by omega)]; exact hL.2.1
    rw [g1, if_pos (y_in htd' (by omega)), y_cl (by omega)]
    have g2 : (z_sI (z_sI m 15 0 td (nI p)) 16 0 td (nI s)).1 2 0 2 = nI td := by rw [z_sI_1, if_neg (by omega)]; exact g1
    rw [g2, y_s1]
    have g3 : (z_sI (z_sI (z_sI m 15 0 td (nI p)) 16 0 td (nI s)) 2 0 2 (nI (td + 1))).1 2 0 2 = nI (td + 1) := by rw [z_sI_1, if_pos ⟨rfl, rfl, rfl⟩]
    rw [g3, nI_pred, Option.bind_some]
    refine zw_some.mpr ⟨rfl, zk_s (zk_s (zk_s (zk_r m) (by omega)) (by omega)) (by omega), g3, fun i hi => ⟨?_, ?_⟩⟩
    · show (z_sI (z_sI (z_sI m 15 0 td (nI p)) 16 0 td (nI s)) 2 0 2 (nI (td + 1))).1 15 0 i = _
      rw [z_sI_1, if_neg (by omega), z_sI_1, if_neg (by omega), z_sI_1]
      unfold q_te
      by_cases c : i = td
      · rw [if_pos ⟨rfl, rfl, c⟩, if_pos c]
      · rw [if_neg (fun q => c q.2.2), if_neg c]; exact (hL.2.2.2 i (by omega)).2.2.2.1
    · show (z_sI (z_sI (z_sI m 15 0 td (nI p)) 16 0 td (nI s)) 2 0 2 (nI (td + 1))).1 16 0 i = _
      rw [z_sI_1, if_neg (by omega), z_sI_1]
      unfold q_te
      by_cases c : i = td
      · rw [if_pos ⟨rfl, rfl, c⟩, if_pos c]
      · rw [if_neg (fun q => c q.2.2), if_neg c, z_sI_1, if_neg (by omega)]; exact (hL.2.2.2 i (by omega)).2.2.2.2.1
  refine zw_mono a8 ?_
  rintro ⟨y, m2⟩ ⟨ey, hf, e2, hI⟩
  have ey' : y = nI td := ey
  have hf' : zk sL8 m m2 := hf
  have e2' : m2.1 2 0 2 = nI (td + 1) := e2
  have hI' : ∀ i, i < td + 1 → m2.1 15 0 i = nI (q_te te td p i) ∧ m2.1 16 0 i = nI (q_te tf td s i) := hI
  have hT2 : qI_T T o v m2 := h1.zk hf' (fun c i k h => by omega)
  have e58 : m2.1 9 0 58 = nI td := by rw [hf'.1 9 0 58 (by omega)]; exact hL.2.2.1
  show zw (f9_tell (nI p) (nI s) m2) _
  unfold f9_tell
  rw [e58, if_neg (show ¬ nI td = 20 from fun q => hx ((nI_eq (b := 20) (by omega) (by omega)).mp q)), p9_isPerson_y hT2 hp, Option.bind_some, if_neg n01, p9_isPerson_y hT2 hs, Option.bind_some, if_neg n01, if_neg e, if_pos (y_in htd' (by omega)), y_cl (by omega)]
  simp only [z_let]
  have g1 : (z_sI m2 159 0 td (nI p)).1 9 0 58 = nI td := by rw [z_sI_1, if_neg (by omega)]; exact e58
  rw [g1, if_pos (y_in htd' (by omega)), y_cl (by omega)]
  have g2 : (z_sI (z_sI m2 159 0 td (nI p)) 160 0 td (nI s)).1 9 0 58 = nI td := by rw [z_sI_1, if_neg (by omega)]; exact g1
  rw [g2, y_s1]
  have g3 : (z_sI (z_sI (z_sI m2 159 0 td (nI p)) 160 0 td (nI s)) 9 0 58 (nI (td + 1))).1 9 0 58 = nI (td + 1) := by rw [z_sI_1, if_pos ⟨rfl, rfl, rfl⟩]
  rw [g3, nI_pred]
  have hf3 : zk sL9 m2 (z_sI (z_sI (z_sI m2 159 0 td (nI p)) 160 0 td (nI s)) 9 0 58 (nI (td + 1))) := zk_s (zk_s (zk_s (zk_r m2) (by omega)) (by omega)) (by omega)
  refine zw_some.mpr ⟨ey', q_closeL (td := td + 1) (te := q_te te td p) (tf := q_te tf td s) h1 h2 h3 (by omega) hf' hf3 ⟨by omega, by rw [hf3.1 2 0 2 (by omega)]; exact e2', g3, fun i hi => ?_⟩⟩
  have hne : p ≠ s := fun q => e (by rw [q])
  refine ⟨?_, ?_, ?_, by rw [hf3.1 15 0 i (by omega)]; exact (hI' i hi).1, by rw [hf3.1 16 0 i (by omega)]; exact (hI' i hi).2, ?_, ?_⟩
  · unfold q_te
    by_cases c : i = td
    · rw [if_pos c]; exact hp
    · rw [if_neg c]; exact (hL.2.2.2 i (by omega)).1
  · unfold q_te
    by_cases c : i = td
    · rw [if_pos c]; exact hs
    · rw [if_neg c]; exact (hL.2.2.2 i (by omega)).2.1
  · unfold q_te
    by_cases c : i = td
    · rw [if_pos c, if_pos c]; exact hne
    · rw [if_neg c, if_neg c]; exact (hL.2.2.2 i (by omega)).2.2.1
  · rw [z_sI_1, if_neg (by omega), z_sI_1, if_neg (by omega), z_sI_1]
    unfold q_te
    by_cases c : i = td
    · rw [if_pos ⟨rfl, rfl, c⟩, if_pos c]
    · rw [if_neg (fun q => c q.2.2), if_neg c, hf'.1 159 0 i (by omega)]; exact (hL.2.2.2 i (by omega)).2.2.2.2.2.1
  · rw [z_sI_1, if_neg (by omega), z_sI_1]
    unfold q_te
    by_cases c : i = td
    · rw [if_pos ⟨rfl, rfl, c⟩, if_pos c]
    · rw [if_neg (fun q => c q.2.2), if_neg c, z_sI_1, if_neg (by omega), hf'.1 160 0 i (by omega)]; exact (hL.2.2.2 i (by omega)).2.2.2.2.2.2
theorem s_forget (h : qInv B m) : (f8_forget m).1 = (f9_forget (f8_forget m).2).1 ∧ qInv (B + 40) (f9_forget (f8_forget m).2).2 := by
  obtain ⟨T, o, v, r, h1, h2, h3⟩ := h
  have h3' := h3
  obtain ⟨_, _, ⟨td, te, tf, hL⟩, _⟩ := h3'
  unfold f8_forget f9_forget f2_clear
  simp only [z_let]
  have hf : zk sL8 m (z_sI m 2 0 2 0) := zk_s (zk_r m) (by omega)
  have g : (z_sI m 2 0 2 0).1 9 0 58 = nI td := by rw [z_sI_1, if_neg (by omega)]; exact hL.2.2.1
  have hf' : zk sL9 (z_sI m 2 0 2 0) (z_sI (z_sI m 2 0 2 0) 9 0 58 0) := zk_s (zk_r _) (by omega)
  refine ⟨by rw [g]; exact hL.2.1, q_closeL (td := 0) (te := te) (tf := tf) h1 h2 h3 (by omega) hf hf' ⟨by omega, ?_, ?_, fun i hi => absurd hi (by omega)⟩⟩
  · rw [z_sI_1, if_neg (by omega), z_sI_1, if_pos ⟨rfl, rfl, rfl⟩]; rfl
  · rw [z_sI_1, if_pos ⟨rfl, rfl, rfl⟩]; rfl
end
