/-! STEPS: what each call does to the invariant -/
def qSt (B : Nat) (f8 f9 : zMem → Option (Int32 × zMem)) : Prop := ∀ m, qInv B m → zw (f8 m) fun q => zw (f9 q.2) fun q' => q.1 = q'.1 ∧ qInv (B + 40) q'.2
section
variable {T : qT} {o v B B' u nx : Nat} {r r' : Nat → Int32} {hs : Nat → Nat → Int32} {m m' m2 m3 : zMem}
theorem qI_R.mn (h : qI_R B T m) (hB : B ≤ B') : qI_R B' T m := by
  obtain ⟨⟨u, nx, hs, h1⟩, ⟨sf, ss, h2⟩, h3, h4⟩ := h
  refine ⟨⟨u, nx, hs, h1.1, h1.2.1, h1.2.2.1, h1.2.2.2.1, h1.2.2.2.2.1, fun j hj => ?_⟩, ⟨sf, ss, h2.1, fun s hs => ⟨(h2.2 s hs).1, fun hb => ?_⟩⟩, h3, h4⟩
  · obtain ⟨a1, a2, a3⟩ := h1.2.2.2.2.2 j hj
    exact ⟨a1.mn hB, a2, a3⟩
  · obtain ⟨a1, a2, a3⟩ := (h2.2 s hs).2 hb
    exact ⟨a1.mn hB, a2, a3⟩
theorem qI_N.mn (h : qI_N B T r m) (hB : B ≤ B') : qI_N B' T r m := ⟨h.1.mn hB, h.2⟩
theorem qInv.mn (h : qInv B m) (hB : B ≤ B') : qInv B' m := by
  obtain ⟨T, o, v, r, h1, h2, h3⟩ := h
  exact ⟨T, o, v, r, h1, h2.mn hB, h3.mn hB⟩
/-- a call that only asks -/
theorem q_ask {f8 f9 : zMem → Option (Int32 × zMem)} (h : ∀ T o v r, tOk T → ∃ x, qAn T o v B r f8 x ∧ qAn T o v B r f9 x) : qSt B f8 f9 := by
  rintro m ⟨T, o, v, r, h1, h2, h3⟩
  obtain ⟨x, a8, a9⟩ := h T o v r h1.ok
  refine zw_mono (a8 m h1 h2) ?_
  rintro ⟨y, m1⟩ ⟨ey, hf⟩
  have hf' : zk sQ m m1 := hf
  refine zw_mono (a9 m1 (q_T_q h1 hf') (q_N_q h2 hf')) ?_
  rintro ⟨y2, m2⟩ ⟨ey2, hf2⟩
  have hf2' : zk sQ m1 m2 := hf2
  exact ⟨ey.trans ey2.symm, T, o, v, r, q_T_q (q_T_q h1 hf') hf2', (q_N_q (q_N_q h2 hf') hf2').mn (by omega), ((h3.zk hf').zk hf2').mn (by omega)⟩
theorem q_askL {f8 f9 : zMem → Option (Int32 × zMem)} (h : ∀ T o v td te tf, tOk T → td ≤ 20 → ∃ x, qAl T o v td te tf f8 x ∧ qAl T o v td te tf f9 x) : qSt B f8 f9 := by
  rintro m ⟨T, o, v, r, h1, h2, h3⟩
  obtain ⟨td, te, tf, hl⟩ := h3.2.2.1
  obtain ⟨x, a8, a9⟩ := h T o v td te tf h1.ok hl.1
  refine zw_mono (a8 m h1 hl) ?_
  rintro ⟨y, m1⟩ ⟨ey, hf⟩
  have hf' : zk sQ m m1 := hf
  refine zw_mono (a9 m1 (q_T_q h1 hf') (q_L_q hl hf')) ?_
  rintro ⟨y2, m2⟩ ⟨ey2, hf2⟩
  have hf2' : zk sQ m1 m2 := hf2
  exact ⟨ey.trans ey2.symm, T, o, v, r, q_T_q (q_T_q h1 hf') hf2', (q_N_q (q_N_q h2 hf') hf2').mn (by omega), ((h3.zk hf').zk hf2').mn (by omega)⟩
theorem q_askP {f8 : zMem → Option Int32} {f9 : zMem → Option (Int32 × zMem)} (h : ∀ T o v r, tOk T → ∃ x, qAp T o v B r f8 x ∧ qAn T o v B r f9 x) : ∀ m, qInv B m → zw (f8 m) fun q => zw (f9 m) fun q' => q = q'.1 ∧ qInv (B + 40) q'.2 := by
  rintro m ⟨T, o, v, r, h1, h2, h3⟩
  obtain ⟨x, a8, a9⟩ := h T o v r h1.ok
  refine ⟨x, a8 m h1 h2, zw_mono (a9 m h1 h2) ?_⟩
  rintro ⟨y2, m2⟩ ⟨ey2, hf2⟩
  have hf2' : zk sQ m m2 := hf2
  exact ⟨ey2.symm, T, o, v, r, q_T_q h1 hf2', (q_N_q h2 hf2').mn (by omega), (h3.zk hf2').mn (by omega)⟩
/-- nothing happens -/
theorem q_nothing {f8 f9 : zMem → Option (Int32 × zMem)} {m : zMem} {x : Int32} (h : qInv B m) (e8 : f8 m = some (x, m)) (e9 : f9 m = some (x, m)) : zw (f8 m) fun q => zw (f9 q.2) fun q' => q.1 = q'.1 ∧ qInv (B + 40) q'.2 := by
  rw [e8]
  refine zw_some.mpr ?_
  rw [e9]
  exact zw_some.mpr ⟨rfl, h.mn (by omega)⟩
abbrev sD8 : Nat → Nat → Nat → Prop := fun c i k => ((c = 5 ∨ c = 22 ∨ c = 23 ∨ c = 24 ∨ c = 25) ∧ i < 43) ∨ (c = 3 ∧ (k = 1 ∨ k = 2)) ∨ (10 ≤ c ∧ c ≤ 14)
abbrev sD9 : Nat → Nat → Nat → Prop := fun c _ k => c = 145 ∨ c = 146 ∨ c = 149 ∨ (152 ≤ c ∧ c ≤ 154) ∨ c = 148 ∨ c = 156 ∨ (c = 9 ∧ (k = 47 ∨ k = 50 ∨ k = 51 ∨ k = 55))
/-- a thing is done: the invariant anew -/
theorem q_close (h1 : qI_T T o v m) (h3 : qI_R B T m) (hB : B ≤ B') {u' nx' : Nat} {hs' : Nat → Nat → Int32} (hf : zk sD8 m m2) (hf' : zk sD9 m2 m3) (hw : qRow T B' r') (hr : qRep m2 0 T r') (hn : qMn m3 r') (hu : u' ≤ 40) (h8 : qU8 T u' nx' hs' m2) (h9 : qU9 u' hs' m3) (hws : ∀ j, j < u' → qRow T B' (hs' j)) : qInv B' m3 := by
  obtain ⟨_, ⟨sf, ss, s2⟩, ⟨td, te, tf, l2⟩, n, p2⟩ := h3.mn hB
  have hb : nx' < 40 := h8.1
  refine ⟨T, o, v, r', (h1.zk hf (fun c i k h => by omega)).zk hf' (fun c i k h => by omega), ⟨hw, hr.zk hf' (fun k => by omega), hn⟩, ⟨u', nx', hs', q_U_mk hu ⟨h8.1, ?_, ?_, fun j hj => (h8.2.2.2 j hj).zk hf' (fun k => by omega)⟩ h9 hws⟩, ⟨sf, ss, (s2.zk hf (fun c i k h => by omega)).zk hf' (fun c i k h => by omega)⟩, ⟨td, te, tf, (l2.zk hf (fun c i k h => by omega)).zk hf' (fun c i k h => by omega)⟩, n, (p2.zk hf (fun c i k h => by omega)).zk hf' (fun c i k h => by omega)⟩
  · rw [hf'.1 3 0 1 (by omega)]; exact h8.2.1
  · rw [hf'.1 3 0 2 (by omega)]; exact h8.2.2.1
theorem q_hs_row (hw : qRow T B r) (hws : ∀ j, j < u → qRow T B (hs j)) (hu : u ≤ 40) : ∀ j, j < q_u1 u → qRow T B (q_hs r hs j) := fun j hj => by
  match j, hj with
  | 0, _ => exact hw
  | j + 1, hj => exact hws j (q_u1_lt hu hj).1
/-- one thing done, out of its two halves -/
theorem q_thing {f8 f9 : zMem → Option (Int32 × zMem)} (h1 : qI_T T o v m) (h2 : qI_N B T r m) (h3 : qI_R B T m) {x : Int32} (hw : qRow T (B + 40) r')
    (a8 : ∀ u nx hs, u ≤ 40 → qU8 T u nx hs m → zw (f8 m) fun q => q.1 = x ∧ zk sD8 m q.2 ∧ qRep q.2 0 T r' ∧ qU8 T (q_u1 u) ((nx + 1) % 40) (q_hs r hs) q.2)
    (a9 : ∀ m2 u hs, zk sD8 m m2 → u ≤ 40 → qI_T T o v m2 → qMn m2 r → qU9 u hs m2 → zw (f9 m2) fun q => q.1 = x ∧ zk sD9 m2 q.2 ∧ qMn q.2 r' ∧ qU9 (q_u1 u) (q_hs r hs) q.2) : zw (f8 m) fun q => zw (f9 q.2) fun q' => q.1 = q'.1 ∧ qInv (B + 40) q'.2 := by
  obtain ⟨u, nx, hs, hU⟩ := h3.1
  refine zw_mono (a8 u nx hs hU.1 hU.e8) ?_
  rintro ⟨y, m2⟩ ⟨ey, hf, hr, h8⟩
  have hf' : zk sD8 m m2 := hf
  have hT2 : qI_T T o v m2 := h1.zk hf' (fun c i k h => by omega)
  have hU9 : qU9 u hs m2 := ⟨by rw [hf'.1 9 0 55 (by omega)]; exact hU.e9.1, fun j hj k hk => by rw [hf'.1 156 0 _ (by omega)]; exact hU.e9.2 j hj k hk⟩
  refine zw_mono (a9 m2 u hs hf' hU.1 hT2 (h2.2.2.zk hf' (fun k => by omega)) hU9) ?_
  rintro ⟨y2, m3⟩ ⟨ey2, hf2, hn, h9⟩
  exact ⟨ey.trans ey2.symm, q_close h1 h3 (by omega) hf' hf2 hw hr hn (q_u1_le hU.1) h8 h9 (q_hs_row (h2.1.mn (by omega)) (fun j hj => (hU.2.2.2.2.2 j hj).1.mn (by omega)) hU.1)⟩
theorem zk_kp {m m' : zMem} {nx : Nat} (h : zk (sKp nx) m m') (hn : nx < 40) : zk sD8 m m' := zk_m h (fun c i k h => by omega)
theorem zk_s0 {m m' : zMem} (h : zk (sState 0) m m') : zk sD8 m m' := zk_m h (fun c i k h => by omega)
theorem qU8.zk {S : Nat → Nat → Nat → Prop} (h : qU8 T u nx hs m) (hf : zk S m m') (hs' : ∀ c i k, ((c = 3 ∧ (k = 1 ∨ k = 2)) ∨ (3 ≤ i ∧ i < 43 ∧ (c = 5 ∨ c = 22 ∨ c = 23 ∨ c = 24 ∨ c = 25))) → ¬ S c i k) : qU8 T u nx hs m' := by
  obtain ⟨h1, h2, h3, h4⟩ := h
  refine ⟨h1, by rw [hf.1 _ _ _ (hs' _ _ _ (by omega))]; exact h2, by rw [hf.1 _ _ _ (hs' _ _ _ (by omega))]; exact h3, fun j hj => ?_⟩
  have : (nx + 39 - j) % 40 < 40 := Nat.mod_lt _ (by omega)
  exact (h4 j hj).zk hf (fun k => ⟨hs' _ _ _ (by omega), hs' _ _ _ (by omega), hs' _ _ _ (by omega), hs' _ _ _ (by omega), hs' _ _ _ (by omega)⟩)
/-- the class's half of send, call, bury -/
theorem p8_turn {f : zMem → Option zMem} {p : Nat} {a : Int32} (h1 : qI_T T o v m) (h2 : qI_N B T r m) (hf : ∀ m', qRep m' 0 T r → zw (f m') fun m'' => qRep m'' 0 T (q_be r p a) ∧ zk (sState 0) m' m'') (hu : u ≤ 40) (hU : qU8 T u nx hs m) : zw ((f3_keep 0 m).bind (fun qm5 => (f qm5).bind (fun qm7 => some ((1 : Int32), qm7)))) fun q => q.1 = 1 ∧ zk sD8 m q.2 ∧ qRep q.2 0 T (q_be r p a) ∧ qU8 T (q_u1 u) ((nx + 1) % 40) (q_hs r hs) q.2 := by
  refine zw_b (p3_keep h1.ok hu hU h2.2.1) ?_
  rintro m1 ⟨hf1, hU1⟩
  refine zw_b (hf m1 (h2.2.1.zk hf1 (fun k => by omega))) ?_
  rintro m3 ⟨hr3, hf3⟩
  exact zw_some.mpr ⟨rfl, zk_t (zk_kp hf1 hU.1) (zk_s0 hf3), hr3, hU1.zk hf3 (fun c i k h => by omega)⟩
/-- the reference's half -/
theorem p9_turns (h1 : qI_T T o v m) (hn : qMn m r) {p : Nat} {a : Int32} (hp : p < 7) (hu : u ≤ 40) (hU : qU9 u hs m) : zw (f9_turns (nI p) a m) fun q => q.1 = 1 ∧ zk sD9 m q.2 ∧ qMn q.2 (q_be r p a) ∧ qU9 (q_u1 u) (q_hs r hs) q.2 := by
  unfold f9_turns
  refine zw_b (p9_copiesK h1.mx hn) ?_
  rintro m1 ⟨hf1, hr1, _⟩
  refine zw_b (p9_becomes hr1 hp a) ?_
  rintro m3 ⟨hf3, hr3⟩
  have hn3 : qMn m3 r := (hn.zk hf1 (fun k => by omega)).zk hf3 (fun k => by omega)
  have hU3 : qU9 u hs m3 := ⟨by rw [hf3.1 9 0 55 (by omega), hf1.1 9 0 55 (by omega)]; exact hU.1, fun j hj k hk => by rw [hf3.1 156 0 _ (by omega), hf1.1 156 0 _ (by omega)]; exact hU.2 j hj k hk⟩
  refine zw_b (p9_records hu hn3 hr3 hU3) ?_
  rintro m4 ⟨hf4, hn4, hU4⟩
  exact zw_some.mpr ⟨rfl, zk_t (zk_m hf1 (fun c i k h => by omega)) (zk_t (zk_m hf3 (fun c i k h => by omega)) (zk_m hf4 (fun c i k h => by omega))), hn4, hU4⟩
theorem s_send (a : Int32) : qSt B (f8_send a) (f9_send a) := by
  rintro m ⟨T, o, v, r, h1, h2, h3⟩
  have hT := h1.ok
  have hP := hT.2
  rcases y_is a (n := tP T) (by omega) with ha | ⟨p, hp, rfl⟩
  · refine q_nothing ⟨T, o, v, r, h1, h2, h3⟩ (x := 0) ?_ ?_
    · unfold f8_send; rw [p8_isPerson_n h1 ha, if_pos rfl]
    · unfold f9_send; rw [p9_isNow_n h1 ha]; rfl
  by_cases h0 : r p = 0
  · refine q_thing (x := 1) h1 h2 h3 (q_be_row (p := p) (a := 1) hT (h2.1.mn (by omega)) hp (by decide)) (fun u nx hs hu hU => ?_) (fun m2 u hs hf hu hT2 hn2 hU => ?_)
    · unfold f8_send
      rw [p8_isPerson_y h1 hp, if_neg n01, p8_hasH hT h2 hp, if_pos h0, if_neg n01]
      exact p8_turn h1 h2 (fun m' hr' => p5_goAwayR hT hr' hp (by rw [h0]; decide)) hu hU
    · unfold f9_send f9_isNow
      rw [p9_isPerson_y hT2 hp, Option.bind_some, if_neg n01, if_pos (y_in (by omega) (by omega)), y_cl (by omega), hn2 p (by omega), if_pos h0, Option.bind_some, if_neg n01]
      refine zw_b (p9_turns hT2 hn2 (show p < 7 by omega) hu hU) ?_
      rintro ⟨y, m3⟩ ⟨ey, hq⟩
      have ey' : y = 1 := ey
      simp only [z_u2]
      rw [ey', if_neg n01]
      exact zw_some.mpr ⟨rfl, hq⟩
  · refine q_nothing ⟨T, o, v, r, h1, h2, h3⟩ (x := 0) ?_ ?_
    · unfold f8_send; rw [p8_isPerson_y h1 hp, if_neg n01, p8_hasH hT h2 hp, if_neg h0, if_pos rfl]
    · unfold f9_send; rw [p9_isNow_y h1 h2 hp, if_neg h0]; rfl
theorem s_call (a : Int32) : qSt B (f8_call a) (f9_call a) := by
  rintro m ⟨T, o, v, r, h1, h2, h3⟩
  have hT := h1.ok
  have hP := hT.2
  rcases y_is a (n := tP T) (by omega) with ha | ⟨p, hp, rfl⟩
  · refine q_nothing ⟨T, o, v, r, h1, h2, h3⟩ (x := 0) ?_ ?_
    · unfold f8_call; rw [p8_isPerson_n h1 ha, if_pos rfl]
    · unfold f9_call; rw [p9_isNow_n h1 ha]; rfl
  by_cases h0 : r p = 1
  · refine q_thing (x := 1) h1 h2 h3 (q_be_row (p := p) (a := 0) hT (h2.1.mn (by omega)) hp (by decide)) (fun u nx hs hu hU => ?_) (fun m2 u hs hf hu hT2 hn2 hU => ?_)
    · unfold f8_call
      rw [p8_isPerson_y h1 hp, if_neg n01, p8_hasA hT h2 hp, if_pos h0, if_neg n01]
      exact p8_turn h1 h2 (fun m' hr' => p5_comeHomeR hT hr' hp (by rw [h0]; decide)) hu hU
    · unfold f9_call f9_isNow
      rw [p9_isPerson_y hT2 hp, Option.bind_some, if_neg n01, if_pos (y_in (by omega) (by omega)), y_cl (by omega), hn2 p (by omega), if_pos h0, Option.bind_some, if_neg n01]
      refine zw_b (p9_turns hT2 hn2 (show p < 7 by omega) hu hU) ?_
      rintro ⟨y, m3⟩ ⟨ey, hq⟩
      have ey' : y = 1 := ey
      simp only [z_u2]
      rw [ey', if_neg n01]
      exact zw_some.mpr ⟨rfl, hq⟩
  · refine q_nothing ⟨T, o, v, r, h1, h2, h3⟩ (x := 0) ?_ ?_
    · unfold f8_call; rw [p8_isPerson_y h1 hp, if_neg n01, p8_hasA hT h2 hp, if_neg h0, if_pos rfl]
    · unfold f9_call; rw [p9_isNow_y h1 h2 hp, if_neg h0]; rfl
theorem s_bury (a : Int32) : qSt B (f8_bury a) (f9_bury a) := by
  rintro m ⟨T, o, v, r, h1, h2, h3⟩
  have hT := h1.ok
  have hP := hT.2
  rcases y_is a (n := tP T) (by omega) with ha | ⟨p, hp, rfl⟩
  · refine q_nothing ⟨T, o, v, r, h1, h2, h3⟩ (x := 0) ?_ ?_
    · unfold f8_bury; rw [p8_isPerson_n h1 ha, if_pos rfl]
    · unfold f9_bury; rw [p9_isPerson_n h1 ha]; rfl
  by_cases h0 : r p = 2
  · refine q_nothing ⟨T, o, v, r, h1, h2, h3⟩ (x := 0) ?_ ?_
    · unfold f8_bury; rw [p8_isPerson_y h1 hp, if_neg n01, p8_hasL hT h1 h2 hp, if_pos h0, if_pos rfl]
    · unfold f9_bury; rw [p9_isPerson_y h1 hp, Option.bind_some, if_neg n01, if_pos (y_in (by omega) (by omega)), y_cl (by omega), h2.2.2 p (by omega), if_pos h0]
  · refine q_thing (x := 1) h1 h2 h3 (q_be_row (p := p) (a := 2) hT (h2.1.mn (by omega)) hp (by decide)) (fun u nx hs hu hU => ?_) (fun m2 u hs hf hu hT2 hn2 hU => ?_)
    · unfold f8_bury
      rw [p8_isPerson_y h1 hp, if_neg n01, p8_hasL hT h1 h2 hp, if_neg h0, if_neg n01]
      exact p8_turn h1 h2 (fun m' hr' => p5_dieR hT hr' hp h0) hu hU
    · unfold f9_bury
      rw [p9_isPerson_y hT2 hp, Option.bind_some, if_neg n01, if_pos (y_in (by omega) (by omega)), y_cl (by omega), hn2 p (by omega), if_neg h0]
      refine zw_b (p9_turns hT2 hn2 (show p < 7 by omega) hu hU) ?_
      rintro ⟨y, m3⟩ ⟨ey, hq⟩
      have ey' : y = 1 := ey
      simp only [z_u2]
      rw [ey', if_neg n01]
      exact zw_some.mpr ⟨rfl, hq⟩
theorem s_years (hB : B < 900000) (a : Int32) : qSt B (f8_years a) (f9_years a) := by
  rintro m ⟨T, o, v, r, h1, h2, h3⟩
  have hT := h1.ok
  rcases y_long a with ⟨e8, e9⟩ | ⟨e8, e9, n, hn, rfl⟩
  · refine q_nothing ⟨T, o, v, r, h1, h2, h3⟩ (x := -1) ?_ ?_
    · unfold f8_years; rw [e8, if_pos rfl]
    · unfold f9_years; rw [e9]; rfl
  by_cases n0 : n = 0
  · subst n0
    refine q_nothing ⟨T, o, v, r, h1, h2, h3⟩ (x := r 33) ?_ ?_
    · unfold f8_years; rw [e8, if_neg n01, if_neg (by decide), h2.2.1.1]
    · unfold f9_years; rw [e9, Option.bind_some, if_neg n01, if_pos (show nI 0 = 0 from rfl), show (33 : Int32).toNatClampNeg = 33 from rfl, h2.2.2 33 (by omega)]
  have hw := q_ys_row (st := false) (sd := tS T) (n := n) hT h2.1
  refine q_thing (x := q_ys T false (tS T) n r 33) h1 h2 h3 (hw.mn (by omega)) (fun u nx hs hu hU => ?_) (fun m2 u hs hf hu hT2 hn2 hU => ?_)
  · unfold f8_years
    rw [e8, if_neg n01, if_pos (show (0 : Int32) < nI n from nI_lt (a := 0) (by omega) (by omega))]
    refine zw_b (p3_keep hT hu hU h2.2.1) ?_
    rintro m1 ⟨hf1, hU1⟩
    have hT1 : qI_T T o v m1 := h1.zk hf1 (fun c i k h => by omega)
    rw [hT1.ox, hT1.tx.2.2.1]
    refine zw_b (p0_goOn (h2.2.1.zk hf1 (fun k => by omega)) h2.1 hT h1.lw hT1.tx hT1.cl hn) ?_
    rintro m3 ⟨hr3, hf3⟩
    have hnx := hU.1
    exact zw_some.mpr ⟨hr3.1, zk_t (zk_kp hf1 hU.1) (zk_m hf3 (fun c i k h => by omega)), hr3, hU1.zk hf3 (fun c i k h => by omega)⟩
  · unfold f9_years
    rw [e9, Option.bind_some, if_neg n01, if_neg (by rw [y_eq0 (by omega)]; exact n0)]
    refine zw_b (p9_copiesK hT2.mx hn2) ?_
    rintro m1 ⟨hf1, hr1, hs1⟩
    have hT1 : qI_T T o v m1 := hT2.zk hf1 (fun c i k h => by omega)
    refine zw_b (p9_goes hT1.mx hT hT1.lw hT1.ml hr1 h2.1 hs1 hn) ?_
    rintro m3 ⟨hf3, hr3⟩
    have hn3 : qMn m3 r := (hn2.zk hf1 (fun k => by omega)).zk hf3 (fun k => by omega)
    have hU3 : qU9 u hs m3 := ⟨by rw [hf3.1 9 0 55 (by omega), hf1.1 9 0 55 (by omega)]; exact hU.1, fun j hj k hk => by rw [hf3.1 156 0 _ (by omega), hf1.1 156 0 _ (by omega)]; exact hU.2 j hj k hk⟩
    refine zw_b (p9_records hu hn3 hr3 hU3) ?_
    rintro m4 ⟨hf4, hn4, hU4⟩
    exact zw_some.mpr ⟨hn4 33 (by omega), zk_t (zk_m hf1 (fun c i k h => by omega)) (zk_t (zk_m hf3 (fun c i k h => by omega)) (zk_m hf4 (fun c i k h => by omega))), hn4, hU4⟩
end
