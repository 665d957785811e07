/-! THINGS DONE: keep and records, send, call, bury, give, years -/
section
variable {T : qT} {o v B u nx : Nat} {r r' : Nat → Int32} {hs : Nat → Nat → Int32} {m m' : zMem}
theorem qRow.mn {B B' : Nat} {q : Nat → Int32} (h : qRow T B q) (hB : B ≤ B') : qRow T B' q := by
  obtain ⟨w1, w2, w3, w4, w5, w6, w7⟩ := h
  refine ⟨w1, w2, w3, fun k hk => ?_, ?_, w6, w7⟩
  · obtain ⟨g, hg, e⟩ := w4 k hk
    exact ⟨g, by omega, e⟩
  · obtain ⟨y, hy, e⟩ := w5
    exact ⟨y, by omega, e⟩
def qU8 (T : qT) (u nx : Nat) (hs : Nat → Nat → Int32) (m : zMem) : Prop := nx < 40 ∧ m.1 3 0 1 = nI nx ∧ m.1 3 0 2 = nI u ∧ ∀ j, j < u → qRep m (3 + (nx + 39 - j) % 40) T (hs j)
def qU9 (u : Nat) (hs : Nat → Nat → Int32) (m : zMem) : Prop := m.1 9 0 55 = nI u ∧ ∀ j, j < u → ∀ k, k < 34 → m.1 156 0 (34 * (u - 1 - j) + k) = hs j k
theorem qI_U.e8 (h : qI_U B T u nx hs m) : qU8 T u nx hs m := ⟨h.2.1, h.2.2.1, h.2.2.2.1, fun j hj => (h.2.2.2.2.2 j hj).2.1⟩
theorem qI_U.e9 (h : qI_U B T u nx hs m) : qU9 u hs m := ⟨h.2.2.2.2.1, fun j hj => (h.2.2.2.2.2 j hj).2.2⟩
theorem q_U_mk (hu : u ≤ 40) (h8 : qU8 T u nx hs m) (h9 : qU9 u hs m) (hw : ∀ j, j < u → qRow T B (hs j)) : qI_U B T u nx hs m := ⟨hu, h8.1, h8.2.1, h8.2.2.1, h9.1, fun j hj => ⟨hw j hj, h8.2.2.2 j hj, h9.2 j hj⟩⟩
def q_hs (r : Nat → Int32) (hs : Nat → Nat → Int32) : Nat → Nat → Int32 := fun j => match j with
  | 0 => r
  | j + 1 => hs j
def q_u1 (u : Nat) : Nat := if u < 40 then u + 1 else 40
theorem q_u1_le (hu : u ≤ 40) : q_u1 u ≤ 40 := by
  unfold q_u1
  by_cases c : u < 40
  · rw [if_pos c]; omega
  · rw [if_neg c]; omega
theorem q_u1_lt {j : Nat} (hu : u ≤ 40) (h : j + 1 < q_u1 u) : j < u ∧ j < 39 := by
  unfold q_u1 at h
  by_cases c : u < 40
  · rw [if_pos c] at h; omega
  · rw [if_neg c] at h; omega
abbrev sKp (nx : Nat) : Nat → Nat → Nat → Prop := fun c i k => ((c = 5 ∨ c = 22 ∨ c = 23 ∨ c = 24 ∨ c = 25) ∧ i = 3 + nx) ∨ (c = 3 ∧ (k = 1 ∨ k = 2))
theorem p3_keep (hT : tOk T) (hu : u ≤ 40) (h : qU8 T u nx hs m) (hr : qRep m 0 T r) : zw (f3_keep 0 m) fun m' => zk (sKp nx) m m' ∧ qU8 T (q_u1 u) ((nx + 1) % 40) (q_hs r hs) m' := by
  obtain ⟨h1, h2, h3, h4⟩ := h
  unfold f3_keep
  rw [h2, if_pos (y_in h1 (by omega)), y_cl (by omega)]
  simp only [z_let]
  obtain ⟨hc, hf⟩ := p5_copyFrom (o := 3 + nx) hr hT
  generalize f5_copyFrom (3 + nx) 0 m = m1 at *
  have e1 : m1.1 3 0 1 = nI nx := by rw [hf.1 3 0 1 (by omega)]; exact h2
  have e2 : m1.1 3 0 2 = nI u := by rw [hf.1 3 0 2 (by omega)]; exact h3
  have er : (nI nx + 1) - (nI nx + 1) / 40 * 40 = nI ((nx + 1) % 40) := by
    rw [y_s1, show (40 : Int32) = nI 40 from rfl]
    exact pk_rem (by omega) (by omega) (by omega)
  rw [e1, er]
  have e3 : (z_sI m1 3 0 1 (nI ((nx + 1) % 40))).1 3 0 2 = nI u := by rw [z_sI_1, if_neg (by omega)]; exact e2
  have em : fj9_min_7cf53 (nI u + 1) 40 = nI (q_u1 u) := by
    unfold fj9_min_7cf53 q_u1
    rw [y_s1]
    by_cases c : u < 40
    · rw [if_pos c]
      by_cases c2 : u + 1 = 40
      · rw [c2]; rfl
      · exact if_neg (nI_nlt (b := u + 1) (a := 40) (by omega) (by omega))
    · rw [if_neg c]; exact if_pos (nI_lt (a := 40) (b := u + 1) (by omega) (by omega))
  rw [e3, em]
  have hm : ∀ x, zk (fun c i k => c = 3 ∧ (k = 1 ∨ k = 2)) m1 x → ∀ i q, qRep m1 i T q → qRep x i T q := fun x hx i q hq => hq.zk hx (fun k => by omega)
  have hx : zk (fun c i k => c = 3 ∧ (k = 1 ∨ k = 2)) m1 (z_sI (z_sI m1 3 0 1 (nI ((nx + 1) % 40))) 3 0 2 (nI (q_u1 u))) := zk_s (zk_s (zk_r m1) (by omega)) (by omega)
  refine zw_some.mpr ⟨zk_t (zk_m hf (fun c i k h => by omega)) (zk_m hx (fun c i k h => by omega)), Nat.mod_lt _ (by omega), ?_, ?_, fun j hj => ?_⟩
  · rw [z_sI_1, if_neg (by omega), z_sI_1, if_pos ⟨rfl, rfl, rfl⟩]
  · rw [z_sI_1, if_pos ⟨rfl, rfl, rfl⟩]
  · refine hm _ hx _ _ ?_
    match j, hj with
    | 0, hj =>
      show qRep m1 (3 + ((nx + 1) % 40 + 39 - 0) % 40) T r
      rw [show 3 + ((nx + 1) % 40 + 39 - 0) % 40 = 3 + nx by omega]
      exact hc
    | j + 1, hj =>
      obtain ⟨a1, a2⟩ := q_u1_lt hu hj
      show qRep m1 (3 + ((nx + 1) % 40 + 39 - (j + 1)) % 40) T (hs j)
      rw [show 3 + ((nx + 1) % 40 + 39 - (j + 1)) % 40 = 3 + (nx + 39 - j) % 40 by omega]
      exact (h4 j a1).zk hf (fun k => by omega)
abbrev sRc : Nat → Nat → Nat → Prop := fun c _ k => c = 148 ∨ c = 156 ∨ (c = 9 ∧ k = 55)
theorem p9_keepsRow (hr : qMr m r') : zw (f9_keepsRow m) fun m' => zk (fun c _ _ => c = 148) m m' ∧ qMn m' r' := by
  unfold f9_keepsRow
  refine zw_eq (z_fill (N := 34) (N' := 34) (c := 148) (i := 0) (v := fun m x => m.1 149 0 x.toNatClampNeg) (fun k => m.1 149 0 k) (fun x m => rfl) (fun f k hk => ?_) (Nat.le_refl _) (by omega) (by decide)) ?_
  · show (z_uI m 148 0 f).1 149 0 (nI k).toNatClampNeg = m.1 149 0 k
    rw [z_uI_ne (by omega), y_cl (by omega)]
  · refine zw_some.mpr ⟨zk_u (zk_r m) (fun k => rfl), fun k hk => ?_⟩
    rw [z_uI_1j, if_pos ⟨rfl, rfl⟩]
    show (if k < 34 then _ else _) = _
    rw [if_pos hk]
    exact hr k hk
theorem p9_records (hu : u ≤ 40) (hn : qMn m r) (hr : qMr m r') (h : qU9 u hs m) : zw (f9_records m) fun m' => zk sRc m m' ∧ qMn m' r' ∧ qU9 (q_u1 u) (q_hs r hs) m' := by
  obtain ⟨h1, h2⟩ := h
  unfold f9_records
  -- room is made
  have st1 : zw (if (m.1 9 0 55) = (40 : Int32) then (z_it (f9_records_L4) z_fu ((0 : Int32), m)).bind (fun e12 => z_let (z_sI e12 9 0 55 ((e12.1 9 0 55) - (1 : Int32))) fun m14 => some m14) else some m) fun m1 => zk sRc m m1 ∧ qMn m1 r ∧ m1.1 9 0 55 = nI (q_u1 u - 1) ∧ ∀ j, j + 1 < q_u1 u → ∀ k, k < 34 → m1.1 156 0 (34 * (q_u1 u - 1 - (j + 1)) + k) = hs j k := by
    rw [h1]
    by_cases c : u = 40
    · subst c
      rw [if_pos (show nI 40 = 40 from rfl)]
      refine zw_b (zw_for (Q := fun m1 => zk sRc m m1 ∧ m1.1 9 0 55 = nI 40 ∧ qMn m1 r ∧ ∀ x, x < 1326 → m1.1 156 0 x = m.1 156 0 (x + 34)) 1326 (fun i m1 => zk sRc m m1 ∧ m1.1 9 0 55 = nI 40 ∧ qMn m1 r ∧ (∀ x, x < i → m1.1 156 0 x = m.1 156 0 (x + 34)) ∧ ∀ x, i ≤ x → m1.1 156 0 x = m.1 156 0 x) (by omega) ⟨zk_r m, h1, hn, fun x hx => absurd hx (by omega), fun x _ => rfl⟩ ?_ ?_) ?_
      · rintro i m1 hi ⟨hf, h55, hn1, ha, hb⟩
        unfold f9_records_L4
        have e34 : nI i + (34 : Int32) = nI (i + 34) := nI_add i 34
        simp (disch := omega) only [z_u2, show (1326 : Int32) = nI 1326 from rfl, y_lt, hi, ↓reduceIte, e34, y_in, y_cl, z_let, y_s1]
        refine zw_some.mpr ⟨rfl, zk_s hf (by omega), by rw [z_sI_1, if_neg (by omega)]; exact h55, fun k hk => by rw [z_sI_1, if_neg (by omega)]; exact hn1 k hk, fun x hx => ?_, fun x hx => ?_⟩
        · rw [z_sI_1]
          by_cases e : x = i
          · rw [if_pos ⟨rfl, rfl, e⟩, hb _ (by omega), e]
          · rw [if_neg (fun q => e q.2.2)]; exact ha x (by omega)
        · rw [z_sI_1, if_neg (by omega)]; exact hb x (by omega)
      · rintro m1 ⟨hf, h55, hn1, ha, hb⟩
        unfold f9_records_L4
        simp only [z_u2]
        rw [if_neg (show ¬ nI 1326 < 1326 by decide)]
        exact zw_some.mpr ⟨hf, h55, hn1, ha⟩
      · rintro m1 ⟨hf, h55, hn1, ha⟩
        simp only [z_let]
        refine zw_some.mpr ⟨zk_s hf (by omega), fun k hk => by rw [z_sI_1, if_neg (by omega)]; exact hn1 k hk, ?_, fun j hj k hk => ?_⟩
        · rw [z_sI_1, if_pos ⟨rfl, rfl, rfl⟩, h55]; rfl
        · have hj' : j + 1 < 40 := hj
          show (z_sI m1 9 0 55 _).1 156 0 (34 * (40 - 1 - (j + 1)) + k) = _
          rw [z_sI_1, if_neg (by omega), ha _ (by omega), show 34 * (40 - 1 - (j + 1)) + k + 34 = 34 * (40 - 1 - j) + k by omega]
          exact h2 j (by omega) k hk
    · rw [if_neg (show ¬ nI u = 40 from fun q => c ((nI_eq (b := 40) (by omega) (by omega)).mp q))]
      have e : q_u1 u = u + 1 := by unfold q_u1; rw [if_pos (by omega)]
      rw [e]
      refine zw_some.mpr ⟨zk_r m, hn, h1, fun j hj k hk => ?_⟩
      rw [show u + 1 - 1 - (j + 1) = u - 1 - j by omega]
      exact h2 j (by omega) k hk
  refine zw_b st1 ?_
  rintro m1 ⟨hf1, hn1, h55, hH⟩
  have hu1 := q_u1_le hu
  have hu0 : 1 ≤ q_u1 u := by unfold q_u1; by_cases c : u < 40; · rw [if_pos c]; omega
                              · rw [if_neg c]; omega
  generalize q_u1 u = w at *
  have hr1 : qMr m1 r' := hr.zk hf1 (fun k => by omega)
  refine zw_b (zw_for (Q := fun m2 => zk (fun c _ _ => c = 156) m1 m2 ∧ (∀ x, x < 34 → m2.1 156 0 (34 * (w - 1) + x) = r x) ∧ ∀ x, x < 34 * (w - 1) → m2.1 156 0 x = m1.1 156 0 x) 34 (fun i m2 => zk (fun c _ _ => c = 156) m1 m2 ∧ (∀ x, x < i → m2.1 156 0 (34 * (w - 1) + x) = r x) ∧ ∀ x, x < 34 * (w - 1) → m2.1 156 0 x = m1.1 156 0 x) (by omega) ⟨zk_r m1, fun x hx => absurd hx (by omega), fun x _ => rfl⟩ ?_ ?_) ?_
  · rintro i m2 hi ⟨hf, ha, hb⟩
    have e55 : m2.1 9 0 55 = nI (w - 1) := by rw [hf.1 9 0 55 (by omega)]; exact h55
    have e148 : m2.1 148 0 i = r i := by rw [hf.1 148 0 i (by omega)]; exact hn1 i hi
    have hlt : 34 * (w - 1) + i < 1360 := by omega
    unfold f9_records_L17
    simp (disch := omega) only [z_u2, y_34, y_lt, hi, ↓reduceIte, e55, pk_mul, nI_add, y_in, y_cl, z_let, e148, y_s1]
    refine zw_some.mpr ⟨rfl, zk_s hf rfl, fun x hx => ?_, fun x hx => ?_⟩
    · rw [z_sI_1]
      by_cases e : x = i
      · rw [if_pos ⟨rfl, rfl, by omega⟩, e]
      · rw [if_neg (fun q => e (by omega))]; exact ha x (by omega)
    · rw [z_sI_1, if_neg (by omega)]; exact hb x hx
  · rintro m2 hI
    unfold f9_records_L17
    simp only [z_u2]
    rw [if_neg (show ¬ nI 34 < 34 by decide)]
    exact zw_some.mpr hI
  rintro m2 ⟨hf2, ha, hb⟩
  simp only [z_let]
  have e55 : m2.1 9 0 55 = nI (w - 1) := by rw [hf2.1 9 0 55 (by omega)]; exact h55
  have ev : m2.1 9 0 55 + 1 = nI w := by rw [e55, y_s1, show w - 1 + 1 = w by omega]
  rw [ev]
  have hf3 : zk (fun c i k => c = 9 ∧ k = 55) m2 (z_sI m2 9 0 55 (nI w)) := zk_s (zk_r m2) (by omega)
  have g55 : (z_sI m2 9 0 55 (nI w)).1 9 0 55 = nI w := by rw [z_sI_1, if_pos ⟨rfl, rfl, rfl⟩]
  generalize z_sI m2 9 0 55 (nI w) = m3 at *
  have hr3 : qMr m3 r' := (hr1.zk hf2 (fun k => by omega)).zk hf3 (fun k => by omega)
  refine zw_b (p9_keepsRow hr3) ?_
  rintro m4 ⟨hf4, hn4⟩
  refine zw_some.mpr ⟨zk_t hf1 (zk_t (zk_m hf2 (fun c i k h => by omega)) (zk_t (zk_m hf3 (fun c i k h => by omega)) (zk_m hf4 (fun c i k h => by omega)))), hn4, ?_, fun j hj k hk => ?_⟩
  · rw [hf4.1 9 0 55 (by omega)]; exact g55
  · rw [hf4.1 156 0 _ (by omega), hf3.1 156 0 _ (by omega)]
    match j, hj with
    | 0, hj =>
      show m2.1 156 0 (34 * (w - 1 - 0) + k) = r k
      rw [show w - 1 - 0 = w - 1 by omega]
      exact ha k hk
    | j + 1, hj =>
      show m2.1 156 0 (34 * (w - 1 - (j + 1)) + k) = hs j k
      rw [hb _ (by omega)]
      exact hH j hj k hk
end
