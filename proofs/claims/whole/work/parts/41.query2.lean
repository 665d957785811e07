/-! QUERIES II: heir, race, idle, share, richest, eldest -/
section
variable {T : qT} {o v B : Nat} {r : Nat → Int32} {m : zMem}
theorem p9_heirOf (hx : qMx m T v) (hT : tOk T) (hr : qMr m r) {h : Nat} (hh : h < 5) : f9_heirOf (nI h) m = some (q_heir T r h) := by
  unfold f9_heirOf q_heir
  rw [p9_lordOf hx hT hr hh]
  show (if q_lord T r h < 0 then _ else _) = _
  by_cases e : q_lord T r h < 0
  · rw [if_pos e, if_pos e]
  · rw [if_neg e, if_neg e, p9_longestBut hx hT hr hh]
    rfl
theorem c_heir (hT : tOk T) (a : Int32) : ∃ x, qAp T o v B r (f8_heir a) x ∧ qAn T o v B r (f9_heir a) x := by
  have hH := hT.1
  rcases y_is a (n := tH T) (by omega) with ha | ⟨j, hj, rfl⟩
  · refine ⟨-1, fun m h hn => ?_, fun m h hn => ?_⟩
    · unfold f8_heir
      rw [p8_isHouse_n h ha, if_pos rfl]
    · unfold f9_heir
      refine zw_eq (p9_isHouse_n h ha) ?_
      rw [if_pos rfl]
      exact q_some m
  · refine ⟨q_heir T r j, fun m h hn => ?_, fun m h hn => ?_⟩
    · unfold f8_heir
      rw [p8_isHouse_y h hj, if_neg n01, p5_heirOf hn.2.1 hT (by omega)]
      rfl
    · unfold f9_heir
      refine zw_eq (p9_isHouse_y h hj) ?_
      rw [if_neg n01]
      refine q_cp h hn (fun m' h' hn' hr' _ => ?_)
      rw [p9_heirOf h'.mx hT hr' (by omega)]
      exact q_some m'
theorem q_heir_in {h' : Nat} : q_heir T r h' = -2 ∨ ∃ j, j < tP T ∧ q_heir T r h' = nI j := by
  unfold q_heir
  by_cases e : q_lord T r h' < 0
  · rw [if_pos e]; exact Or.inl rfl
  · rw [if_neg e]; exact q_lbut_in
theorem c_race (hT : tOk T) (a : Int32) : ∃ x, qAp T o v B r (f8_race a) x ∧ qAn T o v B r (f9_race a) x := by
  have hH := hT.1
  have hP := hT.2
  rcases y_is a (n := tH T) (by omega) with ha | ⟨j, hj, rfl⟩
  · refine ⟨-1, fun m h hn => ?_, fun m h hn => ?_⟩
    · unfold f8_race
      rw [p8_isHouse_n h ha, if_pos rfl]
    · unfold f9_race
      refine zw_eq (p9_isHouse_n h ha) ?_
      rw [if_pos rfl]
      exact q_some m
  · rcases q_heir_in (T := T) (r := r) (h' := j) with e | ⟨i, hi, e⟩
    · refine ⟨-2, fun m h hn => ?_, fun m h hn => ?_⟩
      · unfold f8_race
        rw [p8_isHouse_y h hj, if_neg n01, p5_heirOf hn.2.1 hT (by omega), p5_landlordOf hn.2.1 hT (by omega), e]
        show (if q_lord T r j < 0 then some (-2) else (if (-2 : Int32) < 0 then some (-2) else _)) = some (-2)
        rw [if_pos (show (-2 : Int32) < 0 by decide)]
        by_cases e2 : q_lord T r j < 0
        · rw [if_pos e2]
        · rw [if_neg e2]
      · unfold f9_race
        refine zw_eq (p9_isHouse_y h hj) ?_
        rw [if_neg n01]
        refine q_cp h hn (fun m' h' hn' hr' _ => ?_)
        rw [p9_heirOf h'.mx hT hr' (by omega), e]
        exact q_some m'
    · have hl : ∃ l, l < tP T ∧ q_lord T r j = nI l := by
        rcases q_lord_in (T := T) (r := r) (h := j) with e2 | e2
        · have : q_heir T r j = -2 := by unfold q_heir; rw [e2, if_pos (by decide)]
          rw [this] at e
          exact absurd e.symm (by rw [y_ne2 (by omega)]; exact id)
        · exact e2
      obtain ⟨l, hl, el⟩ := hl
      refine ⟨r (7 + l) - r (7 + i), fun m h hn => ?_, fun m h hn => ?_⟩
      · unfold f8_race
        rw [p8_isHouse_y h hj, if_neg n01, p5_heirOf hn.2.1 hT (by omega), p5_landlordOf hn.2.1 hT (by omega), e, el]
        simp (disch := omega) only [Option.bind_some, y_lt0, ↓reduceIte, y_in, y_cl]
        rw [hn.2.1.2.2.2.1 l (by omega), hn.2.1.2.2.2.1 i (by omega)]
      · unfold f9_race
        refine zw_eq (p9_isHouse_y h hj) ?_
        rw [if_neg n01]
        refine q_cp h hn (fun m' h' hn' hr' _ => ?_)
        rw [p9_heirOf h'.mx hT hr' (by omega), e, p9_lordOf h'.mx hT hr' (by omega), el]
        have e1 : (7 : Int32) + nI l = nI (7 + l) := nI_add 7 l
        have e2 : (7 : Int32) + nI i = nI (7 + i) := nI_add 7 i
        simp (disch := omega) only [Option.bind_some, y_lt0, ↓reduceIte, e1, e2, y_in, y_cl]
        rw [hr' _ (by omega), hr' _ (by omega)]
        exact q_some m'
/-! idle -/
theorem p8_idle (h : qI_T T o v m) (hn : qI_N B T r m) : f8_idle m = some (q_mk (fun h => decide (q_lord T r h = -2)) (tH T)) := by
  have hH := h.ok.1
  have hP := h.ok.2
  unfold f8_idle
  refine z_it_eb (fun k => (q_mk (fun h => decide (q_lord T r h = -2)) k, nI k)) (tH T) _ rfl (fun k hk => ?_) ?_ (z_fu_lt (by omega)) rfl
  · unfold f8_idle_L1
    simp (disch := omega) only [z_u2, h.ox, h.H, y_lt, hk, ↓reduceIte, p5_landlordOf hn.2.1 h.ok, Option.bind_some, z_let, y_s1]
    rw [q_mk]
    rcases q_lord_in (T := T) (r := r) (h := k) with e | ⟨j, hj, e⟩
    · rw [e, if_pos (by decide), decide_eq_true rfl]; rfl
    · rw [e, if_neg (nI_pos (by omega)), show decide (nI j = -2) = false from decide_eq_false (by rw [y_ne2 (by omega)]; exact id)]; rfl
  · unfold f8_idle_L1
    simp (disch := omega) only [z_u2, h.ox, h.H, y_lt, Nat.lt_irrefl, ↓reduceIte]
theorem c_idle (hT : tOk T) : ∃ x, qAp T o v B r f8_idle x ∧ qAn T o v B r f9_idle x := by
  refine ⟨_, fun m h hn => p8_idle h hn, fun m h hn => ?_⟩
  unfold f9_idle
  refine q_cp h hn (fun m' h' hn' hr' _ => ?_)
  rw [p9_lordBits h'.mx hT hr']
  exact q_some m'
/-! share -/
def q_all (T : qT) (r : Nat → Int32) : Int32 := q_sm (fun h => q_bc (r (28 + h)) 7) (tH T)
theorem q_hb (hw : qRow T B r) (hT : tOk T) {h : Nat} (hh : h < 5) : ∀ i, 7 ≤ i → i < 32 → bt (r (28 + h)) i = false := fun i h1 h2 => hw.2.2.2.2.2.2 h hh i (by have := hT.2; omega) h2
theorem p8_allRights (h : qI_T T o v m) (hn : qI_N B T r m) : f8_allRights m = some (q_all T r) := by
  have hH := h.ok.1
  unfold f8_allRights
  refine z_it_eb (fun k => (q_sm (fun h => q_bc (r (28 + h)) 7) k, nI k)) (tH T) _ rfl (fun k hk => ?_) ?_ (z_fu_lt (by omega)) rfl
  · unfold f8_allRights_L1
    simp (disch := omega) only [z_u2, h.ox, h.H, y_lt, hk, ↓reduceIte, y_in, y_cl, hn.2.1.2.2.2.2.2.2 k (by omega), z_let, y_s1]
    rw [p6_bitCount (q_hb hn.1 h.ok (by omega))]
    rfl
  · unfold f8_allRights_L1
    simp (disch := omega) only [z_u2, h.ox, h.H, y_lt, Nat.lt_irrefl, ↓reduceIte]
    rfl
theorem p9_rightsAll (h : qI_T T o v m) (hn : qI_N B T r m) : f9_rightsAll m = some (q_all T r) := by
  have hH := h.ok.1
  obtain ⟨hv, h9, h1, _⟩ := h.mx
  unfold f9_rightsAll
  refine z_it_eb (fun k => (q_sm (fun h => q_bc (r (28 + h)) 7) k, nI k)) (tH T) _ rfl (fun k hk => ?_) ?_ (z_fu_lt (by omega)) rfl
  · unfold f9_rightsAll_L1
    simp (disch := omega) only [z_u2, h9, h1, y_lt, hk, ↓reduceIte, y_in, y_cl, y_28, nI_add, hn.2.2 _, p9_bits, Option.bind_some, y_s1]
    rfl
  · unfold f9_rightsAll_L1
    simp (disch := omega) only [z_u2, h9, h1, y_lt, y_in, y_cl, Nat.lt_irrefl, ↓reduceIte]
    rfl
theorem c_share (hT : tOk T) (a : Int32) : ∃ x, qAp T o v B r (f8_share a) x ∧ qAn T o v B r (f9_share a) x := by
  have hP := hT.2
  have hH := hT.1
  rcases y_is a (n := tP T) (by omega) with ha | ⟨j, hj, rfl⟩
  · refine ⟨-1, fun m h hn => ?_, fun m h hn => ?_⟩
    · unfold f8_share
      rw [p8_isPerson_n h ha, if_pos rfl]
    · unfold f9_share
      refine zw_eq (p9_isPerson_n h ha) ?_
      rw [if_pos rfl]
      exact q_some m
  by_cases e0 : q_all T r = 0
  · refine ⟨0, fun m h hn => ?_, fun m h hn => ?_⟩
    · unfold f8_share
      rw [p8_isPerson_y h hj, if_neg n01, p8_allRights h hn]
      show (if q_all T r = 0 then _ else _) = _
      rw [if_pos e0]
    · unfold f9_share
      refine zw_eq (p9_isPerson_y h hj) ?_
      rw [if_neg n01]
      refine q_cp h hn (fun m' h' hn' hr' _ => ?_)
      refine zw_eq (p9_rightsAll h' hn') ?_
      rw [if_pos e0]
      exact q_some m'
  · refine ⟨1000 * q_bc (q_mk (fun h => bt (r (28 + h)) j) (tH T)) 7 / q_all T r, fun m h hn => ?_, fun m h hn => ?_⟩
    · unfold f8_share
      rw [p8_isPerson_y h hj, if_neg n01, p8_allRights h hn]
      show (if q_all T r = 0 then _ else _) = _
      rw [if_neg e0, p8_rightsOf h hn (by omega)]
      show (if q_all T r = 0 then _ else _) = _
      rw [if_neg e0, p6_bitCount_mk _ (by omega), q_bc_mk _ (by omega), Int32.mul_comm]
    · unfold f9_share
      refine zw_eq (p9_isPerson_y h hj) ?_
      rw [if_neg n01]
      refine q_cp h hn (fun m' h' hn' hr' _ => ?_)
      refine zw_eq (p9_rightsAll h' hn') ?_
      rw [if_neg e0]
      refine zw_eq (p9_rightBits h'.mx hT hr' (by omega)) ?_
      refine zw_eq (p9_bits _) ?_
      refine zw_eq (p9_rightsAll h' hn') ?_
      rw [if_neg e0]
      exact q_some m'
/-! richest, eldest -/
theorem y_w01 (a : Int32) : a = 0 ∨ a = 1 ∨ (f9_in a 0 1 = 0 ∧ (a < 0 ∨ 1 < a)) := by
  by_cases h0 : a = 0
  · exact Or.inl h0
  by_cases h1 : a = 1
  · exact Or.inr (Or.inl h1)
  refine Or.inr (Or.inr ?_)
  have hh : a < 0 ∨ 1 < a := by
    rw [y_i, y_i]
    rw [y_ie] at h0 h1
    rw [y_t0] at *
    rw [show (1 : Int32).toInt = 1 from rfl] at *
    omega
  refine ⟨?_, hh⟩
  unfold f9_in
  rcases hh with h | h
  · rw [if_pos h]
  · by_cases h' : a < 0
    · rw [if_pos h']
    · rw [if_neg h', if_pos h]
def q_rich (T : qT) (r : Nat → Int32) : Int32 := q_lg (fun _ => true) (fun p => r (14 + p)) (tP T)
theorem q_rich_in (hP : 0 < tP T) : ∃ j, j < tP T ∧ q_rich T r = nI j := by
  unfold q_rich
  obtain ⟨n, hn⟩ : ∃ n, tP T = n + 1 := ⟨tP T - 1, by omega⟩
  rw [hn, q_lg, if_pos rfl]
  by_cases e : q_lg (fun _ => true) (fun p => r (14 + p)) n < 0 ∨ r (14 + (q_lg (fun _ => true) (fun p => r (14 + p)) n).toNatClampNeg) < r (14 + n)
  · rw [if_pos e]; exact ⟨n, by omega, rfl⟩
  · rw [if_neg e]
    rcases q_lg_in (fun _ => true) (fun p => r (14 + p)) n with e2 | ⟨j, hj, e2, _⟩
    · exact absurd (Or.inl (by rw [e2]; decide)) e
    · exact ⟨j, by omega, e2⟩
theorem q_lg_t {g : Nat → Int32} {n : Nat} (hn : n < 2147483647) : ∃ j, j < n + 1 ∧ q_lg (fun _ => true) g (n + 1) = nI j := by
  rw [q_lg, if_pos rfl]
  by_cases e : q_lg (fun _ => true) g n < 0 ∨ g (q_lg (fun _ => true) g n).toNatClampNeg < g n
  · rw [if_pos e]; exact ⟨n, by omega, rfl⟩
  · rw [if_neg e]
    rcases q_lg_in (fun _ => true) g n with e2 | ⟨j, hj, e2, _⟩
    · exact absurd (Or.inl (by rw [e2]; decide)) e
    · exact ⟨j, by omega, e2⟩
theorem q_lg_ts {g : Nat → Int32} {n j : Nat} (hj : j < 2147483648) (e : q_lg (fun _ => true) g n = nI j) : q_lg (fun _ => true) g (n + 1) = if g j < g n then nI n else nI j := by
  rw [q_lg, if_pos rfl, e, y_cl hj]
  by_cases c : g j < g n
  · rw [if_pos c, if_pos (Or.inr c)]
  · rw [if_neg c, if_neg (fun q => q.elim (nI_pos hj) c)]
theorem p8_rich (h : qI_T T o v m) (hn : qI_N B T r m) (hP0 : 0 < tP T) : z_it (f8_richest_L4 m) z_fu (0, 1) = some (q_rich T r) := by
  have hP := h.ok.2
  refine z_it_e (fun k => (q_lg (fun _ => true) (fun p => r (14 + p)) (k + 1), nI (k + 1))) (tP T - 1) (q_rich T r) ?_ (fun k hk => ?_) ?_ (z_fu_lt (by omega))
  · show _ = (_, _)
    rw [q_lg, if_pos rfl, q_lg, if_pos (Or.inl (by decide))]
    rfl
  · have hk' : k + 1 < tP T := by omega
    obtain ⟨j, hj, e⟩ := q_lg_t (g := fun p => r (14 + p)) (n := k) (by omega)
    show f8_richest_L4 m (q_lg (fun _ => true) (fun p => r (14 + p)) (k + 1), nI (k + 1)) = some (Sum.inl (q_lg (fun _ => true) (fun p => r (14 + p)) (k + 1 + 1), nI (k + 1 + 1)))
    rw [q_lg_ts (by omega) e, e]
    unfold f8_richest_L4
    simp (disch := omega) only [z_u2, h.ox, h.P, y_lt, hk', ↓reduceIte, y_in, y_cl, hn.2.1.2.2.2.2.1 _, y_s1]
    by_cases c : r (14 + j) < r (14 + (k + 1))
    · rw [if_pos c, if_pos c]; rfl
    · rw [if_neg c, if_neg c]; rfl
  · show f8_richest_L4 m (q_lg (fun _ => true) (fun p => r (14 + p)) (tP T - 1 + 1), nI (tP T - 1 + 1)) = _
    rw [show tP T - 1 + 1 = tP T by omega]
    unfold f8_richest_L4
    simp (disch := omega) only [z_u2, h.ox, h.P, y_lt, Nat.lt_irrefl, ↓reduceIte]
    rfl
theorem p9_rich (h : qI_T T o v m) (hn : qI_N B T r m) : z_it (f9_richest_L3 m) z_fu (-2, 0) = some (q_rich T r) := by
  have hP := h.ok.2
  obtain ⟨hv, h9, _, h1, _⟩ := h.mx
  refine z_it_e (fun k => (q_lg (fun _ => true) (fun p => r (14 + p)) k, nI k)) (tP T) (q_rich T r) rfl (fun k hk => ?_) ?_ (z_fu_lt (by omega))
  · have e14 : ∀ i, (14 : Int32) + nI i = nI (14 + i) := fun i => nI_add 14 i
    rcases q_lg_in (fun _ => true) (fun p => r (14 + p)) k with e | ⟨j, hj, e, _⟩
    · show f9_richest_L3 m (q_lg (fun _ => true) (fun p => r (14 + p)) k, nI k) = some (Sum.inl (q_lg (fun _ => true) (fun p => r (14 + p)) (k + 1), nI (k + 1)))
      rw [q_lg, if_pos rfl, e, if_pos (Or.inl (by decide))]
      unfold f9_richest_L3
      simp (disch := omega) only [z_u2, h9, h1, y_in, y_cl, y_lt, hk, ↓reduceIte, y_2lt, Option.bind_some, y_s1]
    · show f9_richest_L3 m (q_lg (fun _ => true) (fun p => r (14 + p)) k, nI k) = some (Sum.inl (q_lg (fun _ => true) (fun p => r (14 + p)) (k + 1), nI (k + 1)))
      rw [q_lg_ts (by omega) e, e]
      unfold f9_richest_L3
      simp (disch := omega) only [z_u2, h9, h1, y_in, y_cl, y_lt, y_lt0, hk, ↓reduceIte, e14, hn.2.2 _, y_s1]
      by_cases c : r (14 + j) < r (14 + k)
      · rw [if_pos c, if_pos c]; rfl
      · rw [if_neg c, if_neg c]; rfl
  · unfold f9_richest_L3
    simp (disch := omega) only [z_u2, h9, h1, y_in, y_cl, y_lt, Nat.lt_irrefl, ↓reduceIte]
    rfl
theorem c_richest (hT : tOk T) (a : Int32) : ∃ x, qAp T o v B r (f8_richest a) x ∧ qAp T o v B r (f9_richest a) x := by
  have hP := hT.2
  rcases y_w01 a with ha | ha | ⟨ha, ha'⟩
  · by_cases h0 : tP T = 0
    · refine ⟨-2, fun m h hn => ?_, fun m h hn => ?_⟩
      · unfold f8_richest
        rw [ha, if_neg (by decide), if_neg (by decide), h.ox, h.P, h0, if_pos (show nI 0 = 0 from rfl)]
      · unfold f9_richest
        rw [ha, if_neg (by decide), p9_rich h hn]
        unfold q_rich
        rw [h0]
        rfl
    · obtain ⟨j, hj, e⟩ := q_rich_in (T := T) (r := r) (by omega)
      refine ⟨nI j, fun m h hn => ?_, fun m h hn => ?_⟩
      · unfold f8_richest
        rw [ha, if_neg (by decide), if_neg (by decide), h.ox, h.P, if_neg (by rw [y_eq0 (by omega)]; exact h0), p8_rich h hn (by omega), e]
        rfl
      · unfold f9_richest
        rw [ha, if_neg (by decide), p9_rich h hn, e]
        show (if nI j < 0 then _ else _) = _
        rw [if_neg (nI_pos (by omega)), if_pos rfl]
  · by_cases h0 : tP T = 0
    · refine ⟨-2, fun m h hn => ?_, fun m h hn => ?_⟩
      · unfold f8_richest
        rw [ha, if_neg (by decide), if_neg (by decide), h.ox, h.P, h0, if_pos (show nI 0 = 0 from rfl)]
      · unfold f9_richest
        rw [ha, if_neg (by decide), p9_rich h hn]
        unfold q_rich
        rw [h0]
        rfl
    · obtain ⟨j, hj, e⟩ := q_rich_in (T := T) (r := r) (by omega)
      refine ⟨r (14 + j), fun m h hn => ?_, fun m h hn => ?_⟩
      · unfold f8_richest
        rw [ha, if_neg (by decide), if_neg (by decide), h.ox, h.P, if_neg (by rw [y_eq0 (by omega)]; exact h0), p8_rich h hn (by omega), e]
        rw [Option.bind_some, if_neg n01, if_pos (y_in (by omega) (by omega)), y_cl (by omega), hn.2.1.2.2.2.2.1 j (by omega)]
      · unfold f9_richest
        rw [ha, if_neg (by decide), p9_rich h hn, e]
        rw [Option.bind_some, if_neg (nI_pos (by omega)), if_neg n01, show (14 : Int32) + nI j = nI (14 + j) from nI_add 14 j, if_pos (y_in (by omega) (by omega)), y_cl (by omega), hn.2.2 _ (by omega)]
  · refine ⟨-1, fun m h hn => ?_, fun m h hn => ?_⟩
    · unfold f8_richest
      rcases ha' with h' | h'
      · rw [if_pos h']
      · by_cases h2 : a < 0
        · rw [if_pos h2]
        · rw [if_neg h2, if_pos h']
    · unfold f9_richest
      rw [ha, if_pos rfl]
end
