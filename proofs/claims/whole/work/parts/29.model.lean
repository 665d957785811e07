/-! THE REFERENCE's state: its text T at the side v, its row r -/
def qMx (m : zMem) (T : qT) (v : Nat) : Prop :=
  v < 2 ∧ m.1 9 0 18 = nI v ∧ m.1 123 0 v = nI (tH T) ∧ m.1 126 0 v = nI (tP T) ∧ m.1 131 0 v = tS T ∧ (∀ h, h < tH T → m.1 124 0 (5 * v + h) = tR T h) ∧ (∀ k, k < tP T → m.1 127 0 (7 * v + k) = tA T k)
def qMr (m : zMem) (r : Nat → Int32) : Prop := ∀ k, k < 34 → m.1 149 0 k = r k
def qMn (m : zMem) (r : Nat → Int32) : Prop := ∀ k, k < 34 → m.1 148 0 k = r k
theorem qMr.fr {m m' : zMem} {r : Nat → Int32} (h : qMr m r) (e : m'.1 149 0 = m.1 149 0) : qMr m' r := fun k hk => by rw [e]; exact h k hk
theorem qMn.fr {m m' : zMem} {r : Nat → Int32} (h : qMn m r) (e : m'.1 148 0 = m.1 148 0) : qMn m' r := fun k hk => by rw [e]; exact h k hk
theorem qMx.fr {m m' : zMem} {T : qT} {v : Nat} (h : qMx m T v) (h9 : m'.1 9 0 18 = m.1 9 0 18) (h1 : m'.1 123 0 = m.1 123 0) (h2 : m'.1 126 0 = m.1 126 0) (h3 : m'.1 131 0 = m.1 131 0) (h4 : m'.1 124 0 = m.1 124 0) (h5 : m'.1 127 0 = m.1 127 0) : qMx m' T v := by
  unfold qMx at *
  rw [h9, h1, h2, h3, h4, h5]
  exact h
theorem p9_isHouse {m : zMem} {T : qT} {v : Nat} (hx : qMx m T v) (hT : tOk T) (a : Int32) : f9_isHouse a m = some (if 0 ≤ a ∧ a < nI (tH T) then 1 else 0) := by
  have hH := hT.1
  obtain ⟨hv, h9, h1, _⟩ := hx
  have key : f9_in a 0 (nI (tH T) - 1) = if 0 ≤ a ∧ a < nI (tH T) then 1 else 0 := by
    unfold f9_in
    have es : (nI (tH T) - 1).toInt = (tH T : Int) - 1 := pk_sub_toInt (b := 1) (by omega) (by omega)
    have et : (nI (tH T)).toInt = (tH T : Int) := y_ti (by omega)
    simp only [y_i, y_il, es, et, y_t0]
    by_cases h : a.toInt < 0
    · rw [if_pos h, if_neg (by omega)]
    · rw [if_neg h]
      by_cases h2 : (tH T : Int) - 1 < a.toInt
      · rw [if_pos h2, if_neg (by omega)]
      · rw [if_neg h2, if_pos (by omega)]
  unfold f9_isHouse
  rw [h9, if_pos (y_in hv (by omega)), y_cl (by omega), h1, key]
  by_cases h : 0 ≤ a ∧ a < nI (tH T)
  · rw [if_pos h]; rfl
  · rw [if_neg h]; rfl
theorem p9_isPerson {m : zMem} {T : qT} {v : Nat} (hx : qMx m T v) (hT : tOk T) (a : Int32) : f9_isPerson a m = some (if 0 ≤ a ∧ a < nI (tP T) then 1 else 0) := by
  have hH := hT.2
  obtain ⟨hv, h9, _, h1, _⟩ := hx
  have key : f9_in a 0 (nI (tP T) - 1) = if 0 ≤ a ∧ a < nI (tP T) then 1 else 0 := by
    unfold f9_in
    have es : (nI (tP T) - 1).toInt = (tP T : Int) - 1 := pk_sub_toInt (b := 1) (by omega) (by omega)
    have et : (nI (tP T)).toInt = (tP T : Int) := y_ti (by omega)
    simp only [y_i, y_il, es, et, y_t0]
    by_cases h : a.toInt < 0
    · rw [if_pos h, if_neg (by omega)]
    · rw [if_neg h]
      by_cases h2 : (tP T : Int) - 1 < a.toInt
      · rw [if_pos h2, if_neg (by omega)]
      · rw [if_neg h2, if_pos (by omega)]
  unfold f9_isPerson
  rw [h9, if_pos (y_in hv (by omega)), y_cl (by omega), h1, key]
  by_cases h : 0 ≤ a ∧ a < nI (tP T)
  · rw [if_pos h]; rfl
  · rw [if_neg h]; rfl
/-- one of them, or not -/
theorem y_is (a : Int32) {n : Nat} (hn : n < 2147483648) : (¬ (0 ≤ a ∧ a < nI n)) ∨ ∃ j, j < n ∧ a = nI j := by
  rcases y_ix a hn with h | ⟨h, h0⟩ | h
  · refine Or.inl fun q => ?_
    rw [y_i] at h
    have := q.1
    rw [y_il] at this
    omega
  · refine Or.inl fun q => ?_
    rw [y_il] at h
    have := q.2
    rw [y_i] at this
    omega
  · exact Or.inr h
theorem y_isn {j n : Nat} (h : j < n) (hn : n < 2147483648) : 0 ≤ nI j ∧ nI j < nI n := ⟨nI_pos' (by omega), nI_lt h hn⟩
theorem p9_hasRight {m : zMem} {r : Nat → Int32} (hr : qMr m r) {p h : Nat} (hp : p < 7) (hh : h < 5) : f9_hasRight (nI p) (nI h) m = some (if bt (r (28 + h)) p then 1 else 0) := by
  unfold f9_hasRight
  rw [y_28, nI_add, if_pos (y_in (by omega) (by omega)), y_cl (by omega), hr _ (by omega), b_bit _ _ (by omega)]
  cases bt (r (28 + h)) p <;> rfl
theorem p9_longestBut {m : zMem} {T : qT} {v : Nat} {r : Nat → Int32} (hx : qMx m T v) (hT : tOk T) (hr : qMr m r) {h : Nat} (hh : h < 5) (but : Int32) : f9_longestBut (nI h) but m = some (q_lbut T r h but) := by
  have hP := hT.2
  obtain ⟨hv, h9, _, h1, _⟩ := hx
  unfold f9_longestBut
  refine z_it_eb (fun k => (q_lg (fun p => !decide (nI p = but) && (decide (r p = 1) && bt (r (28 + h)) p)) (fun p => r (7 + p)) k, nI k)) (tP T) (q_lbut T r h but) rfl (fun k hk => ?_) ?_ (z_fu_lt (by omega)) rfl
  · unfold f9_longestBut_L1
    simp (disch := omega) only [z_u2, h9, y_in, y_cl, h1, y_lt, hk, if_true, hr _, y_7, nI_add, p9_hasRight hr (p := k) (h := h), Option.bind_some, y_s1]
    rw [q_lg]
    by_cases hb : nI k = but
    · rw [if_pos hb, decide_eq_true hb]
      rfl
    · rw [if_neg hb, decide_eq_false hb]
      by_cases h2 : r k = 1
      · rw [if_pos h2, decide_eq_true h2]
        cases h3 : bt (r (28 + h)) k
        · rfl
        · rw [if_pos rfl, if_neg (by decide), show (!false && (true && true)) = true from rfl, if_pos (show true = true from rfl)]
          rcases q_lg_in (fun p => !decide (nI p = but) && (decide (r p = 1) && bt (r (28 + h)) p)) (fun p => r (7 + p)) k with e | ⟨j, hj, e, _⟩
          · rw [e, if_pos (by decide), if_pos (Or.inl (by decide))]
            rfl
          · rw [e, if_neg (nI_pos (by omega)), nI_add, if_pos (y_in (by omega) (by omega)), y_cl (by omega), y_cl (by omega), hr _ (by omega)]
            by_cases h4 : r (7 + j) < r (7 + k)
            · rw [if_pos h4, if_pos (Or.inr h4)]
              rfl
            · rw [if_neg h4, if_neg (fun q => q.elim (nI_pos (by omega)) h4)]
              rfl
      · rw [if_neg h2, decide_eq_false h2]
        rfl
  · unfold f9_longestBut_L1
    simp (disch := omega) only [z_u2, h9, y_in, y_cl, h1, y_lt, Nat.lt_irrefl, if_true, if_false]
    rfl
theorem p9_lordOf {m : zMem} {T : qT} {v : Nat} {r : Nat → Int32} (hx : qMx m T v) (hT : tOk T) (hr : qMr m r) {h : Nat} (hh : h < 5) : f9_lordOf (nI h) m = some (q_lord T r h) := by
  unfold f9_lordOf
  rw [p9_longestBut hx hT hr hh]
  rfl
theorem p9_lordBits {m : zMem} {T : qT} {v : Nat} {r : Nat → Int32} (hx : qMx m T v) (hT : tOk T) (hr : qMr m r) (a : Int32) : f9_lordBits a m = some (q_mk (fun h => decide (q_lord T r h = a)) (tH T)) := by
  have hH := hT.1
  have hx' := hx
  obtain ⟨hv, h9, h1, _⟩ := hx
  unfold f9_lordBits
  refine z_it_eb (fun k => (q_mk (fun h => decide (q_lord T r h = a)) k, nI k)) (tH T) _ rfl (fun k hk => ?_) ?_ (z_fu_lt (by omega)) rfl
  · unfold f9_lordBits_L1
    simp (disch := omega) only [z_u2, h9, y_in, y_cl, h1, y_lt, hk, if_true, p9_lordOf hx' hT hr, Option.bind_some, y_s1, z_let]
    rw [q_mk]
    by_cases hb : q_lord T r k = a
    · rw [if_pos hb, decide_eq_true hb]; rfl
    · rw [if_neg hb, decide_eq_false hb]; rfl
  · unfold f9_lordBits_L1
    simp (disch := omega) only [z_u2, h9, y_in, y_cl, h1, y_lt, Nat.lt_irrefl, if_true, if_false]
theorem p9_rightBits {m : zMem} {T : qT} {v : Nat} {r : Nat → Int32} (hx : qMx m T v) (hT : tOk T) (hr : qMr m r) {p : Nat} (hp : p < 7) : f9_rightBits (nI p) m = some (q_mk (fun h => bt (r (28 + h)) p) (tH T)) := by
  have hH := hT.1
  obtain ⟨hv, h9, h1, _⟩ := hx
  unfold f9_rightBits
  refine z_it_eb (fun k => (q_mk (fun h => bt (r (28 + h)) p) k, nI k)) (tH T) _ rfl (fun k hk => ?_) ?_ (z_fu_lt (by omega)) rfl
  · unfold f9_rightBits_L1
    simp (disch := omega) only [z_u2, h9, y_in, y_cl, h1, y_lt, hk, if_true, p9_hasRight hr, Option.bind_some, y_s1, z_let]
    rw [q_mk]
    cases hb : bt (r (28 + k)) p <;> rfl
  · unfold f9_rightBits_L1
    simp (disch := omega) only [z_u2, h9, y_in, y_cl, h1, y_lt, Nat.lt_irrefl, if_true, if_false]
theorem p9_inState {m : zMem} {T : qT} {v : Nat} {r : Nat → Int32} (hx : qMx m T v) (hT : tOk T) (hr : qMr m r) (a : Int32) : f9_inState a m = some (q_st T r a) := by
  have hP := hT.2
  obtain ⟨hv, h9, _, h1, _⟩ := hx
  unfold f9_inState
  refine z_it_eb (fun k => (q_mk (fun p => decide (r p = a)) k, nI k)) (tP T) (q_st T r a) rfl (fun k hk => ?_) ?_ (z_fu_lt (by omega)) rfl
  · unfold f9_inState_L1
    simp (disch := omega) only [z_u2, h9, y_in, y_cl, h1, y_lt, hk, if_true, hr _, Option.bind_some, y_s1, z_let]
    rw [q_mk]
    by_cases hb : r k = a
    · rw [if_pos hb, decide_eq_true hb]; rfl
    · rw [if_neg hb, decide_eq_false hb]; rfl
  · unfold f9_inState_L1
    simp (disch := omega) only [z_u2, h9, y_in, y_cl, h1, y_lt, Nat.lt_irrefl, if_true, if_false]
    rfl
def q_age (T : qT) (r : Nat → Int32) (p : Nat) : Int32 := tA T p + (if r p = 2 then r (21 + p) else r 33)
theorem p9_ageNow {m : zMem} {T : qT} {v : Nat} {r : Nat → Int32} (hx : qMx m T v) (hT : tOk T) (hr : qMr m r) {p : Nat} (hp : p < tP T) : f9_ageNow (nI p) m = some (q_age T r p) := by
  have hP := hT.2
  obtain ⟨hv, h9, _, _, _, _, ha⟩ := hx
  unfold f9_ageNow q_age
  simp (disch := omega) only [h9, y_7, y_21, pk_mul, nI_add, y_in, y_cl, if_true, hr _, y_33, ha p hp]
  by_cases h : r p = 2
  · rw [if_pos h, if_pos h]
  · rw [if_neg h, if_neg h]
/-- one bit each, added -/
def q_bc (x : Int32) (n : Nat) : Int32 := q_sm (fun k => if bt x k then 1 else 0) n
theorem p9_bits (x : Int32) : f9_bits x = some (q_bc x 7) := by
  unfold f9_bits
  refine z_it_eb (fun k => (q_bc x k, nI k)) 7 (q_bc x 7) rfl (fun k hk => ?_) ?_ (by decide) rfl
  · unfold f9_bits_L1
    simp (disch := omega) only [z_u2, y_7, y_lt, hk, if_true, z_let, y_s1, b_bit]
    rfl
  · unfold f9_bits_L1
    simp only [z_u2]
    rw [if_neg (show ¬ nI 7 < 7 by decide)]
theorem q_bc_mk (c : Nat → Bool) {n : Nat} (hn : n ≤ 7) : q_bc (q_mk c n) 7 = q_sm (fun k => if c k then 1 else 0) n := by
  unfold q_bc
  rw [q_sm_to hn]
  · refine q_sm_cong fun i hi => ?_
    rw [q_mk_b c n (by omega) i (by omega), decide_eq_true hi, Bool.true_and]
  · intro i h1 h2
    rw [q_mk_b c n (by omega) i (by omega), decide_eq_false (by omega), Bool.false_and]
    rfl
theorem p6_bitCount_n : ∀ k, k < 128 → fj6_bitCount_0f7a4 (nI k) = q_bc (nI k) 7 := by decide +kernel
theorem p6_bitCount {x : Int32} (h : ∀ i, 7 ≤ i → i < 32 → bt x i = false) : fj6_bitCount_0f7a4 x = q_bc x 7 := by
  obtain ⟨k, hk, e⟩ := b_of (n := 7) (by omega) h
  rw [e]
  exact p6_bitCount_n k hk
theorem p6_bitCount_mk (c : Nat → Bool) {n : Nat} (hn : n ≤ 7) : fj6_bitCount_0f7a4 (q_mk c n) = q_sm (fun k => if c k then 1 else 0) n := by
  rw [p6_bitCount, q_bc_mk c hn]
  intro i h1 h2
  rw [q_mk_b c n (by omega) i h2, decide_eq_false (by omega), Bool.false_and]
/-! rows that are copied -/
theorem p9_copies {m : zMem} {T : qT} {v : Nat} {r : Nat → Int32} (hx : qMx m T v) (hn : qMn m r) : zw (f9_copies m) fun m' => z_fr (fun c i => i = 0 ∧ (c = 149 ∨ c = 9)) m m' ∧ qMr m' r ∧ m'.1 9 0 = upd (upd (m.1 9 0) 50 (tS T)) 51 0 := by
  obtain ⟨hv, h9, _, _, h3, _⟩ := hx
  unfold f9_copies
  refine zw_eq (z_fill (N := 34) (N' := 34) (c := 149) (i := 0) (v := fun m x => m.1 148 0 x.toNatClampNeg) (fun k => m.1 148 0 k) (fun x m => rfl) (fun f k hk => ?_) (Nat.le_refl _) (by omega) (by decide)) ?_
  · show (z_uI m 149 0 f).1 148 0 (nI k).toNatClampNeg = m.1 148 0 k
    rw [z_uI_ne (by omega), y_cl (by omega)]
  · have e9 : (z_uI m 149 0 (z_fl 34 (fun k => m.1 148 0 k) (m.1 149 0))).1 9 0 = m.1 9 0 := z_uI_ne (by omega)
    have e1 : (z_uI m 149 0 (z_fl 34 (fun k => m.1 148 0 k) (m.1 149 0))).1 131 0 = m.1 131 0 := z_uI_ne (by omega)
    rw [e9, h9, if_pos (y_in hv (by omega)), y_cl (by omega), e1, h3]
    refine zw_some.mpr ⟨z_fr_s (z_fr_s (z_fr_u (z_fr_r m) (by omega)) (by omega)) (by omega), ?_, ?_⟩
    · intro k hk
      show (z_sI (z_sI _ 9 0 50 _) 9 0 51 _).1 149 0 k = r k
      unfold z_sI
      rw [z_uI_ne (by omega), z_uI_ne (by omega), z_uI_at]
      show (if k < 34 then _ else _) = _
      rw [if_pos hk]
      exact hn k hk
    · show (z_sI (z_sI _ 9 0 50 _) 9 0 51 _).1 9 0 = _
      unfold z_sI
      rw [z_uI_at, z_uI_at, e9]
