/-! THE TEXT AND THE STATE, as numbers: T = (houses, people, seed, rents, ages, laws); a state is the reference's row r of 34 ints -/
abbrev qI : Type := Nat × Nat
abbrev qB : Type := List qI × List qI × List qI
abbrev qT : Type := Nat × Nat × Int32 × (Nat → Int32) × (Nat → Int32) × (Nat → List qB × List qI)
theorem y_deq {a b : Nat} (ha : a < 2147483648) (hb : b < 2147483648) : decide (nI a = nI b) = decide (a = b) := decide_eq_decide.mpr (by rw [y_eq ha hb])
def tH (T : qT) : Nat := T.1
def tP (T : qT) : Nat := T.2.1
def tS (T : qT) : Int32 := T.2.2.1
def tR (T : qT) : Nat → Int32 := T.2.2.2.1
def tA (T : qT) : Nat → Int32 := T.2.2.2.2.1
def tL (T : qT) : Nat → List qB × List qI := T.2.2.2.2.2
def tOk (T : qT) : Prop := tH T ≤ 5 ∧ tP T ≤ 7
/-- a row as it must be: standings, nothing behind the last PERSON and HOUSE, bounds -/
def qRow (T : qT) (B : Nat) (r : Nat → Int32) : Prop :=
  (∀ k, k < tP T → r k = 0 ∨ r k = 1 ∨ r k = 2) ∧
  (∀ k, tP T ≤ k → k < 7 → r k = 0 ∧ r (7 + k) = 0 ∧ r (14 + k) = 0) ∧
  (∀ k, k < 7 → r k ≠ 1 → r (7 + k) = 0) ∧
  (∀ k, k < 7 → ∃ g, g ≤ 99 + B ∧ r (7 + k) = nI g) ∧
  (∃ y, y ≤ B ∧ r 33 = nI y) ∧
  (∀ h, tH T ≤ h → h < 5 → r (28 + h) = 0) ∧
  (∀ h, h < 5 → ∀ k, tP T ≤ k → k < 32 → bt (r (28 + h)) k = false)
/-- the class's State o holds the row r -/
def qRep (m : zMem) (o : Nat) (T : qT) (r : Nat → Int32) : Prop :=
  m.1 5 o 0 = r 33 ∧
  (∀ k, k < 32 → bt (m.1 5 o 1) k = (decide (k < tP T) && decide (r k = 0))) ∧
  (∀ k, k < 32 → bt (m.1 5 o 2) k = (decide (k < tP T) && decide (r k = 1))) ∧
  (∀ k, k < 7 → m.1 22 o k = r (7 + k)) ∧
  (∀ k, k < 7 → m.1 23 o k = r (14 + k)) ∧
  (∀ k, k < tP T → m.1 24 o k = tA T k + (if r k = 2 then r (21 + k) else r 33)) ∧
  (∀ h, h < 5 → m.1 25 o h = r (28 + h))
theorem qRep.fr {m m' : zMem} {o : Nat} {T : qT} {r : Nat → Int32} (h : qRep m o T r) (h5 : m'.1 5 o = m.1 5 o) (h22 : m'.1 22 o = m.1 22 o) (h23 : m'.1 23 o = m.1 23 o) (h24 : m'.1 24 o = m.1 24 o) (h25 : m'.1 25 o = m.1 25 o) : qRep m' o T r := by
  unfold qRep at *
  rw [h5, h22, h23, h24, h25]
  exact h
/-- who of those AWAY, with a RIGHT in h, but one, is gone the longest -/
def q_lbut (T : qT) (r : Nat → Int32) (h : Nat) (but : Int32) : Int32 := q_lg (fun p => !decide (nI p = but) && (decide (r p = 1) && bt (r (28 + h)) p)) (fun p => r (7 + p)) (tP T)
def q_lord (T : qT) (r : Nat → Int32) (h : Nat) : Int32 := q_lbut T r h (-1)
def q_heir (T : qT) (r : Nat → Int32) (h : Nat) : Int32 := if q_lord T r h < 0 then -2 else q_lbut T r h (q_lord T r h)
theorem q_lbut_in {T : qT} {r : Nat → Int32} {h : Nat} {but : Int32} : q_lbut T r h but = -2 ∨ ∃ j, j < tP T ∧ q_lbut T r h but = nI j := by
  unfold q_lbut
  rcases q_lg_in (fun p => !decide (nI p = but) && (decide (r p = 1) && bt (r (28 + h)) p)) (fun p => r (7 + p)) (tP T) with e | ⟨j, hj, e, _⟩
  · exact Or.inl e
  · exact Or.inr ⟨j, hj, e⟩
theorem q_lord_in {T : qT} {r : Nat → Int32} {h : Nat} : q_lord T r h = -2 ∨ ∃ j, j < tP T ∧ q_lord T r h = nI j := q_lbut_in
/-! the class's State -/
theorem p5_longestGone (o : Nat) (a : Int32) (m : zMem) : f5_longestGone o a m = some (q_lg (bt a) (m.1 22 o) 7) := by
  unfold f5_longestGone
  refine z_it_eb (fun k => (q_lg (bt a) (m.1 22 o) k, (if q_lg (bt a) (m.1 22 o) k < 0 then -1 else m.1 22 o (q_lg (bt a) (m.1 22 o) k).toNatClampNeg), nI k)) 7 (q_lg (bt a) (m.1 22 o) 7) (by rw [q_lg, if_pos (by decide)]; rfl) (fun k hk => ?_) ?_ (by decide) rfl
  · unfold f5_longestGone_L1
    simp (disch := omega) only [z_u3, y_7, y_lt, hk, if_true, y_in, z_let, y_cl, y_has0, y_s1]
    rw [q_lg]
    rcases q_lg_in (bt a) (m.1 22 o) k with e | ⟨j, hj, e, _⟩
    · rw [e, if_pos (show (-2 : Int32) < 0 by decide)]
      cases hb : bt a k
      · rw [if_pos rfl, if_neg (by decide), if_pos (show (-2 : Int32) < 0 by decide)]
        rfl
      · rw [if_neg (by decide), if_pos rfl, if_pos rfl, if_pos (Or.inl (by decide)), if_neg (nI_pos (by omega)), y_cl (by omega)]
        rfl
    · rw [e, if_neg (nI_pos (by omega)), y_cl (by omega), if_neg (show ¬ nI j = -2 by rw [y_ne2 (by omega)]; exact id)]
      cases hb : bt a k
      · rw [if_pos rfl, if_neg (by decide), if_neg (nI_pos (by omega)), y_cl (by omega)]
        rfl
      · rw [if_neg (by decide), if_pos rfl]
        by_cases hg : m.1 22 o j < m.1 22 o k
        · rw [if_pos hg, if_pos (Or.inr hg), if_neg (nI_pos (by omega)), y_cl (by omega)]
          rfl
        · rw [if_neg hg, if_neg (fun q => q.elim (nI_pos (by omega)) hg), if_neg (nI_pos (by omega)), y_cl (by omega)]
          rfl
  · unfold f5_longestGone_L1
    simp only [z_u3]
    rw [if_neg (show ¬ nI 7 < 7 by decide)]
theorem p5_landlordOf {m : zMem} {o : Nat} {T : qT} {r : Nat → Int32} (hr : qRep m o T r) (hT : tOk T) {h : Nat} (hh : h < 5) : f5_landlordOf o (nI h) m = some (q_lord T r h) := by
  unfold f5_landlordOf
  rw [if_pos (y_in hh (by omega)), p5_longestGone, y_cl (by omega)]
  show some _ = _
  congr 1
  obtain ⟨_, _, ha, hg, _, _, hh'⟩ := hr
  unfold q_lord q_lbut
  have hP := hT.2
  rw [q_lg_to hP]
  · refine q_lg_cong (fun i hi => ?_) (fun i hi => hg i (by omega)) (by omega)
    rw [b_and, ha i (by omega), decide_eq_true hi, hh' h hh, show decide (nI i = -1) = false from decide_eq_false (by rw [y_ne1 (by omega)]; exact id)]
    cases bt (r (28 + h)) i <;> cases decide (r i = 1) <;> rfl
  · intro i h1 h2
    rw [b_and, ha i (by omega), decide_eq_false (by omega), Bool.false_and, Bool.and_false]
theorem p5_heirOf {m : zMem} {o : Nat} {T : qT} {r : Nat → Int32} (hr : qRep m o T r) (hT : tOk T) {h : Nat} (hh : h < 5) : f5_heirOf o (nI h) m = some (q_heir T r h) := by
  unfold f5_heirOf
  rw [p5_landlordOf hr hT hh]
  show (if _ then _ else _) = _
  unfold q_heir
  rcases q_lord_in (T := T) (r := r) (h := h) with e | ⟨j, hj, e⟩
  · rw [e]
    rfl
  · rw [e, if_neg (nI_pos (by have := hT.2; omega)), if_neg (nI_pos (by have := hT.2; omega)), if_pos (y_in hh (by omega)), p5_longestGone, y_cl (by omega)]
    show some _ = _
    congr 1
    obtain ⟨_, _, ha, hg, _, _, hh'⟩ := hr
    unfold q_lbut
    have hP := hT.2
    rw [q_lg_to hP]
    · refine q_lg_cong (fun i hi => ?_) (fun i hi => hg i (by omega)) (by omega)
      rw [b_and, b_and, ha i (by omega), decide_eq_true hi, hh' h hh, b_not (by omega), b_p j (by omega) (by omega), y_deq (by omega) (by omega)]
      cases bt (r (28 + h)) i <;> cases decide (r i = 1) <;> cases decide (i = j) <;> rfl
    · intro i h1 h2
      rw [b_and, b_and, ha i (by omega), decide_eq_false (by omega), Bool.false_and, Bool.and_false, Bool.false_and]
/-- how many of the first n HOUSES a PERSON has RIGHTS in -/
def q_rh (r : Nat → Int32) (p : Nat) : Nat → Int32 := q_sm fun h => if bt (r (28 + h)) p then 1 else 0
theorem p5_rightsHeld {m : zMem} {o : Nat} {T : qT} {r : Nat → Int32} (hr : qRep m o T r) {p : Nat} (hp : p < 7) : f5_rightsHeld o (nI p) m = some (q_rh r p 5) := by
  unfold f5_rightsHeld
  obtain ⟨_, _, _, _, _, _, hh⟩ := hr
  refine z_it_eb (fun k => (q_rh r p k, nI k)) 5 (q_rh r p 5) rfl (fun k hk => ?_) ?_ (by decide) rfl
  · unfold f5_rightsHeld_L1
    simp (disch := omega) only [z_u2, y_5, y_lt, hk, if_true, y_in, z_let, y_cl, y_s1, b_bit]
    rw [hh k hk]
    rfl
  · unfold f5_rightsHeld_L1
    simp only [z_u2]
    rw [if_neg (show ¬ nI 5 < 5 by decide)]
/-- the class's Text o tells T -/
def qTx (m : zMem) (o : Nat) (T : qT) : Prop :=
  m.1 6 o 0 = nI (tH T) ∧ m.1 6 o 1 = nI (tP T) ∧ m.1 6 o 2 = tS T ∧ (∀ h, h < tH T → m.1 26 (2 * o) h = tR T h) ∧ (∀ k, k < tP T → m.1 26 (2 * o + 1) k = tA T k)
theorem qTx.fr {m m' : zMem} {o : Nat} {T : qT} (h : qTx m o T) (h6 : m'.1 6 o = m.1 6 o) (h26 : m'.1 26 (2 * o) = m.1 26 (2 * o)) (h27 : m'.1 26 (2 * o + 1) = m.1 26 (2 * o + 1)) : qTx m' o T := by
  unfold qTx at *
  rw [h6, h26, h27]
  exact h
def q_any (c : Nat → Bool) : Nat → Bool
  | 0 => false
  | n + 1 => q_any c n || c n
def q_lords (T : qT) (r : Nat → Int32) : Int32 := q_mk (fun p => q_any (fun h => decide (q_lord T r h = nI p)) (tH T)) (tP T)
theorem p5_allLandlords {m : zMem} {o t : Nat} {T : qT} {r : Nat → Int32} (hr : qRep m o T r) (hT : tOk T) (ht : qTx m t T) : f5_allLandlords o t m = some (q_lords T r) := by
  have hH := hT.1
  have hP := hT.2
  unfold f5_allLandlords
  refine z_it_eb (fun k => (q_mk (fun p => q_any (fun h => decide (q_lord T r h = nI p)) k) (tP T), nI k)) (tH T) (q_lords T r) (by show (_, _) = (_, _); congr 1; exact (q_mk_eq (by omega) fun i hi => by rw [b_0]; show false = (_ && false); rw [Bool.and_false])) (fun k hk => ?_) ?_ (z_fu_lt (by omega)) rfl
  · unfold f5_allLandlords_L1
    simp (disch := omega) only [z_u2, ht.1, y_lt, hk, if_true, p5_landlordOf hr hT, Option.bind_some, z_let, y_s1]
    rcases q_lord_in (T := T) (r := r) (h := k) with e | ⟨j, hj, e⟩
    · rw [e, if_pos (by decide)]
      show some (Sum.inl (_, _)) = some (Sum.inl (_, _))
      congr 3
      refine q_mk_cong fun i hi => ?_
      show _ = (_ || decide (q_lord T r k = nI i))
      rw [e, decide_eq_false (fun q => absurd q.symm (by rw [y_ne2 (by omega)]; exact id)), Bool.or_false]
    · rw [e, if_neg (nI_pos (by omega))]
      show some (Sum.inl (_, _)) = some (Sum.inl (_, _))
      congr 3
      refine q_mk_eq (by omega) fun i hi => ?_
      rw [b_or, q_mk_b _ _ (by omega) i hi, b_p j (by omega) hi]
      show _ = (_ && (_ || decide (q_lord T r k = nI i)))
      rw [e, y_deq (by omega) (by omega)]
      by_cases h : i = j
      · rw [decide_eq_true h, decide_eq_true h.symm, decide_eq_true (by omega), Bool.or_true, Bool.or_true]; rfl
      · rw [decide_eq_false h, show decide (j = i) = false from decide_eq_false (fun q => h q.symm), Bool.or_false, Bool.or_false]
  · unfold f5_allLandlords_L1
    simp (disch := omega) only [z_u2, ht.1, y_lt, Nat.lt_irrefl, if_false]
    rfl
theorem p5_everybody {P : Nat} (hP : P ≤ 7) : f8_everybody (nI P) = q_mk (fun _ => true) P := (by decide +kernel : ∀ P, P < 8 → f8_everybody (nI P) = q_mk (fun _ => true) P) P (by omega)
theorem p5_alive_b {m : zMem} {o : Nat} {T : qT} {r : Nat → Int32} (hr : qRep m o T r) {k : Nat} (hk : k < 32) : bt (f5_alive o m) k = (decide (k < tP T) && (decide (r k = 0) || decide (r k = 1))) := by
  unfold f5_alive
  rw [b_or, hr.2.1 k hk, hr.2.2.1 k hk]
  cases decide (k < tP T) <;> rfl
def q_st (T : qT) (r : Nat → Int32) (v : Int32) : Int32 := q_mk (fun p => decide (r p = v)) (tP T)
theorem p5_home {m : zMem} {o : Nat} {T : qT} {r : Nat → Int32} (hr : qRep m o T r) (hT : tOk T) : m.1 5 o 1 = q_st T r 0 := q_mk_eq (by have := hT.2; omega) hr.2.1
theorem p5_away {m : zMem} {o : Nat} {T : qT} {r : Nat → Int32} (hr : qRep m o T r) (hT : tOk T) : m.1 5 o 2 = q_st T r 1 := q_mk_eq (by have := hT.2; omega) hr.2.2.1
theorem q_three {B : Nat} {T : qT} {r : Nat → Int32} (hw : qRow T B r) {k : Nat} (hk : k < tP T) : decide (r k = 2) = !(decide (r k = 0) || decide (r k = 1)) := by
  rcases hw.1 k hk with e | e | e <;> rw [e] <;> rfl
theorem p5_dead {m : zMem} {o t : Nat} {T : qT} {r : Nat → Int32} {B : Nat} (hr : qRep m o T r) (hT : tOk T) (ht : qTx m t T) (hw : qRow T B r) : (f8_everybody (m.1 6 t 1)) &&& ((f5_alive o m) ^^^ (-1 : Int32)) = q_st T r 2 := by
  have hP := hT.2
  refine q_mk_eq (by omega) fun i hi => ?_
  rw [ht.2.1, p5_everybody hP, b_and, b_not hi, p5_alive_b hr hi, q_mk_b _ _ (by omega) i hi]
  by_cases h : i < tP T
  · rw [decide_eq_true h, q_three hw h]; rfl
  · rw [decide_eq_false h]; rfl
theorem p5_whoStands {m : zMem} {o t : Nat} {T : qT} {r : Nat → Int32} {B : Nat} (hr : qRep m o T r) (hT : tOk T) (ht : qTx m t T) (hw : qRow T B r) (a : Int32) : f5_whoStands o t a m = if a = 0 ∨ a = 1 ∨ a = 2 then q_st T r a else -1 := by
  unfold f5_whoStands
  by_cases h0 : a = 0
  · rw [if_pos h0, if_pos (Or.inl h0), h0, p5_home hr hT]
  · rw [if_neg h0]
    by_cases h1 : a = 1
    · rw [if_pos h1, if_pos (Or.inr (Or.inl h1)), h1, p5_away hr hT]
    · rw [if_neg h1]
      by_cases h2 : a = 2
      · rw [if_pos h2, if_pos (Or.inr (Or.inr h2)), h2, p5_dead hr hT ht hw]
      · rw [if_neg h2, if_neg (fun q => q.elim h0 (fun q => q.elim h1 h2))]
theorem p5_standingOf {m : zMem} {o : Nat} {T : qT} {r : Nat → Int32} {B : Nat} (hr : qRep m o T r) (hT : tOk T) (hw : qRow T B r) {p : Nat} (hp : p < tP T) : f5_standingOf o (nI p) m = r p := by
  have hP := hT.2
  unfold f5_standingOf
  simp (disch := omega) only [y_has0]
  rw [hr.2.1 p (by omega), hr.2.2.1 p (by omega), decide_eq_true hp]
  rcases hw.1 p hp with e | e | e <;> rw [e] <;> rfl
