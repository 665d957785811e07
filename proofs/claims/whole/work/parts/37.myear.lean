/-! YEARS V: the reference's year -/
theorem q_row34 {f g : Nat → Int32} (h0 : ∀ p, p < 7 → f p = g p) (h1 : ∀ p, p < 7 → f (7 + p) = g (7 + p)) (h2 : ∀ p, p < 7 → f (14 + p) = g (14 + p)) (h3 : ∀ p, p < 7 → f (21 + p) = g (21 + p)) (h4 : ∀ p, p < 5 → f (28 + p) = g (28 + p)) (h5 : f 33 = g 33) : ∀ k, k < 34 → f k = g k := fun k hk => by
  by_cases c0 : k < 7
  · exact h0 k c0
  by_cases c1 : k < 14
  · have := h1 (k - 7) (by omega); rw [show 7 + (k - 7) = k by omega] at this; exact this
  by_cases c2 : k < 21
  · have := h2 (k - 14) (by omega); rw [show 14 + (k - 14) = k by omega] at this; exact this
  by_cases c3 : k < 28
  · have := h3 (k - 21) (by omega); rw [show 21 + (k - 21) = k by omega] at this; exact this
  by_cases c4 : k < 33
  · have := h4 (k - 28) (by omega); rw [show 28 + (k - 28) = k by omega] at this; exact this
  · have : k = 33 := by omega
    rw [this]; exact h5
theorem qMx.zk {S : Nat → Nat → Nat → Prop} {m m' : zMem} {T : qT} {v : Nat} (h : qMx m T v) (hf : zk S m m') (hs : ∀ k, ¬ S 9 0 18 ∧ ¬ S 123 0 k ∧ ¬ S 126 0 k ∧ ¬ S 131 0 k ∧ ¬ S 124 0 k ∧ ¬ S 127 0 k) : qMx m' T v := h.fr (hf.1 _ _ _ (hs 0).1) (funext fun k => hf.1 _ _ _ (hs k).2.1) (funext fun k => hf.1 _ _ _ (hs k).2.2.1) (funext fun k => hf.1 _ _ _ (hs k).2.2.2.1) (funext fun k => hf.1 _ _ _ (hs k).2.2.2.2.1) (funext fun k => hf.1 _ _ _ (hs k).2.2.2.2.2)
theorem qMl.zk {S : Nat → Nat → Nat → Prop} {m m' : zMem} {T : qT} {v : Nat} (h : qMl m v T) (hf : zk S m m') (hs : ∀ c k, (c = 132 ∨ c = 133 ∨ c = 135 ∨ c = 136 ∨ c = 137 ∨ c = 138 ∨ c = 139 ∨ c = 141 ∨ c = 142) → ¬ S c 0 k) : qMl m' v T := by
  have e : ∀ c, (c = 132 ∨ c = 133 ∨ c = 135 ∨ c = 136 ∨ c = 137 ∨ c = 138 ∨ c = 139 ∨ c = 141 ∨ c = 142) → m'.1 c 0 = m.1 c 0 := fun c hc => funext fun k => hf.1 _ _ _ (hs c k hc)
  have hE : qMlE m m' := ⟨e _ (by omega), e _ (by omega), e _ (by omega), e _ (by omega), e _ (by omega), e _ (by omega), e _ (by omega)⟩
  intro k hk
  rw [e 132 (by omega), e 133 (by omega)]
  rcases h k hk with h | ⟨b, h1, h2, h3, h4⟩
  · exact Or.inl h
  · refine Or.inr ⟨b, h1, h2, h3, fun m2 hr => h4 m2 ⟨fun c j a1 a2 a3 a4 => (hr.1 c j a1 a2 a3 a4).trans ?_, fun c j a1 a2 a3 => (hr.2 c j a1 a2 a3).trans ?_⟩⟩
    · rw [e c (by omega)]
    · rw [e c (by omega)]
theorem qMr.zk {S : Nat → Nat → Nat → Prop} {m m' : zMem} {r : Nat → Int32} (h : qMr m r) (hf : zk S m m') (hs : ∀ k, ¬ S 149 0 k) : qMr m' r := fun k hk => by rw [hf.1 _ _ _ (hs k)]; exact h k hk
theorem qMn.zk {S : Nat → Nat → Nat → Prop} {m m' : zMem} {r : Nat → Int32} (h : qMn m r) (hf : zk S m m') (hs : ∀ k, ¬ S 148 0 k) : qMn m' r := fun k hk => by rw [hf.1 _ _ _ (hs k)]; exact h k hk
theorem zk_pile {m m' : zMem} (h : z_fr qPile m m') (h9 : ∀ j, j ≠ 47 → m'.1 9 0 j = m.1 9 0 j) : zk (fun c _ k => c = 146 ∨ (c = 9 ∧ k = 47)) m m' := ⟨fun c i k hn => by
  by_cases e : c = 9 ∧ i = 0
  · obtain ⟨rfl, rfl⟩ := e
    exact h9 k (fun q => hn (Or.inr ⟨rfl, q⟩))
  · exact congrFun (h.1 c i (by omega)) k, h.2⟩
section
variable {m : zMem} {T : qT} {v : Nat} {r : Nat → Int32}
abbrev sVar : Nat → Nat → Nat → Prop := fun c _ _ => c = 145
theorem p9_looks (hx : qMx m T v) (hT : tOk T) (hr : qMr m r) {p : Nat} (hp : p < tP T) : zw (f9_looks (nI p) m) fun m' => zk sVar m m' ∧ ∀ j, j < 9 → m'.1 145 0 j = q_var T r p j := by
  have hH := hT.1
  have hP := hT.2
  unfold f9_looks
  refine zw_eq (p9_lordBits hx hT hr (nI p)) ?_
  simp only [z_let]
  refine zw_b (zw_for (Q := fun m1 => zk sVar m m1 ∧ m1.1 145 0 0 = q_or T r p (tH T)) (tH T) (fun k m1 => zk sVar m m1 ∧ m1.1 145 0 0 = q_or T r p k) (by omega) ⟨zk_s (zk_r m) rfl, by rw [z_sI_1, if_pos ⟨rfl, rfl, rfl⟩]; rfl⟩ ?_ ?_) ?_
  · rintro k m1 hk ⟨hf, h0⟩
    have hx1 : qMx m1 T v := hx.zk hf (fun k => by omega)
    obtain ⟨hv, h9, h1, _, _, hR, _⟩ := hx1
    unfold f9_looks_L5
    simp (disch := omega) only [z_u2, h9, y_in, y_cl, h1, y_lt, hk, if_true, b_bit, y_5, pk_mul, nI_add, y_s1, z_let]
    rw [q_mk_b _ _ (by omega) k (by omega), decide_eq_true hk, Bool.true_and]
    by_cases e : q_lord T r k = nI p
    · rw [decide_eq_true e, if_pos rfl, if_pos rfl]
      refine zw_some.mpr ⟨rfl, zk_s hf rfl, ?_⟩
      rw [z_sI_1, if_pos ⟨rfl, rfl, rfl⟩]
      rw [q_or_s, show (0 : Int32).toNatClampNeg = 0 from rfl, h0, hR k hk, decide_eq_true e, if_pos rfl]
    · rw [decide_eq_false e, if_neg (by decide)]
      refine zw_some.mpr ⟨rfl, hf, ?_⟩
      rw [h0, q_or_s, decide_eq_false e, if_neg (by decide), Int32.add_zero]
  · rintro m1 ⟨hf, h0⟩
    obtain ⟨hv, h9, h1, _⟩ := hx.zk hf (fun k => by omega)
    unfold f9_looks_L5
    simp (disch := omega) only [z_u2, h9, y_in, y_cl, h1, y_lt, Nat.lt_irrefl, if_true, if_false]
    exact zw_some.mpr ⟨hf, h0⟩
  · rintro m1 ⟨hf, h0⟩
    refine zw_eq (p9_ageNow (hx.zk hf (fun k => by omega)) hT (hr.zk hf (fun k => by omega)) hp) ?_
    have e14 : (14 : Int32) + nI p = nI (14 + p) := nI_add 14 p
    have e7 : (7 : Int32) + nI p = nI (7 + p) := nI_add 7 p
    rw [e7, e14, if_pos (y_in (by omega) (by omega)), if_pos (y_in (by omega) (by omega)), y_cl (by omega), y_cl (by omega)]
    rw [show (1 : Int32).toNatClampNeg = 1 from rfl, show (2 : Int32).toNatClampNeg = 2 from rfl, show (3 : Int32).toNatClampNeg = 3 from rfl, show (4 : Int32).toNatClampNeg = 4 from rfl, show (5 : Int32).toNatClampNeg = 5 from rfl, show (6 : Int32).toNatClampNeg = 6 from rfl, show (7 : Int32).toNatClampNeg = 7 from rfl, show (8 : Int32).toNatClampNeg = 8 from rfl, show (33 : Int32).toNatClampNeg = 33 from rfl]
    generalize g1 : z_sI m1 145 0 1 (q_age T r p) = n1
    have f1 : zk sVar m n1 := by rw [← g1]; exact zk_s hf rfl
    generalize g2 : z_sI n1 145 0 2 (n1.1 149 0 (7 + p)) = n2
    have f2 : zk sVar m n2 := by rw [← g2]; exact zk_s f1 rfl
    generalize g3 : z_sI n2 145 0 3 (n2.1 149 0 (14 + p)) = n3
    have f3 : zk sVar m n3 := by rw [← g3]; exact zk_s f2 rfl
    generalize g4 : z_sI n3 145 0 4 (n3.1 149 0 33) = n4
    have f4 : zk sVar m n4 := by rw [← g4]; exact zk_s f3 rfl
    refine zw_eq (p9_rightBits (hx.zk f4 (fun k => by omega)) hT (hr.zk f4 (fun k => by omega)) (show p < 7 by omega)) ?_
    refine zw_eq (p9_bits _) ?_
    generalize g5 : z_sI n4 145 0 5 (q_bc (q_mk (fun h => bt (r (28 + h)) p) (tH T)) 7) = n5
    have f5 : zk sVar m n5 := by rw [← g5]; exact zk_s f4 rfl
    refine zw_eq (p9_bits _) ?_
    generalize g6 : z_sI n5 145 0 6 (q_bc (q_mk (fun h => decide (q_lord T r h = nI p)) (tH T)) 7) = n6
    have f6 : zk sVar m n6 := by rw [← g6]; exact zk_s f5 rfl
    generalize g7 : z_sI n6 145 0 7 (nI p) = n7
    have f7 : zk sVar m n7 := by rw [← g7]; exact zk_s f6 rfl
    refine zw_eq (p9_inState (hx.zk f7 (fun k => by omega)) hT (hr.zk f7 (fun k => by omega)) 0) ?_
    refine zw_eq (p9_bits _) ?_
    refine zw_some.mpr ⟨zk_s f7 rfl, ?_⟩
    have a0 : n7.1 145 0 0 = q_or T r p (tH T) := by rw [← g7, ← g6, ← g5, ← g4, ← g3, ← g2, ← g1]; simp only [z_sI_1, Nat.reduceEqDiff, and_false, if_false]; exact h0
    have a1 : n7.1 145 0 1 = q_age T r p := by rw [← g7, ← g6, ← g5, ← g4, ← g3, ← g2, ← g1]; simp only [z_sI_1, Nat.reduceEqDiff, and_false, if_false, and_self, if_true]
    have a2 : n7.1 145 0 2 = r (7 + p) := by rw [← g7, ← g6, ← g5, ← g4, ← g3, ← g2]; simp only [z_sI_1, Nat.reduceEqDiff, and_false, if_false, and_self, if_true]; exact hr.zk f1 (fun k => by omega) _ (by omega)
    have a3 : n7.1 145 0 3 = r (14 + p) := by rw [← g7, ← g6, ← g5, ← g4, ← g3]; simp only [z_sI_1, Nat.reduceEqDiff, and_false, if_false, and_self, if_true]; exact hr.zk f2 (fun k => by omega) _ (by omega)
    have a4 : n7.1 145 0 4 = r 33 := by rw [← g7, ← g6, ← g5, ← g4]; simp only [z_sI_1, Nat.reduceEqDiff, and_false, if_false, and_self, if_true]; exact hr.zk f3 (fun k => by omega) _ (by omega)
    have a5 : n7.1 145 0 5 = q_rh r p (tH T) := by rw [← g7, ← g6, ← g5]; simp only [z_sI_1, Nat.reduceEqDiff, and_false, if_false, and_self, if_true]; exact q_bc_mk _ (by omega)
    have a6 : n7.1 145 0 6 = q_ls T r p (tH T) := by rw [← g7, ← g6]; simp only [z_sI_1, Nat.reduceEqDiff, and_false, if_false, and_self, if_true]; exact q_bc_mk _ (by omega)
    have a7 : n7.1 145 0 7 = nI p := by rw [← g7]; simp only [z_sI_1, Nat.reduceEqDiff, and_false, if_false, and_self, if_true]
    intro j hj
    rw [z_sI_1]
    match j, hj with
    | 0, _ => exact a0
    | 1, _ => exact a1
    | 2, _ => exact a2
    | 3, _ => exact a3
    | 4, _ => exact a4
    | 5, _ => exact a5
    | 6, _ => exact a6
    | 7, _ => exact a7
    | 8, _ => rfl
abbrev sML : Nat → Nat → Nat → Prop := fun c _ k => c = 145 ∨ c = 146 ∨ (c = 9 ∧ k = 47)
theorem p9_chanceOf (hx : qMx m T v) (hT : tOk T) (hl : tLw T) (hM : qMl m v T) (hr : qMr m r) {p : Nat} (hp : p < tP T) {k : Nat} (hk : k < 3) : zw (f9_chanceOf (nI p) (nI k) m) fun q => q.1 = q_ch T r k p ∧ zk sML m q.2 := by
  unfold f9_chanceOf
  refine zw_b (p9_looks hx hT hr hp) ?_
  rintro m1 ⟨hf, hvar⟩
  have hx1 : qMx m1 T v := hx.zk hf (fun k => by omega)
  refine zw_b (p9_lawTells (x := q_var T r p) hx1.1 hx1.2.1 hl (hM.zk hf (fun c k h => by omega)) hvar (show k < 4 by omega) (pl := 0) ?_) ?_
  · unfold q_pl
    rw [if_neg (by omega)]
    rfl
  · rintro ⟨w, m2⟩ ⟨ew, hf2, h9⟩
    refine zw_some.mpr ⟨?_, zk_t (zk_m hf (fun c i k h => Or.inl h)) (zk_m (zk_pile hf2 h9) (fun c i k h => by omega))⟩
    show f9_within w 0 100 = _
    rw [show w = tV T k (q_var T r p) from ew]
    rfl
theorem p9_rentsOf (hx : qMx m T v) (hT : tOk T) (hl : tLw T) (hM : qMl m v T) (hr : qMr m r) {h : Nat} (hh : h < tH T) : zw (f9_rentsOf (nI h) m) fun q => q.1 = q_rt T r h ∧ zk sML m q.2 := by
  have hH := hT.1
  have hP := hT.2
  unfold f9_rentsOf q_rt
  refine zw_eq (p9_lordOf hx hT hr (show h < 5 by omega)) ?_
  rcases q_lord_in (T := T) (r := r) (h := h) with e | ⟨p, hp, e⟩
  · rw [e, if_pos (by decide)]
    exact zw_some.mpr ⟨rfl, zk_r m⟩
  · rw [e, if_neg (nI_pos (by omega)), if_neg (nI_pos (by omega)), y_cl (by omega)]
    refine zw_b (p9_looks hx hT hr hp) ?_
    rintro m1 ⟨hf, hvar⟩
    have hx1 : qMx m1 T v := hx.zk hf (fun k => by omega)
    have hx1' := hx1
    obtain ⟨hv, h9, _, _, _, hR, _⟩ := hx1'
    rw [h9, y_5, pk_mul, nI_add, if_pos (y_in (by omega) (by omega)), y_cl (by omega), hR h hh]
    simp only [z_let]
    have hf2 : zk sVar m1 (z_sI m1 145 0 (0 : Int32).toNatClampNeg (tR T h)) := zk_s (zk_r m1) rfl
    have hx2 : qMx (z_sI m1 145 0 (0 : Int32).toNatClampNeg (tR T h)) T v := hx1.zk hf2 (fun k => by omega)
    have ev : ∀ j, j < 9 → (z_sI m1 145 0 (0 : Int32).toNatClampNeg (tR T h)).1 145 0 j = q_vaH T r p h j := fun j hj => by
      rw [z_sI_1]
      unfold q_vaH
      by_cases e0 : j = 0
      · rw [if_pos ⟨rfl, rfl, e0⟩, if_pos e0]
      · rw [if_neg (fun q => e0 q.2.2), if_neg e0]
        exact hvar j hj
    refine zw_b (p9_lawTells (k := 3) (x := q_vaH T r p h) hx2.1 hx2.2.1 hl ((hM.zk hf (fun c k h => by omega)).zk hf2 (fun c k h => by omega)) ev (by omega) (ev 0 (by omega))) ?_
    rintro ⟨w, m2⟩ ⟨ew, hf3, h93⟩
    refine zw_some.mpr ⟨?_, zk_t (zk_m hf (fun c i k h => Or.inl h)) (zk_t (zk_m hf2 (fun c i k h => Or.inl h)) (zk_m (zk_pile hf3 h93) (fun c i k h => by omega)))⟩
    show f9_within w 0 99 = _
    rw [show w = tV T 3 (q_vaH T r p h) from ew]
def qSd (m : zMem) (st : Bool) (sd : Int32) : Prop := m.1 9 0 50 = sd ∧ m.1 9 0 51 = if st then 1 else 0
theorem qSd.zk {S : Nat → Nat → Nat → Prop} {m m' : zMem} {st : Bool} {sd : Int32} (h : qSd m st sd) (hf : zk S m m') (hs : ¬ S 9 0 50 ∧ ¬ S 9 0 51) : qSd m' st sd := ⟨(hf.1 _ _ _ hs.1).trans h.1, (hf.1 _ _ _ hs.2).trans h.2⟩
theorem p9_isLot {st : Bool} {sd : Int32} (h : qSd m st sd) (x c : Int32) : (f9_isLot x c m = 0) = ((!st && q_lot sd x c) = false) := by
  unfold f9_isLot q_lot
  rw [h.1, h.2]
  have e : ((f9_mixed (f9_mixed sd 181) x).toUInt32 >>> ((1 : Int32).toUInt32 &&& Int32.toUInt32 31)).toInt32 - ((f9_mixed (f9_mixed sd 181) x).toUInt32 >>> ((1 : Int32).toUInt32 &&& Int32.toUInt32 31)).toInt32 / (100 : Int32) * (100 : Int32) = f0_lotOfHundred sd x := rfl
  rw [e]
  cases st
  · rw [if_pos (by decide)]
    by_cases hc : f0_lotOfHundred sd x < c
    · rw [if_pos hc, decide_eq_true hc]; simp
    · rw [if_neg hc, decide_eq_false hc]; simp
  · rw [if_neg (by decide)]; simp
theorem p9_whatDoes {st : Bool} {sd : Int32} {B : Nat} (hx : qMx m T v) (hT : tOk T) (hl : tLw T) (hM : qMl m v T) (hr : qMr m r) (hw : qRow T B r) (hs : qSd m st sd) {p : Nat} (hp : p < tP T) : zw (f9_whatDoes (nI p) m) fun q => q.1 = q_does T st sd r p ∧ zk sML m q.2 := by
  have hP := hT.2
  unfold f9_whatDoes q_does
  rw [if_pos (y_in (by omega) (by omega)), y_cl (by omega), hr p (by omega), show (33 : Int32).toNatClampNeg = 33 from rfl, hr 33 (by omega)]
  by_cases h2 : r p = 2
  · rw [if_pos h2, if_pos h2]
    exact zw_some.mpr ⟨rfl, zk_r m⟩
  · rw [if_neg h2, if_neg h2]
    refine zw_b (p9_chanceOf (k := 2) hx hT hl hM hr hp (by omega)) ?_
    rintro ⟨c, m1⟩ ⟨ec, hf⟩
    have ec' : c = q_ch T r 2 p := ec
    subst ec'
    simp only [z_u2]
    have hs1 : qSd m1 st sd := hs.zk hf (by omega)
    have hr1 : qMr m1 r := hr.zk hf (fun k => by omega)
    rw [hr1 p (by omega), hr1 33 (by omega)]
    simp only [p9_isLot hs1]
    cases hb : (!st && q_lot sd (32 * r 33 + nI p) (q_ch T r 2 p))
    · rw [if_pos rfl, if_neg (show ¬ false = true by decide)]
      have hx1 : qMx m1 T v := hx.zk hf (fun k => by omega)
      have hM1 : qMl m1 v T := hM.zk hf (fun c k h => by omega)
      rcases hw.1 p hp with e | e | e
      · rw [if_pos e, if_pos e, if_pos e, if_pos e, Option.bind_some, Option.bind_some]
        refine zw_b (p9_chanceOf (k := 0) hx1 hT hl hM1 hr1 hp (by omega)) ?_
        rintro ⟨c2, m2⟩ ⟨ec2, hf2⟩
        have ec2' : c2 = q_ch T r 0 p := ec2
        subst ec2'
        simp only [z_u2]
        simp only [p9_isLot (hs1.zk hf2 (by omega))]
        cases hb2 : (!st && q_lot sd (32 * r 33 + 8 + nI p) (q_ch T r 0 p))
        · rw [if_pos rfl, if_neg (by decide)]
          exact zw_some.mpr ⟨rfl, zk_t hf hf2⟩
        · rw [if_neg (by decide), if_pos rfl]
          exact zw_some.mpr ⟨rfl, zk_t hf hf2⟩
      · have e0 : ¬ r p = 0 := by rw [e]; decide
        rw [if_neg e0, if_neg e0, if_neg e0, if_neg e0, Option.bind_some, Option.bind_some]
        refine zw_b (p9_chanceOf (k := 1) hx1 hT hl hM1 hr1 hp (by omega)) ?_
        rintro ⟨c2, m2⟩ ⟨ec2, hf2⟩
        have ec2' : c2 = q_ch T r 1 p := ec2
        subst ec2'
        simp only [z_u2]
        simp only [p9_isLot (hs1.zk hf2 (by omega))]
        cases hb2 : (!st && q_lot sd (32 * r 33 + 16 + nI p) (q_ch T r 1 p))
        · rw [if_pos rfl, if_neg (by decide)]
          exact zw_some.mpr ⟨rfl, zk_t hf hf2⟩
        · rw [if_neg (by decide), if_pos rfl]
          exact zw_some.mpr ⟨rfl, zk_t hf hf2⟩
      · exact absurd e h2
    · rw [if_neg (by decide), if_pos rfl]
      exact zw_some.mpr ⟨rfl, hf⟩
end
