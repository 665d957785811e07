/-! YEARS VI: the reference's becomes, does, yearGoes, goes -/
def q_be (r : Nat → Int32) (p : Nat) (a : Int32) : Nat → Int32 := fun k => if k = p then a else if k = 7 + p then 0 else if k = 21 + p ∧ a = 2 then r 33 else r k
section
variable {m : zMem} {T : qT} {v : Nat} {r : Nat → Int32}
abbrev sRow : Nat → Nat → Nat → Prop := fun c _ _ => c = 149
theorem p9_becomes (hr : qMr m r) {p : Nat} (hp : p < 7) (a : Int32) : zw (f9_becomes (nI p) a m) fun m' => zk sRow m m' ∧ qMr m' (q_be r p a) := by
  unfold f9_becomes
  have e7 : (7 : Int32) + nI p = nI (7 + p) := nI_add 7 p
  have e21 : (21 : Int32) + nI p = nI (21 + p) := nI_add 21 p
  simp (disch := omega) only [e7, e21, y_in, ↓reduceIte, y_cl, z_let, show (33 : Int32).toNatClampNeg = 33 from rfl]
  have e33 : (z_sI (z_sI m 149 0 p a) 149 0 (7 + p) 0).1 149 0 33 = r 33 := by
    rw [z_sI_1, if_neg (by omega), z_sI_1, if_neg (by omega)]
    exact hr 33 (by omega)
  rw [e33]
  by_cases h2 : a = 2
  · rw [if_pos h2]
    refine zw_some.mpr ⟨zk_s (zk_s (zk_s (zk_r m) rfl) rfl) rfl, fun k hk => ?_⟩
    unfold q_be
    rw [z_sI_1, z_sI_1, z_sI_1]
    by_cases c1 : k = p
    · rw [if_neg (by omega), if_neg (by omega), if_pos ⟨rfl, rfl, c1⟩, if_pos c1]
    · by_cases c2 : k = 7 + p
      · rw [if_neg (by omega), if_pos ⟨rfl, rfl, c2⟩, if_neg c1, if_pos c2]
      · by_cases c3 : k = 21 + p
        · rw [if_pos ⟨rfl, rfl, c3⟩, if_neg c1, if_neg c2, if_pos ⟨c3, h2⟩]
        · rw [if_neg (fun q => c3 q.2.2), if_neg (fun q => c2 q.2.2), if_neg (fun q => c1 q.2.2), if_neg c1, if_neg c2, if_neg (fun q => c3 q.1)]
          exact hr k hk
  · rw [if_neg h2]
    refine zw_some.mpr ⟨zk_s (zk_s (zk_r m) rfl) rfl, fun k hk => ?_⟩
    unfold q_be
    rw [z_sI_1, z_sI_1]
    by_cases c1 : k = p
    · rw [if_neg (by omega), if_pos ⟨rfl, rfl, c1⟩, if_pos c1]
    · by_cases c2 : k = 7 + p
      · rw [if_pos ⟨rfl, rfl, c2⟩, if_neg c1, if_pos c2]
      · rw [if_neg (fun q => c2 q.2.2), if_neg (fun q => c1 q.2.2), if_neg c1, if_neg c2, if_neg (fun q => h2 q.2)]
        exact hr k hk
/-- one PERSON does: the row with that one's places set -/
theorem p9_does {d : Int32} (hr : qMr m r) {p : Nat} (hp : p < 7) (h4 : m.1 154 0 p = d) (hd : d = 0 ∨ d = 1 ∨ d = 2) : zw (f9_does (nI p) m) fun m' => zk sRow m m' ∧ ∀ k, k < 34 → m'.1 149 0 k = (if k = p then (if d = 2 then 2 else if d = 1 then 1 - r p else r p) else if k = 7 + p then (if d = 2 ∨ d = 1 then 0 else if r p = 1 then r (7 + p) + 1 else r (7 + p)) else if k = 21 + p ∧ (d = 2 ∨ (d = 1 ∧ 1 - r p = 2)) then r 33 else r k) := by
  unfold f9_does
  have e7 : (7 : Int32) + nI p = nI (7 + p) := nI_add 7 p
  simp (disch := omega) only [e7, y_in, ↓reduceIte, y_cl, z_let, h4]
  rw [hr p (by omega), hr (7 + p) (by omega)]
  rcases hd with e | e | e
  · subst e
    rw [if_neg (by decide), if_neg (by decide)]
    by_cases h1 : r p = 1
    · rw [if_pos h1]
      refine zw_some.mpr ⟨zk_s (zk_r m) rfl, fun k hk => ?_⟩
      show (z_sI m 149 0 (7 + p) (r (7 + p) + 1)).1 149 0 k = _
      rw [z_sI_1]
      by_cases c1 : k = p
      · rw [if_neg (by omega), if_pos c1, c1]
        exact hr p (by omega)
      · by_cases c2 : k = 7 + p
        · rw [if_pos ⟨rfl, rfl, c2⟩, if_neg c1, if_pos c2, if_pos h1]; rfl
        · rw [if_neg (fun q => c2 q.2.2), if_neg c1, if_neg c2, if_neg (by simp)]
          exact hr k hk
    · rw [if_neg h1]
      refine zw_some.mpr ⟨zk_r m, fun k hk => ?_⟩
      show m.1 149 0 k = _
      by_cases c1 : k = p
      · rw [if_pos c1, c1]; exact hr p (by omega)
      · by_cases c2 : k = 7 + p
        · rw [if_neg c1, if_pos c2, if_neg h1, c2]; exact hr _ (by omega)
        · rw [if_neg c1, if_neg c2, if_neg (by simp)]; exact hr k hk
  · subst e
    rw [if_neg (by decide), if_pos rfl]
    refine zw_b (p9_becomes hr hp (1 - r p)) (fun m' h => zw_some.mpr ⟨h.1, fun k hk => ?_⟩)
    rw [h.2 k hk]
    unfold q_be
    by_cases c1 : k = p
    · rw [if_pos c1, if_pos c1]; rfl
    · by_cases c2 : k = 7 + p
      · rw [if_neg c1, if_pos c2, if_neg c1, if_pos c2]; rfl
      · rw [if_neg c1, if_neg c2, if_neg c1, if_neg c2]
        by_cases c3 : k = 21 + p ∧ 1 - r p = 2
        · rw [if_pos c3, if_pos ⟨c3.1, Or.inr ⟨rfl, c3.2⟩⟩]
        · rw [if_neg c3, if_neg (fun q => q.2.elim (by decide) (fun q2 => c3 ⟨q.1, q2.2⟩))]
  · subst e
    rw [if_pos rfl]
    refine zw_b (p9_becomes hr hp 2) (fun m' h => zw_some.mpr ⟨h.1, fun k hk => ?_⟩)
    rw [h.2 k hk]
    unfold q_be
    by_cases c1 : k = p
    · rw [if_pos c1, if_pos c1]; rfl
    · by_cases c2 : k = 7 + p
      · rw [if_neg c1, if_pos c2, if_neg c1, if_pos c2]; rfl
      · rw [if_neg c1, if_neg c2, if_neg c1, if_neg c2]
        by_cases c3 : k = 21 + p
        · rw [if_pos ⟨c3, rfl⟩, if_pos ⟨c3, Or.inl rfl⟩]
        · rw [if_neg (fun q => c3 q.1), if_neg (fun q => c3 q.1)]
abbrev sMY : Nat → Nat → Nat → Prop := fun c _ k => c = 145 ∨ c = 146 ∨ (c = 9 ∧ k = 47) ∨ c = 149 ∨ c = 152 ∨ c = 153 ∨ c = 154
abbrev sMY0 : Nat → Nat → Nat → Prop := fun c _ k => c = 145 ∨ c = 146 ∨ (c = 9 ∧ k = 47) ∨ c = 152 ∨ c = 153 ∨ c = 154
theorem p9_yearGoes {st : Bool} {sd : Int32} {B : Nat} (hx : qMx m T v) (hT : tOk T) (hl : tLw T) (hM : qMl m v T) (hr : qMr m r) (hw : qRow T B r) (hs : qSd m st sd) : zw (f9_yearGoes m) fun m' => zk sMY m m' ∧ qMr m' (q_yr T st sd r) := by
  have hH := hT.1
  have hP := hT.2
  unfold f9_yearGoes
  refine zw_b (zw_for (Q := fun m1 => zk sMY0 m m1 ∧ ∀ h, h < tH T → m1.1 153 0 h = q_lord T r h ∧ m1.1 152 0 h = q_rt T r h) (tH T) (fun k m1 => zk sMY0 m m1 ∧ ∀ h, h < k → m1.1 153 0 h = q_lord T r h ∧ m1.1 152 0 h = q_rt T r h) (by omega) ⟨zk_r m, fun h hh => absurd hh (by omega)⟩ ?_ ?_) ?_
  · rintro k m1 hk ⟨hf, hz⟩
    have hx1 : qMx m1 T v := hx.zk hf (fun k => by omega)
    have hx1' := hx1
    obtain ⟨hv, h9, h1, _⟩ := hx1'
    unfold f9_yearGoes_L1
    simp (disch := omega) only [z_u2, h9, y_in, y_cl, h1, y_lt, hk, ↓reduceIte, p9_lordOf hx1 hT (hr.zk hf (fun k => by omega)), Option.bind_some, z_let]
    have hf2 : zk sMY0 m (z_sI m1 153 0 k (q_lord T r k)) := zk_s hf (by omega)
    refine zw_b (p9_rentsOf (hx.zk hf2 (fun k => by omega)) hT hl (hM.zk hf2 (fun c k h => by omega)) (hr.zk hf2 (fun k => by omega)) hk) ?_
    rintro ⟨w, m2⟩ ⟨ew, hf3⟩
    have ew' : w = q_rt T r k := ew
    refine zw_some.mpr ⟨y_s1 k, zk_s (zk_t hf2 (zk_m hf3 (fun c i k h => by omega))) (by omega), fun h hh => ?_⟩
    rw [z_sI_1, if_neg (by omega), z_sI_1]
    by_cases e : h = k
    · rw [if_pos ⟨rfl, rfl, e⟩, ew', e, hf3.1 153 0 k (by omega), z_sI_1, if_pos ⟨rfl, rfl, rfl⟩]
      exact ⟨rfl, rfl⟩
    · rw [if_neg (fun q => e q.2.2), hf3.1 153 0 h (by omega), hf3.1 152 0 h (by omega), z_sI_1, if_neg (fun q => e q.2.2), z_sI_1, if_neg (by omega)]
      exact hz h (by omega)
  · rintro m1 hI
    obtain ⟨hv, h9, h1, _⟩ := hx.zk hI.1 (fun k => by omega)
    unfold f9_yearGoes_L1
    simp (disch := omega) only [z_u2, h9, y_in, y_cl, h1, y_lt, Nat.lt_irrefl, ↓reduceIte]
    exact zw_some.mpr hI
  rintro m1 ⟨hf1, hz1⟩
  refine zw_b (zw_for (Q := fun m2 => (zk sMY0 m m2 ∧ ∀ h, h < tH T → m2.1 153 0 h = q_lord T r h ∧ m2.1 152 0 h = q_rt T r h) ∧ ∀ p, p < tP T → m2.1 154 0 p = q_does T st sd r p) (tP T) (fun k m2 => (zk sMY0 m m2 ∧ ∀ h, h < tH T → m2.1 153 0 h = q_lord T r h ∧ m2.1 152 0 h = q_rt T r h) ∧ ∀ p, p < k → m2.1 154 0 p = q_does T st sd r p) (by omega) ⟨⟨hf1, hz1⟩, fun h hh => absurd hh (by omega)⟩ ?_ ?_) ?_
  · rintro k m2 hk ⟨⟨hf, hz⟩, hd⟩
    have hx1 : qMx m2 T v := hx.zk hf (fun k => by omega)
    have hx1' := hx1
    obtain ⟨hv, h9, _, h1, _⟩ := hx1'
    unfold f9_yearGoes_L18
    simp (disch := omega) only [z_u2, h9, y_in, y_cl, h1, y_lt, hk, ↓reduceIte, z_let]
    refine zw_b (p9_whatDoes hx1 hT hl (hM.zk hf (fun c k h => by omega)) (hr.zk hf (fun k => by omega)) hw (hs.zk hf (by omega)) hk) ?_
    rintro ⟨w, m3⟩ ⟨ew, hf3⟩
    have ew' : w = q_does T st sd r k := ew
    simp (disch := omega) only [z_u2, y_in, y_cl, ↓reduceIte, z_let]
    refine zw_some.mpr ⟨y_s1 k, ⟨zk_s (zk_t hf (zk_m hf3 (fun c i k h => by omega))) (by omega), fun h hh => ?_⟩, fun p hp => ?_⟩
    · rw [z_sI_1, if_neg (by omega), z_sI_1, if_neg (by omega), hf3.1 153 0 h (by omega), hf3.1 152 0 h (by omega)]
      exact hz h hh
    · rw [z_sI_1]
      by_cases e : p = k
      · rw [if_pos ⟨rfl, rfl, e⟩, ew', e]
      · rw [if_neg (fun q => e q.2.2), hf3.1 154 0 p (by omega)]
        exact hd p (by omega)
  · rintro m2 hI
    obtain ⟨hv, h9, _, h1, _⟩ := hx.zk hI.1.1 (fun k => by omega)
    unfold f9_yearGoes_L18
    simp (disch := omega) only [z_u2, h9, y_in, y_cl, h1, y_lt, Nat.lt_irrefl, ↓reduceIte]
    exact zw_some.mpr hI
  rintro m2 ⟨⟨hf2, hz2⟩, hd2⟩
  have hr2 : qMr m2 r := hr.zk hf2 (fun k => by omega)
  refine zw_b (zw_for (Q := fun m3 => zk sRow m2 m3 ∧ (∀ p, p < 7 → m3.1 149 0 (14 + p) = r (14 + p) + q_due T r p (tH T)) ∧ ∀ k, k < 34 → (k < 14 ∨ 21 ≤ k) → m3.1 149 0 k = r k) (tH T) (fun n m3 => zk sRow m2 m3 ∧ (∀ p, p < 7 → m3.1 149 0 (14 + p) = r (14 + p) + q_due T r p n) ∧ ∀ k, k < 34 → (k < 14 ∨ 21 ≤ k) → m3.1 149 0 k = r k) (by omega) ⟨zk_r m2, fun p hp => by rw [hr2 _ (by omega)]; exact (Int32.add_zero _).symm, fun k hk _ => hr2 k hk⟩ ?_ ?_) ?_
  · rintro k m3 hk ⟨hf, ht, ho⟩
    obtain ⟨hv, h9, h1, _⟩ := (hx.zk hf2 (fun k => by omega)).zk hf (fun k => by omega)
    have z3 : m3.1 153 0 k = q_lord T r k := by rw [hf.1 153 0 k (by omega)]; exact (hz2 k hk).1
    have z2 : m3.1 152 0 k = q_rt T r k := by rw [hf.1 152 0 k (by omega)]; exact (hz2 k hk).2
    unfold f9_yearGoes_L31
    simp (disch := omega) only [z_u2, h9, y_in, y_cl, h1, y_lt, hk, ↓reduceIte, z_let]
    rw [z3, z2]
    rcases q_lord_in (T := T) (r := r) (h := k) with e | ⟨j, hj, e⟩
    · rw [e, if_pos (by decide)]
      refine zw_some.mpr ⟨y_s1 k, hf, fun p hp => ?_, ho⟩
      rw [ht p hp, q_due_s, e, show decide ((-2 : Int32) = nI p) = false from decide_eq_false (fun q => absurd q.symm (by rw [y_ne2 (by omega)]; exact id)), if_neg (by decide), Int32.add_zero]
    · have e14 : (14 : Int32) + nI j = nI (14 + j) := nI_add 14 j
      rw [e, if_neg (nI_pos (by omega)), e14, if_pos (y_in (by omega) (by omega)), y_cl (by omega)]
      refine zw_some.mpr ⟨y_s1 k, zk_s hf rfl, fun p hp => ?_, fun k hk hne => ?_⟩
      · rw [z_sI_1, q_due_s, e]
        by_cases c : p = j
        · subst c
          rw [if_pos ⟨rfl, rfl, rfl⟩, decide_eq_true rfl, if_pos (show true = true from rfl), ht p hp, Int32.add_assoc]
        · rw [if_neg (fun q => c (by omega)), show decide (nI j = nI p) = false from decide_eq_false (by rw [y_eq (by omega) (by omega)]; omega), if_neg (by decide), Int32.add_zero]
          exact ht p hp
      · rw [z_sI_1, if_neg (by omega)]
        exact ho k hk hne
  · rintro m3 hI
    obtain ⟨hv, h9, h1, _⟩ := (hx.zk hf2 (fun k => by omega)).zk hI.1 (fun k => by omega)
    unfold f9_yearGoes_L31
    simp (disch := omega) only [z_u2, h9, y_in, y_cl, h1, y_lt, Nat.lt_irrefl, ↓reduceIte]
    exact zw_some.mpr hI
  rintro m3 ⟨hf3, ht3, ho3⟩
  have hdk := q_does_ok (st := st) (sd := sd) hw
  refine zw_b (zw_for (Q := fun m4 => zk sRow m3 m4 ∧ ∀ j, j < 34 → m4.1 149 0 j = (if j = 33 then r 33 else q_yr T st sd r j)) (tP T) (fun n m4 => zk sRow m3 m4 ∧ (∀ p, p < 7 → m4.1 149 0 p = if p < n then q_yr T st sd r p else r p) ∧ (∀ p, p < 7 → m4.1 149 0 (7 + p) = if p < n then q_yr T st sd r (7 + p) else r (7 + p)) ∧ (∀ p, p < 7 → m4.1 149 0 (14 + p) = q_yr T st sd r (14 + p)) ∧ (∀ p, p < 7 → m4.1 149 0 (21 + p) = if p < n then q_yr T st sd r (21 + p) else r (21 + p)) ∧ (∀ h, h < 5 → m4.1 149 0 (28 + h) = r (28 + h)) ∧ m4.1 149 0 33 = r 33) (by omega) ?_ ?_ ?_) ?_
  · refine ⟨zk_r m3, fun p hp => ?_, fun p hp => ?_, fun p hp => ?_, fun p hp => ?_, fun h hh => ?_, ?_⟩
    · rw [if_neg (by omega)]; exact ho3 p (by omega) (by omega)
    · rw [if_neg (by omega)]; exact ho3 _ (by omega) (by omega)
    · rw [ht3 p hp]
      show _ = q_nx T r (q_does T st sd r) (fun p => q_due T r p (tH T)) (14 + p)
      rw [q_nx_t hp]
    · rw [if_neg (by omega)]; exact ho3 _ (by omega) (by omega)
    · exact ho3 _ (by omega) (by omega)
    · exact ho3 _ (by omega) (by omega)
  · rintro k m4 hk ⟨hf, i0, i7, i14, i21, i28, i33⟩
    obtain ⟨hv, h9, _, h1, _⟩ := ((hx.zk hf2 (fun k => by omega)).zk hf3 (fun k => by omega)).zk hf (fun k => by omega)
    unfold f9_yearGoes_L46
    simp (disch := omega) only [z_u2, h9, y_in, y_cl, h1, y_lt, hk, ↓reduceIte]
    have e154 : m4.1 154 0 k = q_does T st sd r k := by rw [hf.1 154 0 k (by omega), hf3.1 154 0 k (by omega)]; exact hd2 k hk
    refine zw_b (p9_does (r := m4.1 149 0) (fun _ _ => rfl) (show k < 7 by omega) e154 ?_) ?_
    · rcases hdk k hk with e | ⟨e, _⟩ | ⟨e, _⟩
      · exact Or.inl e
      · exact Or.inr (Or.inl e)
      · exact Or.inr (Or.inr e)
    · rintro m5 ⟨hf5, h5⟩
      have ek : m4.1 149 0 k = r k := by rw [i0 k (by omega), if_neg (by omega)]
      have ek7 : m4.1 149 0 (7 + k) = r (7 + k) := by rw [i7 k (by omega), if_neg (by omega)]
      have ek21 : m4.1 149 0 (21 + k) = r (21 + k) := by rw [i21 k (by omega), if_neg (by omega)]
      have n1 : ¬ (q_does T st sd r k = 1 ∧ 1 - r k = 2) := fun q => by
        rcases hdk k hk with e | ⟨e, er⟩ | ⟨e, _⟩
        · rw [e] at q; exact absurd q.1 (by decide)
        · rcases er with er | er
          · rw [er] at q; exact absurd q.2 (by decide)
          · rw [er] at q; exact absurd q.2 (by decide)
        · rw [e] at q; exact absurd q.1 (by decide)
      refine zw_some.mpr ⟨y_s1 k, zk_t hf hf5, fun p hp => ?_, fun p hp => ?_, fun p hp => ?_, fun p hp => ?_, fun h hh => ?_, ?_⟩
      · rw [h5 p (by omega)]
        by_cases e : p = k
        · rw [if_pos e, if_pos (show p < k + 1 by omega), e, ek]; exact (q_nx_s hT hk).symm
        · rw [if_neg e, if_neg (by omega), if_neg (by omega), i0 p hp]
          by_cases e2 : p < k
          · rw [if_pos e2, if_pos (by omega)]
          · rw [if_neg e2, if_neg (by omega)]
      · rw [h5 (7 + p) (by omega)]
        by_cases e : p = k
        · rw [if_neg (show ¬ 7 + p = k by omega), if_pos (show 7 + p = 7 + k by omega), if_pos (show p < k + 1 by omega), e, ek, ek7]; exact (q_nx_g hT hk).symm
        · rw [if_neg (by omega), if_neg (by omega), if_neg (by omega), i7 p hp]
          by_cases e2 : p < k
          · rw [if_pos e2, if_pos (by omega)]
          · rw [if_neg e2, if_neg (by omega)]
      · rw [h5 (14 + p) (by omega), if_neg (by omega), if_neg (by omega), if_neg (by omega)]
        exact i14 p hp
      · rw [h5 (21 + p) (by omega), if_neg (by omega), if_neg (by omega), ek, i33]
        by_cases e : p = k
        · rw [if_pos (show p < k + 1 by omega), show q_yr T st sd r (21 + p) = _ from q_nx_d hp, e, ek21]
          by_cases e2 : q_does T st sd r k = 2
          · rw [if_pos ⟨rfl, Or.inl e2⟩, if_pos ⟨hk, e2⟩]
          · rw [if_neg (fun q => q.2.elim e2 n1), if_neg (fun q => e2 q.2)]
        · rw [if_neg (by omega), i21 p hp]
          by_cases e2 : p < k
          · rw [if_pos e2, if_pos (by omega)]
          · rw [if_neg e2, if_neg (by omega)]
      · rw [h5 (28 + h) (by omega), if_neg (by omega), if_neg (by omega), if_neg (by omega)]
        exact i28 h hh
      · rw [h5 33 (by omega), if_neg (by omega), if_neg (by omega), if_neg (by omega)]
        exact i33
  · rintro m4 ⟨hf, i0, i7, i14, i21, i28, i33⟩
    obtain ⟨hv, h9, _, h1, _⟩ := ((hx.zk hf2 (fun k => by omega)).zk hf3 (fun k => by omega)).zk hf (fun k => by omega)
    unfold f9_yearGoes_L46
    simp (disch := omega) only [z_u2, h9, y_in, y_cl, h1, y_lt, Nat.lt_irrefl, ↓reduceIte]
    refine zw_some.mpr ⟨hf, q_row34 (fun p hp => ?_) (fun p hp => ?_) (fun p hp => ?_) (fun p hp => ?_) (fun p hp => ?_) ?_⟩
    · rw [i0 p hp, if_neg (show ¬ p = 33 by omega)]
      by_cases e : p < tP T
      · rw [if_pos e]
      · rw [if_neg e]; exact (q_nx_s' (by omega) hp).symm
    · rw [i7 p hp, if_neg (show ¬ 7 + p = 33 by omega)]
      by_cases e : p < tP T
      · rw [if_pos e]
      · rw [if_neg e]; exact (q_nx_g' (by omega) hp).symm
    · rw [i14 p hp, if_neg (show ¬ 14 + p = 33 by omega)]
    · rw [i21 p hp, if_neg (show ¬ 21 + p = 33 by omega)]
      by_cases e : p < tP T
      · rw [if_pos e]
      · rw [if_neg e]; exact ((q_nx_d hp).trans (if_neg (fun q => e q.1))).symm
    · rw [i28 p hp, if_neg (show ¬ 28 + p = 33 by omega)]; exact (q_nx_h hp).symm
    · rw [i33, if_pos rfl]
  · rintro m4 ⟨hf4, hr4⟩
    have hfA : zk sMY m m4 := zk_t (zk_m hf2 (fun c i k h => by omega)) (zk_t (zk_m hf3 (fun c i k h => by omega)) (zk_m hf4 (fun c i k h => by omega)))
    simp only [z_let]
    refine zw_some.mpr ⟨zk_s hfA (by omega), fun k hk => ?_⟩
    rw [show (33 : Int32).toNatClampNeg = 33 from rfl, z_sI_1]
    by_cases e : k = 33
    · rw [if_pos ⟨rfl, rfl, e⟩, hr4 33 (by omega), if_pos rfl, e]; exact q_nx_y.symm
    · rw [if_neg (fun q => e q.2.2), hr4 k hk, if_neg e]
theorem p9_goes {st : Bool} {sd : Int32} {B : Nat} (hx : qMx m T v) (hT : tOk T) (hl : tLw T) (hM : qMl m v T) (hr : qMr m r) (hw : qRow T B r) (hs : qSd m st sd) {n : Nat} (hn : n ≤ 40) : zw (f9_goes (nI n) m) fun m' => zk sMY m m' ∧ qMr m' (q_ys T st sd n r) := by
  unfold f9_goes
  refine zw_b (zw_for (Q := fun m' => zk sMY m m' ∧ qMr m' (q_ys T st sd n r)) n (fun k m1 => zk sMY m m1 ∧ qMr m1 (q_ys T st sd k r)) (by omega) ⟨zk_r m, hr⟩ ?_ ?_) (fun m' h => zw_some.mpr h)
  · rintro k m1 hk ⟨hf, hr1⟩
    unfold f9_goes_L1
    simp (disch := omega) only [z_u2, y_lt, hk, ↓reduceIte]
    refine zw_b (p9_yearGoes (hx.zk hf (fun k => by omega)) hT hl (hM.zk hf (fun c k h => by omega)) hr1 (q_ys_row hT hw) (hs.zk hf (by omega))) ?_
    rintro m2 ⟨hf2, hr2⟩
    refine zw_some.mpr ⟨y_s1 k, zk_t hf hf2, ?_⟩
    show qMr m2 (q_ys T st sd (k + 1) r)
    rw [q_ys_s]
    exact hr2
  · rintro m1 hI
    unfold f9_goes_L1
    simp only [z_u2]
    rw [if_neg Int32.lt_irrefl]
    exact zw_some.mpr hI
end
