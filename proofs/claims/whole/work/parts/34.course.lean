/-! YEARS II: the class's Course -/
def q_due (T : qT) (r : Nat → Int32) (p : Nat) : Nat → Int32 := q_sm fun h => if decide (q_lord T r h = nI p) then q_rt T r h else 0
theorem q_due_s (T : qT) (r : Nat → Int32) (p k : Nat) : q_due T r p (k + 1) = q_due T r p k + (if decide (q_lord T r k = nI p) then q_rt T r k else 0) := rfl
theorem q_due_0 {T : qT} {r : Nat → Int32} (hT : tOk T) {p : Nat} (hp : tP T ≤ p) (hp7 : p < 7) : ∀ n, q_due T r p n = 0
  | 0 => rfl
  | n + 1 => by
    rw [q_due_s, q_due_0 hT hp hp7 n]
    rcases q_lord_in (T := T) (r := r) (h := n) with e | ⟨j, hj, e⟩
    · rw [e, show decide ((-2 : Int32) = nI p) = false from decide_eq_false (fun q => absurd q.symm (by rw [y_ne2 (by omega)]; exact id))]
      rfl
    · have := hT.2
      rw [e, show decide (nI j = nI p) = false from decide_eq_false (by rw [y_eq (by omega) (by omega)]; omega)]
      rfl
abbrev sDue : Nat → Nat → Nat → Prop := fun c i _ => (c = 13 ∧ i = 1) ∨ (c = 14 ∧ i = 0)
section
variable {m : zMem} {o1 o2 B : Nat} {T : qT} {r : Nat → Int32}
theorem p0_reckonDue (hr : qRep m o2 T r) (hw : qRow T B r) (hT : tOk T) (hl : tLw T) (ht : qTx m o1 T) (hc : qCl m o1 T) (hs : qSeen m 1 T r) : zw (f0_reckonDue o1 o2 m) fun m' => zk sDue m m' ∧ ∀ p, p < 7 → m'.1 14 0 p = q_due T r p (tH T) := by
  have hH := hT.1
  have hP := hT.2
  unfold f0_reckonDue
  refine zw_b (zw_for (Q := fun m1 => zk sDue m m1 ∧ ∀ p, p < 7 → m1.1 14 0 p = 0) 7 (fun k m1 => zk sDue m m1 ∧ ∀ p, p < k → m1.1 14 0 p = 0) (by omega) ⟨zk_r m, fun p hp => absurd hp (by omega)⟩ ?_ ?_) ?_
  · rintro k m1 hk ⟨hf, hz⟩
    unfold f0_reckonDue_L1
    simp (disch := omega) only [z_u2, y_7, y_lt, hk, if_true, y_in, y_cl, z_let, y_s1]
    refine zw_some.mpr ⟨rfl, zk_s hf (by omega), fun p hp => ?_⟩
    rw [z_sI_1]
    by_cases e : p = k
    · rw [if_pos ⟨rfl, rfl, e⟩]
    · rw [if_neg (fun q => e q.2.2)]
      exact hz p (by omega)
  · rintro m1 hI
    unfold f0_reckonDue_L1
    simp only [z_u2]
    rw [if_neg (show ¬ nI 7 < 7 by decide)]
    exact zw_some.mpr hI
  · rintro m1 ⟨hf1, hz1⟩
    refine zw_b (zw_for (Q := fun m2 => zk sDue m m2 ∧ ∀ p, p < 7 → m2.1 14 0 p = q_due T r p (tH T)) (tH T) (fun k m2 => zk sDue m m2 ∧ ∀ p, p < 7 → m2.1 14 0 p = q_due T r p k) (by omega) ⟨hf1, hz1⟩ ?_ ?_) (fun m2 h2 => zw_some.mpr h2)
    · rintro k m2 hk ⟨hf, hd⟩
      have ht2 : qTx m2 o1 T := ht.zk hf (fun i k => by omega)
      have hc2 : qCl m2 o1 T := hc.zk hf (fun k => by omega)
      have hr2 : qRep m2 o2 T r := hr.zk hf (fun k => by omega)
      have hs2 : qSeen m2 1 T r := hs.zk hf (fun k => by omega)
      unfold f0_reckonDue_L10 f1_landlordSeen
      simp (disch := omega) only [z_u2, ht2.1, y_lt, hk, if_true, Option.bind_some, y_in, y_cl, z_let, y_s1]
      rw [hs2.1 k hk]
      rcases q_lord_in (T := T) (r := r) (h := k) with e | ⟨j, hj, e⟩
      · rw [e, if_pos (by decide)]
        refine zw_some.mpr ⟨rfl, hf, fun p hp => ?_⟩
        rw [hd p hp]
        rw [q_due_s]
        rw [e, show decide ((-2 : Int32) = nI p) = false from decide_eq_false (fun q => absurd q.symm (by rw [y_ne2 (by omega)]; exact id)), if_neg (by decide), Int32.add_zero]
      · rw [e, if_neg (nI_pos (by omega)), if_pos (y_in (by omega) (by omega)), y_cl (by omega)]
        rw [Option.bind_assoc]
        refine zw_b (p1_rentsOf hr2 hw hT hl ht2 hc2 hs2 hk) ?_
        rintro ⟨v, m3⟩ ⟨ev, hf3⟩
        have ev' : v = q_rt T r k := ev
        have hf3' : zk sDue m2 m3 := zk_m hf3 (fun c i k h => Or.inl h)
        refine zw_some.mpr ⟨rfl, zk_s (zk_t hf hf3') (by omega), fun p hp => ?_⟩
        rw [z_sI_1]
        rw [q_due_s]
        by_cases e2 : p = j
        · subst e2
          rw [if_pos ⟨rfl, rfl, rfl⟩, hd p hp, e, ev', decide_eq_true rfl, if_pos rfl]
        · rw [if_neg (fun q => e2 q.2.2), hf3.1 14 0 p (by omega), hd p hp, e, show decide (nI j = nI p) = false from decide_eq_false (by rw [y_eq (by omega) (by omega)]; omega), if_neg (by decide), Int32.add_zero]
    · rintro m2 ⟨hf, hd⟩
      have ht2 : qTx m2 o1 T := ht.zk hf (fun i k => by omega)
      unfold f0_reckonDue_L10
      simp (disch := omega) only [z_u2, ht2.1, y_lt, Nat.lt_irrefl, if_false]
      exact zw_some.mpr ⟨hf, hd⟩
theorem p0_struckBy (hr : qRep m o2 T r) (hw : qRow T B r) (hT : tOk T) (hl : tLw T) (ht : qTx m o1 T) (hc : qCl m o1 T) (hs : qSeen m 1 T r) {k : Nat} (hk : k < 3) {am sd : Int32} (ham : ∀ p, p < 7 → bt am p = true → p < tP T) : zw (f0_struckBy o1 o2 (nI k) am sd m) fun q => q.1 = q_mk (fun p => bt am p && decide (f0_lotOfHundred sd (32 * r 33 + z_lots k + nI p) < q_ch T r k p)) 7 ∧ zk (sLaw 1) m q.2 := by
  have hH := hT.1
  have hP := hT.2
  unfold f0_struckBy
  refine zw_b (zw_for2 (Q := fun q => q.1 = q_mk (fun p => bt am p && decide (f0_lotOfHundred sd (32 * r 33 + z_lots k + nI p) < q_ch T r k p)) 7 ∧ zk (sLaw 1) m q.2) 7 (fun n a m1 => a = q_mk (fun p => bt am p && decide (f0_lotOfHundred sd (32 * r 33 + z_lots k + nI p) < q_ch T r k p)) n ∧ zk (sLaw 1) m m1) (by omega) ⟨rfl, zk_r m⟩ ?_ ?_) (fun q h => zw_some.mpr h)
  · rintro n a m1 hn ⟨rfl, hf⟩
    have hr2 : qRep m1 o2 T r := hr.zk hf (fun k => by omega)
    unfold f0_struckBy_L1
    simp (disch := omega) only [z_u3, y_7, y_lt, hn, if_true, y_in, y_cl, z_let, y_s1, y_has0]
    cases hb : bt am n
    · rw [if_pos rfl]
      refine zw_some.mpr ⟨rfl, ?_, hf⟩
      show _ = q_mk _ (n + 1)
      rw [q_mk, hb]
      rfl
    · rw [if_neg (by decide), Option.bind_assoc]
      refine zw_b (p1_chanceOf hr2 hw hT hl (ht.zk hf (fun i k => by omega)) (hc.zk hf (fun k => by omega)) (hs.zk hf (fun k => by omega)) (ham n (by omega) hb) (show k < 4 by omega)) ?_
      rintro ⟨v, m3⟩ ⟨ev, hf3⟩
      have ev' : v = q_ch T r k n := ev
      simp only [z_u2]
      rw [hr2.1, ev']
      by_cases hlt : f0_lotOfHundred sd (32 * r 33 + z_lots k + nI n) < q_ch T r k n
      · rw [if_pos hlt]
        refine zw_some.mpr ⟨rfl, ?_, zk_t hf hf3⟩
        show _ = q_mk _ (n + 1)
        rw [q_mk, hb, decide_eq_true hlt]
        rfl
      · rw [if_neg hlt]
        refine zw_some.mpr ⟨rfl, ?_, zk_t hf hf3⟩
        show _ = q_mk _ (n + 1)
        rw [q_mk, hb, decide_eq_false hlt]
        rfl
  · rintro a m1 hI
    unfold f0_struckBy_L1
    simp only [z_u3]
    rw [if_neg (show ¬ nI 7 < 7 by decide)]
    exact zw_some.mpr hI
end
/-- one PERSON of a State is set -/
def qSet (m m' : zMem) (o k : Nat) (hv av : Bool) (g : Int32) : Prop := zk (fun c i j => (c = 5 ∧ i = o ∧ (j = 1 ∨ j = 2)) ∨ (c = 22 ∧ i = o ∧ j = k)) m m' ∧ (∀ p, p < 32 → bt (m'.1 5 o 1) p = if p = k then hv else bt (m.1 5 o 1) p) ∧ (∀ p, p < 32 → bt (m'.1 5 o 2) p = if p = k then av else bt (m.1 5 o 2) p) ∧ m'.1 22 o k = g
theorem qSet_r (m : zMem) (o k : Nat) : qSet m m o k (bt (m.1 5 o 1) k) (bt (m.1 5 o 2) k) (m.1 22 o k) := by
  refine ⟨zk_r m, fun p _ => ?_, fun p _ => ?_, rfl⟩
  · by_cases e : p = k
    · rw [if_pos e, e]
    · rw [if_neg e]
  · by_cases e : p = k
    · rw [if_pos e, e]
    · rw [if_neg e]
theorem b_clr {x : Int32} {k p : Nat} (hk : k < 32) (hp : p < 32) : bt (x &&& (((1 : Int32) <<< (nI k &&& 31)) ^^^ (-1 : Int32))) p = if p = k then false else bt x p := by
  rw [b_and, b_not hp, b_p k hk hp]
  by_cases e : p = k
  · rw [if_pos e, decide_eq_true e]
    cases bt x p <;> rfl
  · rw [if_neg e, decide_eq_false e]
    cases bt x p <;> rfl
theorem b_set {x : Int32} {k p : Nat} (hk : k < 32) (hp : p < 32) : bt (x ||| ((1 : Int32) <<< (nI k &&& 31))) p = if p = k then true else bt x p := by
  rw [b_or, b_p k hk hp]
  by_cases e : p = k
  · rw [if_pos e, decide_eq_true e]
    cases bt x p <;> rfl
  · rw [if_neg e, decide_eq_false e]
    cases bt x p <;> rfl
theorem p5_die (o : Nat) {k : Nat} (hk : k < 7) (m : zMem) : zw (f5_die o (nI k) m) fun m' => qSet m m' o k false false 0 := by
  unfold f5_die
  simp only [z_let]
  rw [if_pos (y_in hk (by omega)), y_cl (by omega)]
  refine zw_some.mpr ⟨zk_s (zk_s (zk_s (zk_r m) (by omega)) (by omega)) (by omega), fun p hp => ?_, fun p hp => ?_, ?_⟩
  · rw [z_sI_1, if_neg (by omega), z_sI_1, if_neg (by omega), z_sI_1, if_pos ⟨rfl, rfl, rfl⟩, b_clr (by omega) hp]
  · rw [z_sI_1, if_neg (by omega), z_sI_1, if_pos ⟨rfl, rfl, rfl⟩, z_sI_1, if_neg (by omega), b_clr (by omega) hp]
  · rw [z_sI_1, if_pos ⟨rfl, rfl, rfl⟩]
theorem p5_goAway (o : Nat) {k : Nat} (hk : k < 7) (m : zMem) : zw (f5_goAway o (nI k) m) fun m' => qSet m m' o k false true 0 := by
  unfold f5_goAway
  simp only [z_let]
  rw [if_pos (y_in hk (by omega)), y_cl (by omega)]
  refine zw_some.mpr ⟨zk_s (zk_s (zk_s (zk_r m) (by omega)) (by omega)) (by omega), fun p hp => ?_, fun p hp => ?_, ?_⟩
  · rw [z_sI_1, if_neg (by omega), z_sI_1, if_neg (by omega), z_sI_1, if_pos ⟨rfl, rfl, rfl⟩, b_clr (by omega) hp]
  · rw [z_sI_1, if_neg (by omega), z_sI_1, if_pos ⟨rfl, rfl, rfl⟩, z_sI_1, if_neg (by omega), b_set (by omega) hp]
  · rw [z_sI_1, if_pos ⟨rfl, rfl, rfl⟩]
theorem p5_comeHome (o : Nat) {k : Nat} (hk : k < 7) (m : zMem) : zw (f5_comeHome o (nI k) m) fun m' => qSet m m' o k true false 0 := by
  unfold f5_comeHome
  simp only [z_let]
  rw [if_pos (y_in hk (by omega)), y_cl (by omega)]
  refine zw_some.mpr ⟨zk_s (zk_s (zk_s (zk_r m) (by omega)) (by omega)) (by omega), fun p hp => ?_, fun p hp => ?_, ?_⟩
  · rw [z_sI_1, if_neg (by omega), z_sI_1, if_pos ⟨rfl, rfl, rfl⟩, z_sI_1, if_neg (by omega), b_set (by omega) hp]
  · rw [z_sI_1, if_neg (by omega), z_sI_1, if_neg (by omega), z_sI_1, if_pos ⟨rfl, rfl, rfl⟩, b_clr (by omega) hp]
  · rw [z_sI_1, if_pos ⟨rfl, rfl, rfl⟩]
/-- the row a year on: d what each does, u what each gets -/
def q_nx (T : qT) (r : Nat → Int32) (d u : Nat → Int32) : Nat → Int32 := fun k =>
  if k < 7 then (if k < tP T then (if d k = 2 then 2 else if d k = 1 then 1 - r k else r k) else r k)
  else if k < 14 then (if k - 7 < tP T then (if d (k - 7) = 2 ∨ d (k - 7) = 1 then 0 else if r (k - 7) = 1 then r k + 1 else r k) else r k)
  else if k < 21 then r k + u (k - 14)
  else if k < 28 then (if k - 21 < tP T ∧ d (k - 21) = 2 then r 33 else r k)
  else if k = 33 then r 33 + 1 else r k
section
variable {T : qT} {r d u : Nat → Int32}
theorem q_nx_s {k : Nat} (hT : tOk T) (hk : k < tP T) : q_nx T r d u k = if d k = 2 then 2 else if d k = 1 then 1 - r k else r k := by
  have := hT.2
  unfold q_nx
  rw [if_pos (by omega), if_pos hk]
theorem q_nx_s' {k : Nat} (h1 : tP T ≤ k) (h2 : k < 7) : q_nx T r d u k = r k := by
  unfold q_nx
  rw [if_pos h2, if_neg (by omega)]
theorem q_nx_g {k : Nat} (hT : tOk T) (hk : k < tP T) : q_nx T r d u (7 + k) = if d k = 2 ∨ d k = 1 then 0 else if r k = 1 then r (7 + k) + 1 else r (7 + k) := by
  have := hT.2
  unfold q_nx
  rw [if_neg (by omega), if_pos (by omega), show 7 + k - 7 = k by omega, if_pos hk]
theorem q_nx_g' {k : Nat} (h1 : tP T ≤ k) (h2 : k < 7) : q_nx T r d u (7 + k) = r (7 + k) := by
  unfold q_nx
  rw [if_neg (by omega), if_pos (by omega), if_neg (by omega)]
theorem q_nx_t {k : Nat} (hk : k < 7) : q_nx T r d u (14 + k) = r (14 + k) + u k := by
  unfold q_nx
  rw [if_neg (by omega), if_neg (by omega), if_pos (by omega), show 14 + k - 14 = k by omega]
theorem q_nx_d {k : Nat} (hk : k < 7) : q_nx T r d u (21 + k) = if k < tP T ∧ d k = 2 then r 33 else r (21 + k) := by
  unfold q_nx
  rw [if_neg (by omega), if_neg (by omega), if_neg (by omega), if_pos (by omega), show 21 + k - 21 = k by omega]
theorem q_nx_h {h : Nat} (hh : h < 5) : q_nx T r d u (28 + h) = r (28 + h) := by
  unfold q_nx
  rw [if_neg (by omega), if_neg (by omega), if_neg (by omega), if_neg (by omega), if_neg (by omega)]
theorem q_nx_y : q_nx T r d u 33 = r 33 + 1 := rfl
end
abbrev sState (o : Nat) : Nat → Nat → Nat → Prop := fun c i _ => (c = 5 ∨ c = 22 ∨ c = 23 ∨ c = 24 ∨ c = 25) ∧ i = o
/-- what each does fits the standings -/
def q_dOk (T : qT) (r d : Nat → Int32) : Prop := ∀ p, p < tP T → (d p = 0 ∨ (d p = 1 ∧ (r p = 0 ∨ r p = 1)) ∨ (d p = 2 ∧ (r p = 0 ∨ r p = 1)))
