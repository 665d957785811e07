/-! YEARS IV: a year as a row's; goOn and standStill of the class -/
def q_lot (sd x c : Int32) : Bool := decide (f0_lotOfHundred sd x < c)
def q_does (T : qT) (st : Bool) (sd : Int32) (r : Nat → Int32) (p : Nat) : Int32 :=
  if r p = 2 then 0 else if (!st && q_lot sd (32 * r 33 + nI p) (q_ch T r 2 p)) = true then 2
  else if (!st && q_lot sd (32 * r 33 + (if r p = 0 then 8 else 16) + nI p) (q_ch T r (if r p = 0 then 0 else 1) p)) = true then 1 else 0
def q_yr (T : qT) (st : Bool) (sd : Int32) (r : Nat → Int32) : Nat → Int32 := q_nx T r (q_does T st sd r) (fun p => q_due T r p (tH T))
def q_ys (T : qT) (st : Bool) (sd : Int32) : Nat → (Nat → Int32) → Nat → Int32
  | 0, r => r
  | n + 1, r => q_ys T st sd n (q_yr T st sd r)
theorem q_ys_s (T : qT) (st : Bool) (sd : Int32) : ∀ (n : Nat) (r : Nat → Int32), q_ys T st sd (n + 1) r = q_yr T st sd (q_ys T st sd n r)
  | 0, r => rfl
  | n + 1, r => q_ys_s T st sd n (q_yr T st sd r)
theorem q_ys_add (T : qT) (st : Bool) (sd : Int32) : ∀ (n k : Nat) (r : Nat → Int32), q_ys T st sd (n + k) r = q_ys T st sd k (q_ys T st sd n r)
  | n, 0, r => rfl
  | n, k + 1, r => by
    rw [← Nat.add_assoc, q_ys_s, q_ys_add T st sd n k r, q_ys_s]
theorem q_does_t (T : qT) (sd : Int32) (r : Nat → Int32) : q_does T true sd r = fun _ => 0 := by
  funext p
  unfold q_does
  by_cases h : r p = 2
  · rw [if_pos h]
  · rw [if_neg h, if_neg (by simp), if_neg (by simp)]
theorem q_ys_t (T : qT) (sd sd' : Int32) : ∀ (n : Nat) (r : Nat → Int32), q_ys T true sd n r = q_ys T true sd' n r
  | 0, r => rfl
  | n + 1, r => by
    have e : q_yr T true sd r = q_yr T true sd' r := by unfold q_yr; rw [q_does_t, q_does_t]
    rw [q_ys, q_ys, e]
    exact q_ys_t T sd sd' n _
theorem q_does_ok {T : qT} {st : Bool} {sd : Int32} {r : Nat → Int32} {B : Nat} (hw : qRow T B r) : q_dOk T r (q_does T st sd r) := by
  intro p hp
  have h := hw.1 p hp
  unfold q_does
  by_cases h2 : r p = 2
  · rw [if_pos h2]; exact Or.inl rfl
  · have h' : r p = 0 ∨ r p = 1 := by
      rcases h with h | h | h
      · exact Or.inl h
      · exact Or.inr h
      · exact absurd h h2
    rw [if_neg h2]
    by_cases c1 : (!st && q_lot sd (32 * r 33 + nI p) (q_ch T r 2 p)) = true
    · rw [if_pos c1]; exact Or.inr (Or.inr ⟨rfl, h'⟩)
    · rw [if_neg c1]
      by_cases c2 : (!st && q_lot sd (32 * r 33 + (if r p = 0 then 8 else 16) + nI p) (q_ch T r (if r p = 0 then 0 else 1) p)) = true
      · rw [if_pos c2]; exact Or.inr (Or.inl ⟨rfl, h'⟩)
      · rw [if_neg c2]; exact Or.inl rfl
theorem q_dOk.z (T : qT) (r : Nat → Int32) : q_dOk T r (fun _ => 0) := fun _ _ => Or.inl rfl
theorem q_nx_row {T : qT} {r d u : Nat → Int32} {B : Nat} (hT : tOk T) (hw : qRow T B r) (hd : q_dOk T r d) (hu0 : ∀ p, tP T ≤ p → p < 7 → u p = 0) : qRow T (B + 1) (q_nx T r d u) := by
  have hP := hT.2
  obtain ⟨w1, w2, w3, w4, w5, w6, w7⟩ := hw
  refine ⟨fun k hk => ?_, fun k h1 h2 => ?_, fun k hk hne => ?_, fun k hk => ?_, ?_, fun h h1 h2 => ?_, fun h hh k h1 h2 => ?_⟩
  · rw [q_nx_s hT hk]
    rcases hd k hk with e | ⟨e, er⟩ | ⟨e, er⟩
    · rw [e]; exact w1 k hk
    · rw [e]
      rcases er with er | er
      · rw [er]; exact Or.inr (Or.inl rfl)
      · rw [er]; exact Or.inl rfl
    · rw [e]; exact Or.inr (Or.inr rfl)
  · rw [q_nx_s' h1 h2, q_nx_g' h1 h2, q_nx_t h2, hu0 k h1 h2, Int32.add_zero]
    exact w2 k h1 h2
  · by_cases e : k < tP T
    · rw [q_nx_s hT e] at hne
      rw [q_nx_g hT e]
      rcases hd k e with e2 | ⟨e2, er⟩ | ⟨e2, er⟩
      · rw [e2] at hne ⊢
        have hne' : ¬ r k = 1 := hne
        rw [if_neg (show ¬ ((0 : Int32) = 2 ∨ (0 : Int32) = 1) by decide), if_neg hne']
        exact w3 k hk hne'
      · rw [e2]; rfl
      · rw [e2]; rfl
    · rw [q_nx_g' (by omega) hk]
      exact (w2 k (by omega) hk).2.1
  · by_cases e : k < tP T
    · rw [q_nx_g hT e]
      by_cases c : d k = 2 ∨ d k = 1
      · rw [if_pos c]; exact ⟨0, by omega, rfl⟩
      · rw [if_neg c]
        obtain ⟨g, hg, eg⟩ := w4 k hk
        by_cases c2 : r k = 1
        · rw [if_pos c2, eg, nI_1]; exact ⟨g + 1, by omega, rfl⟩
        · rw [if_neg c2]; exact ⟨g, by omega, eg⟩
    · rw [q_nx_g' (by omega) hk]
      obtain ⟨g, hg, eg⟩ := w4 k hk
      exact ⟨g, by omega, eg⟩
  · obtain ⟨y, hy, ey⟩ := w5
    rw [q_nx_y, ey, nI_1]
    exact ⟨y + 1, by omega, rfl⟩
  · rw [q_nx_h h2]; exact w6 h h1 h2
  · rw [q_nx_h hh]; exact w7 h hh k h1 h2
theorem q_yr_row {T : qT} {st : Bool} {sd : Int32} {r : Nat → Int32} {B : Nat} (hT : tOk T) (hw : qRow T B r) : qRow T (B + 1) (q_yr T st sd r) := q_nx_row hT hw (q_does_ok hw) (fun p h1 h2 => q_due_0 hT h1 h2 _)
theorem q_ys_row {T : qT} {st : Bool} {sd : Int32} (hT : tOk T) : ∀ {n : Nat} {r : Nat → Int32} {B : Nat}, qRow T B r → qRow T (B + n) (q_ys T st sd n r)
  | 0, r, B, hw => hw
  | n + 1, r, B, hw => by
    have := q_ys_row (st := st) (sd := sd) hT (n := n) (q_yr_row (st := st) (sd := sd) hT hw)
    rw [show B + (n + 1) = B + 1 + n by omega]
    exact this
theorem q_lg_iff {c : Nat → Bool} {g g' : Nat → Int32} : ∀ (n : Nat), n < 2147483648 → (∀ i j, i < n → j < n → c i = true → c j = true → (g i < g j ↔ g' i < g' j)) → q_lg c g n = q_lg c g' n
  | 0, _, _ => rfl
  | n + 1, hn, h => by
    have ih := q_lg_iff n (by omega) (fun i j hi hj => h i j (by omega) (by omega))
    rw [q_lg, q_lg, ← ih]
    by_cases hc : c n = true
    · rw [if_pos hc, if_pos hc]
      rcases q_lg_in c g n with e | ⟨j, hj, e, hcj⟩
      · rw [e, if_pos (Or.inl (by decide)), if_pos (Or.inl (by decide))]
      · rw [e, y_cl (by omega)]
        have hh := h j n (by omega) (by omega) hcj hc
        by_cases hg : g j < g n
        · rw [if_pos (Or.inr hg), if_pos (Or.inr (hh.mp hg))]
        · rw [if_neg (fun q => q.elim (nI_pos (by omega)) hg), if_neg (fun q => q.elim (nI_pos (by omega)) (fun q => hg (hh.mpr q)))]
    · rw [if_neg hc, if_neg hc]
/-- who stays is LANDLORD as long as nobody goes or comes -/
theorem q_lord_still {T : qT} {sd : Int32} {r : Nat → Int32} {B : Nat} (hT : tOk T) (hw : qRow T B r) (hB : B < 1000000) {h : Nat} (hh : h < 5) : q_lord T (q_yr T true sd r) h = q_lord T r h := by
  have hP := hT.2
  unfold q_lord q_lbut q_yr
  rw [q_does_t]
  have e1 : ∀ p, p < tP T → q_nx T r (fun _ => 0) (fun p => q_due T r p (tH T)) p = r p := fun p hp => by rw [q_nx_s hT hp]; rfl
  rw [q_lg_cong (c := fun p => !decide (nI p = -1) && (decide (q_nx T r (fun _ => 0) (fun p => q_due T r p (tH T)) p = 1) && bt (q_nx T r (fun _ => 0) (fun p => q_due T r p (tH T)) (28 + h)) p)) (d := fun p => !decide (nI p = -1) && (decide (r p = 1) && bt (r (28 + h)) p)) (fun i hi => by show (_ && (decide (q_nx T r (fun _ => 0) (fun p => q_due T r p (tH T)) i = 1) && bt (q_nx T r (fun _ => 0) (fun p => q_due T r p (tH T)) (28 + h)) i)) = _; rw [e1 i hi, q_nx_h hh]) (fun i hi => rfl) (by omega)]
  refine q_lg_iff _ (by omega) fun i j hi hj ci cj => ?_
  have ri : r i = 1 := by
    have := ci
    simp only [Bool.and_eq_true, decide_eq_true_eq] at this
    exact this.2.1
  have rj : r j = 1 := by
    have := cj
    simp only [Bool.and_eq_true, decide_eq_true_eq] at this
    exact this.2.1
  show q_nx T r (fun _ => 0) (fun p => q_due T r p (tH T)) (7 + i) < q_nx T r (fun _ => 0) (fun p => q_due T r p (tH T)) (7 + j) ↔ _
  rw [q_nx_g hT hi, q_nx_g hT hj, if_neg (show ¬ ((0 : Int32) = 2 ∨ (0 : Int32) = 1) by decide), if_neg (show ¬ ((0 : Int32) = 2 ∨ (0 : Int32) = 1) by decide), if_pos ri, if_pos rj]
  obtain ⟨a, ha, ea⟩ := hw.2.2.2.1 i (by omega)
  obtain ⟨b, hb, eb⟩ := hw.2.2.2.1 j (by omega)
  rw [ea, eb, nI_1, nI_1, y_lt (by omega) (by omega), y_lt (by omega) (by omega)]
  omega
abbrev sCourse (o : Nat) : Nat → Nat → Nat → Prop := fun c i _ => ((c = 5 ∨ c = 22 ∨ c = 23 ∨ c = 24 ∨ c = 25) ∧ i = o) ∨ ((c = 10 ∨ c = 11 ∨ c = 12 ∨ c = 13) ∧ i = 1) ∨ (c = 14 ∧ i = 0)
theorem q_mk7 {c : Nat → Bool} {p : Nat} (hp : p < 7) : bt (q_mk c 7) p = c p := by rw [q_mk_b c 7 (by omega) p (by omega), decide_eq_true hp, Bool.true_and]
theorem p0_goOn {m : zMem} {o1 o2 B : Nat} {T : qT} {r : Nat → Int32} {sd : Int32} (hr : qRep m o2 T r) (hw : qRow T B r) (hT : tOk T) (hl : tLw T) (ht : qTx m o1 T) (hc : qCl m o1 T) {n : Nat} (hn : n ≤ 40) : zw (f0_goOn o1 o2 (nI n) sd m) fun m' => qRep m' o2 T (q_ys T false sd n r) ∧ zk (sCourse o2) m m' := by
  have hP := hT.2
  unfold f0_goOn
  refine zw_b (zw_for (Q := fun m' => qRep m' o2 T (q_ys T false sd n r) ∧ zk (sCourse o2) m m') n (fun k m1 => qRep m1 o2 T (q_ys T false sd k r) ∧ zk (sCourse o2) m m1) (by omega) ⟨hr, zk_r m⟩ ?_ ?_) (fun m' h => zw_some.mpr h)
  · rintro k m1 hk ⟨hr1, hf1⟩
    have hw1 : qRow T (B + k) (q_ys T false sd k r) := q_ys_row hT hw
    have ht1 : qTx m1 o1 T := ht.zk hf1 (fun i k => by omega)
    have hc1 : qCl m1 o1 T := hc.zk hf1 (fun k => by omega)
    rw [q_ys_s]
    generalize hq : q_ys T false sd k r = q at *
    unfold f0_goOn_L1
    simp (disch := omega) only [z_u2, y_lt, hk, if_true]
    refine zw_b (p1_look hr1 hT ht1) ?_
    rintro m2 ⟨hf2, hs2⟩
    have hr2 : qRep m2 o2 T q := hr1.zk hf2 (fun k => by omega)
    have ht2 : qTx m2 o1 T := ht1.zk hf2 (fun i k => by omega)
    have hc2 : qCl m2 o1 T := hc1.zk hf2 (fun k => by omega)
    refine zw_b (p0_reckonDue hr2 hw1 hT hl ht2 hc2 hs2) ?_
    rintro m3 ⟨hf3, hd3⟩
    have hr3 : qRep m3 o2 T q := hr2.zk hf3 (fun k => by omega)
    have ht3 : qTx m3 o1 T := ht2.zk hf3 (fun i k => by omega)
    have hc3 : qCl m3 o1 T := hc2.zk hf3 (fun k => by omega)
    have hs3 : qSeen m3 1 T q := hs2.zk hf3 (fun k => by omega)
    refine zw_b (p0_struckBy (k := 2) (am := f5_alive o2 m3) (sd := sd) hr3 hw1 hT hl ht3 hc3 hs3 (by omega) (fun p hp hb => ?_)) ?_
    · rw [p5_alive_b hr3 (by omega)] at hb
      simp only [Bool.and_eq_true, decide_eq_true_eq] at hb
      exact hb.1
    rintro ⟨dy, m4⟩ ⟨edy, hf4⟩
    have hr4 : qRep m4 o2 T q := hr3.zk hf4 (fun k => by omega)
    have ht4 : qTx m4 o1 T := ht3.zk hf4 (fun i k => by omega)
    have hc4 : qCl m4 o1 T := hc3.zk hf4 (fun k => by omega)
    have hs4 : qSeen m4 1 T q := hs3.zk hf4 (fun k => by omega)
    simp only [z_u2]
    refine zw_b (p0_struckBy (k := 0) (sd := sd) hr4 hw1 hT hl ht4 hc4 hs4 (by omega) (fun p hp hb => ?_)) ?_
    · rw [b_and, hr4.2.1 p (by omega)] at hb
      simp only [Bool.and_eq_true, decide_eq_true_eq] at hb
      exact hb.1.1
    rintro ⟨go, m5⟩ ⟨ego, hf5⟩
    have hr5 : qRep m5 o2 T q := hr4.zk hf5 (fun k => by omega)
    have ht5 : qTx m5 o1 T := ht4.zk hf5 (fun i k => by omega)
    have hc5 : qCl m5 o1 T := hc4.zk hf5 (fun k => by omega)
    have hs5 : qSeen m5 1 T q := hs4.zk hf5 (fun k => by omega)
    simp only [z_u2]
    refine zw_b (p0_struckBy (k := 1) (sd := sd) hr5 hw1 hT hl ht5 hc5 hs5 (by omega) (fun p hp hb => ?_)) ?_
    · rw [b_and, hr5.2.2.1 p (by omega)] at hb
      simp only [Bool.and_eq_true, decide_eq_true_eq] at hb
      exact hb.1.1
    rintro ⟨co, m6⟩ ⟨eco, hf6⟩
    have hr6 : qRep m6 o2 T q := hr5.zk hf6 (fun k => by omega)
    have ht6 : qTx m6 o1 T := ht5.zk hf6 (fun i k => by omega)
    have edy' : dy = _ := edy
    have ego' : go = _ := ego
    have eco' : co = _ := eco
    have bdy : ∀ p, p < tP T → bt dy p = decide (q_does T false sd q p = 2) := fun p hp => by
      rw [edy', q_mk7 (by omega), p5_alive_b hr3 (by omega), decide_eq_true hp, Bool.true_and]
      unfold q_does q_lot
      rw [show z_lots 2 = 0 from rfl, Int32.add_zero]
      rcases hw1.1 p hp with e | e | e
      · rw [e]
        by_cases c : f0_lotOfHundred sd (32 * q 33 + nI p) < q_ch T q 2 p
        · simp [c]
        · simp only [c]
          by_cases c2 : f0_lotOfHundred sd (32 * q 33 + 8 + nI p) < q_ch T q 0 p
          · simp [c2]
          · simp [c2]
      · rw [e]
        by_cases c : f0_lotOfHundred sd (32 * q 33 + nI p) < q_ch T q 2 p
        · simp [c]
        · simp only [c]
          by_cases c2 : f0_lotOfHundred sd (32 * q 33 + 16 + nI p) < q_ch T q 1 p
          · simp [c2]
          · simp [c2]
      · rw [e]; rfl
    have bgo : ∀ p, p < tP T → bt go p = (decide (q_does T false sd q p = 1) && decide (q p = 0)) := fun p hp => by
      rw [ego', q_mk7 (by omega), b_and, b_not (by omega), hr4.2.1 p (by omega), bdy p hp, decide_eq_true hp, Bool.true_and]
      unfold q_does q_lot
      rw [show z_lots 0 = 8 from rfl]
      rcases hw1.1 p hp with e | e | e
      · rw [e]
        by_cases c : f0_lotOfHundred sd (32 * q 33 + nI p) < q_ch T q 2 p
        · simp [c]
        · simp only [c]
          by_cases c2 : f0_lotOfHundred sd (32 * q 33 + 8 + nI p) < q_ch T q 0 p
          · simp [c2]
          · simp [c2]
      · rw [e]; simp
      · rw [e]; simp
    have bco : ∀ p, p < tP T → bt co p = (decide (q_does T false sd q p = 1) && decide (q p = 1)) := fun p hp => by
      rw [eco', q_mk7 (by omega), b_and, b_not (by omega), hr5.2.2.1 p (by omega), bdy p hp, decide_eq_true hp, Bool.true_and]
      unfold q_does q_lot
      rw [show z_lots 1 = 16 from rfl]
      rcases hw1.1 p hp with e | e | e
      · rw [e]; simp
      · rw [e]
        by_cases c : f0_lotOfHundred sd (32 * q 33 + nI p) < q_ch T q 2 p
        · simp [c]
        · simp only [c]
          by_cases c2 : f0_lotOfHundred sd (32 * q 33 + 16 + nI p) < q_ch T q 1 p
          · simp [c2]
          · simp [c2]
      · rw [e]; simp
    simp only [z_u2]
    refine zw_b (p0_turn (d := q_does T false sd q) (u := fun p => q_due T q p (tH T)) hr6 hw1 hT ht6 (q_does_ok hw1) bdy bgo bco (fun p hp => ?_) (fun p h1 h2 => q_due_0 hT h1 h2 _)) ?_
    · rw [hf6.1 14 0 p (by omega), hf5.1 14 0 p (by omega), hf4.1 14 0 p (by omega)]
      exact hd3 p hp
    · rintro m7 ⟨hr7, hf7⟩
      refine zw_some.mpr ⟨y_s1 k, hr7, ?_⟩
      refine zk_t hf1 (zk_t (zk_m hf2 (fun c i k h => by omega)) (zk_t (zk_m hf3 (fun c i k h => by omega)) (zk_t (zk_m hf4 (fun c i k h => by omega)) (zk_t (zk_m hf5 (fun c i k h => by omega)) (zk_t (zk_m hf6 (fun c i k h => by omega)) (zk_m hf7 (fun c i k h => by omega)))))))
  · rintro m1 hI
    unfold f0_goOn_L1
    simp only [z_u2]
    rw [if_neg Int32.lt_irrefl]
    exact zw_some.mpr hI
theorem p0_standStill {m : zMem} {o1 o2 B : Nat} {T : qT} {r : Nat → Int32} (hr : qRep m o2 T r) (hw : qRow T B r) (hB : B < 900000) (hT : tOk T) (hl : tLw T) (ht : qTx m o1 T) (hc : qCl m o1 T) {n : Nat} (hn : n ≤ 40) : zw (f0_standStill o1 o2 (nI n) m) fun m' => qRep m' o2 T (q_ys T true 0 n r) ∧ zk (sCourse o2) m m' := by
  have hP := hT.2
  have hH := hT.1
  unfold f0_standStill
  refine zw_b (p1_look hr hT ht) ?_
  rintro m0 ⟨hf0, hs0⟩
  refine zw_b (zw_for (Q := fun m' => qRep m' o2 T (q_ys T true 0 n r) ∧ zk (sCourse o2) m m') n (fun k m1 => (qRep m1 o2 T (q_ys T true 0 k r) ∧ zk (sCourse o2) m m1) ∧ qSeen m1 1 T (q_ys T true 0 k r)) (by omega) ⟨⟨hr.zk hf0 (fun k => by omega), zk_m hf0 (fun c i k h => by omega)⟩, hs0⟩ ?_ ?_) (fun m' h => zw_some.mpr h)
  · rintro k m1 hk ⟨⟨hr1, hf1⟩, hs1⟩
    have hw1 : qRow T (B + k) (q_ys T true 0 k r) := q_ys_row hT hw
    have ht1 : qTx m1 o1 T := ht.zk hf1 (fun i k => by omega)
    have hc1 : qCl m1 o1 T := hc.zk hf1 (fun k => by omega)
    rw [q_ys_s]
    generalize hq : q_ys T true 0 k r = q at *
    unfold f0_standStill_L3
    simp (disch := omega) only [z_u2, y_lt, hk, if_true]
    refine zw_b (p0_reckonDue hr1 hw1 hT hl ht1 hc1 hs1) ?_
    rintro m3 ⟨hf3, hd3⟩
    have hr3 : qRep m3 o2 T q := hr1.zk hf3 (fun k => by omega)
    have ht3 : qTx m3 o1 T := ht1.zk hf3 (fun i k => by omega)
    have hs3 : qSeen m3 1 T q := hs1.zk hf3 (fun k => by omega)
    refine zw_b (p0_turn (d := q_does T true 0 q) (u := fun p => q_due T q p (tH T)) hr3 hw1 hT ht3 (q_does_ok hw1) (fun p hp => ?_) (fun p hp => ?_) (fun p hp => ?_) (fun p hp => hd3 p hp) (fun p h1 h2 => q_due_0 hT h1 h2 _)) ?_
    · rw [q_does_t, b_0]; rfl
    · rw [q_does_t, b_0]; rfl
    · rw [q_does_t, b_0]; rfl
    · rintro m7 ⟨hr7, hf7⟩
      refine zw_some.mpr ⟨y_s1 k, ⟨hr7, zk_t hf1 (zk_t (zk_m hf3 (fun c i k h => by omega)) (zk_m hf7 (fun c i k h => by omega)))⟩, ?_⟩
      exact (hs3.zk hf7 (fun k => by omega)).cong (fun h hh => (q_lord_still hT hw1 (by omega) (by omega)).symm)
  · rintro m1 hI
    unfold f0_standStill_L3
    simp only [z_u2]
    rw [if_neg Int32.lt_irrefl]
    exact zw_some.mpr hI.1
