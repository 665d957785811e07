/-! QUERIES I: house, person, heir, race, idle, share, richest, eldest -/
def qAn (T : qT) (o v B : Nat) (r : Nat → Int32) (f : zMem → Option (Int32 × zMem)) (a : Int32) : Prop := ∀ m, qI_T T o v m → qI_N B T r m → zw (f m) fun q => q.1 = a ∧ zk sQ m q.2
def qAp (T : qT) (o v B : Nat) (r : Nat → Int32) (f : zMem → Option Int32) (a : Int32) : Prop := ∀ m, qI_T T o v m → qI_N B T r m → f m = some a
section
variable {T : qT} {o v B : Nat} {r : Nat → Int32} {m : zMem}
theorem qI_T.ok (h : qI_T T o v m) : tOk T := h.1
theorem qI_T.lw (h : qI_T T o v m) : tLw T := h.2.1
theorem qI_T.ox (h : qI_T T o v m) : m.2.2 8 0 3 = o := h.2.2.2.1
theorem qI_T.tx (h : qI_T T o v m) : qTx m o T := h.2.2.2.2.2.1
theorem qI_T.cl (h : qI_T T o v m) : qCl m o T := h.2.2.2.2.2.2.1
theorem qI_T.mx (h : qI_T T o v m) : qMx m T v := h.2.2.2.2.2.2.2.1
theorem qI_T.ml (h : qI_T T o v m) : qMl m v T := h.2.2.2.2.2.2.2.2
theorem qI_T.H (h : qI_T T o v m) : m.1 6 o 0 = nI (tH T) := h.tx.1
theorem qI_T.P (h : qI_T T o v m) : m.1 6 o 1 = nI (tP T) := h.tx.2.1
theorem y_isi (a b : Int32) : f8_isHouse a m = (if 0 ≤ a ∧ a < m.1 6 (m.2.2 8 0 3) 0 then 1 else 0) ∧ f8_isPerson b m = (if 0 ≤ b ∧ b < m.1 6 (m.2.2 8 0 3) 1 then 1 else 0) := by
  unfold f8_isHouse f8_isPerson
  constructor
  · by_cases h : a < 0
    · rw [if_pos h, if_neg (fun q => by have := q.1; rw [y_il] at this; rw [y_i] at h; omega)]
    · have h' : 0 ≤ a := by rw [y_il]; rw [y_i] at h; omega
      rw [if_neg h]
      by_cases h2 : a < m.1 6 (m.2.2 8 0 3) 0
      · rw [if_pos h2, if_pos ⟨h', h2⟩]
      · rw [if_neg h2, if_neg (fun q => h2 q.2)]
  · by_cases h : b < 0
    · rw [if_pos h, if_neg (fun q => by have := q.1; rw [y_il] at this; rw [y_i] at h; omega)]
    · have h' : 0 ≤ b := by rw [y_il]; rw [y_i] at h; omega
      rw [if_neg h]
      by_cases h2 : b < m.1 6 (m.2.2 8 0 3) 1
      · rw [if_pos h2, if_pos ⟨h', h2⟩]
      · rw [if_neg h2, if_neg (fun q => h2 q.2)]
theorem p8_isHouse_n (h : qI_T T o v m) {a : Int32} (ha : ¬ (0 ≤ a ∧ a < nI (tH T))) : f8_isHouse a m = 0 := by rw [(y_isi a 0).1, h.ox, h.H, if_neg ha]
theorem p8_isHouse_y (h : qI_T T o v m) {j : Nat} (hj : j < tH T) : f8_isHouse (nI j) m = 1 := by rw [(y_isi _ 0).1, h.ox, h.H, if_pos (y_isn hj (by have := h.ok.1; omega))]
theorem p8_isPerson_n (h : qI_T T o v m) {a : Int32} (ha : ¬ (0 ≤ a ∧ a < nI (tP T))) : f8_isPerson a m = 0 := by rw [(y_isi 0 a).2, h.ox, h.P, if_neg ha]
theorem p8_isPerson_y (h : qI_T T o v m) {j : Nat} (hj : j < tP T) : f8_isPerson (nI j) m = 1 := by rw [(y_isi 0 _).2, h.ox, h.P, if_pos (y_isn hj (by have := h.ok.2; omega))]
theorem p9_isHouse_n (h : qI_T T o v m) {a : Int32} (ha : ¬ (0 ≤ a ∧ a < nI (tH T))) : f9_isHouse a m = some 0 := by rw [p9_isHouse h.mx h.ok, if_neg ha]
theorem p9_isHouse_y (h : qI_T T o v m) {j : Nat} (hj : j < tH T) : f9_isHouse (nI j) m = some 1 := by rw [p9_isHouse h.mx h.ok, if_pos (y_isn hj (by have := h.ok.1; omega))]
theorem p9_isPerson_n (h : qI_T T o v m) {a : Int32} (ha : ¬ (0 ≤ a ∧ a < nI (tP T))) : f9_isPerson a m = some 0 := by rw [p9_isPerson h.mx h.ok, if_neg ha]
theorem p9_isPerson_y (h : qI_T T o v m) {j : Nat} (hj : j < tP T) : f9_isPerson (nI j) m = some 1 := by rw [p9_isPerson h.mx h.ok, if_pos (y_isn hj (by have := h.ok.2; omega))]
theorem n01 : ¬ (1 : Int32) = 0 := by decide
theorem q_some {a : Int32} (m : zMem) : zw (some (a, m)) fun q => q.1 = a ∧ zk sQ m q.2 := zw_some.mpr ⟨rfl, zk_r m⟩
theorem zk_cp {m m' : zMem} (h : zk sCp m m') : zk sQ m m' := zk_m h (fun c i k h => by omega)
theorem zk_ml {m m' : zMem} (h : zk sML m m') : zk sQ m m' := zk_m h (fun c i k h => by omega)
theorem zk_my {m m' : zMem} (h : zk sMY m m') : zk sQ m m' := zk_m h (fun c i k h => by omega)
/-- the reference after copies: what goes on is in the row -/
theorem q_cp {f : zMem → Option (Int32 × zMem)} {a : Int32} (h : qI_T T o v m) (hn : qI_N B T r m) (k : ∀ m', qI_T T o v m' → qI_N B T r m' → qMr m' r → qSd m' false (tS T) → zw (f m') fun q => q.1 = a ∧ zk sQ m' q.2) : zw ((f9_copies m).bind f) fun q => q.1 = a ∧ zk sQ m q.2 := by
  refine zw_b (p9_copiesK h.mx hn.2.2) ?_
  rintro m1 ⟨hf, hr, hs⟩
  have hf' := zk_cp hf
  exact zw_mono (k m1 (q_T_q h hf') (q_N_q hn hf') hr hs) (fun q hq => ⟨hq.1, zk_t hf' hq.2⟩)
theorem q_cs' {f : zMem → Option (Int32 × zMem)} {a : Int32} (h : qI_T T o v m) (hn : qI_N B T r m) (k : ∀ m', qI_T T o v m' → qI_N B T r m' → qMr m' r → qSd m' true (tS T) → zw (f m') fun q => q.1 = a ∧ zk sQ m' q.2) : zw ((f9_copiesStill m).bind f) fun q => q.1 = a ∧ zk sQ m q.2 := by
  refine zw_b (p9_copiesStillK h.mx hn.2.2) ?_
  rintro m1 ⟨hf, hr, hs⟩
  have hf' := zk_cp hf
  exact zw_mono (k m1 (q_T_q h hf') (q_N_q hn hf') hr hs) (fun q hq => ⟨hq.1, zk_t hf' hq.2⟩)
theorem zk_lk {m m' : zMem} {i : Nat} (h : zk (sLook i) m m') : zk sQ m m' := zk_m h (fun c i k h => by omega)
theorem zk_lw {m m' : zMem} {i : Nat} (h : zk (sLaw i) m m') : zk sQ m m' := zk_m h (fun c i k h => by omega)
/-! house -/
theorem c_house (hT : tOk T) (a b : Int32) : ∃ x, qAn T o v B r (f8_house a b) x ∧ qAn T o v B r (f9_house a b) x := by
  have hH := hT.1
  rcases y_is a (n := tH T) (by omega) with ha | ⟨j, hj, rfl⟩
  · refine ⟨-1, fun m h hn => ?_, fun m h hn => ?_⟩
    · unfold f8_house
      rw [p8_isHouse_n h ha, if_pos rfl]
      exact q_some m
    · unfold f9_house
      refine zw_eq (p9_isHouse_n h ha) ?_
      rw [if_pos rfl]
      exact q_some m
  by_cases b0 : b = 0
  · refine ⟨tR T j, fun m h hn => ?_, fun m h hn => ?_⟩
    · unfold f8_house
      rw [p8_isHouse_y h hj, if_neg n01, if_pos b0, h.ox, z_l26a, if_pos (y_in (by omega) (by omega)), y_cl (by omega), h.tx.2.2.2.1 j hj]
      exact q_some m
    · unfold f9_house
      refine zw_eq (p9_isHouse_y h hj) ?_
      rw [if_neg n01]
      refine q_cp h hn (fun m' h' hn' hr' _ => ?_)
      obtain ⟨hv, h9, _, _, _, hR, _⟩ := h'.mx
      rw [if_pos b0, h9, y_5, pk_mul, nI_add, if_pos (y_in (by omega) (by omega)), y_cl (by omega), hR j hj]
      exact q_some m'
  by_cases b1 : b = 1
  · refine ⟨q_lord T r j, fun m h hn => ?_, fun m h hn => ?_⟩
    · unfold f8_house
      rw [p8_isHouse_y h hj, if_neg n01, if_neg b0, if_pos b1, p5_landlordOf hn.2.1 hT (by omega)]
      exact q_some m
    · unfold f9_house
      refine zw_eq (p9_isHouse_y h hj) ?_
      rw [if_neg n01]
      refine q_cp h hn (fun m' h' hn' hr' _ => ?_)
      rw [if_neg b0, if_pos b1, p9_lordOf h'.mx hT hr' (by omega)]
      exact q_some m'
  by_cases b2 : b = 2
  · refine ⟨r (28 + j), fun m h hn => ?_, fun m h hn => ?_⟩
    · unfold f8_house
      rw [p8_isHouse_y h hj, if_neg n01, if_neg b0, if_neg b1, if_pos b2, if_pos (y_in (by omega) (by omega)), y_cl (by omega), hn.2.1.2.2.2.2.2.2 j (by omega)]
      exact q_some m
    · unfold f9_house
      refine zw_eq (p9_isHouse_y h hj) ?_
      rw [if_neg n01]
      refine q_cp h hn (fun m' h' hn' hr' _ => ?_)
      rw [if_neg b0, if_neg b1, if_pos b2, show (28 : Int32) + nI j = nI (28 + j) from nI_add 28 j, if_pos (y_in (by omega) (by omega)), y_cl (by omega), hr' _ (by omega)]
      exact q_some m'
  by_cases b3 : b = 3
  · refine ⟨q_rt T r j, fun m h hn => ?_, fun m h hn => ?_⟩
    · unfold f8_house
      rw [p8_isHouse_y h hj, if_neg n01, if_neg b0, if_neg b1, if_neg b2, if_pos b3, h.ox]
      refine zw_b (p1_look hn.2.1 hT h.tx) ?_
      rintro m1 ⟨hf, hs⟩
      have h1 := q_T_q h (zk_lk hf)
      rw [h1.ox]
      refine zw_b (p1_rentsOf (q_N_q hn (zk_lk hf)).2.1 hn.1 hT h.lw h1.tx h1.cl hs hj) ?_
      rintro ⟨x, m2⟩ ⟨ex, hf2⟩
      exact zw_some.mpr ⟨ex, zk_t (zk_lk hf) (zk_lw hf2)⟩
    · unfold f9_house
      refine zw_eq (p9_isHouse_y h hj) ?_
      rw [if_neg n01]
      refine q_cp h hn (fun m' h' hn' hr' _ => ?_)
      rw [if_neg b0, if_neg b1, if_neg b2, if_pos b3]
      refine zw_b (p9_rentsOf h'.mx hT h'.lw h'.ml hr' hj) ?_
      rintro ⟨x, m2⟩ ⟨ex, hf2⟩
      exact zw_some.mpr ⟨ex, zk_ml hf2⟩
  · refine ⟨-1, fun m h hn => ?_, fun m h hn => ?_⟩
    · unfold f8_house
      rw [p8_isHouse_y h hj, if_neg n01, if_neg b0, if_neg b1, if_neg b2, if_neg b3]
      exact q_some m
    · unfold f9_house
      refine zw_eq (p9_isHouse_y h hj) ?_
      rw [if_neg n01]
      refine q_cp h hn (fun m' h' hn' hr' _ => ?_)
      rw [if_neg b0, if_neg b1, if_neg b2, if_neg b3]
      exact q_some m'
/-! person -/
theorem p8_rightsOf (h : qI_T T o v m) (hn : qI_N B T r m) {p : Nat} (hp : p < 7) : f8_rightsOf (nI p) m = some (q_mk (fun h => bt (r (28 + h)) p) (tH T)) := by
  have hH := h.ok.1
  unfold f8_rightsOf
  refine z_it_eb (fun k => (q_mk (fun h => bt (r (28 + h)) p) k, nI k)) (tH T) _ rfl (fun k hk => ?_) ?_ (z_fu_lt (by omega)) rfl
  · unfold f8_rightsOf_L1
    simp (disch := omega) only [z_u2, h.ox, h.H, y_lt, hk, ↓reduceIte, y_in, y_cl, hn.2.1.2.2.2.2.2.2 k (by omega), y_has0, z_let, y_s1]
    rw [q_mk]
    cases bt (r (28 + k)) p <;> rfl
  · unfold f8_rightsOf_L1
    simp (disch := omega) only [z_u2, h.ox, h.H, y_lt, Nat.lt_irrefl, ↓reduceIte]
theorem p8_ownHouses (h : qI_T T o v m) (hn : qI_N B T r m) (a : Int32) : f8_ownHouses a m = some (q_mk (fun h => decide (q_lord T r h = a)) (tH T)) := by
  have hH := h.ok.1
  unfold f8_ownHouses
  refine z_it_eb (fun k => (q_mk (fun h => decide (q_lord T r h = a)) k, nI k)) (tH T) _ rfl (fun k hk => ?_) ?_ (z_fu_lt (by omega)) rfl
  · unfold f8_ownHouses_L1
    simp (disch := omega) only [z_u2, h.ox, h.H, y_lt, hk, ↓reduceIte, p5_landlordOf hn.2.1 h.ok, Option.bind_some, z_let, y_s1]
    rw [q_mk]
    by_cases e : q_lord T r k = a
    · rw [if_pos e, decide_eq_true e]; rfl
    · rw [if_neg e, decide_eq_false e]; rfl
  · unfold f8_ownHouses_L1
    simp (disch := omega) only [z_u2, h.ox, h.H, y_lt, Nat.lt_irrefl, ↓reduceIte]
theorem p8_chanceNow (h : qI_T T o v m) (hn : qI_N B T r m) {p k : Nat} (hp : p < tP T) (hk : k < 4) : zw (f8_chanceNow (nI k) (nI p) m) fun q => q.1 = q_ch T r k p ∧ zk sQ m q.2 := by
  unfold f8_chanceNow
  rw [h.ox]
  refine zw_b (p1_look hn.2.1 h.ok h.tx) ?_
  rintro m1 ⟨hf, hs⟩
  have h1 := q_T_q h (zk_lk hf)
  rw [h1.ox]
  refine zw_b (p1_chanceOf (q_N_q hn (zk_lk hf)).2.1 hn.1 h.ok h.lw h1.tx h1.cl hs hp hk) ?_
  rintro ⟨x, m2⟩ ⟨ex, hf2⟩
  exact zw_some.mpr ⟨ex, zk_t (zk_lk hf) (zk_lw hf2)⟩
theorem c_person (hT : tOk T) (a b : Int32) : ∃ x, qAn T o v B r (f8_person a b) x ∧ qAn T o v B r (f9_person a b) x := by
  have hP := hT.2
  rcases y_is a (n := tP T) (by omega) with ha | ⟨j, hj, rfl⟩
  · refine ⟨-1, fun m h hn => ?_, fun m h hn => ?_⟩
    · unfold f8_person
      rw [p8_isPerson_n h ha, if_pos rfl]
      exact q_some m
    · unfold f9_person
      refine zw_eq (p9_isPerson_n h ha) ?_
      rw [if_pos rfl]
      exact q_some m
  have n9 : ∀ {m : zMem} {x : Int32}, qI_T T o v m → qI_N B T r m → (∀ m', qI_T T o v m' → qI_N B T r m' → qMr m' r → qSd m' false (tS T) → zw (if b = (0 : Int32) then (f9_ageNow (nI j) m').bind (fun q7 => some (q7, m')) else (if b = (1 : Int32) then if z_in (nI j) 34 = true then some ((m'.1 149 0 (nI j).toNatClampNeg), m') else none else (if b = (2 : Int32) then if z_in ((7 : Int32) + nI j) 34 = true then some ((m'.1 149 0 ((7 : Int32) + nI j).toNatClampNeg), m') else none else (if b = (3 : Int32) then if z_in ((14 : Int32) + nI j) 34 = true then some ((m'.1 149 0 ((14 : Int32) + nI j).toNatClampNeg), m') else none else (if b = (4 : Int32) then (f9_rightBits (nI j) m').bind (fun q16 => some (q16, m')) else (if b = (5 : Int32) then (f9_lordBits (nI j) m').bind (fun q19 => some (q19, m')) else (if b = (6 : Int32) then (f9_chanceOf (nI j) (0 : Int32) m').bind (z_u2 fun q22 qm23 => some (q22, qm23)) else (if b = (7 : Int32) then (f9_chanceOf (nI j) (1 : Int32) m').bind (z_u2 fun q26 qm27 => some (q26, qm27)) else (if b = (8 : Int32) then (f9_chanceOf (nI j) (2 : Int32) m').bind (z_u2 fun q30 qm31 => some (q30, qm31)) else some ((-1 : Int32), m')))))))))) fun q => q.1 = x ∧ zk sQ m' q.2) → zw (f9_person (nI j) b m) fun q => q.1 = x ∧ zk sQ m q.2 := by
    intro m x h hn k
    unfold f9_person
    refine zw_eq (p9_isPerson_y h hj) ?_
    rw [if_neg n01]
    exact q_cp h hn k
  by_cases b0 : b = 0
  · refine ⟨q_age T r j, fun m h hn => ?_, fun m h hn => n9 h hn (fun m' h' hn' hr' _ => ?_)⟩
    · unfold f8_person
      rw [p8_isPerson_y h hj, if_neg n01, if_pos b0, if_pos (y_in (by omega) (by omega)), y_cl (by omega), q_age_rep hn.2.1 hj]
      exact q_some m
    · rw [if_pos b0, p9_ageNow h'.mx hT hr' hj]
      exact q_some m'
  by_cases b1 : b = 1
  · refine ⟨r j, fun m h hn => ?_, fun m h hn => n9 h hn (fun m' h' hn' hr' _ => ?_)⟩
    · unfold f8_person
      rw [p8_isPerson_y h hj, if_neg n01, if_neg b0, if_pos b1, p5_standingOf hn.2.1 hT hn.1 hj]
      exact q_some m
    · rw [if_neg b0, if_pos b1, if_pos (y_in (by omega) (by omega)), y_cl (by omega), hr' _ (by omega)]
      exact q_some m'
  by_cases b2 : b = 2
  · refine ⟨r (7 + j), fun m h hn => ?_, fun m h hn => n9 h hn (fun m' h' hn' hr' _ => ?_)⟩
    · unfold f8_person
      rw [p8_isPerson_y h hj, if_neg n01, if_neg b0, if_neg b1, if_pos b2, if_pos (y_in (by omega) (by omega)), y_cl (by omega), hn.2.1.2.2.2.1 j (by omega)]
      exact q_some m
    · rw [if_neg b0, if_neg b1, if_pos b2, show (7 : Int32) + nI j = nI (7 + j) from nI_add 7 j, if_pos (y_in (by omega) (by omega)), y_cl (by omega), hr' _ (by omega)]
      exact q_some m'
  by_cases b3 : b = 3
  · refine ⟨r (14 + j), fun m h hn => ?_, fun m h hn => n9 h hn (fun m' h' hn' hr' _ => ?_)⟩
    · unfold f8_person
      rw [p8_isPerson_y h hj, if_neg n01, if_neg b0, if_neg b1, if_neg b2, if_pos b3, if_pos (y_in (by omega) (by omega)), y_cl (by omega), hn.2.1.2.2.2.2.1 j (by omega)]
      exact q_some m
    · rw [if_neg b0, if_neg b1, if_neg b2, if_pos b3, show (14 : Int32) + nI j = nI (14 + j) from nI_add 14 j, if_pos (y_in (by omega) (by omega)), y_cl (by omega), hr' _ (by omega)]
      exact q_some m'
  by_cases b4 : b = 4
  · refine ⟨q_mk (fun h => bt (r (28 + h)) j) (tH T), fun m h hn => ?_, fun m h hn => n9 h hn (fun m' h' hn' hr' _ => ?_)⟩
    · unfold f8_person
      rw [p8_isPerson_y h hj, if_neg n01, if_neg b0, if_neg b1, if_neg b2, if_neg b3, if_pos b4, p8_rightsOf h hn (by omega)]
      exact q_some m
    · rw [if_neg b0, if_neg b1, if_neg b2, if_neg b3, if_pos b4, p9_rightBits h'.mx hT hr' (by omega)]
      exact q_some m'
  by_cases b5 : b = 5
  · refine ⟨q_mk (fun h => decide (q_lord T r h = nI j)) (tH T), fun m h hn => ?_, fun m h hn => n9 h hn (fun m' h' hn' hr' _ => ?_)⟩
    · unfold f8_person
      rw [p8_isPerson_y h hj, if_neg n01, if_neg b0, if_neg b1, if_neg b2, if_neg b3, if_neg b4, if_pos b5, p8_ownHouses h hn]
      exact q_some m
    · rw [if_neg b0, if_neg b1, if_neg b2, if_neg b3, if_neg b4, if_pos b5, p9_lordBits h'.mx hT hr']
      exact q_some m'
  by_cases b6 : b = 6
  · refine ⟨q_ch T r 0 j, fun m h hn => ?_, fun m h hn => n9 h hn (fun m' h' hn' hr' _ => ?_)⟩
    · unfold f8_person
      rw [p8_isPerson_y h hj, if_neg n01, if_neg b0, if_neg b1, if_neg b2, if_neg b3, if_neg b4, if_neg b5, if_pos b6]
      exact zw_b (p8_chanceNow (k := 0) h hn hj (by omega)) (fun q hq => zw_some.mpr hq)
    · rw [if_neg b0, if_neg b1, if_neg b2, if_neg b3, if_neg b4, if_neg b5, if_pos b6]
      exact zw_b (p9_chanceOf (k := 0) h'.mx hT h'.lw h'.ml hr' hj (by omega)) (fun q hq => zw_some.mpr ⟨hq.1, zk_ml hq.2⟩)
  by_cases b7 : b = 7
  · refine ⟨q_ch T r 1 j, fun m h hn => ?_, fun m h hn => n9 h hn (fun m' h' hn' hr' _ => ?_)⟩
    · unfold f8_person
      rw [p8_isPerson_y h hj, if_neg n01, if_neg b0, if_neg b1, if_neg b2, if_neg b3, if_neg b4, if_neg b5, if_neg b6, if_pos b7]
      exact zw_b (p8_chanceNow (k := 1) h hn hj (by omega)) (fun q hq => zw_some.mpr hq)
    · rw [if_neg b0, if_neg b1, if_neg b2, if_neg b3, if_neg b4, if_neg b5, if_neg b6, if_pos b7]
      exact zw_b (p9_chanceOf (k := 1) h'.mx hT h'.lw h'.ml hr' hj (by omega)) (fun q hq => zw_some.mpr ⟨hq.1, zk_ml hq.2⟩)
  by_cases b8 : b = 8
  · refine ⟨q_ch T r 2 j, fun m h hn => ?_, fun m h hn => n9 h hn (fun m' h' hn' hr' _ => ?_)⟩
    · unfold f8_person
      rw [p8_isPerson_y h hj, if_neg n01, if_neg b0, if_neg b1, if_neg b2, if_neg b3, if_neg b4, if_neg b5, if_neg b6, if_neg b7, if_pos b8]
      exact zw_b (p8_chanceNow (k := 2) h hn hj (by omega)) (fun q hq => zw_some.mpr hq)
    · rw [if_neg b0, if_neg b1, if_neg b2, if_neg b3, if_neg b4, if_neg b5, if_neg b6, if_neg b7, if_pos b8]
      exact zw_b (p9_chanceOf (k := 2) h'.mx hT h'.lw h'.ml hr' hj (by omega)) (fun q hq => zw_some.mpr ⟨hq.1, zk_ml hq.2⟩)
  · refine ⟨-1, fun m h hn => ?_, fun m h hn => n9 h hn (fun m' h' hn' hr' _ => ?_)⟩
    · unfold f8_person
      rw [p8_isPerson_y h hj, if_neg n01, if_neg b0, if_neg b1, if_neg b2, if_neg b3, if_neg b4, if_neg b5, if_neg b6, if_neg b7, if_neg b8]
      exact q_some m
    · rw [if_neg b0, if_neg b1, if_neg b2, if_neg b3, if_neg b4, if_neg b5, if_neg b6, if_neg b7, if_neg b8]
      exact q_some m'
end
