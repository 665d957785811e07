/-! LORDS III: the reference's table, and the answers -/
def q_mh (sv : Nat → Int32) (h p U : Nat) : Bool := bt (sv h) p && !U.testBit p
def q_db (sv : Nat → Int32) (nx : Nat → Nat) (h U : Nat) : Nat → Nat
  | 0 => nx U
  | p + 1 => if (q_mh sv h p U && decide (q_db sv nx h U p < nx (U + 2 ^ p) + 1)) = true then nx (U + 2 ^ p) + 1 else q_db sv nx h U p
def q_dp (sv : Nat → Int32) (n H : Nat) : Nat → Nat → Nat
  | 0, _ => 0
  | d + 1, U => q_db sv (q_dp sv n H d) (H - (d + 1)) U n
theorem q_db_mn (sv : Nat → Int32) (nx : Nat → Nat) (h U k : Nat) : ∀ d, q_db sv nx h U k ≤ q_db sv nx h U (k + d)
  | 0 => Nat.le_refl _
  | d + 1 => by
    refine Nat.le_trans (q_db_mn sv nx h U k d) ?_
    rw [← Nat.add_assoc, q_db]
    by_cases c : (q_mh sv h (k + d) U && decide (q_db sv nx h U (k + d) < nx (U + 2 ^ (k + d)) + 1)) = true
    · rw [if_pos c]
      rw [Bool.and_eq_true, decide_eq_true_eq] at c
      omega
    · rw [if_neg c]; exact Nat.le_refl _
theorem q_db_ge {sv : Nat → Int32} {nx : Nat → Nat} {h U p n : Nat} (hp : p < n) (hm : q_mh sv h p U = true) : nx (U + 2 ^ p) + 1 ≤ q_db sv nx h U n := by
  obtain ⟨d, rfl⟩ := Nat.exists_eq_add_of_le (show p + 1 ≤ n by omega)
  refine Nat.le_trans ?_ (q_db_mn sv nx h U (p + 1) d)
  rw [q_db, hm, Bool.true_and]
  by_cases c : decide (q_db sv nx h U p < nx (U + 2 ^ p) + 1) = true
  · rw [if_pos c]; exact Nat.le_refl _
  · rw [if_neg c]
    rw [decide_eq_true_eq] at c
    omega
theorem q_db_or (sv : Nat → Int32) (nx : Nat → Nat) (h U : Nat) : ∀ n, q_db sv nx h U n = nx U ∨ ∃ p, p < n ∧ q_mh sv h p U = true ∧ q_db sv nx h U n = nx (U + 2 ^ p) + 1
  | 0 => Or.inl rfl
  | n + 1 => by
    rw [q_db]
    by_cases c : (q_mh sv h n U && decide (q_db sv nx h U n < nx (U + 2 ^ n) + 1)) = true
    · rw [if_pos c]
      rw [Bool.and_eq_true] at c
      exact Or.inr ⟨n, by omega, c.1, rfl⟩
    · rw [if_neg c]
      rcases q_db_or sv nx h U n with e | ⟨p, hp, e1, e2⟩
      · exact Or.inl e
      · exact Or.inr ⟨p, by omega, e1, e2⟩
theorem q_nk_n {U : Nat} (hU : U < 128) : q_nk (bt (nI U)) 7 = U := Nat.eq_of_testBit_eq fun i => by
  rw [q_nk_b]
  by_cases h : i < 7
  · rw [decide_eq_true h, Bool.true_and, b_n _ i (by omega)]
  · rw [decide_eq_false h, Bool.false_and, Nat.testBit_lt_two_pow (Nat.lt_of_lt_of_le hU (show 128 ≤ 2 ^ i from Nat.pow_le_pow_right (n := 2) (by decide) (show 7 ≤ i by omega)))]
theorem q_nk_or {x : Int32} {p : Nat} (hp : p < 7) (hb : bt x p = false) : q_nk (bt (x ||| ((1 : Int32) <<< (nI p &&& 31)))) 7 = q_nk (bt x) 7 + 2 ^ p := Nat.eq_of_testBit_eq fun i => by
  have hU : q_nk (bt x) 7 < 128 := q_nk_lt (bt x) 7
  have hUb : (q_nk (bt x) 7).testBit p = false := by rw [q_nk_b, hb, Bool.and_false]
  obtain ⟨l1, l2, _⟩ := w_1 _ hU p hp hUb
  rw [q_nk_b]
  by_cases h : i < 7
  · rw [decide_eq_true h, Bool.true_and, b_or, b_p p (by omega) (by omega)]
    by_cases e : i = p
    · rw [e, l2, hb, decide_eq_true rfl]; rfl
    · rw [w_5 _ hU p hp i h e hUb, q_nk_b, decide_eq_true h, decide_eq_false e, Bool.or_false]; rfl
  · rw [decide_eq_false h, Bool.false_and, Nat.testBit_lt_two_pow (Nat.lt_of_lt_of_le l1 (show 128 ≤ 2 ^ i from Nat.pow_le_pow_right (n := 2) (by decide) (show 7 ≤ i by omega)))]
theorem q_dp_W {sv : Nat → Int32} {n H : Nat} (hH : H ≤ 5) (hn : n ≤ 7) (hsv : ∀ h i, n ≤ i → i < 32 → bt (sv h) i = false) {a U w : Nat} (ha : a ≤ H) (hU : U < 128) (hW : q_isW sv H a (nI U) w) : q_dp sv n H (H - a) U + w = H - a := by
  have key := q_hall (sv := sv) (H := H) (D := fun h x => q_dp sv n H (H - h) (q_nk (bt x) 7)) hH (fun h i h1 h2 => hsv h i (by omega) h2) (fun x => by show q_dp sv n H (H - H) _ = 0; rw [Nat.sub_self]; rfl) (fun h x hh => ?_) (fun h x p hh hp b1 b2 => ?_) (fun h x hh => ?_) (H - a) a (nI U) w (by omega) hW
  · have : q_dp sv n H (H - a) (q_nk (bt (nI U)) 7) + w = H - a := key
    rw [q_nk_n hU] at this
    exact this
  · show q_dp sv n H (H - (h + 1)) _ ≤ q_dp sv n H (H - h) _
    rw [show H - h = (H - (h + 1)) + 1 by omega, q_dp]
    have := q_db_mn sv (q_dp sv n H (H - (h + 1))) (H - (H - (h + 1) + 1)) (q_nk (bt x) 7) 0 n
    rw [Nat.zero_add] at this
    exact this
  · show q_dp sv n H (H - (h + 1)) _ + 1 ≤ q_dp sv n H (H - h) _
    rw [q_nk_or hp b2, show H - h = (H - (h + 1)) + 1 by omega, q_dp, show H - (H - (h + 1) + 1) = h by omega]
    have hpn : p < n := by
      refine Classical.byContradiction fun q => ?_
      rw [hsv h p (by omega) (by omega)] at b1
      exact absurd b1 (by decide)
    refine q_db_ge hpn ?_
    unfold q_mh
    rw [b1, q_nk_b, b2, Bool.and_false]; rfl
  · show q_dp sv n H (H - h) _ = q_dp sv n H (H - (h + 1)) _ ∨ _
    rw [show H - h = (H - (h + 1)) + 1 by omega, q_dp, show H - (H - (h + 1) + 1) = h by omega]
    rcases q_db_or sv (q_dp sv n H (H - (h + 1))) h (q_nk (bt x) 7) n with e | ⟨p, hp, e1, e2⟩
    · exact Or.inl e
    · unfold q_mh at e1
      rw [Bool.and_eq_true, q_nk_b, decide_eq_true (show p < 7 by omega), Bool.true_and] at e1
      have b2 : bt x p = false := by
        have := e1.2
        cases q : bt x p
        · rfl
        · rw [q] at this; exact absurd this (by decide)
      refine Or.inr ⟨p, by omega, e1.1, b2, ?_⟩
      show q_db sv (q_dp sv n H (H - (h + 1))) h (q_nk (bt x) 7) n = q_dp sv n H (H - (h + 1)) (q_nk (bt (x ||| ((1 : Int32) <<< (nI p &&& 31)))) 7) + 1
      rw [q_nk_or (by omega) b2]
      exact e2
section
variable {T : qT} {o v B : Nat} {r : Nat → Int32} {m m' : zMem}
abbrev q_lt (T : qT) (r : Nat → Int32) : Nat → Nat → Nat := q_dp (q_sv T r) (tP T) (tH T)
theorem q_sv_n (hP : tP T ≤ 7) : ∀ h i, tP T ≤ i → i < 32 → bt (q_sv T r h) i = false := fun h i h1 h2 => by rw [q_sv_b hP h2, decide_eq_false (by omega), Bool.false_and, Bool.and_false]
theorem p8_most (h : qI_T T o v m) (hn : qI_N B T r m) {a U : Nat} (ha : a ≤ tH T) (hU : U < 128) : f8_mostLords (nI a) (nI U) m = some (nI (q_lt T r (tH T - a) U)) := by
  have hH := h.ok.1
  have hW : q_lt T r (tH T - a) U + q_wt (q_sv T r) (tH T) a (nI U) (2 ^ tH T) = tH T - a := q_dp_W hH h.ok.2 (q_sv_n (r := r) h.ok.2) ha hU (q_wt_W (sv := q_sv T r) hH ha (nI U))
  rw [p8_mostLords h hn ha, pk_sub (by omega), pk_sub (by omega)]
  congr 2
  omega
theorem q_lt_le (hT : tOk T) : ∀ d U, q_lt T r d U ≤ d
  | 0, _ => Nat.le_refl 0
  | d + 1, U => by
    have ih := q_lt_le hT d
    show q_db (q_sv T r) (q_lt T r d) (tH T - (d + 1)) U (tP T) ≤ d + 1
    rcases q_db_or (q_sv T r) (q_lt T r d) (tH T - (d + 1)) U (tP T) with e | ⟨p, _, _, e⟩
    · rw [e]; have := ih U; omega
    · rw [e]; have := ih (U + 2 ^ p); omega
def q_lc (T : qT) (r : Nat → Int32) (h U : Nat) : Nat → Bool := fun p => q_mh (q_sv T r) h p U && decide (q_lt T r (tH T - (h + 1)) (U + 2 ^ p) + 1 = q_lt T r (tH T - h) U)
def q_lf (T : qT) (r : Nat → Int32) (h U : Nat) : Option Nat := q_se (q_lc T r h U) (tP T)
theorem p8_given (h : qI_T T o v m) (hn : qI_N B T r m) {a U : Nat} (ha : a < tH T) (hU : U < 128) : f8_lordGiven (nI a) (nI U) m = some (q_res1 (q_lf T r a U)) := by
  have hH := h.ok.1
  have hP := h.ok.2
  unfold f8_lordGiven
  rw [p8_most h hn (by omega) hU, Option.bind_some, if_pos (y_in (by omega) (by omega)), y_cl (by omega), hn.2.1.2.2.2.2.2.2 a (by omega), p5_away hn.2.1 h.ok]
  simp only [z_let]
  show (z_it (f8_lordGiven_L6 (nI a) (nI U) m (nI (q_lt T r (tH T - a) U)) (q_mi (q_sv T r a) (nI U))) z_fu 0).bind (Sum.elim (fun (_ : Unit) => some (-2 : Int32)) (fun qr15 => some qr15)) = _
  rw [z_se (body := f8_lordGiven_L6 (nI a) (nI U) m (nI (q_lt T r (tH T - a) U)) (q_mi (q_sv T r a) (nI U))) (s0 := 0) (q_lc T r a U) nI (tP T) nI rfl (fun p hp => ?_) ?_ (by omega)]
  · unfold q_lf q_res1
    cases q_se (q_lc T r a U) (tP T) <;> rfl
  · unfold f8_lordGiven_L6
    simp (disch := omega) only [h.ox, h.P, y_lt, Nat.lt_irrefl, ↓reduceIte]
  · have l1 := q_lt_le (r := r) h.ok (tH T - (a + 1)) (U + 2 ^ p)
    have l2 := q_lt_le (r := r) h.ok (tH T - a) U
    unfold f8_lordGiven_L6 q_lc q_mh
    simp (disch := omega) only [h.ox, h.P, y_lt, hp, ↓reduceIte, y_has0, q_mi_b, b_n, y_s1]
    cases eb : (bt (q_sv T r a) p && !U.testBit p)
    · rw [if_pos rfl, Bool.false_and, y_ff]
    · rw [Bool.and_eq_true] at eb
      have hUp : U.testBit p = false := by
        have := eb.2
        cases q : U.testBit p
        · rfl
        · rw [q] at this; exact absurd this (by decide)
      obtain ⟨w1, _, w3⟩ := w_1 U hU p (by omega) hUp
      rw [if_neg (by decide), w3, p8_most h hn (by omega) w1, Option.bind_some, Int32.add_comm, nI_1, Bool.true_and]
      by_cases c : q_lt T r (tH T - (a + 1)) (U + 2 ^ p) + 1 = q_lt T r (tH T - a) U
      · rw [if_pos (by rw [c]), decide_eq_true c, if_pos rfl]
      · rw [if_neg (by rw [y_eq (by omega) (by omega)]; exact c), decide_eq_false c, y_ff]
def q_us (T : qT) (r : Nat → Int32) : Nat → Nat
  | 0 => 0
  | j + 1 => match q_lf T r j (q_us T r j) with
    | some p => q_us T r j + 2 ^ p
    | none => q_us T r j
theorem q_lf_sp (hP : tP T ≤ 7) {h U : Nat} (hU : U < 128) : q_lf T r h U = none ∨ ∃ p, p < tP T ∧ q_lf T r h U = some p ∧ U.testBit p = false ∧ U + 2 ^ p < 128 := by
  unfold q_lf
  rcases q_se_sp (q_lc T r h U) (tP T) with ⟨e, _⟩ | ⟨p, hp, e, c, _⟩
  · exact Or.inl e
  · refine Or.inr ⟨p, hp, e, ?_⟩
    unfold q_lc q_mh at c
    rw [Bool.and_eq_true, Bool.and_eq_true] at c
    have hUp : U.testBit p = false := by
      have := c.1.2
      cases q : U.testBit p
      · rfl
      · rw [q] at this; exact absurd this (by decide)
    exact ⟨hUp, (w_1 U hU p (by omega) hUp).1⟩
theorem q_us_lt (hP : tP T ≤ 7) : ∀ j, q_us T r j < 128
  | 0 => by show 0 < 128; omega
  | j + 1 => by
    have ih := q_us_lt hP j
    rw [q_us]
    rcases q_lf_sp (r := r) (h := j) hP ih with e | ⟨p, _, e, _, l⟩
    · rw [e]; exact ih
    · rw [e]; exact l
/-- used, with whom a HOUSE was given -/
theorem q_us_s (hP : tP T ≤ 7) (j : Nat) : ((if q_res1 (q_lf T r j (q_us T r j)) < 0 then some (nI (q_us T r j)) else some (nI (q_us T r j) ||| ((1 : Int32) <<< (q_res1 (q_lf T r j (q_us T r j)) &&& 31)))) : Option Int32) = some (nI (q_us T r (j + 1))) := by
  have hu := q_us_lt (r := r) hP j
  rw [q_us]
  rcases q_lf_sp (r := r) (h := j) hP hu with e | ⟨p, hp, e, hb, l⟩
  · rw [e]; rfl
  · rw [e]
    show (if nI p < 0 then _ else some (nI (q_us T r j) ||| ((1 : Int32) <<< (nI p &&& 31)))) = _
    rw [if_neg (nI_pos (by omega)), (w_1 _ hu p (by omega) hb).2.2]
end
