/-! BOUND: five rounds are enough -/
def q_R (w : Nat → Int32) : Nat → Int32 → Int32
  | 0, b => b
  | n + 1, b => if w n &&& q_R w n b = 0 then q_R w n b else q_R w n b ||| w n
def q_sb (x y : Int32) : Prop := ∀ i, i < 32 → bt x i = true → bt y i = true
theorem q_sb_r (x : Int32) : q_sb x x := fun _ _ h => h
theorem q_sb_t {x y z : Int32} (h : q_sb x y) (h' : q_sb y z) : q_sb x z := fun i hi e => h' i hi (h i hi e)
theorem q_sb_o (x y : Int32) : q_sb x (x ||| y) := fun i _ e => by rw [b_or, e]; rfl
theorem q_sb_o' (x y : Int32) : q_sb y (x ||| y) := fun i _ e => by rw [b_or, e, Bool.or_true]
theorem q_sb_or {x y : Int32} (h : q_sb y x) : x ||| y = x := b_ext fun i hi => by
  rw [b_or]
  cases ex : bt x i
  · cases ey : bt y i
    · rfl
    · rw [h i hi ey] at ex; exact absurd ex (by decide)
  · rfl
theorem q_and_sb {x y z : Int32} (h : q_sb y z) (hn : x &&& y ≠ 0) : x &&& z ≠ 0 := fun e => hn (b_eq0.mpr fun i hi => by
  have := b_eq0.mp e i hi
  rw [b_and] at this ⊢
  cases ex : bt x i
  · rfl
  · cases ey : bt y i
    · rfl
    · rw [ex, h i hi ey] at this; exact absurd this (by decide))
theorem q_R_sb (w : Nat → Int32) (b : Int32) : ∀ n, q_sb b (q_R w n b)
  | 0 => q_sb_r b
  | n + 1 => by
    have ih := q_R_sb w b n
    rw [q_R]
    by_cases c : w n &&& q_R w n b = 0
    · rw [if_pos c]; exact ih
    · rw [if_neg c]; exact q_sb_t ih (q_sb_o _ _)
theorem q_R_st (w : Nat → Int32) (b : Int32) (n : Nat) : q_sb (q_R w n b) (q_R w (n + 1) b) := by
  rw [q_R]
  by_cases c : w n &&& q_R w n b = 0
  · rw [if_pos c]; exact q_sb_r _
  · rw [if_neg c]; exact q_sb_o _ _
theorem q_R_mn (w : Nat → Int32) (b : Int32) (n : Nat) : ∀ d, q_sb (q_R w n b) (q_R w (n + d) b)
  | 0 => q_sb_r _
  | d + 1 => q_sb_t (q_R_mn w b n d) (q_R_st w b (n + d))
/-- a HOUSE that touches is taken in -/
theorem q_R_in {w : Nat → Int32} {b : Int32} {h n : Nat} (hh : h < n) (hne : w h &&& b ≠ 0) : q_sb (w h) (q_R w n b) := by
  obtain ⟨d, rfl⟩ := Nat.exists_eq_add_of_le (show h + 1 ≤ n by omega)
  refine q_sb_t ?_ (q_R_mn w b (h + 1) d)
  rw [q_R, if_neg (q_and_sb (q_R_sb w b h) hne)]
  exact q_sb_o' _ _
theorem q_R_fix {w : Nat → Int32} {b : Int32} : ∀ {n : Nat}, (∀ h, h < n → w h &&& b = 0 ∨ q_sb (w h) b) → q_R w n b = b
  | 0, _ => rfl
  | n + 1, h => by
    have ih := q_R_fix (n := n) (fun i hi => h i (by omega))
    rw [q_R, ih]
    rcases h n (by omega) with e | e
    · rw [if_pos e]
    · by_cases c : w n &&& b = 0
      · rw [if_pos c]
      · rw [if_neg c, q_sb_or e]
def q_ab (w : Nat → Int32) (b : Int32) : Nat → Nat
  | 0 => 0
  | n + 1 => q_ab w b n + (if b ||| w n = b then 1 else 0)
theorem q_sb_of {x y : Int32} (h : x ||| y = x) : q_sb y x := fun i _ e => by rw [← h, b_or, e, Bool.or_true]
theorem q_ab_le (w : Nat → Int32) (b : Int32) : ∀ n, q_ab w b n ≤ n
  | 0 => Nat.le_refl 0
  | n + 1 => by
    have := q_ab_le w b n
    rw [q_ab]
    by_cases c : b ||| w n = b
    · rw [if_pos c]; omega
    · rw [if_neg c]; omega
theorem q_ab_mn {w : Nat → Int32} {b c : Int32} (h : q_sb b c) : ∀ n, q_ab w b n ≤ q_ab w c n
  | 0 => Nat.le_refl 0
  | n + 1 => by
    have ih := q_ab_mn h n (w := w)
    rw [q_ab, q_ab]
    by_cases c1 : b ||| w n = b
    · rw [if_pos c1, if_pos (q_sb_or (q_sb_t (q_sb_of c1) h))]; omega
    · rw [if_neg c1]; omega
theorem q_ab_lt {w : Nat → Int32} {b c : Int32} (h : q_sb b c) : ∀ {n : Nat}, (∃ i, i < n ∧ ¬ b ||| w i = b ∧ c ||| w i = c) → q_ab w b n < q_ab w c n
  | 0, ⟨i, hi, _⟩ => absurd hi (by omega)
  | n + 1, ⟨i, hi, h1, h2⟩ => by
    have hm := q_ab_mn h n (w := w)
    rw [q_ab, q_ab]
    by_cases e : i = n
    · subst e
      rw [if_neg h1, if_pos h2]; omega
    · have ih := q_ab_lt h (n := n) ⟨i, by omega, h1, h2⟩
      by_cases c1 : b ||| w n = b
      · rw [if_pos c1, if_pos (q_sb_or (q_sb_t (q_sb_of c1) h))]; omega
      · rw [if_neg c1]; omega
theorem q_R_lt {w : Nat → Int32} {b : Int32} {n : Nat} (hne : q_R w n b ≠ b) : q_ab w b n < q_ab w (q_R w n b) n := by
  refine q_ab_lt (q_R_sb w b n) ?_
  refine Classical.byContradiction fun hno => hne (q_R_fix fun h hh => ?_)
  by_cases c : w h &&& b = 0
  · exact Or.inl c
  · refine Or.inr (Classical.byContradiction fun hs => hno ⟨h, hh, fun e => hs (q_sb_of e), q_sb_or (q_R_in hh c)⟩)
def q_it (w : Nat → Int32) (n : Nat) : Nat → Int32 → Int32
  | 0, b => b
  | k + 1, b => q_R w n (q_it w n k b)
theorem q_it_fix {w : Nat → Int32} {n : Nat} {b : Int32} {k : Nat} (h : q_R w n (q_it w n k b) = q_it w n k b) : ∀ d, q_it w n (k + d) b = q_it w n k b
  | 0 => rfl
  | d + 1 => by rw [← Nat.add_assoc, q_it, q_it_fix h d, h]
theorem q_it_gr {w : Nat → Int32} {n : Nat} {b : Int32} : ∀ k, (∀ j, j < k → q_R w n (q_it w n j b) ≠ q_it w n j b) → k ≤ q_ab w (q_it w n k b) n
  | 0, _ => Nat.zero_le _
  | k + 1, h => by
    have ih := q_it_gr k (fun j hj => h j (by omega))
    have := q_R_lt (h k (by omega))
    rw [q_it]
    omega
theorem q_it_57 {w : Nat → Int32} {n : Nat} (hn : n ≤ 5) (b : Int32) : q_it w n 7 b = q_it w n 5 b := by
  have hex : ∃ k, k ≤ 5 ∧ q_R w n (q_it w n k b) = q_it w n k b := Classical.byContradiction fun hno => by
    have h6 := q_it_gr (w := w) (n := n) (b := b) 6 (fun j hj e => hno ⟨j, by omega, e⟩)
    have := q_ab_le w (q_it w n 6 b) n
    omega
  obtain ⟨k, hk, e⟩ := hex
  have e7 := q_it_fix e (7 - k)
  have e5 := q_it_fix e (5 - k)
  rw [show k + (7 - k) = 7 by omega] at e7
  rw [show k + (5 - k) = 5 by omega] at e5
  rw [e7, e5]
section
variable {T : qT} {o v B : Nat} {r : Nat → Int32} {m m' : zMem}
abbrev q_bw (T : qT) (r : Nat → Int32) : Nat → Int32 := fun h => r (28 + h) &&& q_al T r
theorem p8_round (h : qI_T T o v m) (hn : qI_N B T r m) (b : Int32) : z_it (f8_bound_L12 m) z_fu (b, 0) = some (q_R (q_bw T r) (tH T) b) := by
  have hH := h.ok.1
  refine z_it_e (fun k => (q_R (q_bw T r) k b, nI k)) (tH T) _ rfl (fun k hk => ?_) ?_ (z_fu_lt (by omega))
  · show f8_bound_L12 m (q_R (q_bw T r) k b, nI k) = some (Sum.inl (q_R (q_bw T r) (k + 1) b, nI (k + 1)))
    rw [q_R]
    generalize q_R (q_bw T r) k b = x
    unfold f8_bound_L12
    simp (disch := omega) only [z_u2, h.ox, h.H, y_lt, hk, ↓reduceIte, y_in, y_cl, hn.2.1.2.2.2.2.2.2 k (by omega), p8_al h hn, z_let, y_s1]
    by_cases c : r (28 + k) &&& q_al T r &&& x = 0
    · rw [if_pos c, if_pos c]; rfl
    · rw [if_neg c, if_neg c]; rfl
  · unfold f8_bound_L12
    simp (disch := omega) only [z_u2, h.ox, h.H, y_lt, Nat.lt_irrefl, ↓reduceIte]
theorem q_R_al (b : Int32) (hb : q_sb b (q_al T r)) : ∀ n, q_sb (q_R (q_bw T r) n b) (q_al T r)
  | 0 => hb
  | n + 1 => by
    have ih := q_R_al b hb n
    rw [q_R]
    by_cases c : q_bw T r n &&& q_R (q_bw T r) n b = 0
    · rw [if_pos c]; exact ih
    · rw [if_neg c]
      intro i hi e
      rw [b_or, Bool.or_eq_true] at e
      rcases e with e | e
      · exact ih i hi e
      · rw [b_and, Bool.and_eq_true] at e; exact e.2
theorem p9_round (h : qI_T T o v m) (hr : qMr m r) {b : Int32} (hb : q_sb b (q_al T r)) : z_it (f9_bound_L16 m (q_al T r)) z_fu (b, 0) = some (q_R (q_bw T r) (tH T) b) := by
  have hH := h.ok.1
  obtain ⟨hv, h9, h1, _⟩ := h.mx
  refine z_it_e (fun k => (q_R (q_bw T r) k b, nI k)) (tH T) _ rfl (fun k hk => ?_) ?_ (z_fu_lt (by omega))
  · show f9_bound_L16 m (q_al T r) (q_R (q_bw T r) k b, nI k) = some (Sum.inl (q_R (q_bw T r) (k + 1) b, nI (k + 1)))
    have hx := q_R_al b hb k
    rw [q_R]
    generalize q_R (q_bw T r) k b = x at *
    unfold f9_bound_L16
    simp (disch := omega) only [z_u2, h9, h1, y_lt, hk, ↓reduceIte, y_28, nI_add, y_in, y_cl, hr _, z_let, y_s1]
    have e : (r (28 + k) &&& x = 0) ↔ (q_bw T r k &&& x = 0) := by
      rw [b_eq0, b_eq0]
      constructor
      · intro q i hi
        have := q i hi
        rw [b_and] at this
        rw [b_and, b_and]
        cases e1 : bt (r (28 + k)) i
        · rfl
        · rw [e1, Bool.true_and] at this; rw [this, Bool.and_false]
      · intro q i hi
        have := q i hi
        rw [b_and, b_and] at this
        rw [b_and]
        cases e1 : bt x i
        · rw [Bool.and_false]
        · rw [e1, hx i hi e1] at this
          cases e2 : bt (r (28 + k)) i
          · rfl
          · rw [e2] at this; exact absurd this (by decide)
    by_cases c : q_bw T r k &&& x = 0
    · rw [if_pos c, if_pos (e.mpr c)]; rfl
    · rw [if_neg c, if_neg (fun q => c (e.mp q))]; rfl
  · unfold f9_bound_L16
    simp (disch := omega) only [z_u2, h9, h1, y_lt, y_in, y_cl, Nat.lt_irrefl, ↓reduceIte]
theorem q_it_al (b : Int32) (hb : q_sb b (q_al T r)) (n : Nat) : ∀ k, q_sb (q_it (q_bw T r) n k b) (q_al T r)
  | 0 => hb
  | k + 1 => q_R_al _ (q_it_al b hb n k) n
theorem p8_hasL (hT : tOk T) (h : qI_T T o v m) (hn : qI_N B T r m) {p : Nat} (hp : p < tP T) : f8_has (f5_alive 0 m) (nI p) = if r p = 2 then 0 else 1 := by
  have hP := hT.2
  rw [y_has _ p (by omega), p5_alive_b hn.2.1 (by omega), decide_eq_true hp, Bool.true_and]
  rcases hn.1.1 p hp with e | e | e <;> rw [e] <;> rfl
theorem c_bound (hT : tOk T) (a : Int32) : ∃ x, qAp T o v B r (f8_bound a) x ∧ qAn T o v B r (f9_bound a) x := by
  have hP := hT.2
  have hH := hT.1
  rcases y_is a (n := tP T) (by omega) with ha | ⟨j, hj, rfl⟩
  · refine ⟨-1, fun m h hn => ?_, fun m h hn => ?_⟩
    · unfold f8_bound
      rw [p8_isPerson_n h ha, if_pos rfl]
    · unfold f9_bound
      refine zw_eq (p9_isPerson_n h ha) ?_
      rw [if_pos rfl]
      exact q_some m
  by_cases h2 : r j = 2
  · refine ⟨-1, fun m h hn => ?_, fun m h hn => ?_⟩
    · unfold f8_bound
      rw [p8_isPerson_y h hj, if_neg n01, p8_hasL hT h hn hj, if_pos h2, if_pos rfl]
    · unfold f9_bound
      refine zw_eq (p9_isPerson_y h hj) ?_
      rw [if_neg n01, if_pos (y_in (by omega) (by omega)), y_cl (by omega), hn.2.2 j (by omega), if_pos h2]
      exact q_some m
  refine ⟨q_it (q_bw T r) (tH T) 5 ((1 : Int32) <<< (nI j &&& 31)), fun m h hn => ?_, fun m h hn => ?_⟩
  · rw [← q_it_57 hH]
    unfold f8_bound
    rw [p8_isPerson_y h hj, if_neg n01, p8_hasL hT h hn hj, if_neg h2, if_neg n01]
    simp only [z_let]
    refine z_it_eb (fun k => (q_it (q_bw T r) (tH T) k ((1 : Int32) <<< (nI j &&& 31)), nI k)) 7 _ rfl (fun k hk => ?_) ?_ (by decide) rfl
    · unfold f8_bound_L8
      simp (disch := omega) only [z_u2, y_7, y_lt, hk, ↓reduceIte, p8_round h hn, Option.bind_some, y_s1]
      rfl
    · unfold f8_bound_L8
      simp only [z_u2]
      rw [if_neg (show ¬ nI 7 < 7 by decide)]
  · unfold f9_bound
    refine zw_eq (p9_isPerson_y h hj) ?_
    rw [if_neg n01, if_pos (y_in (by omega) (by omega)), y_cl (by omega), hn.2.2 j (by omega), if_neg h2]
    refine q_cp h hn (fun m' h' hn' hr' _ => ?_)
    rw [p9_aliveBits h' hr', Option.bind_some]
    simp only [z_let]
    have hb : q_sb ((1 : Int32) <<< (nI j &&& 31)) (q_al T r) := fun i hi e => by
      rw [b_p j (by omega) hi, decide_eq_true_eq] at e
      rw [e, q_al_mk hP, q_mk_b _ _ (by omega) j (by omega), decide_eq_true hj, Bool.true_and]
      rcases hn.1.1 j hj with e2 | e2 | e2
      · rw [e2]; rfl
      · rw [e2]; rfl
      · exact absurd e2 h2
    refine zw_eq (z_it_e (e := q_it (q_bw T r) (tH T) 5 ((1 : Int32) <<< (nI j &&& 31))) (fun k => (q_it (q_bw T r) (tH T) k ((1 : Int32) <<< (nI j &&& 31)), nI k)) 5 rfl (fun k hk => ?_) ?_ (by decide)) ?_
    · unfold f9_bound_L12
      simp (disch := omega) only [z_u2, y_5, y_lt, hk, ↓reduceIte, p9_round h' hr' (q_it_al _ hb _ _), Option.bind_some, y_s1]
      rfl
    · unfold f9_bound_L12
      simp only [z_u2]
      rw [if_neg (show ¬ nI 5 < 5 by decide)]
    · exact q_some m'
end
