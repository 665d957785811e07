/-! LORDS II: the class's sets and the reference's table -/
section
variable {T : qT} {o v B : Nat} {r : Nat → Int32} {m m' : zMem}
abbrev q_sv (T : qT) (r : Nat → Int32) : Nat → Int32 := fun h => r (28 + h) &&& q_st T r 1
theorem q_sv_b (hP : tP T ≤ 7) {h i : Nat} (hi : i < 32) : bt (q_sv T r h) i = (bt (r (28 + h)) i && (decide (i < tP T) && decide (r i = 1))) := by
  show bt (r (28 + h) &&& q_st T r 1) i = _
  unfold q_st
  rw [b_and, q_mk_b _ _ (by omega) i hi]
theorem p8_suitedTo (h : qI_T T o v m) (hn : qI_N B T r m) (S : Int32) : f8_suitedTo S m = some (q_su (q_sv T r) S (tH T)) := by
  have hH := h.ok.1
  unfold f8_suitedTo
  refine z_it_eb (fun k => (q_su (q_sv T r) S k, nI k)) (tH T) _ rfl (fun k hk => ?_) ?_ (z_fu_lt (by omega)) rfl
  · show f8_suitedTo_L1 S m (q_su (q_sv T r) S k, nI k) = some (Sum.inl (q_su (q_sv T r) S (k + 1), nI (k + 1)))
    rw [q_su]
    generalize q_su (q_sv T r) S k = x
    unfold f8_suitedTo_L1
    simp (disch := omega) only [z_u2, h.ox, h.H, y_lt, hk, ↓reduceIte, y_has0, y_in, y_cl, hn.2.1.2.2.2.2.2.2 k (by omega), p5_away hn.2.1 h.ok, z_let, y_s1]
    cases bt S k <;> rfl
  · unfold f8_suitedTo_L1
    simp (disch := omega) only [z_u2, h.ox, h.H, y_lt, Nat.lt_irrefl, ↓reduceIte]
/-- the worst of the first k sets -/
def q_wt (sv : Nat → Int32) (H h : Nat) (U : Int32) : Nat → Nat
  | 0 => 0
  | k + 1 => if nI k &&& (((1 : Int32) <<< (nI h &&& 31)) - 1) = 0 then max (q_wt sv H h U k) (q_pc (nI k) 7 - q_nn sv H (nI k) U) else q_wt sv H h U k
theorem q_wt_le (sv : Nat → Int32) (H h : Nat) (U : Int32) : ∀ k, q_wt sv H h U k ≤ 7
  | 0 => by show 0 ≤ 7; omega
  | k + 1 => by
    have ih := q_wt_le sv H h U k
    have := q_pc_le (nI k) 7
    rw [q_wt]
    by_cases c : nI k &&& (((1 : Int32) <<< (nI h &&& 31)) - 1) = 0
    · rw [if_pos c]
      exact Nat.max_le.mpr ⟨ih, by omega⟩
    · rw [if_neg c]; exact ih
theorem q_mx {x a b : Nat} (hx : x < 1000) (ha : a < 1000) (hb : b < 1000) : fj9_max_7cf53 (nI x) (nI a - nI b) = nI (max x (a - b)) := by
  unfold fj9_max_7cf53
  by_cases c : b ≤ a
  · rw [pk_sub c]
    by_cases c2 : x < a - b
    · rw [if_pos (nI_lt c2 (by omega)), Nat.max_eq_right (by omega)]
    · rw [if_neg (nI_nlt (by omega) (by omega)), Nat.max_eq_left (by omega)]
  · have hneg : nI a - nI b < 0 := pk_sneg (by omega) (by omega)
    have : ¬ nI x < nI a - nI b := fun q => by
      rw [y_i] at q hneg
      rw [y_ti (by omega)] at q
      rw [y_t0] at hneg
      omega
    rw [if_neg this, Nat.max_eq_left (by omega)]
theorem q_mi7 {x U : Int32} (h : ∀ i, 7 ≤ i → i < 32 → bt x i = false) : ∀ i, 7 ≤ i → i < 32 → bt (q_mi x U) i = false := fun i h1 h2 => by rw [q_mi_b h2, h i h1 h2]; rfl
theorem q_su7 (hP : tP T ≤ 7) (S : Int32) : ∀ n i, 7 ≤ i → i < 32 → bt (q_su (q_sv T r) S n) i = false
  | 0, i, _, _ => b_0 i
  | n + 1, i, h1, h2 => by
    have ih := q_su7 hP S n i h1 h2
    rw [q_su]
    cases bt S n
    · rw [y_ff]; exact ih
    · rw [if_pos rfl, b_or, ih, q_sv_b hP h2, decide_eq_false (by omega), Bool.false_and, Bool.and_false]; rfl
theorem p8_mostLords (h : qI_T T o v m) (hn : qI_N B T r m) {a : Nat} (ha : a ≤ tH T) (U : Int32) : f8_mostLords (nI a) U m = some (nI (tH T) - nI a - nI (q_wt (q_sv T r) (tH T) a U (2 ^ tH T))) := by
  have hH := h.ok.1
  have hP := h.ok.2
  have hp : (1 : Int32) <<< (nI (tH T) &&& 31) = nI (2 ^ tH T) := y_pow (by omega)
  have h32 : 2 ^ tH T ≤ 128 := y_p7 (by omega)
  unfold f8_mostLords
  refine z_it_eb (fun k => (nI (q_wt (q_sv T r) (tH T) a U k), nI k)) (2 ^ tH T) _ rfl (fun k hk => ?_) ?_ (z_fu_lt (by omega)) (by rw [h.ox, h.H])
  · have hw := q_wt_le (q_sv T r) (tH T) a U k
    show f8_mostLords_L1 (nI a) U m (nI (q_wt (q_sv T r) (tH T) a U k), nI k) = some (Sum.inl (nI (q_wt (q_sv T r) (tH T) a U (k + 1)), nI (k + 1)))
    rw [q_wt]
    generalize q_wt (q_sv T r) (tH T) a U k = x at *
    unfold f8_mostLords_L1
    simp (disch := omega) only [z_u2, h.ox, h.H, hp, y_lt, hk, ↓reduceIte, p8_suitedTo h hn, Option.bind_some, z_let, y_s1]
    by_cases c : nI k &&& (((1 : Int32) <<< (nI a &&& 31)) - 1) = 0
    · rw [if_pos c, if_pos c, p6_bitCount_n k (by omega), q_bc_pc]
      have e : fj6_bitCount_0f7a4 (q_su (q_sv T r) (nI k) (tH T) &&& (U ^^^ -1)) = nI (q_nn (q_sv T r) (tH T) (nI k) U) := by
        show fj6_bitCount_0f7a4 (q_mi (q_su (q_sv T r) (nI k) (tH T)) U) = _
        rw [p6_bitCount (q_mi7 (q_su7 hP (nI k) (tH T))), q_bc_pc]; rfl
      have l1 := q_pc_le (nI k) 7
      have l2 : q_nn (q_sv T r) (tH T) (nI k) U ≤ 7 := q_pc_le _ 7
      rw [e, q_mx (by omega) (by omega) (by omega)]; rfl
    · rw [if_neg c, if_neg c]; rfl
  · unfold f8_mostLords_L1
    simp (disch := omega) only [z_u2, h.ox, h.H, hp, y_lt, Nat.lt_irrefl, ↓reduceIte]
theorem w_lo : ∀ a, a < 6 → ∀ k, k < 32 → ((nI k &&& (((1 : Int32) <<< (nI a &&& 31)) - 1) = 0) ↔ ∀ i, i < 5 → k.testBit i = true → a ≤ i) := by decide +kernel
theorem w_hi : ∀ H, H < 6 → ∀ k, k < 2 ^ H → ∀ i, i < 5 → k.testBit i = true → i < H := by decide +kernel
theorem q_wt_W {sv : Nat → Int32} {H a : Nat} (hH : H ≤ 5) (ha : a ≤ H) (U : Int32) : q_isW sv H a U (q_wt sv H a U (2 ^ H)) := by
  have h32 : 2 ^ H ≤ 128 := y_p7 (by omega)
  have hlow : ∀ k, k < 2 ^ H → ((nI k &&& (((1 : Int32) <<< (nI a &&& 31)) - 1) = 0) ↔ q_lw' H a (nI k)) := fun k hk => by
    have hk32 : k < 32 := by
      have : 2 ^ H ≤ 2 ^ 5 := Nat.pow_le_pow_right (n := 2) (by decide) hH
      omega
    rw [w_lo a (by omega) k hk32]
    constructor
    · intro q i hi e
      rw [b_n _ i hi] at e
      by_cases c : i < 5
      · exact ⟨q i c e, w_hi H (by omega) k hk i c e⟩
      · rw [Nat.testBit_lt_two_pow (Nat.lt_of_lt_of_le hk32 (show 32 ≤ 2 ^ i from Nat.pow_le_pow_right (n := 2) (by decide) (show 5 ≤ i by omega)))] at e
        exact absurd e (by decide)
    · intro q i hi e
      exact (q i (by omega) (by rw [b_n _ i (by omega)]; exact e)).1
  have key : ∀ n, n ≤ 2 ^ H → (∀ k, k < n → q_lw' H a (nI k) → q_pc (nI k) 7 ≤ q_nn sv H (nI k) U + q_wt sv H a U n) ∧ ∃ S, q_lw' H a S ∧ q_pc S 7 = q_nn sv H S U + q_wt sv H a U n := fun n => by
    induction n with
    | zero =>
      intro _
      refine ⟨fun k hk => absurd hk (by omega), 0, q_lw0 a, ?_⟩
      have e : q_su sv 0 H = 0 := by
        have : ∀ n, q_su sv 0 n = 0 := fun n => by
          induction n with
          | zero => rfl
          | succ n ih => rw [q_su, b_0, y_ff, ih]
        exact this H
      have e0 : q_mi 0 U = 0 := b_eq0.mpr fun i hi => by rw [q_mi_b hi, b_0]; rfl
      unfold q_nn
      rw [e, e0, w_p0]; rfl
    | succ n ih =>
      intro hn
      obtain ⟨i1, S, lS, tS⟩ := ih (by omega)
      rw [q_wt]
      by_cases c : nI n &&& (((1 : Int32) <<< (nI a &&& 31)) - 1) = 0
      · rw [if_pos c]
        have lc := (hlow n (by omega)).mp c
        refine ⟨fun k hk l => ?_, ?_⟩
        · by_cases e : k = n
          · subst e
            have := Nat.le_max_right (q_wt sv H a U k) (q_pc (nI k) 7 - q_nn sv H (nI k) U)
            omega
          · have h1 := i1 k (by omega) l
            have := Nat.le_max_left (q_wt sv H a U n) (q_pc (nI n) 7 - q_nn sv H (nI n) U)
            omega
        · by_cases c2 : q_wt sv H a U n ≤ q_pc (nI n) 7 - q_nn sv H (nI n) U
          · rw [Nat.max_eq_right c2]
            by_cases c3 : q_nn sv H (nI n) U ≤ q_pc (nI n) 7
            · exact ⟨nI n, lc, by omega⟩
            · exact ⟨S, lS, by omega⟩
          · rw [Nat.max_eq_left (by omega)]
            exact ⟨S, lS, tS⟩
      · rw [if_neg c]
        refine ⟨fun k hk l => ?_, S, lS, tS⟩
        by_cases e : k = n
        · subst e; exact absurd ((hlow k (by omega)).mpr l) c
        · exact i1 k (by omega) l
  obtain ⟨k1, k2⟩ := key (2 ^ H) (Nat.le_refl _)
  refine ⟨fun S lS => ?_, k2⟩
  obtain ⟨k, hk, e⟩ := b_of (x := S) (n := H) (by omega) (fun i h1 h2 => by
    cases q : bt S i
    · rfl
    · have := (lS i h2 q).2; omega)
  rw [e] at lS ⊢
  exact k1 k hk lS
end
