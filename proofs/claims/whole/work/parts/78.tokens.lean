/-! READ I: runs of bytes -/
def q_ru (c : Nat → Bool) : Nat → Nat → Nat
  | p, 0 => p
  | p, d + 1 => if c p then q_ru c (p + 1) d else p
theorem q_ru_sp (c : Nat → Bool) : ∀ d p, p ≤ q_ru c p d ∧ q_ru c p d ≤ p + d ∧ (∀ j, p ≤ j → j < q_ru c p d → c j = true) ∧ (q_ru c p d < p + d → c (q_ru c p d) = false)
  | 0, p => ⟨Nat.le_refl _, Nat.le_refl _, fun j h1 h2 => absurd h2 (by show ¬ j < p; omega), fun h => absurd h (by show ¬ p < p + 0; omega)⟩
  | d + 1, p => by
    rw [q_ru]
    cases e : c p
    · rw [if_neg (by decide)]
      exact ⟨Nat.le_refl _, by omega, fun j h1 h2 => by omega, fun _ => e⟩
    · rw [if_pos rfl]
      obtain ⟨h1, h2, h3, h4⟩ := q_ru_sp c d (p + 1)
      refine ⟨by omega, by omega, fun j g1 g2 => ?_, fun g => h4 (by omega)⟩
      by_cases e' : j = p
      · rw [e', e]
      · exact h3 j (by omega) g2
def q_blank (x : Int32) : Bool := decide (x = 9) || decide (x = 10) || decide (x = 13) || decide (x = 32)
theorem p7_isBlank (x : Int32) : f7_isBlank x = if q_blank x then 1 else 0 := by
  unfold f7_isBlank q_blank
  by_cases h1 : x = 9
  · rw [if_pos h1, decide_eq_true h1]; rfl
  · by_cases h2 : x = 10
    · rw [if_neg h1, if_pos h2, decide_eq_false h1, decide_eq_true h2]; rfl
    · by_cases h3 : x = 13
      · rw [if_neg h1, if_neg h2, if_pos h3, decide_eq_false h1, decide_eq_false h2, decide_eq_true h3]; rfl
      · by_cases h4 : x = 32
        · rw [if_neg h1, if_neg h2, if_neg h3, if_pos h4, decide_eq_false h1, decide_eq_false h2, decide_eq_false h3, decide_eq_true h4]; rfl
        · rw [if_neg h1, if_neg h2, if_neg h3, if_neg h4, decide_eq_false h1, decide_eq_false h2, decide_eq_false h3, decide_eq_false h4]; rfl
section
variable {m m' : zMem} {n p : Nat} {b : Nat → Int32}
abbrev s75 : Nat → Nat → Nat → Prop := fun c i k => c = 7 ∧ i = 0 ∧ k = 5
/-- the class's tape while it is cut: n bytes b, the place p -/
def q_tp (n : Nat) (b : Nat → Int32) (p : Nat) (m : zMem) : Prop := n ≤ 2000 ∧ p ≤ n ∧ m.1 7 0 5 = nI p ∧ m.1 7 0 4 = nI n ∧ m.2.2 7 0 3 = 0 ∧ ∀ k, k < n → m.1 34 0 k = b k
theorem p7_skip (h : q_tp n b p m) : zw (f7_skipBlanks m) fun m' => zk s75 m m' ∧ q_tp n b (q_ru (fun k => q_blank (b k)) p (n - p)) m' := by
  obtain ⟨hn, hp, h5, h4, h3, hb⟩ := h
  obtain ⟨r1, r2, r3, r4⟩ := q_ru_sp (fun k => q_blank (b k)) (n - p) p
  generalize q_ru (fun k => q_blank (b k)) p (n - p) = e at *
  have hl : z_len 34 0 = 2000 := rfl
  unfold f7_skipBlanks
  refine zw_b (zw_forG (Q := fun m' => zk s75 m m' ∧ m'.1 7 0 5 = nI e) (e - p) (fun k (m' : zMem) => zk s75 m m' ∧ m'.1 7 0 5 = nI (p + k)) (by omega) ⟨zk_r m, h5⟩ ?_ ?_) ?_
  · rintro k m1 hk ⟨hf, h1⟩
    have g4 : m1.1 7 0 4 = nI n := by rw [hf.1 _ _ _ (by omega)]; exact h4
    have g3 : m1.2.2 7 0 3 = 0 := by rw [hf.2]; exact h3
    have gb : m1.1 34 0 (p + k) = b (p + k) := by rw [hf.1 _ _ _ (by omega)]; exact hb _ (by omega)
    have gc : q_blank (b (p + k)) = true := r3 (p + k) (by omega) (by omega)
    unfold f7_skipBlanks_L1
    rw [h1, g4, g3, hl, if_pos (nI_lt (by omega) (by omega)), if_pos (y_in (by omega) (by omega)), y_cl (by omega), gb, p7_isBlank, gc, if_pos rfl, if_neg n01]
    simp only [z_let]
    refine zw_some.mpr ⟨zk_s hf ⟨rfl, rfl, rfl⟩, ?_⟩
    rw [z_sI_1, if_pos ⟨rfl, rfl, rfl⟩, y_s1]; rfl
  · rintro m1 ⟨hf, h1⟩
    rw [show p + (e - p) = e by omega] at h1
    have g4 : m1.1 7 0 4 = nI n := by rw [hf.1 _ _ _ (by omega)]; exact h4
    have g3 : m1.2.2 7 0 3 = 0 := by rw [hf.2]; exact h3
    unfold f7_skipBlanks_L1
    rw [h1, g4, g3, hl]
    by_cases c : e < n
    · have gb : m1.1 34 0 e = b e := by rw [hf.1 _ _ _ (by omega)]; exact hb _ c
      have gc : q_blank (b e) = false := r4 (by omega)
      rw [if_pos (nI_lt c (by omega)), if_pos (y_in (by omega) (by omega)), y_cl (by omega), gb, p7_isBlank, gc, y_ff, if_pos rfl]
      exact zw_some.mpr ⟨hf, h1⟩
    · rw [if_neg (nI_nlt (by omega) (by omega))]
      exact zw_some.mpr ⟨hf, h1⟩
  · rintro m1 ⟨hf, h1⟩
    exact zw_some.mpr ⟨hf, hn, by omega, h1, by rw [hf.1 _ _ _ (by omega)]; exact h4, by rw [hf.2]; exact h3, fun k hk => by rw [hf.1 _ _ _ (by omega)]; exact hb k hk⟩
end
