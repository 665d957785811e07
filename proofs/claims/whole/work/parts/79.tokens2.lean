/-! READ II: the class's letters and digits -/
def q_let (x : Int32) : Bool := !decide (x < 97) && !decide (122 < x)
def q_dig (x : Int32) : Bool := !decide (x < 48) && !decide (57 < x)
theorem p7_isLetter (x : Int32) : f7_isLetter x = if q_let x then 1 else 0 := by
  unfold f7_isLetter q_let
  by_cases h1 : x < 97
  · rw [if_pos h1, decide_eq_true h1]; rfl
  · by_cases h2 : 122 < x
    · rw [if_neg h1, if_pos h2, decide_eq_false h1, decide_eq_true h2]; rfl
    · rw [if_neg h1, if_neg h2, decide_eq_false h1, decide_eq_false h2]; rfl
theorem p7_isDigit (x : Int32) : f7_isDigit x = if q_dig x then 1 else 0 := by
  unfold f7_isDigit q_dig
  by_cases h1 : x < 48
  · rw [if_pos h1, decide_eq_true h1]; rfl
  · by_cases h2 : 57 < x
    · rw [if_neg h1, if_pos h2, decide_eq_false h1, decide_eq_true h2]; rfl
    · rw [if_neg h1, if_neg h2, decide_eq_false h1, decide_eq_false h2]; rfl
/-- the value of a run, byte by byte -/
def q_va (f : Int64 → Int32 → Int64) (b : Nat → Int32) (p : Nat) : Nat → Int64
  | 0 => 0
  | k + 1 => f (q_va f b p k) (b (p + k))
def q_f32 (a : Int64) (x : Int32) : Int64 := (a * (32 : Int64)) + ((x - (97 : Int32)) + (1 : Int32)).toInt64
def q_f10 (a : Int64) (x : Int32) : Int64 := (a * (10 : Int64)) + (x - (48 : Int32)).toInt64
section
variable {m m' : zMem} {n p : Nat} {b : Nat → Int32}
theorem p7_lettersL (h : q_tp n b p m) : zw (z_it f7_scanLetters_L1 z_fu ((0 : Int64), m)) fun q => q.1 = q_va q_f32 b p (q_ru (fun k => q_let (b k)) p (n - p) - p) ∧ zk s75 m q.2 ∧ q.2.1 7 0 5 = nI (q_ru (fun k => q_let (b k)) p (n - p)) := by
  obtain ⟨hn, hp, h5, h4, h3, hb⟩ := h
  obtain ⟨r1, r2, r3, r4⟩ := q_ru_sp (fun k => q_let (b k)) (n - p) p
  generalize q_ru (fun k => q_let (b k)) p (n - p) = e at *
  have hl : z_len 34 0 = 2000 := rfl
  refine zw_forG (e - p) (fun k (s : Int64 × zMem) => s.1 = q_va q_f32 b p k ∧ zk s75 m s.2 ∧ s.2.1 7 0 5 = nI (p + k)) (by omega) ⟨rfl, zk_r m, h5⟩ ?_ ?_
  · rintro k ⟨x, m1⟩ hk ⟨ex, hf, h1⟩
    have ex' : x = q_va q_f32 b p k := ex
    have hf' : zk s75 m m1 := hf
    have h1' : m1.1 7 0 5 = nI (p + k) := h1
    have g4 : m1.1 7 0 4 = nI n := by rw [hf'.1 _ _ _ (by omega)]; exact h4
    have g3 : m1.2.2 7 0 3 = 0 := by rw [hf'.2]; exact h3
    have gb : m1.1 34 0 (p + k) = b (p + k) := by rw [hf'.1 _ _ _ (by omega)]; exact hb _ (by omega)
    have gc : q_let (b (p + k)) = true := r3 (p + k) (by omega) (by omega)
    unfold f7_scanLetters_L1
    rw [z_u2_ap, h1', g4, g3, hl, if_pos (nI_lt (by omega) (by omega)), if_pos (y_in (by omega) (by omega)), y_cl (by omega), gb, p7_isLetter, gc, if_pos rfl, if_neg n01]
    simp only [z_let]
    refine zw_some.mpr ⟨?_, zk_s hf' ⟨rfl, rfl, rfl⟩, ?_⟩
    · show (x * 32) + ((b (p + k) - 97) + 1).toInt64 = q_f32 (q_va q_f32 b p k) (b (p + k))
      rw [ex']; rfl
    · show (z_sI m1 7 0 5 (nI (p + k) + 1)).1 7 0 5 = nI (p + (k + 1))
      rw [z_sI_1, if_pos ⟨rfl, rfl, rfl⟩, y_s1]; rfl
  · rintro ⟨x, m1⟩ ⟨ex, hf, h1⟩
    have hf' : zk s75 m m1 := hf
    have h1' : m1.1 7 0 5 = nI e := by
      have : m1.1 7 0 5 = nI (p + (e - p)) := h1
      rw [show p + (e - p) = e by omega] at this
      exact this
    have g4 : m1.1 7 0 4 = nI n := by rw [hf'.1 _ _ _ (by omega)]; exact h4
    have g3 : m1.2.2 7 0 3 = 0 := by rw [hf'.2]; exact h3
    unfold f7_scanLetters_L1
    rw [z_u2_ap, h1', g4, g3, hl]
    by_cases c : e < n
    · have gb : m1.1 34 0 e = b e := by rw [hf'.1 _ _ _ (by omega)]; exact hb _ c
      have gc : q_let (b e) = false := r4 (by omega)
      rw [if_pos (nI_lt c (by omega)), if_pos (y_in (by omega) (by omega)), y_cl (by omega), gb, p7_isLetter, gc, y_ff, if_pos rfl]
      exact zw_some.mpr ⟨ex, hf', h1'⟩
    · rw [if_neg (nI_nlt (by omega) (by omega))]
      exact zw_some.mpr ⟨ex, hf', h1'⟩
theorem p7_digitsL (h : q_tp n b p m) : zw (z_it f7_scanDigits_L1 z_fu ((0 : Int64), m)) fun q => q.1 = q_va q_f10 b p (q_ru (fun k => q_dig (b k)) p (n - p) - p) ∧ zk s75 m q.2 ∧ q.2.1 7 0 5 = nI (q_ru (fun k => q_dig (b k)) p (n - p)) := by
  obtain ⟨hn, hp, h5, h4, h3, hb⟩ := h
  obtain ⟨r1, r2, r3, r4⟩ := q_ru_sp (fun k => q_dig (b k)) (n - p) p
  generalize q_ru (fun k => q_dig (b k)) p (n - p) = e at *
  have hl : z_len 34 0 = 2000 := rfl
  refine zw_forG (e - p) (fun k (s : Int64 × zMem) => s.1 = q_va q_f10 b p k ∧ zk s75 m s.2 ∧ s.2.1 7 0 5 = nI (p + k)) (by omega) ⟨rfl, zk_r m, h5⟩ ?_ ?_
  · rintro k ⟨x, m1⟩ hk ⟨ex, hf, h1⟩
    have ex' : x = q_va q_f10 b p k := ex
    have hf' : zk s75 m m1 := hf
    have h1' : m1.1 7 0 5 = nI (p + k) := h1
    have g4 : m1.1 7 0 4 = nI n := by rw [hf'.1 _ _ _ (by omega)]; exact h4
    have g3 : m1.2.2 7 0 3 = 0 := by rw [hf'.2]; exact h3
    have gb : m1.1 34 0 (p + k) = b (p + k) := by rw [hf'.1 _ _ _ (by omega)]; exact hb _ (by omega)
    have gc : q_dig (b (p + k)) = true := r3 (p + k) (by omega) (by omega)
    unfold f7_scanDigits_L1
    rw [z_u2_ap, h1', g4, g3, hl, if_pos (nI_lt (by omega) (by omega)), if_pos (y_in (by omega) (by omega)), y_cl (by omega), gb, p7_isDigit, gc, if_pos rfl, if_neg n01]
    simp only [z_let]
    refine zw_some.mpr ⟨?_, zk_s hf' ⟨rfl, rfl, rfl⟩, ?_⟩
    · show (x * 10) + (b (p + k) - 48).toInt64 = q_f10 (q_va q_f10 b p k) (b (p + k))
      rw [ex']; rfl
    · show (z_sI m1 7 0 5 (nI (p + k) + 1)).1 7 0 5 = nI (p + (k + 1))
      rw [z_sI_1, if_pos ⟨rfl, rfl, rfl⟩, y_s1]; rfl
  · rintro ⟨x, m1⟩ ⟨ex, hf, h1⟩
    have hf' : zk s75 m m1 := hf
    have h1' : m1.1 7 0 5 = nI e := by
      have : m1.1 7 0 5 = nI (p + (e - p)) := h1
      rw [show p + (e - p) = e by omega] at this
      exact this
    have g4 : m1.1 7 0 4 = nI n := by rw [hf'.1 _ _ _ (by omega)]; exact h4
    have g3 : m1.2.2 7 0 3 = 0 := by rw [hf'.2]; exact h3
    unfold f7_scanDigits_L1
    rw [z_u2_ap, h1', g4, g3, hl]
    by_cases c : e < n
    · have gb : m1.1 34 0 e = b e := by rw [hf'.1 _ _ _ (by omega)]; exact hb _ c
      have gc : q_dig (b e) = false := r4 (by omega)
      rw [if_pos (nI_lt c (by omega)), if_pos (y_in (by omega) (by omega)), y_cl (by omega), gb, p7_isDigit, gc, y_ff, if_pos rfl]
      exact zw_some.mpr ⟨ex, hf', h1'⟩
    · rw [if_neg (nI_nlt (by omega) (by omega))]
      exact zw_some.mpr ⟨ex, hf', h1'⟩
end
