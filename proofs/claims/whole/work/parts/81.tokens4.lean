/-! READ IV: a byte and its 8 bits -/
theorem q_by_k {x : Int32} (h : q_by x) : ∃ k, k < 256 ∧ x = nI k - 128 := by
  obtain ⟨h1, h2⟩ := h
  have e : (x + 128).toInt = x.toInt + 128 := by
    rw [Int32.toInt_add, show (128 : Int32).toInt = 128 from rfl]
    exact Int.bmod_eq_of_le (by omega) (by omega)
  have e0 : (0 : Int32).toInt = 0 := rfl
  have e6 : (nI 256).toInt = 256 := rfl
  rcases y_is (x + 128) (n := 256) (by omega) with c | ⟨k, hk, e'⟩
  · exact absurd ⟨by rw [y_il]; omega, by rw [y_i]; omega⟩ c
  · exact ⟨k, hk, by rw [← e', Int32.add_sub_cancel]⟩
theorem w_255 : ∀ k, k < 256 → (q_dig ((nI k - 128) &&& 255) = q_dig (nI k - 128) ∧ q_let ((nI k - 128) &&& 255) = q_let (nI k - 128) ∧ q_blank ((nI k - 128) &&& 255) = q_blank (nI k - 128) ∧ (q_dig (nI k - 128) = true → (nI k - 128) &&& 255 = nI k - 128) ∧ (q_let (nI k - 128) = true → (nI k - 128) &&& 255 = nI k - 128)) := by decide +kernel
theorem q_b255 {x : Int32} (h : q_by x) : q_dig (x &&& 255) = q_dig x ∧ q_let (x &&& 255) = q_let x ∧ q_blank (x &&& 255) = q_blank x ∧ (q_dig x = true → x &&& 255 = x) ∧ (q_let x = true → x &&& 255 = x) := by
  obtain ⟨k, hk, rfl⟩ := q_by_k h
  exact w_255 k hk
