/-! READ III: the reference's copy of the tape, its bytes -/
section
variable {m m' : zMem} {n p : Nat} {b : Nat → Int32}
theorem q_by8 {x : Int32} (h : q_by x) : x.toInt8.toInt32 = x := by
  apply Int32.toInt_inj.mp
  rw [Int8.toInt_toInt32, Int32.toInt_toInt8]
  obtain ⟨h1, h2⟩ := h
  exact Int.bmod_eq_of_le (by omega) (by omega)
theorem p9_copy (hn : n ≤ 2000) (h4 : m.1 9 0 4 = nI n) (hb : ∀ k, k < n → m.1 101 0 k = b k ∧ q_by (b k)) : zw (z_it f9_read_L3 z_fu (0, m)) fun m' => zk (fun c _ _ => c = 103) m m' ∧ ∀ k, k < n → m'.1 103 0 k = b k := by
  refine zw_for n (fun i m' => zk (fun c _ _ => c = 103) m m' ∧ ∀ k, k < i → m'.1 103 0 k = b k) (by omega) ⟨zk_r m, fun k hk => absurd hk (by omega)⟩ ?_ ?_
  · rintro i m1 hi ⟨hf, h0⟩
    have g4 : m1.1 9 0 4 = nI n := by rw [hf.1 _ _ _ (by omega)]; exact h4
    have gb : m1.1 101 0 i = b i := by rw [hf.1 _ _ _ (by omega)]; exact (hb i hi).1
    unfold f9_read_L3
    simp only [z_u2, z_let]
    rw [g4, if_pos (nI_lt hi (by omega)), if_pos (y_in (by omega) (by omega)), y_cl (by omega), gb, q_by8 (hb i hi).2]
    refine zw_some.mpr ⟨y_s1 i, zk_s hf rfl, fun k hk => ?_⟩
    rw [z_sI_1]
    by_cases e : k = i
    · rw [if_pos ⟨rfl, rfl, e⟩, e]
    · rw [if_neg (by omega)]; exact h0 k (by omega)
  · rintro m1 ⟨hf, h0⟩
    have g4 : m1.1 9 0 4 = nI n := by rw [hf.1 _ _ _ (by omega)]; exact h4
    unfold f9_read_L3
    simp only [z_u2]
    rw [g4, if_neg (nI_nlt (by omega) (by omega))]
    exact zw_some.mpr ⟨hf, h0⟩
end
