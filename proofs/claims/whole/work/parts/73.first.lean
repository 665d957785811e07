/-! PLAIN, and the first memory -/
section
variable {T : qT} {o v B : Nat} {r r' : Nat → Int32} {m m' : zMem}
abbrev sPl (v : Nat) : Nat → Nat → Nat → Prop := fun c _ k => ((c = 123 ∨ c = 126 ∨ c = 129 ∨ c = 130 ∨ c = 131) ∧ k = v) ∨ (c = 125 ∧ 5 * v ≤ k ∧ k < 5 * v + 5) ∨ (c = 128 ∧ 7 * v ≤ k ∧ k < 7 * v + 7) ∨ ((c = 132 ∨ c = 133) ∧ 4 * v ≤ k ∧ k < 4 * v + 4)
def q_pln (v : Nat) (m : zMem) : Prop := (m.1 123 0 v = 0 ∧ m.1 126 0 v = 0 ∧ m.1 129 0 v = 0 ∧ m.1 130 0 v = 0 ∧ m.1 131 0 v = 0) ∧ (∀ h, h < 5 → m.1 125 0 (5 * v + h) = 0) ∧ (∀ k, k < 7 → m.1 128 0 (7 * v + k) = -1) ∧ ∀ k, k < 4 → m.1 132 0 (4 * v + k) = 0 ∧ m.1 133 0 (4 * v + k) = 0
abbrev sP1 (v : Nat) : Nat → Nat → Nat → Prop := fun c _ k => c = 125 ∧ 5 * v ≤ k ∧ k < 5 * v + 5
abbrev sP2 (v : Nat) : Nat → Nat → Nat → Prop := fun c _ k => c = 128 ∧ 7 * v ≤ k ∧ k < 7 * v + 7
abbrev sP3 (v : Nat) : Nat → Nat → Nat → Prop := fun c _ k => (c = 132 ∨ c = 133) ∧ 4 * v ≤ k ∧ k < 4 * v + 4
theorem p9_plain1 (hv : v < 2) (m : zMem) : zw (z_it (f9_plain_L12 (nI v)) z_fu (0, m)) fun m' => zk (sP1 v) m m' ∧ ∀ h, h < 5 → m'.1 125 0 (5 * v + h) = 0 := by
  refine zw_for 5 (fun i m' => zk (sP1 v) m m' ∧ ∀ h, h < i → m'.1 125 0 (5 * v + h) = 0) (by omega) ⟨zk_r m, fun k hk => absurd hk (by omega)⟩ ?_ ?_
  · rintro i m1 hi ⟨hf, h0⟩
    unfold f9_plain_L12
    simp only [z_u2, z_let]
    rw [y_5, if_pos (show nI i < nI 5 from nI_lt hi (by decide)), pk_mul, nI_add, if_pos (y_in (by omega) (by omega)), y_cl (by omega)]
    refine zw_some.mpr ⟨y_s1 i, zk_s hf (by omega), fun k hk => ?_⟩
    rw [z_sI_1]
    by_cases e : k = i
    · rw [if_pos ⟨rfl, rfl, by rw [e]⟩]
    · rw [if_neg (by omega)]; exact h0 k (by omega)
  · rintro m1 hI
    unfold f9_plain_L12
    simp only [z_u2]
    rw [if_neg (show ¬ nI 5 < 5 by decide)]
    exact zw_some.mpr hI
theorem p9_plain2 (hv : v < 2) (m : zMem) : zw (z_it (f9_plain_L21 (nI v)) z_fu (0, m)) fun m' => zk (sP2 v) m m' ∧ ∀ h, h < 7 → m'.1 128 0 (7 * v + h) = -1 := by
  refine zw_for 7 (fun i m' => zk (sP2 v) m m' ∧ ∀ h, h < i → m'.1 128 0 (7 * v + h) = -1) (by omega) ⟨zk_r m, fun k hk => absurd hk (by omega)⟩ ?_ ?_
  · rintro i m1 hi ⟨hf, h0⟩
    unfold f9_plain_L21
    simp only [z_u2, z_let]
    rw [y_7, if_pos (show nI i < nI 7 from nI_lt hi (by decide)), pk_mul, nI_add, if_pos (y_in (by omega) (by omega)), y_cl (by omega)]
    refine zw_some.mpr ⟨y_s1 i, zk_s hf (by omega), fun k hk => ?_⟩
    rw [z_sI_1]
    by_cases e : k = i
    · rw [if_pos ⟨rfl, rfl, by rw [e]⟩]
    · rw [if_neg (by omega)]; exact h0 k (by omega)
  · rintro m1 hI
    unfold f9_plain_L21
    simp only [z_u2]
    rw [if_neg (show ¬ nI 7 < 7 by decide)]
    exact zw_some.mpr hI
theorem p9_plain3 (hv : v < 2) (m : zMem) : zw (z_it (f9_plain_L30 (nI v)) z_fu (0, m)) fun m' => zk (sP3 v) m m' ∧ ∀ h, h < 4 → m'.1 132 0 (4 * v + h) = 0 ∧ m'.1 133 0 (4 * v + h) = 0 := by
  refine zw_for 4 (fun i m' => zk (sP3 v) m m' ∧ ∀ h, h < i → m'.1 132 0 (4 * v + h) = 0 ∧ m'.1 133 0 (4 * v + h) = 0) (by omega) ⟨zk_r m, fun k hk => absurd hk (by omega)⟩ ?_ ?_
  · rintro i m1 hi ⟨hf, h0⟩
    unfold f9_plain_L30
    simp only [z_u2, z_let]
    rw [y_4, if_pos (show nI i < nI 4 from nI_lt hi (by decide)), pk_mul, nI_add, if_pos (y_in (by omega) (by omega)), y_cl (by omega)]
    refine zw_some.mpr ⟨y_s1 i, zk_s (zk_s hf (by omega)) (by omega), fun k hk => ⟨?_, ?_⟩⟩
    · rw [z_sI_1, if_neg (by omega), z_sI_1]
      by_cases e : k = i
      · rw [if_pos ⟨rfl, rfl, by rw [e]⟩]
      · rw [if_neg (by omega)]; exact (h0 k (by omega)).1
    · rw [z_sI_1]
      by_cases e : k = i
      · rw [if_pos ⟨rfl, rfl, by rw [e]⟩]
      · rw [if_neg (by omega), z_sI_1, if_neg (by omega)]; exact (h0 k (by omega)).2
  · rintro m1 hI
    unfold f9_plain_L30
    simp only [z_u2]
    rw [if_neg (show ¬ nI 4 < 4 by decide)]
    exact zw_some.mpr hI
theorem p9_plain (hv : v < 2) (m : zMem) : zw (f9_plain (nI v) m) fun m' => zk (sPl v) m m' ∧ q_pln v m' := by
  unfold f9_plain
  simp only [z_let]
  rw [if_pos (y_in hv (by omega)), y_cl (by omega)]
  obtain ⟨m5, e5⟩ : ∃ m5, m5 = z_sI (z_sI (z_sI (z_sI (z_sI m 123 0 v 0) 126 0 v 0) 129 0 v 0) 130 0 v 0) 131 0 v 0 := ⟨_, rfl⟩
  rw [← e5]
  have hf5 : zk (sPl v) m m5 := by
    rw [e5]
    exact zk_s (zk_s (zk_s (zk_s (zk_s (zk_r m) (by omega)) (by omega)) (by omega)) (by omega)) (by omega)
  have h5 : m5.1 123 0 v = 0 ∧ m5.1 126 0 v = 0 ∧ m5.1 129 0 v = 0 ∧ m5.1 130 0 v = 0 ∧ m5.1 131 0 v = 0 := by
    rw [e5]
    simp only [z_sI_1]
    refine ⟨?_, ?_, ?_, ?_, ?_⟩ <;> simp
  refine zw_b (p9_plain1 hv m5) ?_
  rintro m6 ⟨hf6, h6⟩
  refine zw_b (p9_plain2 hv m6) ?_
  rintro m7 ⟨hf7, h7⟩
  refine zw_b (p9_plain3 hv m7) ?_
  rintro m8 ⟨hf8, h8⟩
  have g : ∀ c k, c ≠ 125 → c ≠ 128 → c ≠ 132 → c ≠ 133 → m8.1 c 0 k = m5.1 c 0 k := fun c k a1 a2 a3 a4 => by
    rw [hf8.1 c 0 k (by omega), hf7.1 c 0 k (by omega), hf6.1 c 0 k (by omega)]
  refine zw_some.mpr ⟨zk_t hf5 (zk_t (zk_m hf6 (fun c i k e => by omega)) (zk_t (zk_m hf7 (fun c i k e => by omega)) (zk_m hf8 (fun c i k e => by omega)))), ⟨?_, ?_, ?_, ?_, ?_⟩, fun h hh => ?_, fun k hk => ?_, h8⟩
  · rw [g _ _ (by omega) (by omega) (by omega) (by omega)]; exact h5.1
  · rw [g _ _ (by omega) (by omega) (by omega) (by omega)]; exact h5.2.1
  · rw [g _ _ (by omega) (by omega) (by omega) (by omega)]; exact h5.2.2.1
  · rw [g _ _ (by omega) (by omega) (by omega) (by omega)]; exact h5.2.2.2.1
  · rw [g _ _ (by omega) (by omega) (by omega) (by omega)]; exact h5.2.2.2.2
  · rw [hf8.1 _ _ _ (by omega), hf7.1 _ _ _ (by omega)]; exact h6 h hh
  · rw [hf8.1 _ _ _ (by omega)]; exact h7 k hk
end
