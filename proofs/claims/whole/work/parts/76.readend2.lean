/-! READ, its end: the reference -/
section
variable {T : qT} {o v B : Nat} {r r' : Nat → Int32} {m m' : zMem} {W G : Nat → Int32}
abbrev sE9 : Nat → Nat → Nat → Prop := fun c _ k => c = 148 ∨ c = 149 ∨ c = 164 ∨ (c = 9 ∧ (k = 18 ∨ k = 50 ∨ k = 51 ∨ k = 55 ∨ k = 58))
/-- what the reference does behind a text without a FAULT -/
def f9_rend (m49 : zMem) : Option (Int32 × zMem) := z_let (z_sI m49 9 0 18 (m49.1 9 0 19)) fun m53 => (f9_begins m53).bind (fun qm55 => (f9_keepsRow qm55).bind (fun qm57 => z_let (z_sI qm57 9 0 55 (0 : Int32)) fun m59 => z_let (z_sI m59 9 0 58 (0 : Int32)) fun m61 => (z_it (f9_read_L63) z_fu ((0 : Int32), m61)).bind (fun e70 => some ((0 : Int32), e70))))
theorem p9_rend (hv : v < 2) (h19 : m.1 9 0 19 = nI v) (hT : tOk T) (h1 : m.1 123 0 v = nI (tH T)) (h2 : m.1 126 0 v = nI (tP T)) (h3 : m.1 131 0 v = tS T) (h4 : ∀ h, h < tH T → m.1 124 0 (5 * v + h) = tR T h) (h5 : ∀ k, k < tP T → m.1 127 0 (7 * v + k) = tA T k) (hW : ∀ k, k < tP T → m.1 128 0 (7 * v + k) = W k) (hG : ∀ h, h < tH T → m.1 125 0 (5 * v + h) = G h) : zw (f9_rend m) fun q => q.1 = 0 ∧ zk sE9 m q.2 ∧ qMx q.2 T v ∧ qMn q.2 (q_bx W G (tP T) (tH T)) ∧ q.2.1 9 0 55 = 0 ∧ q.2.1 9 0 58 = 0 ∧ ∀ s, s < 3 → q.2.1 164 0 s = 0 := by
  unfold f9_rend
  simp only [z_let]
  rw [h19]
  obtain ⟨M, hM⟩ : ∃ M, M = z_sI m 9 0 18 (nI v) := ⟨_, rfl⟩
  rw [← hM]
  have hf0 : zk (fun c _ k => c = 9 ∧ k = 18) m M := by rw [hM]; exact zk_s (zk_r m) (by omega)
  have e18 : M.1 9 0 18 = nI v := by rw [hM, z_sI_1, if_pos ⟨rfl, rfl, rfl⟩]
  clear hM
  have hx : qMx M T v := ⟨hv, e18, by rw [hf0.1 _ _ _ (by omega)]; exact h1, by rw [hf0.1 _ _ _ (by omega)]; exact h2, by rw [hf0.1 _ _ _ (by omega)]; exact h3, fun h hh => by rw [hf0.1 _ _ _ (by omega)]; exact h4 h hh, fun k hk => by rw [hf0.1 _ _ _ (by omega)]; exact h5 k hk⟩
  refine zw_b (p9_begins (W := W) (G := G) hx hT (fun k hk => by rw [hf0.1 _ _ _ (by omega)]; exact hW k hk) (fun h hh => by rw [hf0.1 _ _ _ (by omega)]; exact hG h hh)) ?_
  rintro m1 ⟨hf1, hr1⟩
  refine zw_b (p9_keepsRow hr1) ?_
  rintro m2 ⟨hf2, hn2⟩
  obtain ⟨m3, hm3⟩ : ∃ m3, m3 = z_sI (z_sI m2 9 0 55 0) 9 0 58 0 := ⟨_, rfl⟩
  rw [← hm3]
  have hf3 : zk (fun c _ k => c = 9 ∧ (k = 55 ∨ k = 58)) m2 m3 := by rw [hm3]; exact zk_s (zk_s (zk_r m2) (by omega)) (by omega)
  have a1 : m3.1 9 0 55 = 0 := by rw [hm3, z_sI_1, if_neg (by omega), z_sI_1, if_pos ⟨rfl, rfl, rfl⟩]
  have a2 : m3.1 9 0 58 = 0 := by rw [hm3, z_sI_1, if_pos ⟨rfl, rfl, rfl⟩]
  clear hm3
  refine zw_b (zw_for (Q := fun m4 => zk (fun c _ _ => c = 164) m3 m4 ∧ ∀ s, s < 3 → m4.1 164 0 s = 0) 3 (fun i m4 => zk (fun c _ _ => c = 164) m3 m4 ∧ ∀ s, s < i → m4.1 164 0 s = 0) (by omega) ⟨zk_r m3, fun k hk => absurd hk (by omega)⟩ ?_ ?_) ?_
  · rintro i m4 hi ⟨hf, h0⟩
    unfold f9_read_L63
    simp only [z_u2, z_let]
    rw [y_3, if_pos (show nI i < nI 3 from nI_lt hi (by decide)), if_pos (y_in (by omega) (by omega)), y_cl (by omega)]
    refine zw_some.mpr ⟨y_s1 i, zk_s hf rfl, fun k hk => ?_⟩
    rw [z_sI_1]
    by_cases e : k = i
    · rw [if_pos ⟨rfl, rfl, e⟩]; rfl
    · rw [if_neg (by omega)]; exact h0 k (by omega)
  · rintro m4 hI
    unfold f9_read_L63
    simp only [z_u2]
    rw [if_neg (show ¬ nI 3 < 3 by decide)]
    exact zw_some.mpr hI
  rintro m4 ⟨hf4, h4'⟩
  have hall : zk sE9 m m4 := zk_t (zk_m hf0 (fun c i k e => by omega)) (zk_t (zk_m hf1 (fun c i k e => by omega)) (zk_t (zk_m hf2 (fun c i k e => by omega)) (zk_t (zk_m hf3 (fun c i k e => by omega)) (zk_m hf4 (fun c i k e => by omega)))))
  have h18 : m4.1 9 0 18 = nI v := by rw [hf4.1 _ _ _ (by omega), hf3.1 _ _ _ (by omega), hf2.1 _ _ _ (by omega), hf1.1 _ _ _ (by omega)]; exact e18
  refine zw_some.mpr ⟨rfl, hall, ⟨hv, h18, ?_, ?_, ?_, fun h hh => ?_, fun k hk => ?_⟩, fun k hk => ?_, ?_, ?_, h4'⟩
  · rw [hall.1 _ _ _ (by omega)]; exact h1
  · rw [hall.1 _ _ _ (by omega)]; exact h2
  · rw [hall.1 _ _ _ (by omega)]; exact h3
  · rw [hall.1 _ _ _ (by omega)]; exact h4 h hh
  · rw [hall.1 _ _ _ (by omega)]; exact h5 k hk
  · rw [hf4.1 _ _ _ (by omega), hf3.1 _ _ _ (by omega)]; exact hn2 k hk
  · rw [hf4.1 _ _ _ (by omega)]; exact a1
  · rw [hf4.1 _ _ _ (by omega)]; exact a2
end
