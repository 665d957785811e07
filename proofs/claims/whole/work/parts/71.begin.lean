/-! BEGIN: the first row of a text, on both sides -/
def q_bx (W G : Nat → Int32) (i j : Nat) : Nat → Int32 := fun k => if k < 7 then (if k < i ∧ ¬ W k < 0 then 1 else 0) else if k < 14 then (if k - 7 < i ∧ ¬ W (k - 7) < 0 then W (k - 7) else 0) else if k < 28 then 0 else if k < 33 then (if k - 28 < j then G (k - 28) else 0) else 0
section
variable {W G : Nat → Int32} {i j k : Nat}
theorem q_bx_a (h : k < 7) : q_bx W G i j k = if k < i ∧ ¬ W k < 0 then 1 else 0 := by unfold q_bx; rw [if_pos h]
theorem q_bx_g (h : k < 7) : q_bx W G i j (7 + k) = if k < i ∧ ¬ W k < 0 then W k else 0 := by
  unfold q_bx; rw [if_neg (by omega), if_pos (by omega), show 7 + k - 7 = k by omega]
theorem q_bx_0 (h : 14 ≤ k) (h' : k < 28) : q_bx W G i j k = 0 := by
  unfold q_bx; rw [if_neg (by omega), if_neg (by omega), if_pos h']
theorem q_bx_r (h : k < 5) : q_bx W G i j (28 + k) = if k < j then G k else 0 := by
  unfold q_bx; rw [if_neg (by omega), if_neg (by omega), if_neg (by omega), if_pos (by omega), show 28 + k - 28 = k by omega]
theorem q_bx_y : q_bx W G i j 33 = 0 := by
  unfold q_bx; rw [if_neg (by omega), if_neg (by omega), if_neg (by omega), if_neg (by omega)]
theorem q_bx_00 : q_bx W G 0 0 k = 0 := by simp only [q_bx, Nat.not_lt_zero, false_and, if_false, ite_self]
theorem q_bx_i (h1 : k ≠ i) (h2 : k ≠ 7 + i) : q_bx W G (i + 1) j k = q_bx W G i j k := by
  unfold q_bx
  by_cases c : k < 7
  · simp only [if_pos c, show (k < i + 1) ↔ (k < i) by omega]
  · by_cases c2 : k < 14
    · simp only [if_neg c, if_pos c2, show (k - 7 < i + 1) ↔ (k - 7 < i) by omega]
    · simp only [if_neg c, if_neg c2]
theorem q_bx_j (h1 : k ≠ 28 + j) : q_bx W G i (j + 1) k = q_bx W G i j k := by
  unfold q_bx
  by_cases c : k < 7
  · simp only [if_pos c]
  · by_cases c2 : k < 14
    · simp only [if_neg c, if_pos c2]
    · by_cases c3 : k < 28
      · simp only [if_neg c, if_neg c2, if_pos c3]
      · simp only [show (k - 28 < j + 1) ↔ (k - 28 < j) by omega]
theorem q_bx_n (hi : i < 7) (h : W i < 0) : q_bx W G (i + 1) j = q_bx W G i j := funext fun k => by
  by_cases c1 : k = i
  · rw [c1, q_bx_a hi, q_bx_a hi, if_neg (fun q => q.2 h), if_neg (fun q => q.2 h)]
  · by_cases c2 : k = 7 + i
    · rw [c2, q_bx_g hi, q_bx_g hi, if_neg (fun q => q.2 h), if_neg (fun q => q.2 h)]
    · exact q_bx_i c1 c2
end
section
variable {T : qT} {o v B : Nat} {r r' : Nat → Int32} {m m' : zMem} {W G : Nat → Int32}
theorem p9_begins (hx : qMx m T v) (hT : tOk T) (hW : ∀ k, k < tP T → m.1 128 0 (7 * v + k) = W k) (hG : ∀ h, h < tH T → m.1 125 0 (5 * v + h) = G h) : zw (f9_begins m) fun m' => zk sCp m m' ∧ qMr m' (q_bx W G (tP T) (tH T)) := by
  have hP := hT.2
  have hH := hT.1
  obtain ⟨hv, h9, h1, h2, h3, _⟩ := hx
  have up : ∀ m', zk sRow m m' → m'.1 9 0 18 = nI v ∧ m'.1 126 0 v = nI (tP T) ∧ m'.1 123 0 v = nI (tH T) ∧ (∀ k, k < tP T → m'.1 128 0 (7 * v + k) = W k) ∧ ∀ h, h < tH T → m'.1 125 0 (5 * v + h) = G h := fun m' hf => ⟨by rw [hf.1 9 0 18 (by omega)]; exact h9, by rw [hf.1 126 0 v (by omega)]; exact h2, by rw [hf.1 123 0 v (by omega)]; exact h1, fun k hk => by rw [hf.1 128 0 _ (by omega)]; exact hW k hk, fun k hk => by rw [hf.1 125 0 _ (by omega)]; exact hG k hk⟩
  unfold f9_begins
  refine zw_b (zw_for (Q := fun m' => zk sRow m m' ∧ qMr m' (q_bx W G 0 0)) 34 (fun i m' => zk sRow m m' ∧ ∀ k, k < i → m'.1 149 0 k = 0) (by omega) ⟨zk_r m, fun k hk => absurd hk (by omega)⟩ ?_ ?_) ?_
  · rintro i m' hi ⟨hf, h0⟩
    unfold f9_begins_L1
    simp only [z_u2, z_let]
    rw [y_34, if_pos (show nI i < nI 34 from nI_lt hi (by decide)), if_pos (y_in (by omega) (by omega)), y_cl (by omega)]
    refine zw_some.mpr ⟨y_s1 i, zk_s hf rfl, fun k hk => ?_⟩
    rw [z_sI_1]
    by_cases e : k = i
    · rw [if_pos ⟨rfl, rfl, e⟩]
    · rw [if_neg (by omega)]; exact h0 k (by omega)
  · rintro m' ⟨hf, h0⟩
    unfold f9_begins_L1
    simp only [z_u2]
    rw [if_neg (show ¬ nI 34 < 34 by decide)]
    refine zw_some.mpr ⟨hf, fun k hk => ?_⟩
    rw [h0 k hk, q_bx_00]
  rintro m1 ⟨hf1, hr1⟩
  refine zw_b (zw_for (Q := fun m' => zk sRow m m' ∧ qMr m' (q_bx W G (tP T) 0)) (tP T) (fun i m' => zk sRow m m' ∧ qMr m' (q_bx W G i 0)) (by omega) ⟨hf1, hr1⟩ ?_ ?_) ?_
  · rintro i m2 hi ⟨hf, hr⟩
    obtain ⟨u1, u2, u3, u5, u6⟩ := up m2 hf
    unfold f9_begins_L10
    simp (disch := omega) only [z_u2, z_let, u1, y_in, y_cl, u2, y_lt, hi, ↓reduceIte, y_7, pk_mul, nI_add, u5 i hi]
    have e1 : (if W i < 0 then some (0 : Int32) else some 1) = some (if W i < 0 then 0 else 1) := by split <;> rfl
    have e2 : (if W i < 0 then some (0 : Int32) else some (W i)) = some (if W i < 0 then 0 else W i) := by split <;> rfl
    rw [e1, Option.bind_some, e2, Option.bind_some]
    refine zw_some.mpr ⟨y_s1 i, zk_s (zk_s hf rfl) rfl, fun k hk => ?_⟩
    rw [z_sI_1, z_sI_1]
    by_cases c1 : k = 7 + i
    · rw [if_pos ⟨rfl, rfl, c1⟩, c1, q_bx_g (by omega)]
      by_cases c : W i < 0
      · rw [if_pos c, if_neg (fun q => q.2 c)]
      · rw [if_neg c, if_pos ⟨by omega, c⟩]
    · rw [if_neg (by omega)]
      by_cases c2 : k = i
      · rw [if_pos ⟨rfl, rfl, c2⟩, c2, q_bx_a (by omega)]
        by_cases c : W i < 0
        · rw [if_pos c, if_neg (fun q => q.2 c)]
        · rw [if_neg c, if_pos ⟨by omega, c⟩]
      · rw [if_neg (by omega), q_bx_i c2 c1]; exact hr k hk
  · rintro m2 ⟨hf, hr⟩
    obtain ⟨u1, u2, u3, u5, u6⟩ := up m2 hf
    unfold f9_begins_L10
    simp (disch := omega) only [z_u2, u1, u2, y_in, y_cl, y_lt, Nat.lt_irrefl, ↓reduceIte]
    exact zw_some.mpr ⟨hf, hr⟩
  rintro m2 ⟨hf2, hr2⟩
  refine zw_b (zw_for (Q := fun m' => zk sRow m m' ∧ qMr m' (q_bx W G (tP T) (tH T))) (tH T) (fun j m' => zk sRow m m' ∧ qMr m' (q_bx W G (tP T) j)) (by omega) ⟨hf2, hr2⟩ ?_ ?_) ?_
  · rintro j m3 hj ⟨hf, hr⟩
    obtain ⟨u1, u2, u3, u5, u6⟩ := up m3 hf
    unfold f9_begins_L34
    simp (disch := omega) only [z_u2, z_let, u1, y_in, y_cl, u3, y_lt, hj, ↓reduceIte, y_5, y_28, pk_mul, nI_add, u6 j hj]
    refine zw_some.mpr ⟨y_s1 j, zk_s hf rfl, fun k hk => ?_⟩
    rw [z_sI_1]
    by_cases c1 : k = 28 + j
    · rw [if_pos ⟨rfl, rfl, c1⟩, c1, q_bx_r (by omega), if_pos (by omega)]
    · rw [if_neg (by omega), q_bx_j c1]; exact hr k hk
  · rintro m3 ⟨hf, hr⟩
    obtain ⟨u1, u2, u3, u5, u6⟩ := up m3 hf
    unfold f9_begins_L34
    simp (disch := omega) only [z_u2, u1, u3, y_in, y_cl, y_lt, Nat.lt_irrefl, ↓reduceIte]
    exact zw_some.mpr ⟨hf, hr⟩
  rintro m3 ⟨hf, hr⟩
  obtain ⟨u1, u2, u3, u5, u6⟩ := up m3 hf
  rw [u1, if_pos (y_in hv (by omega)), y_cl (by omega)]
  simp only [z_let]
  refine zw_some.mpr ⟨zk_s (zk_s (zk_m hf (fun c i k e => by omega)) (by omega)) (by omega), fun k hk => ?_⟩
  rw [z_sI_1, if_neg (by omega), z_sI_1, if_neg (by omega)]; exact hr k hk
theorem q_rep22 {p : Nat} {x : Int32} (hP : tP T ≤ 7) (h : qRep m o T r) (hr : ∀ k, k < 34 → r' k = if k = 7 + p then x else r k) (hp : p < 7) : qRep (z_sI m 22 o p x) o T r' := by
  obtain ⟨h1, h2, h3, h4, h5, h6, h7⟩ := h
  have hs : ∀ k, k < tP T → r' k = r k := fun k hk => by rw [hr k (by omega), if_neg (by omega)]
  refine ⟨?_, fun k hk => ?_, fun k hk => ?_, fun k hk => ?_, fun k hk => ?_, fun k hk => ?_, fun k hk => ?_⟩
  · rw [z_sI_1, if_neg (by omega), h1, hr 33 (by omega), if_neg (by omega)]
  · rw [z_sI_1, if_neg (by omega), h2 k hk]
    by_cases c : k < tP T
    · rw [hs k c]
    · rw [decide_eq_false c, Bool.false_and, Bool.false_and]
  · rw [z_sI_1, if_neg (by omega), h3 k hk]
    by_cases c : k < tP T
    · rw [hs k c]
    · rw [decide_eq_false c, Bool.false_and, Bool.false_and]
  · rw [z_sI_1, hr _ (by omega)]
    by_cases c : k = p
    · rw [if_pos ⟨rfl, rfl, c⟩, if_pos (by omega)]
    · rw [if_neg (by omega), if_neg (by omega)]; exact h4 k hk
  · rw [z_sI_1, if_neg (by omega), h5 k hk, hr _ (by omega), if_neg (by omega)]
  · have e1 : r' (21 + k) = r (21 + k) := by rw [hr _ (by omega), if_neg (by omega)]
    have e2 : r' 33 = r 33 := by rw [hr _ (by omega), if_neg (by omega)]
    rw [z_sI_1, if_neg (by omega), h6 k hk, hs k hk, e1, e2]
  · rw [z_sI_1, if_neg (by omega), h7 k hk, hr _ (by omega), if_neg (by omega)]
theorem q_rep25 {p : Nat} {x : Int32} (hP : tP T ≤ 7) (h : qRep m o T r) (hr : ∀ k, k < 34 → r' k = if k = 28 + p then x else r k) (hp : p < 5) : qRep (z_sI m 25 o p x) o T r' := by
  obtain ⟨h1, h2, h3, h4, h5, h6, h7⟩ := h
  have hs : ∀ k, k < tP T → r' k = r k := fun k hk => by rw [hr k (by omega), if_neg (by omega)]
  refine ⟨?_, fun k hk => ?_, fun k hk => ?_, fun k hk => ?_, fun k hk => ?_, fun k hk => ?_, fun k hk => ?_⟩
  · rw [z_sI_1, if_neg (by omega), h1, hr 33 (by omega), if_neg (by omega)]
  · rw [z_sI_1, if_neg (by omega), h2 k hk]
    by_cases c : k < tP T
    · rw [hs k c]
    · rw [decide_eq_false c, Bool.false_and, Bool.false_and]
  · rw [z_sI_1, if_neg (by omega), h3 k hk]
    by_cases c : k < tP T
    · rw [hs k c]
    · rw [decide_eq_false c, Bool.false_and, Bool.false_and]
  · rw [z_sI_1, if_neg (by omega), h4 k hk, hr _ (by omega), if_neg (by omega)]
  · rw [z_sI_1, if_neg (by omega), h5 k hk, hr _ (by omega), if_neg (by omega)]
  · have e1 : r' (21 + k) = r (21 + k) := by rw [hr _ (by omega), if_neg (by omega)]
    have e2 : r' 33 = r 33 := by rw [hr _ (by omega), if_neg (by omega)]
    rw [z_sI_1, if_neg (by omega), h6 k hk, hs k hk, e1, e2]
  · rw [z_sI_1, hr _ (by omega)]
    by_cases c : k = p
    · rw [if_pos ⟨rfl, rfl, c⟩, if_pos (by omega)]
    · rw [if_neg (by omega), if_neg (by omega)]; exact h7 k hk
end
