/-! READ XL: both sides read alike -/
section
variable {T T' : qT} {o v B n : Nat} {r : Nat → Int32} {m m1 m' : zMem} {b : Nat → Int32} {W G : Nat → Int32}
abbrev sAll : Nat → Nat → Nat → Prop := fun c i k => c = 4 ∨ c = 6 ∨ c = 7 ∨ (26 ≤ c ∧ c ≤ 32) ∨ (c = 8 ∧ k = 1) ∨ (c = 9 ∧ (k = 2 ∨ k = 4 ∨ (10 ≤ k ∧ k ≤ 17) ∨ k = 19 ∨ k = 20 ∨ k = 34 ∨ k = 40 ∨ k = 44)) ∨ (102 ≤ c ∧ c ≤ 143)
theorem i_Rd {c i k : Nat} (h : sRd o c i k) : sAll c i k := by
  rcases h with h | h | h | h | h | h | h <;> omega
theorem i_RR {c i k : Nat} (h : sRR v c i k) : sAll c i k := by
  rcases h with h | h | h | h | h | h
  · rcases h with h | h | h | h | h | h | h | h | h <;> omega
  all_goals omega
/-- behind a text with a FAULT: all but the place and the tape is as it was -/
theorem q_rfault (hi : qI_T T o v m) (hN : qI_N B T r m) (hR : qI_R B T m) (f1 : ∀ c i k, ¬ sRd (1 - o) c i k → m1.1 c i k = if c = 8 ∧ i = 0 ∧ k = 1 then 0 else m.1 c i k) (l1 : ∀ c, ¬ (c = 33 ∨ c = 21) → m1.2.1 c = m.2.1 c) (x1 : ∀ c, ¬ c = 7 → m1.2.2 c = m.2.2 c) (f2 : ∀ c i k, ¬ (c = 9 ∧ i ≠ 0) → ¬ sRR (1 - v) c i k → m'.1 c i k = m1.1 c i k) (l2 : ∀ c, ¬ lRR c → m'.2.1 c = m1.2.1 c) (x2 : m'.2.2 = m1.2.2) (h92 : m'.1 9 0 2 = 0) (hpl : m1.1 4 0 8 = m'.1 9 0 17) : qInv (B + 40) m' := by
  obtain ⟨t1, t2, ho, e8, e4, tx, cl, mx, ml⟩ := hi
  have hv : v < 2 := mx.1
  have nR : ∀ c i k, ¬ sAll c i k → ¬ sRR (1 - v) c i k := fun c i k h q => h (i_RR q)
  have nD : ∀ c i k, ¬ sAll c i k → ¬ sRd (1 - o) c i k := fun c i k h q => h (i_Rd q)
  have fr : ∀ c i k, ¬ (c = 9 ∧ i ≠ 0) → ¬ sAll c i k → m'.1 c i k = m.1 c i k := fun c i k h0 h => by
    rw [f2 c i k h0 (nR c i k h), f1 c i k (nD c i k h), if_neg (fun q => h (Or.inr (Or.inr (Or.inr (Or.inr (Or.inl ⟨q.1, q.2.2⟩))))))]
  -- the class's own text
  have fo : ∀ c i k, c < 100 → c ≠ 4 → c ≠ 7 → c ≠ 31 → c ≠ 32 → c ≠ 8 → c ≠ 9 → ¬ (c = 6 ∧ i = 1 - o) → ¬ (c = 26 ∧ (i = 2 * (1 - o) ∨ i = 2 * (1 - o) + 1)) → ¬ ((c = 27 ∨ c = 28 ∨ c = 29 ∨ c = 30) ∧ i = 1 - o) → m'.1 c i k = m.1 c i k := fun c i k h1 h2 h3 h4 h5 h6 h7 h8 h9 h10 => by
    rw [f2 c i k (by omega) (fun q => by
      rcases q with q | q | q | q | q | q
      · rcases q with q | q | q | q | q | q | q | q | q <;> omega
      all_goals omega), f1 c i k (fun q => by rcases q with q | q | q | q | q | q | q <;> omega), if_neg (fun q => h6 q.1)]
  -- the reference's own side
  have fs : ∀ c k, 123 ≤ c → c ≤ 142 → ¬ ((c = 123 ∨ c = 126 ∨ c = 129 ∨ c = 130 ∨ c = 131) ∧ k = 1 - v) → ¬ ((c = 124 ∨ c = 125) ∧ 5 * (1 - v) ≤ k ∧ k < 5 * (1 - v) + 5) → ¬ ((c = 127 ∨ c = 128) ∧ 7 * (1 - v) ≤ k ∧ k < 7 * (1 - v) + 7) → ¬ ((c = 132 ∨ c = 133) ∧ 4 * (1 - v) ≤ k ∧ k < 4 * (1 - v) + 4) → ¬ (135 ≤ c ∧ c ≤ 139 ∧ 130 * (1 - v) ≤ k ∧ k < 130 * (1 - v) + 130) → ¬ ((c = 141 ∨ c = 142) ∧ 420 * (1 - v) ≤ k ∧ k < 420 * (1 - v) + 420) → m'.1 c 0 k = m.1 c 0 k := fun c k h1 h2 h3 h4 h5 h6 h7 h8 => by
    rw [f2 c 0 k (by omega) (fun q => by
      rcases q with q | q | q | q | q | q
      · rcases q with q | q | q | q | q | q | q | q | q
        · omega
        · omega
        · exact h3 q
        · exact h4 q
        · exact h5 q
        · exact h6 q
        · exact h7 q
        · exact h8 q
        · omega
      all_goals omega), f1 c 0 k (fun q => by rcases q with q | q | q | q | q | q | q <;> omega), if_neg (by omega)]
  have x8 : m'.2.2 8 = m.2.2 8 := by rw [x2, x1 8 (by omega)]
  have x4 : m'.2.2 4 = m.2.2 4 := by rw [x2, x1 4 (by omega)]
  have tx' : qTx m' o T := tx.fr (funext fun k => fo _ _ _ (by omega) (by omega) (by omega) (by omega) (by omega) (by omega) (by omega) (by omega) (by omega) (by omega)) (funext fun k => fo _ _ _ (by omega) (by omega) (by omega) (by omega) (by omega) (by omega) (by omega) (by omega) (by omega) (by omega)) (funext fun k => fo _ _ _ (by omega) (by omega) (by omega) (by omega) (by omega) (by omega) (by omega) (by omega) (by omega) (by omega))
  have cl' : qCl m' o T := cl.fr (funext fun k => fo _ _ _ (by omega) (by omega) (by omega) (by omega) (by omega) (by omega) (by omega) (by omega) (by omega) (by omega)) (funext fun k => fo _ _ _ (by omega) (by omega) (by omega) (by omega) (by omega) (by omega) (by omega) (by omega) (by omega) (by omega)) (funext fun k => fo _ _ _ (by omega) (by omega) (by omega) (by omega) (by omega) (by omega) (by omega) (by omega) (by omega) (by omega))
  have fv : ∀ c k, (c = 123 ∨ c = 126 ∨ c = 131) → k = v → m'.1 c 0 k = m.1 c 0 k := fun c k hc hk => fs c k (by omega) (by omega) (by omega) (by omega) (by omega) (by omega) (by omega) (by omega)
  have mx' : qMx m' T v := by
    obtain ⟨_, a1, a2, a3, a4, a5, a6⟩ := mx
    have h5 := t1.1
    have h7 := t1.2
    refine ⟨hv, ?_, ?_, ?_, ?_, fun h hh => ?_, fun k hk => ?_⟩
    · rw [fr _ _ _ (by omega) (by omega)]; exact a1
    · rw [fv _ _ (by omega) rfl]; exact a2
    · rw [fv _ _ (by omega) rfl]; exact a3
    · rw [fv _ _ (by omega) rfl]; exact a4
    · rw [fs _ _ (by omega) (by omega) (by omega) (by omega) (by omega) (by omega) (by omega) (by omega)]; exact a5 h hh
    · rw [fs _ _ (by omega) (by omega) (by omega) (by omega) (by omega) (by omega) (by omega) (by omega)]; exact a6 k hk
  have ra : q_ra v m m' := ⟨fun c j h1 h2 h3 h4 => fs _ _ (by omega) (by omega) (by omega) (by omega) (by omega) (by omega) (by omega) (by omega), fun c j h1 h2 h3 => fs _ _ (by omega) (by omega) (by omega) (by omega) (by omega) (by omega) (by omega) (by omega)⟩
  have ml' : qMl m' v T := by
    intro k hk
    have e132 : m'.1 132 0 (4 * v + k) = m.1 132 0 (4 * v + k) := fs _ _ (by omega) (by omega) (by omega) (by omega) (by omega) (by omega) (by omega) (by omega)
    have e133 : m'.1 133 0 (4 * v + k) = m.1 133 0 (4 * v + k) := fs _ _ (by omega) (by omega) (by omega) (by omega) (by omega) (by omega) (by omega) (by omega)
    rw [e132, e133]
    rcases ml k hk with q | ⟨b, q1, q2, q3, q4⟩
    · exact Or.inl q
    · exact Or.inr ⟨b, q1, q2, q3, fun m2 hr => q4 m2 ⟨fun c j a1 a2 a3 a4 => (hr.1 c j a1 a2 a3 a4).trans (ra.1 c j a1 a2 a3 a4), fun c j a1 a2 a3 => (hr.2 c j a1 a2 a3).trans (ra.2 c j a1 a2 a3)⟩⟩
  have Z : zk (fun c i k => sAll c i k ∨ (c = 9 ∧ i ≠ 0)) m (m'.1, m.2) := ⟨fun c i k h => fr c i k (fun q => h (Or.inr q)) (fun q => h (Or.inl q)), rfl⟩
  obtain ⟨⟨u, nx, hs, a1⟩, ⟨sf, ss, a2⟩, ⟨td, te, tf, a3⟩, n, a4⟩ := hR
  have N0 : qI_N B T r (m'.1, m.2) := hN.zk Z (fun c k h => by omega)
  have N' : qI_N B T r m' := N0
  have U' : qI_U B T u nx hs (m'.1, m.2) := by
    obtain ⟨h1, h2, h3, h4, h5, h6⟩ := a1
    refine ⟨h1, h2, by rw [Z.1 _ _ _ (by omega)]; exact h3, by rw [Z.1 _ _ _ (by omega)]; exact h4, by rw [Z.1 _ _ _ (by omega)]; exact h5, fun j hj => ⟨(h6 j hj).1, (h6 j hj).2.1.zk Z (fun k => by omega), fun k hk => ?_⟩⟩
    rw [Z.1 _ _ _ (by omega)]
    exact (h6 j hj).2.2 k hk
  have S' : qI_S B T sf ss (m'.1, m.2) := by
    refine ⟨fun s hs' => by rw [Z.1 _ _ _ (by omega)]; exact a2.1 s hs', fun s hs' => ⟨by rw [Z.1 _ _ _ (by omega)]; exact (a2.2 s hs').1, fun hb => ?_⟩⟩
    obtain ⟨h1, h2, h3⟩ := (a2.2 s hs').2 hb
    exact ⟨h1, h2.zk Z (fun k => by omega), fun k hk => by rw [Z.1 _ _ _ (by omega)]; exact h3 k hk⟩
  have L' : qI_L T td te tf (m'.1, m.2) := by
    obtain ⟨h1, h2, h3, h4⟩ := a3
    refine ⟨h1, by rw [Z.1 _ _ _ (by omega)]; exact h2, by rw [Z.1 _ _ _ (by omega)]; exact h3, fun i hi => ?_⟩
    obtain ⟨c1, c2, c3, c4, c5, c6, c7⟩ := h4 i hi
    exact ⟨c1, c2, c3, by rw [Z.1 _ _ _ (by omega)]; exact c4, by rw [Z.1 _ _ _ (by omega)]; exact c5, by rw [Z.1 _ _ _ (by omega)]; exact c6, by rw [Z.1 _ _ _ (by omega)]; exact c7⟩
  have e81 : m'.1 8 0 1 = 0 := by
    rw [f2 8 0 1 (by omega) (fun q => by
      rcases q with q | q | q | q | q | q
      · rcases q with q | q | q | q | q | q | q | q | q <;> omega
      all_goals omega), f1 8 0 1 (fun q => by rcases q with q | q | q | q | q | q | q <;> omega), if_pos ⟨rfl, rfl, rfl⟩]
  have e48 : m'.1 4 0 8 = m1.1 4 0 8 := f2 4 0 8 (by omega) (fun q => by
      rcases q with q | q | q | q | q | q
      · rcases q with q | q | q | q | q | q | q | q | q <;> omega
      all_goals omega)
  have P' : qI_P 0 m' := ⟨by omega, e81, h92, fun k hk => absurd hk (Nat.not_lt_zero _), by rw [e48]; exact hpl, fun k hk => by rw [l2 109 (by omega), l1 109 (by omega)]; exact a4.2.2.2.2.2 k hk⟩
  refine ⟨T, o, v, r, ⟨t1, t2, ho, by rw [x8]; exact e8, by rw [x4]; exact e4, tx', cl', mx', ml'⟩, N'.mn (by omega), ?_⟩
  have R' : qI_R B T m' := ⟨⟨u, nx, hs, U'⟩, ⟨sf, ss, S'⟩, ⟨td, te, tf, L'⟩, 0, P'⟩
  exact R'.mn (by omega)
end
