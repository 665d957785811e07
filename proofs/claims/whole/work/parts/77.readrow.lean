/-! READ, its end: the first row is as it must be; the invariant anew -/
section
variable {T : qT} {o v B : Nat} {r r' : Nat → Int32} {m m' : zMem} {W G : Nat → Int32}
theorem q_bx_row (hT : tOk T) (hW : ∀ k, k < tP T → W k = -1 ∨ ∃ g, g ≤ 99 ∧ W k = nI g) (hG : ∀ h, h < tH T → ∀ k, tP T ≤ k → k < 32 → bt (G h) k = false) : qRow T B (q_bx W G (tP T) (tH T)) := by
  have hP := hT.2
  have hH := hT.1
  refine ⟨fun k hk => ?_, fun k h1 h2 => ⟨?_, ?_, ?_⟩, fun k hk hn => ?_, fun k hk => ?_, ⟨0, by omega, q_bx_y⟩, fun h h1 h2 => ?_, fun h hh k h1 h2 => ?_⟩
  · rw [q_bx_a (by omega)]
    by_cases c : k < tP T ∧ ¬ W k < 0
    · rw [if_pos c]; exact Or.inr (Or.inl rfl)
    · rw [if_neg c]; exact Or.inl rfl
  · rw [q_bx_a h2, if_neg (by omega)]
  · rw [q_bx_g h2, if_neg (by omega)]
  · exact q_bx_0 (by omega) (by omega)
  · rw [q_bx_a hk] at hn
    rw [q_bx_g hk]
    by_cases c : k < tP T ∧ ¬ W k < 0
    · rw [if_pos c] at hn; exact absurd rfl hn
    · rw [if_neg c]
  · rw [q_bx_g hk]
    by_cases c : k < tP T ∧ ¬ W k < 0
    · rw [if_pos c]
      rcases hW k c.1 with e | ⟨g, hg, e⟩
      · exact absurd (show W k < 0 by rw [e]; decide) c.2
      · exact ⟨g, by omega, e⟩
    · rw [if_neg c]; exact ⟨0, by omega, rfl⟩
  · rw [q_bx_r h2, if_neg (by omega)]
  · rw [q_bx_r hh]
    by_cases c : h < tH T
    · rw [if_pos c]; exact hG h c k h1 h2
    · rw [if_neg c, b_0]
/-- the invariant behind a text without a FAULT -/
theorem q_rclose (hT : tOk T) (hl : tLw T) (ho : o < 2) (e8 : m.2.2 8 0 3 = o) (e4 : m.2.2 4 0 3 = 1 - o) (ht : qTx m o T) (hc : qCl m o T) (hx : qMx m T v) (hm : qMl m v T) (hw : qRow T B r) (hr : qRep m 0 T r) (hn : qMn m r) {nx : Nat} (hnx : nx < 40) (h31 : m.1 3 0 1 = nI nx) (h32 : m.1 3 0 2 = 0) (h55 : m.1 9 0 55 = 0) (h11 : m.1 8 0 11 = 0) (h164 : ∀ s, s < 3 → m.1 164 0 s = 0) (h22 : m.1 2 0 2 = 0) (h58 : m.1 9 0 58 = 0) (h81 : m.1 8 0 1 = 0) (h92 : m.1 9 0 2 = 0) (hpl : m.1 4 0 8 = m.1 9 0 17) (hk : ∀ k, k < 21 → m.2.1 109 0 k = q_key k) : qInv B m := by
  refine ⟨T, o, v, r, ⟨hT, hl, ho, e8, e4, ht, hc, hx, hm⟩, ⟨hw, hr, hn⟩, ⟨0, nx, fun _ _ => 0, by omega, hnx, h31, h32, h55, fun j hj => absurd hj (Nat.not_lt_zero _)⟩, ⟨fun _ => false, fun _ _ => 0, fun s hs => ?_, fun s hs => ⟨?_, fun q => absurd q (show ¬ false = true by decide)⟩⟩, ⟨0, fun _ => 0, fun _ => 0, by omega, h22, h58, fun j hj => absurd hj (Nat.not_lt_zero _)⟩, 0, by omega, h81, h92, fun k hk => absurd hk (Nat.not_lt_zero _), hpl, hk⟩
  · rw [h11, b_0, Bool.and_false]
  · rw [h164 s hs]; rfl
end
