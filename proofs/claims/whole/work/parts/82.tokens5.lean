/-! READ V: the reference's digits and letters -/
def q_w10 (b : Nat → Int32) (p : Nat) : Nat → Int32
  | 0 => 0
  | k + 1 => if k < 4 then ((10 : Int32) * q_w10 b p k + b (p + k)) - 48 else q_w10 b p k
def q_w27 (b : Nat → Int32) (p : Nat) : Nat → Int64
  | 0 => 0
  | k + 1 => if k < 8 then f9_appends (q_w27 b p k) (b (p + k)) else q_w27 b p k
section
variable {m m' : zMem} {n p : Nat} {b : Nat → Int32}
def q_tp9 (n : Nat) (b : Nat → Int32) (m : zMem) : Prop := n ≤ 2000 ∧ m.1 9 0 4 = nI n ∧ ∀ k, k < n → m.1 103 0 k = b k ∧ q_by (b k)
theorem p9_byteAt (h : q_tp9 n b m) {a : Nat} (ha : a < 10000) : f9_byteAt (nI a) m = some (if a < n then b a &&& 255 else 0) := by
  obtain ⟨hn, h4, hb⟩ := h
  unfold f9_byteAt
  rw [h4]
  by_cases c : a < n
  · rw [if_pos (nI_lt c (by omega)), if_pos (y_in (by omega) (by omega)), y_cl (by omega), (hb a c).1, if_pos c]
  · rw [if_neg (nI_nlt (by omega) (by omega)), if_neg c]
theorem p9_isDigit (x : Int32) : f9_isDigit x = if q_dig x then 1 else 0 := p7_isDigit x
theorem p9_isLetter (x : Int32) : f9_isLetter x = if q_let x then 1 else 0 := p7_isLetter x
theorem p9_digits (h : q_tp9 n b m) (hp : p ≤ n) : z_it (f9_cut_L25 (nI p) m) z_fu (0, 0) = some (nI (q_ru (fun k => q_dig (b k)) p (n - p) - p), q_w10 b p (q_ru (fun k => q_dig (b k)) p (n - p) - p)) := by
  obtain ⟨r1, r2, r3, r4⟩ := q_ru_sp (fun k => q_dig (b k)) (n - p) p
  generalize q_ru (fun k => q_dig (b k)) p (n - p) = e at *
  have hn := h.1
  refine z_it_e (fun k => (nI k, q_w10 b p k)) (e - p) _ rfl (fun k hk => ?_) ?_ (z_fu_lt (by omega))
  · have gc : q_dig (b (p + k)) = true := r3 (p + k) (by omega) (by omega)
    obtain ⟨_, _, _, g4, _⟩ := q_b255 (h.2.2 (p + k) (by omega)).2
    have gv : f9_byteAt (nI p + nI k) m = some (b (p + k)) := by rw [nI_add, p9_byteAt h (by omega), if_pos (by omega), g4 gc]
    show f9_cut_L25 (nI p) m (nI k, q_w10 b p k) = some (Sum.inl (nI (k + 1), q_w10 b p (k + 1)))
    unfold f9_cut_L25
    rw [z_u2_ap, gv]
    simp only [Option.bind_some, z_let]
    rw [p9_isDigit, gc, if_pos rfl, if_neg n01, q_w10, y_4]
    by_cases c : k < 4
    · rw [if_pos (nI_lt c (by decide)), if_pos c, Option.bind_some, y_s1]
    · rw [if_neg (nI_nlt (by omega) (by omega)), if_neg c, Option.bind_some, y_s1]
  · have gv : ∃ x, f9_byteAt (nI p + nI (e - p)) m = some x ∧ q_dig x = false := by
      rw [nI_add, p9_byteAt h (by omega), show p + (e - p) = e by omega]
      refine ⟨_, rfl, ?_⟩
      by_cases c : e < n
      · rw [if_pos c, (q_b255 (h.2.2 e c).2).1]; exact r4 (by omega)
      · rw [if_neg c]; decide
    obtain ⟨x, gx, gd⟩ := gv
    show f9_cut_L25 (nI p) m (nI (e - p), q_w10 b p (e - p)) = _
    unfold f9_cut_L25
    rw [z_u2_ap, gx, Option.bind_some, p9_isDigit, gd, y_ff, if_pos rfl]
theorem p9_letters (h : q_tp9 n b m) (hp : p ≤ n) : z_it (f9_cut_L49 (nI p) m) z_fu (0, 0) = some (nI (q_ru (fun k => q_let (b k)) p (n - p) - p), q_w27 b p (q_ru (fun k => q_let (b k)) p (n - p) - p)) := by
  obtain ⟨r1, r2, r3, r4⟩ := q_ru_sp (fun k => q_let (b k)) (n - p) p
  generalize q_ru (fun k => q_let (b k)) p (n - p) = e at *
  have hn := h.1
  refine z_it_e (fun k => (nI k, q_w27 b p k)) (e - p) _ rfl (fun k hk => ?_) ?_ (z_fu_lt (by omega))
  · have gc : q_let (b (p + k)) = true := r3 (p + k) (by omega) (by omega)
    obtain ⟨_, _, _, _, g4⟩ := q_b255 (h.2.2 (p + k) (by omega)).2
    have gv : f9_byteAt (nI p + nI k) m = some (b (p + k)) := by rw [nI_add, p9_byteAt h (by omega), if_pos (by omega), g4 gc]
    show f9_cut_L49 (nI p) m (nI k, q_w27 b p k) = some (Sum.inl (nI (k + 1), q_w27 b p (k + 1)))
    unfold f9_cut_L49
    rw [z_u2_ap, gv]
    simp only [Option.bind_some]
    rw [p9_isLetter, gc, if_pos rfl, if_neg n01, q_w27, y_8]
    by_cases c : k < 8
    · rw [if_pos (nI_lt c (by decide)), if_pos c, Option.bind_some, y_s1]
    · rw [if_neg (nI_nlt (by omega) (by omega)), if_neg c, Option.bind_some, y_s1]
  · have gv : ∃ x, f9_byteAt (nI p + nI (e - p)) m = some x ∧ q_let x = false := by
      rw [nI_add, p9_byteAt h (by omega), show p + (e - p) = e by omega]
      refine ⟨_, rfl, ?_⟩
      by_cases c : e < n
      · rw [if_pos c, (q_b255 (h.2.2 e c).2).2.1]; exact r4 (by omega)
      · rw [if_neg c]; decide
    obtain ⟨x, gx, gd⟩ := gv
    show f9_cut_L49 (nI p) m (nI (e - p), q_w27 b p (e - p)) = _
    unfold f9_cut_L49
    rw [z_u2_ap, gx, Option.bind_some, p9_isLetter, gd, y_ff, if_pos rfl]
end
