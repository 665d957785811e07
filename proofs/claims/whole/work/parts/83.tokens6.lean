/-! READ VI: the reference's words -/
def q_kw (e : Int64) (x : Int32) : Nat → Int32
  | 0 => x
  | k + 1 => if q_key k = e then nI (20 + k) else q_kw e x k
section
variable {m m' : zMem} {n p : Nat} {b : Nat → Int32}
theorem q_cmp0 (a c : Int64) : (lg_cmp a c = 0) = (a = c) := by
  unfold lg_cmp
  by_cases h : a = c
  · subst h; simp
  · simp only [h]
    split <;> simp_all
theorem p9_words (hk : ∀ k, k < 21 → m.2.1 109 0 k = q_key k) (e : Int64) (x : Int32) : z_it (f9_cut_L73 m e) z_fu (x, 0) = some (q_kw e x 21) := by
  refine z_it_e (fun k => (q_kw e x k, nI k)) 21 _ rfl (fun k h => ?_) ?_ (z_fu_lt (by omega))
  · show f9_cut_L73 m e (q_kw e x k, nI k) = some (Sum.inl (q_kw e x (k + 1), nI (k + 1)))
    unfold f9_cut_L73
    rw [z_u2_ap, if_pos (show nI k < 21 from (nI_lt (b := 21) h (by decide))), if_pos (y_in (by omega) (by omega)), y_cl (by omega), hk k h, q_kw]
    simp only [q_cmp0]
    by_cases c : q_key k = e
    · rw [if_pos c, if_pos c, Option.bind_some, y_s1, y_20, nI_add]
    · rw [if_neg c, if_neg c, Option.bind_some, y_s1]
  · show f9_cut_L73 m e (q_kw e x 21, nI 21) = _
    unfold f9_cut_L73
    rw [z_u2_ap, if_neg (show ¬ nI 21 < 21 by decide)]
end
