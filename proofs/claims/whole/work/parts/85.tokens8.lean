/-! READ VIII: the class's text of words -/
def q_ws (a : Nat) : Int32 := ((((z_sb 0 a) &&& (255 : Int32)).toUInt32 % 65536).toInt32)
theorem w_ch : ∀ a, a < 147 → fj0_charAt_5068e 0 (nI a) z_M0 = some (q_ws a) := by decide +kernel
theorem p0_charAt {a : Nat} (ha : a < 147) (m : zMem) : fj0_charAt_5068e 0 (nI a) m = some (q_ws a) := by
  rw [← w_ch a ha]; rfl
theorem p0_length (m : zMem) : fj0_length_8abf5 0 m = some (nI 147) := by
  have e : fj0_length_8abf5 0 z_M0 = some (nI 147) := by decide +kernel
  rw [← e]; rfl
section
variable {m m' : zMem} {n p : Nat} {b : Nat → Int32}
def q_ne (b : Nat → Int32) (j p : Nat) : Nat → Bool := fun k => !decide (q_ws (7 * j + k) = b (p + k))
def q_isw (b : Nat → Int32) (j p L : Nat) : Bool := decide (L < 7) && (decide (q_ws (7 * j + L) = 32) && decide (q_se (q_ne b j p) L = none))
theorem p7_isWord {j L : Nat} (hj : j < 21) (hn : n ≤ 2000) (h3 : m.2.2 7 0 3 = 0) (hb : ∀ k, k < n → m.1 34 0 k = b k) (hL : p + L ≤ n) : f7_isWord (nI (7 * j)) (nI p) (nI L) m = some (if q_isw b j p L then 1 else 0) := by
  have hl : z_len 34 0 = 2000 := rfl
  unfold f7_isWord q_isw
  rw [y_7]
  by_cases c : L < 7
  · rw [if_pos (nI_lt c (by decide)), decide_eq_true c, Bool.true_and, p0_length, Option.bind_some, nI_add, if_pos (nI_lt (by omega) (by omega)), p0_charAt (by omega), Option.bind_some]
    by_cases c2 : q_ws (7 * j + L) = 32
    · rw [if_pos c2, decide_eq_true c2, Bool.true_and]
      have key : z_it (f7_isWord_L8 (nI (7 * j)) (nI p) (nI L) m) z_fu 0 = some (match q_se (q_ne b j p) L with | some _ => Sum.inr (0 : Int32) | none => Sum.inl ()) := by
        refine (z_se (body := f7_isWord_L8 (nI (7 * j)) (nI p) (nI L) m) (s0 := 0) (q_ne b j p) nI L (fun _ => (0 : Int32)) rfl (fun k hk => ?_) ?_ (by omega)).trans ?_
        · unfold f7_isWord_L8 q_ne
          rw [if_pos (nI_lt hk (by omega)), nI_add, nI_add, p0_charAt (by omega), Option.bind_some, h3, hl, if_pos (y_in (by omega) (by omega)), y_cl (by omega), hb _ (by omega)]
          by_cases c3 : q_ws (7 * j + k) = b (p + k)
          · rw [if_pos c3, decide_eq_true c3, y_s1]; rfl
          · rw [if_neg c3, decide_eq_false c3]; rfl
        · unfold f7_isWord_L8
          rw [if_neg (nI_nlt (by omega) (by omega))]
        · cases q_se (q_ne b j p) L <;> rfl
      rw [key]
      cases q_se (q_ne b j p) L <;> rfl
    · rw [if_neg c2, decide_eq_false c2, Bool.false_and, y_ff]
  · rw [if_neg (nI_nlt (by omega) (by omega)), decide_eq_false c, Bool.false_and, y_ff]
end
