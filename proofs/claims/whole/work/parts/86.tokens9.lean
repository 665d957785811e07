/-! READ IX: a word or a NAME -/
section
variable {m m' : zMem} {n p : Nat} {b : Nat → Int32}
theorem w_7j : ∀ j, j < 21 → (128 : Int32) + nI (7 * j) / (7 : Int32) = nI (128 + j) := by decide +kernel
def q_won (b : Nat → Int32) (p L : Nat) : Int32 := match q_se (fun j => q_isw b j p L) 21 with
  | some j => (128 : Int32) + nI (7 * j) / (7 : Int32)
  | none => 2
theorem p7_wordOrName {L : Nat} (hn : n ≤ 2000) (h5 : m.1 7 0 5 = nI (p + L)) (h3 : m.2.2 7 0 3 = 0) (hb : ∀ k, k < n → m.1 34 0 k = b k) (hL : p + L ≤ n) : f7_wordOrName (nI p) m = some (q_won b p L) := by
  unfold f7_wordOrName q_won
  rw [z_se (body := f7_wordOrName_L1 (nI p) m) (s0 := 0) (fun j => q_isw b j p L) (fun j => nI (7 * j)) 21 (fun j => (128 : Int32) + nI (7 * j) / (7 : Int32)) rfl (fun j hj => ?_) ?_ (by omega)]
  · cases q_se (fun j => q_isw b j p L) 21 <;> rfl
  · unfold f7_wordOrName_L1
    rw [p0_length, Option.bind_some, if_neg (nI_nlt (by omega) (by omega))]
  · unfold f7_wordOrName_L1
    rw [p0_length, Option.bind_some, if_pos (nI_lt (by omega) (by omega)), h5, pk_sub (by omega), show p + L - p = L by omega, p7_isWord hj hn h3 hb hL, Option.bind_some]
    cases q_isw b j p L
    · rw [y_ff, if_pos rfl, y_ff, y_7, nI_add]; rfl
    · rw [if_pos rfl, if_neg n01, if_pos rfl]
end
