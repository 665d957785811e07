/-! ORDERS: who went before whom, by one need more -/
def q_nd1 (nd : Nat → Int32) (o p : Nat) : Nat → Int32 := fun x => if x = o then nd o ||| ((1 : Int32) <<< (nI p &&& 31)) else nd x
theorem y_ff {α : Type} {a b : α} : (if false = true then a else b) = b := if_neg (by decide)
theorem q_go1_ne {nd : Nat → Int32} {o p x S : Nat} (h : x ≠ o) : q_go (q_nd1 nd o p) x S = q_go nd x S := by
  unfold q_go q_nd1
  rw [if_neg h]
theorem q_go1_o {nd : Nat → Int32} {o p S : Nat} (hp : p < 32) : q_go (q_nd1 nd o p) o S = (q_go nd o S && S.testBit p) := by
  unfold q_go q_nd1
  rw [if_pos rfl]
  have e : ((nd o ||| ((1 : Int32) <<< (nI p &&& 31))) &&& (nI S ^^^ -1) = 0) ↔ (nd o &&& (nI S ^^^ -1) = 0 ∧ S.testBit p = true) := by
    rw [b_eq0, b_eq0]
    constructor
    · intro h
      refine ⟨fun i hi => ?_, ?_⟩
      · have := h i hi
        rw [b_and, b_or, b_not hi] at this
        rw [b_and, b_not hi]
        cases e1 : bt (nd o) i
        · rfl
        · rw [e1, Bool.true_or] at this; exact this
      · have := h p hp
        rw [b_and, b_or, b_not hp, b_p p hp hp, decide_eq_true rfl, Bool.or_true, Bool.true_and, b_n _ p hp] at this
        cases e1 : S.testBit p
        · rw [e1] at this; exact absurd this (by decide)
        · rfl
    · rintro ⟨h1, h2⟩ i hi
      have := h1 i hi
      rw [b_and, b_not hi] at this
      rw [b_and, b_or, b_not hi, b_p p hp hi]
      by_cases e1 : i = p
      · rw [e1, b_n _ p hp, h2]; simp
      · rw [decide_eq_false e1, Bool.or_false]; exact this
  by_cases c1 : nd o &&& (nI S ^^^ -1) = 0
  · by_cases c2 : S.testBit p = true
    · rw [decide_eq_true (e.mpr ⟨c1, c2⟩), decide_eq_true c1, c2]
      cases S.testBit o <;> rfl
    · have c2' : S.testBit p = false := by
        cases e1 : S.testBit p
        · rfl
        · exact absurd e1 c2
      rw [decide_eq_false (fun q => c2 (e.mp q).2), c2', Bool.and_false, Bool.and_false]
  · rw [decide_eq_false (fun q => c1 (e.mp q).1), decide_eq_false c1, Bool.and_false, Bool.false_and]
/-- sets that have o are left as they were -/
theorem q_W1_o {nd : Nat → Int32} {n o p : Nat} (hn : n ≤ 7) (ho : o < n) : ∀ (d S : Nat), S < 2 ^ n → 2 ^ n - S ≤ d → S.testBit o = true → q_W (q_nd1 nd o p) n S = q_W nd n S := by
  have h128 := y_p7 hn
  intro d
  induction d with
  | zero => intro S h1 h2 _; omega
  | succ d ih =>
    intro S h1 h2 hb
    rw [q_W_eq _ hn h1, q_W_eq _ hn h1]
    by_cases e : S = 2 ^ n - 1
    · rw [if_pos e, if_pos e]
    · rw [if_neg e, if_neg e]
      refine q_sm_cong fun x hx => ?_
      by_cases ex : x = o
      · have f : ∀ nd' : Nat → Int32, q_go nd' x S = false := fun nd' => by
          unfold q_go
          rw [ex, hb]; rfl
        rw [f, f, y_ff, y_ff]
      · rw [q_go1_ne ex]
        cases eg : q_go nd x S
        · rw [y_ff, y_ff]
        · have hb' := q_go_b eg
          have hlt := w_4 n (by omega) S (by omega) h1 x hx hb'
          have hpos := Nat.two_pow_pos x
          rw [if_pos rfl, if_pos rfl]
          refine ih (S + 2 ^ x) hlt (by omega) ?_
          rw [w_5 S (by omega) x (by omega) o (by omega) (fun q => ex q.symm) hb']
          exact hb
theorem q_H_0 (nd : Nat → Int32) (n : Nat) : q_H nd n 0 = 1 := by rw [q_H_eq, if_pos rfl]
/-- in how many orders p went before o -/
def q_ahd (nd : Nat → Int32) (n p o : Nat) : Int32 := q_sm (fun S => if S.testBit p && q_go nd o S then q_H nd n S * q_W nd n (S + 2 ^ o) else 0) (2 ^ n)
theorem y_can1 {a b c : Int32} (h : a + b = a + c) : b = c := by
  have := congrArg (fun x => -a + x) h
  simp only [← Int32.add_assoc] at this
  rw [Int32.add_left_neg, Int32.zero_add, Int32.zero_add] at this
  exact this
theorem q_ahead {nd : Nat → Int32} {n p o : Nat} (hn : n ≤ 7) (hp : p < n) (ho : o < n) : q_ahd nd n p o = q_W (q_nd1 nd o p) n 0 := by
  have h128 := y_p7 hn
  have hpos := Nat.two_pow_pos n
  have hH := q_H_eq nd n
  have hW1 : ∀ S, S < 2 ^ n → S.testBit o = false → q_W (q_nd1 nd o p) n S = q_sm (fun x => if x = o then 0 else if q_go nd x S then q_W (q_nd1 nd o p) n (S + 2 ^ x) else 0) n + (if S.testBit p && q_go nd o S then q_W nd n (S + 2 ^ o) else 0) := fun S hS hb => by
    have hne : S ≠ 2 ^ n - 1 := fun e => by
      have := w_7 n (by omega) o ho
      rw [← e, hb] at this
      exact absurd this (by decide)
    rw [q_W_eq _ hn hS, if_neg hne, q_sm_out ho]
    congr 1
    · refine q_sm_cong fun x hx => ?_
      by_cases ex : x = o
      · rw [if_pos ex, if_pos ex]
      · rw [if_neg ex, if_neg ex, q_go1_ne ex]
    · rw [q_go1_o (by omega), Bool.and_comm]
      cases eg : (S.testBit p && q_go nd o S)
      · rw [y_ff, y_ff]
      · rw [Bool.and_eq_true] at eg
        have hlt := w_4 n (by omega) S (by omega) hS o ho hb
        rw [if_pos rfl, if_pos rfl]
        exact q_W1_o hn ho (2 ^ n) _ hlt (Nat.sub_le _ _) (w_1 S (by omega) o (by omega) hb).2.1
  -- the sum over sets without o
  have s1 : q_sm (fun S => if S.testBit o then 0 else q_H nd n S * q_W (q_nd1 nd o p) n S) (2 ^ n) = q_sm (fun S => q_sm (fun x => if S.testBit o then 0 else if x = o then 0 else if q_go nd x S then q_H nd n S * q_W (q_nd1 nd o p) n (S + 2 ^ x) else 0) n) (2 ^ n) + q_ahd nd n p o := by
    unfold q_ahd
    rw [← q_sm_plus]
    refine q_sm_cong fun S hS => ?_
    cases eo : S.testBit o
    · rw [if_neg (by decide), hW1 S hS eo, Int32.mul_add, q_sm_mul]
      congr 1
      · refine q_sm_cong fun x hx => ?_
        by_cases ex : x = o
        · rw [if_pos ex, if_neg (show ¬ false = true by decide), if_pos ex, Int32.mul_zero]
        · rw [if_neg ex, if_neg (show ¬ false = true by decide), if_neg ex]
          cases q_go nd x S
          · rw [if_neg (by decide), if_neg (by decide), Int32.mul_zero]
          · rw [if_pos rfl, if_pos rfl]
      · cases (S.testBit p && q_go nd o S)
        · rw [if_neg (by decide), if_neg (by decide), Int32.mul_zero]
        · rw [if_pos rfl, if_pos rfl]
    · rw [if_pos rfl]
      have f : q_go nd o S = false := by unfold q_go; rw [eo]; rfl
      rw [f, Bool.and_false, if_neg (by decide), Int32.add_zero]
      exact ((q_sm_cong fun x hx => if_pos rfl).trans (q_sm_0 n)).symm
  have s2 : q_sm (fun S => q_sm (fun x => if S.testBit o then 0 else if x = o then 0 else if q_go nd x S then q_H nd n S * q_W (q_nd1 nd o p) n (S + 2 ^ x) else 0) n) (2 ^ n) = q_sm (fun R => if R.testBit o then 0 else if R = 0 then 0 else q_H nd n R * q_W (q_nd1 nd o p) n R) (2 ^ n) := by
    rw [q_sm_swap]
    have s3 : ∀ x, x < n → q_sm (fun S => if S.testBit o then 0 else if x = o then 0 else if q_go nd x S then q_H nd n S * q_W (q_nd1 nd o p) n (S + 2 ^ x) else 0) (2 ^ n) = q_sm (fun R => if R.testBit o then 0 else if R.testBit x && q_go nd x (R - 2 ^ x) then q_H nd n (R - 2 ^ x) * q_W (q_nd1 nd o p) n R else 0) (2 ^ n) := fun x hx => by
      by_cases ex : x = o
      · refine q_sm_cong fun S hS => ?_
        cases eo : S.testBit o
        · rw [if_neg (show ¬ false = true by decide), if_pos ex, if_neg (show ¬ false = true by decide), ex, eo, Bool.false_and, if_neg (show ¬ false = true by decide)]
        · rw [if_pos rfl, if_pos rfl]
      · have e1 : q_sm (fun S => if S.testBit o then 0 else if x = o then 0 else if q_go nd x S then q_H nd n S * q_W (q_nd1 nd o p) n (S + 2 ^ x) else 0) (2 ^ n) = q_sm (fun S => if S.testBit x then 0 else if S.testBit o then 0 else if q_go nd x S then q_H nd n S * q_W (q_nd1 nd o p) n (S + 2 ^ x) else 0) (2 ^ n) := q_sm_cong fun S hS => by
          rw [if_neg ex]
          cases eb : S.testBit x
          · rw [if_neg (show ¬ false = true by decide)]
          · rw [if_pos (show true = true from rfl)]
            have f : q_go nd x S = false := by unfold q_go; rw [eb]; rfl
            rw [f]
            cases S.testBit o <;> rfl
        rw [e1, q_sm_bij' _ hx]
        refine q_sm_cong fun R hR => ?_
        cases eb : R.testBit x
        · rw [if_neg (by decide), Bool.false_and]
          cases R.testBit o <;> rfl
        · obtain ⟨l1, l2, _⟩ := w_2 R (by omega) x (by omega) eb
          rw [if_pos rfl, w_6 R (by omega) x (by omega) o (by omega) (fun q => ex q.symm) eb, Bool.true_and, show R - 2 ^ x + 2 ^ x = R by omega]
    rw [q_sm_cong s3, ← q_sm_swap (fun R x => if R.testBit o then 0 else if R.testBit x && q_go nd x (R - 2 ^ x) then q_H nd n (R - 2 ^ x) * q_W (q_nd1 nd o p) n R else 0)]
    refine q_sm_cong fun R hR => ?_
    cases eo : R.testBit o
    · rw [if_neg (by decide)]
      by_cases e0 : R = 0
      · rw [if_pos e0]
        refine (q_sm_cong fun x hx => ?_).trans (q_sm_0 n)
        rw [if_neg (by decide), e0, Nat.zero_testBit, Bool.false_and, if_neg (by decide)]
      · rw [if_neg e0, hH R, if_neg e0, Int32.mul_comm, q_sm_mul]
        refine q_sm_cong fun x hx => ?_
        rw [if_neg (by decide)]
        cases (R.testBit x && q_go nd x (R - 2 ^ x))
        · rw [if_neg (by decide), if_neg (by decide), Int32.mul_zero]
        · rw [if_pos rfl, if_pos rfl, Int32.mul_comm]
    · rw [if_pos rfl]
      exact (q_sm_cong fun x hx => if_pos rfl).trans (q_sm_0 n)
  have s4 : q_sm (fun S => if S.testBit o then 0 else q_H nd n S * q_W (q_nd1 nd o p) n S) (2 ^ n) = q_sm (fun R => if R.testBit o then 0 else if R = 0 then 0 else q_H nd n R * q_W (q_nd1 nd o p) n R) (2 ^ n) + q_W (q_nd1 nd o p) n 0 := by
    rw [q_sm_out hpos]
    congr 1
    · refine q_sm_cong fun R hR => ?_
      by_cases e0 : R = 0
      · rw [if_pos e0, if_pos e0]
        cases R.testBit o <;> rfl
      · rw [if_neg e0, if_neg e0]
    · rw [Nat.zero_testBit, if_neg (by decide), q_H_0, Int32.one_mul]
  rw [s2, s4] at s1
  exact (y_can1 s1).symm
