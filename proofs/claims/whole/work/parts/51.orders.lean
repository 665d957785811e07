/-! ORDERS, as numbers: tables over sets -/
def q_tb (F : (Nat → Int32) → Nat → Int32) : Nat → Nat → Int32
  | 0 => fun _ => 0
  | k + 1 => fun j => if j = k then F (q_tb F k) k else q_tb F k j
def q_fx (F : (Nat → Int32) → Nat → Int32) (j : Nat) : Int32 := F (q_tb F j) j
theorem q_tb_lt (F : (Nat → Int32) → Nat → Int32) : ∀ (k j : Nat), j < k → q_tb F k j = q_fx F j
  | k + 1, j, h => by
    show (if j = k then F (q_tb F k) k else q_tb F k j) = _
    by_cases e : j = k
    · rw [if_pos e, e]; rfl
    · rw [if_neg e]; exact q_tb_lt F k j (by omega)
def q_loc (F : (Nat → Int32) → Nat → Int32) : Prop := ∀ f g k, (∀ i, i < k → f i = g i) → F f k = F g k
theorem q_fx_eq {F : (Nat → Int32) → Nat → Int32} (h : q_loc F) (k : Nat) : q_fx F k = F (q_fx F) k := h _ _ k (fun i hi => q_tb_lt F k i hi)
def q_go (nd : Nat → Int32) (x S : Nat) : Bool := !S.testBit x && decide (nd x &&& (nI S ^^^ -1) = 0)
/-- ways to a set; ways from a set on (by how far it is from all) -/
def q_HF (nd : Nat → Int32) (n : Nat) (f : Nat → Int32) (S : Nat) : Int32 := if S = 0 then 1 else q_sm (fun p => if S.testBit p && q_go nd p (S - 2 ^ p) then f (S - 2 ^ p) else 0) n
def q_TF (nd : Nat → Int32) (n : Nat) (f : Nat → Int32) (j : Nat) : Int32 := if j = 0 then 1 else q_sm (fun p => if q_go nd p (2 ^ n - 1 - j) && decide (2 ^ p ≤ j) then f (j - 2 ^ p) else 0) n
theorem q_sm_if {c : Nat → Bool} {f g : Nat → Int32} {n : Nat} (h : ∀ p, p < n → c p = true → f p = g p) : q_sm (fun p => if c p then f p else 0) n = q_sm (fun p => if c p then g p else 0) n := q_sm_cong fun p hp => by
  cases e : c p
  · rfl
  · rw [if_pos rfl, if_pos rfl, h p hp e]
theorem q_HF_loc (nd : Nat → Int32) (n : Nat) : q_loc (q_HF nd n) := fun f g k h => by
  unfold q_HF
  by_cases e : k = 0
  · rw [if_pos e, if_pos e]
  · rw [if_neg e, if_neg e]
    exact q_sm_if fun p _ _ => h _ (by have := Nat.two_pow_pos p; omega)
theorem q_TF_loc (nd : Nat → Int32) (n : Nat) : q_loc (q_TF nd n) := fun f g k h => by
  unfold q_TF
  by_cases e : k = 0
  · rw [if_pos e, if_pos e]
  · rw [if_neg e, if_neg e]
    exact q_sm_if fun p _ _ => h _ (by have := Nat.two_pow_pos p; omega)
def q_H (nd : Nat → Int32) (n S : Nat) : Int32 := q_fx (q_HF nd n) S
def q_W (nd : Nat → Int32) (n S : Nat) : Int32 := q_fx (q_TF nd n) (2 ^ n - 1 - S)
theorem q_H_eq (nd : Nat → Int32) (n S : Nat) : q_H nd n S = if S = 0 then 1 else q_sm (fun p => if S.testBit p && q_go nd p (S - 2 ^ p) then q_H nd n (S - 2 ^ p) else 0) n := q_fx_eq (q_HF_loc nd n) S
theorem w_1 : ∀ S, S < 128 → ∀ p, p < 7 → S.testBit p = false → (S + 2 ^ p < 128 ∧ (S + 2 ^ p).testBit p = true ∧ nI S ||| ((1 : Int32) <<< (nI p &&& 31)) = nI (S + 2 ^ p)) := by decide +kernel
theorem w_2 : ∀ S, S < 128 → ∀ p, p < 7 → S.testBit p = true → (2 ^ p ≤ S ∧ (S - 2 ^ p).testBit p = false ∧ nI S &&& (((1 : Int32) <<< (nI p &&& 31)) ^^^ -1) = nI (S - 2 ^ p)) := by decide +kernel
theorem w_3 : ∀ S, S < 128 → ∀ p, p < 7 → S.testBit p = false → nI S &&& (((1 : Int32) <<< (nI p &&& 31)) ^^^ -1) = nI S := by decide +kernel
theorem w_4 : ∀ n, n < 8 → ∀ S, S < 128 → S < 2 ^ n → ∀ p, p < n → S.testBit p = false → S + 2 ^ p < 2 ^ n := by decide +kernel
theorem w_5 : ∀ S, S < 128 → ∀ p, p < 7 → ∀ i, i < 7 → i ≠ p → S.testBit p = false → (S + 2 ^ p).testBit i = S.testBit i := by decide +kernel
theorem w_6 : ∀ S, S < 128 → ∀ p, p < 7 → ∀ i, i < 7 → i ≠ p → S.testBit p = true → (S - 2 ^ p).testBit i = S.testBit i := by decide +kernel
theorem w_7 : ∀ n, n < 8 → ∀ p, p < n → (2 ^ n - 1).testBit p = true := by decide +kernel
theorem w_8 : ∀ n, n < 8 → ∀ S, S < 128 → S < 2 ^ n → S ≠ 2 ^ n - 1 → ∃ p, p < n ∧ S.testBit p = false := by decide +kernel
theorem q_go_b {nd : Nat → Int32} {x S : Nat} (h : q_go nd x S = true) : S.testBit x = false := by
  unfold q_go at h
  rw [Bool.and_eq_true] at h
  cases e : S.testBit x
  · rfl
  · rw [e] at h; exact absurd h.1 (by decide)
theorem q_W_eq (nd : Nat → Int32) {n S : Nat} (hn : n ≤ 7) (hS : S < 2 ^ n) : q_W nd n S = if S = 2 ^ n - 1 then 1 else q_sm (fun p => if q_go nd p S then q_W nd n (S + 2 ^ p) else 0) n := by
  have h128 := y_p7 hn
  unfold q_W
  rw [q_fx_eq (q_TF_loc nd n)]
  show (if 2 ^ n - 1 - S = 0 then (1 : Int32) else _) = _
  by_cases e : S = 2 ^ n - 1
  · rw [if_pos (by omega), if_pos e]
  · rw [if_neg (by omega), if_neg e]
    refine q_sm_cong fun p hp => ?_
    rw [show 2 ^ n - 1 - (2 ^ n - 1 - S) = S by omega]
    cases eg : q_go nd p S
    · rfl
    · have := w_4 n (by omega) S (by omega) hS p hp (q_go_b eg)
      rw [decide_eq_true (show 2 ^ p ≤ 2 ^ n - 1 - S by omega), Bool.and_true, if_pos rfl, if_pos rfl, show 2 ^ n - 1 - S - 2 ^ p = 2 ^ n - 1 - (S + 2 ^ p) by omega]
/-! sums -/
theorem q_sm_add (f : Nat → Int32) (a : Nat) : ∀ b, q_sm f (a + b) = q_sm f a + q_sm (fun i => f (a + i)) b
  | 0 => (Int32.add_zero _).symm
  | b + 1 => by
    show q_sm f (a + b) + f (a + b) = q_sm f a + (q_sm (fun i => f (a + i)) b + f (a + b))
    rw [q_sm_add f a b, Int32.add_assoc]
theorem q_sm_plus (f g : Nat → Int32) : ∀ n, q_sm (fun i => f i + g i) n = q_sm f n + q_sm g n
  | 0 => rfl
  | n + 1 => by
    show q_sm (fun i => f i + g i) n + (f n + g n) = (q_sm f n + f n) + (q_sm g n + g n)
    rw [q_sm_plus f g n, Int32.add_assoc, Int32.add_assoc, ← Int32.add_assoc (q_sm g n), Int32.add_comm (q_sm g n) (f n), Int32.add_assoc]
theorem q_sm_0 : ∀ n, q_sm (fun _ => 0) n = 0
  | 0 => rfl
  | n + 1 => by
    show q_sm (fun _ => 0) n + 0 = 0
    rw [q_sm_0 n]; rfl
theorem q_sm_swap (f : Nat → Nat → Int32) (n : Nat) : ∀ k, q_sm (fun i => q_sm (f i) n) k = q_sm (fun j => q_sm (fun i => f i j) k) n
  | 0 => (q_sm_0 n).symm
  | k + 1 => by
    show q_sm (fun i => q_sm (f i) n) k + q_sm (f k) n = q_sm (fun j => q_sm (fun i => f i j) k + f k j) n
    rw [q_sm_plus, q_sm_swap f n k]
theorem q_sm_mul (a : Int32) (f : Nat → Int32) : ∀ n, a * q_sm f n = q_sm (fun i => a * f i) n
  | 0 => Int32.mul_zero
  | n + 1 => by
    show a * (q_sm f n + f n) = q_sm (fun i => a * f i) n + a * f n
    rw [Int32.mul_add, q_sm_mul a f n]
/-- one term taken out -/
theorem q_sm_out {f : Nat → Int32} {o : Nat} : ∀ {n : Nat}, o < n → q_sm f n = q_sm (fun i => if i = o then 0 else f i) n + f o
  | n + 1, h => by
    show q_sm f n + f n = (q_sm (fun i => if i = o then 0 else f i) n + (if n = o then 0 else f n)) + f o
    by_cases e : n = o
    · subst e
      rw [if_pos rfl, Int32.add_zero]
      congr 1
      exact q_sm_cong fun i hi => by rw [if_neg (by omega)]
    · rw [if_neg e, q_sm_out (f := f) (o := o) (n := n) (by omega), Int32.add_assoc, Int32.add_assoc, Int32.add_comm (f o)]
theorem w_b1 {x W b i : Nat} (hW : W = 2 ^ x) (hi : i < W) : (b * (2 * W) + i).testBit x = false := by
  rw [Nat.testBit_eq_decide_div_mod_eq, ← hW]
  have hp : 0 < W := by omega
  have e : (b * (2 * W) + i) / W = 2 * b := by
    rw [show b * (2 * W) + i = i + (2 * b) * W by rw [Nat.add_comm, Nat.mul_left_comm, ← Nat.mul_assoc], Nat.add_mul_div_right _ _ hp, Nat.div_eq_of_lt hi, Nat.zero_add]
  rw [e]
  exact decide_eq_false (by omega)
theorem w_b2 {x W b i : Nat} (hW : W = 2 ^ x) (hi : i < W) : (b * (2 * W) + (W + i)).testBit x = true := by
  rw [Nat.testBit_eq_decide_div_mod_eq, ← hW]
  have hp : 0 < W := by omega
  have e : (b * (2 * W) + (W + i)) / W = 2 * b + 1 := by
    rw [show b * (2 * W) + (W + i) = i + (2 * b + 1) * W by rw [Nat.add_mul, Nat.one_mul, Nat.mul_left_comm, ← Nat.mul_assoc]; omega, Nat.add_mul_div_right _ _ hp, Nat.div_eq_of_lt hi, Nat.zero_add]
  rw [e]
  exact decide_eq_true (by omega)
theorem q_sm_bij (f : Nat → Int32) {x W : Nat} (hW : W = 2 ^ x) : ∀ b, q_sm (fun S => if S.testBit x then 0 else f S) (b * (2 * W)) = q_sm (fun R => if R.testBit x then f (R - W) else 0) (b * (2 * W))
  | 0 => by rw [Nat.zero_mul]; rfl
  | b + 1 => by
    have ih := q_sm_bij f hW b
    rw [show (b + 1) * (2 * W) = b * (2 * W) + (W + W) by rw [Nat.add_mul, Nat.one_mul]; omega, q_sm_add, q_sm_add, ih, q_sm_add, q_sm_add]
    congr 1
    have a1 : q_sm (fun i => if (b * (2 * W) + i).testBit x then 0 else f (b * (2 * W) + i)) W = q_sm (fun i => f (b * (2 * W) + i)) W := q_sm_cong fun i hi => by rw [w_b1 hW hi]; rfl
    have a2 : q_sm (fun i => if (b * (2 * W) + (W + i)).testBit x then 0 else f (b * (2 * W) + (W + i))) W = 0 := (q_sm_cong fun i hi => by rw [w_b2 hW hi]; rfl).trans (q_sm_0 W)
    have a3 : q_sm (fun i => if (b * (2 * W) + i).testBit x then f (b * (2 * W) + i - W) else 0) W = 0 := (q_sm_cong fun i hi => by rw [w_b1 hW hi]; rfl).trans (q_sm_0 W)
    have a4 : q_sm (fun i => if (b * (2 * W) + (W + i)).testBit x then f (b * (2 * W) + (W + i) - W) else 0) W = q_sm (fun i => f (b * (2 * W) + i)) W := q_sm_cong fun i hi => by rw [w_b2 hW hi, if_pos rfl, show b * (2 * W) + (W + i) - W = b * (2 * W) + i by omega]
    rw [a1, a2, a3, a4, Int32.add_zero, Int32.zero_add]
theorem q_sm_bij' (f : Nat → Int32) {n x : Nat} (hx : x < n) : q_sm (fun S => if S.testBit x then 0 else f S) (2 ^ n) = q_sm (fun R => if R.testBit x then f (R - 2 ^ x) else 0) (2 ^ n) := by
  have e : 2 ^ n = 2 ^ (n - x - 1) * (2 * 2 ^ x) := by
    rw [show 2 * 2 ^ x = 2 ^ (x + 1) by rw [Nat.pow_succ, Nat.mul_comm], ← Nat.pow_add, show n - x - 1 + (x + 1) = n by omega]
  rw [e]
  exact q_sm_bij f rfl _
