/-! RULES FOR THE PURE PART: what a function answers (zw), loops, numbers, bits, folds -/
def zw {α : Type} (x : Option α) (Q : α → Prop) : Prop := ∃ a, x = some a ∧ Q a
theorem zw_some {α : Type} {a : α} {Q : α → Prop} : zw (some a) Q ↔ Q a := ⟨fun ⟨_, h, q⟩ => by cases h; exact q, fun q => ⟨a, rfl, q⟩⟩
theorem zw_bind {α β : Type} {x : Option α} {f : α → Option β} {Q : β → Prop} : zw (x.bind f) Q ↔ zw x (fun a => zw (f a) Q) := by
  constructor
  · rintro ⟨b, h, q⟩
    obtain ⟨a, ha, hb⟩ := z_bd h
    exact ⟨a, ha, b, hb, q⟩
  · rintro ⟨a, ha, b, hb, q⟩
    exact ⟨b, by rw [ha]; exact hb, q⟩
theorem zw_let {α β : Type} {a : α} {f : α → Option β} {Q : β → Prop} : zw (z_let a f) Q ↔ zw (f a) Q := Iff.rfl
theorem zw_ite {α : Type} {c : Prop} [Decidable c] {x y : Option α} {Q : α → Prop} : zw (if c then x else y) Q ↔ ((c → zw x Q) ∧ (¬ c → zw y Q)) := by
  by_cases h : c
  · rw [if_pos h]; exact ⟨fun q => ⟨fun _ => q, fun n => absurd h n⟩, fun q => q.1 h⟩
  · rw [if_neg h]; exact ⟨fun q => ⟨fun n => absurd n h, fun _ => q⟩, fun q => q.2 h⟩
theorem zw_t {α : Type} {c : Prop} [Decidable c] {x y : Option α} {Q : α → Prop} (h : c) (q : zw x Q) : zw (if c then x else y) Q := by rw [if_pos h]; exact q
theorem zw_f {α : Type} {c : Prop} [Decidable c] {x y : Option α} {Q : α → Prop} (h : ¬ c) (q : zw y Q) : zw (if c then x else y) Q := by rw [if_neg h]; exact q
theorem zw_c {α : Type} {c : Prop} [Decidable c] {x y : Option α} {Q : α → Prop} (h : c → zw x Q) (q : ¬ c → zw y Q) : zw (if c then x else y) Q := zw_ite.mpr ⟨h, q⟩
theorem zw_mono {α : Type} {x : Option α} {Q Q' : α → Prop} (h : zw x Q) (k : ∀ a, Q a → Q' a) : zw x Q' := by
  obtain ⟨a, e, q⟩ := h
  exact ⟨a, e, k a q⟩
theorem zw_b {α β : Type} {x : Option α} {f : α → Option β} {Q : α → Prop} {Q' : β → Prop} (h : zw x Q) (k : ∀ a, Q a → zw (f a) Q') : zw (x.bind f) Q' := zw_bind.mpr (zw_mono h k)
theorem zw_eq {α β : Type} {x : Option α} {a : α} {f : α → Option β} {Q : β → Prop} (h : x = some a) (k : zw (f a) Q) : zw (x.bind f) Q := by rw [h]; exact k
/-- a loop with an invariant that counts -/
theorem zw_itA {σ ρ : Type} {body : σ → Option (σ ⊕ ρ)} (I : Nat → σ → Prop) (N : Nat) {Q : ρ → Prop} (hs : ∀ k s, I k s → zw (body s) (Sum.elim (fun s' => I (k + 1) s' ∧ k < N) Q)) : ∀ (n k : Nat) (s : σ), I k s → k ≤ N → N < n + k → zw (z_it body n s) Q
  | 0, k, s, _, h1, h2 => by omega
  | n + 1, k, s, hI, h1, h2 => by
    obtain ⟨x, hb, hx⟩ := hs k s hI
    match x, hb, hx with
    | .inl s', hb, hx =>
      obtain ⟨e, he, hq⟩ := zw_itA I N hs n (k + 1) s' hx.1 hx.2 (by omega)
      exact ⟨e, by unfold z_it; rw [hb]; exact he, hq⟩
    | .inr e, hb, hx => exact ⟨e, by unfold z_it; rw [hb], hx⟩
theorem zw_it {σ ρ : Type} {body : σ → Option (σ ⊕ ρ)} {s : σ} (I : Nat → σ → Prop) (N : Nat) {Q : ρ → Prop} (h0 : I 0 s) (hs : ∀ k s, I k s → zw (body s) (Sum.elim (fun s' => I (k + 1) s' ∧ k < N) Q)) (hN : N < z_fu) : zw (z_it body z_fu s) Q := zw_itA I N hs z_fu 0 s h0 (Nat.zero_le N) (by omega)
/-- a loop that goes through s 0 .. s N, read only: its closed form -/
theorem z_it_e {σ ρ : Type} {body : σ → Option (σ ⊕ ρ)} (s : Nat → σ) (N : Nat) (e : ρ) {s0 : σ} (h0 : s0 = s 0) (hs : ∀ k, k < N → body (s k) = some (.inl (s (k + 1)))) (he : body (s N) = some (.inr e)) (hN : N < z_fu) : z_it body z_fu s0 = some e := by rw [h0]; exact z_it_run s N e hs he hN
/-- a loop that may leave early, at k0 -/
theorem z_it_x {σ ρ : Type} {body : σ → Option (σ ⊕ ρ)} (s : Nat → σ) (N : Nat) (e : ρ) {s0 : σ} (h0 : s0 = s 0) (k0 : Nat) (hk : k0 ≤ N) (hs : ∀ k, k < k0 → body (s k) = some (.inl (s (k + 1)))) (he : body (s k0) = some (.inr e)) (hN : N < z_fu) : z_it body z_fu s0 = some e := by rw [h0]; exact z_it_run s k0 e hs he (by omega)
theorem z_it_eb {σ ρ β : Type} {body : σ → Option (σ ⊕ ρ)} {f : ρ → Option β} {b : β} (s : Nat → σ) (N : Nat) (e : ρ) {s0 : σ} (h0 : s0 = s 0) (hs : ∀ k, k < N → body (s k) = some (.inl (s (k + 1)))) (he : body (s N) = some (.inr e)) (hN : N < z_fu) (hf : f e = some b) : (z_it body z_fu s0).bind f = some b := by
  rw [z_it_e s N e h0 hs he hN]
  exact hf
theorem z_fu_lt {n : Nat} (h : n < 5000) : n < z_fu := h
/-! numbers -/
theorem y_0 : (0 : Int32) = nI 0 := rfl
theorem y_1 : (1 : Int32) = nI 1 := rfl
theorem y_2 : (2 : Int32) = nI 2 := rfl
theorem y_3 : (3 : Int32) = nI 3 := rfl
theorem y_4 : (4 : Int32) = nI 4 := rfl
theorem y_5 : (5 : Int32) = nI 5 := rfl
theorem y_6 : (6 : Int32) = nI 6 := rfl
theorem y_7 : (7 : Int32) = nI 7 := rfl
theorem y_8 : (8 : Int32) = nI 8 := rfl
theorem y_14 : (14 : Int32) = nI 14 := rfl
theorem y_20 : (20 : Int32) = nI 20 := rfl
theorem y_21 : (21 : Int32) = nI 21 := rfl
theorem y_28 : (28 : Int32) = nI 28 := rfl
theorem y_33 : (33 : Int32) = nI 33 := rfl
theorem y_34 : (34 : Int32) = nI 34 := rfl
theorem y_40 : (40 : Int32) = nI 40 := rfl
theorem y_99 : (99 : Int32) = nI 99 := rfl
theorem y_100 : (100 : Int32) = nI 100 := rfl
theorem y_128 : (128 : Int32) = nI 128 := rfl
theorem y_in {k n : Nat} (h : k < n) (hn : n < 2147483648) : z_in (nI k) n = true := z_in_n h hn
theorem y_cl {n : Nat} (h : n < 2147483648) : (nI n).toNatClampNeg = n := nI_clamp h
theorem y_lt {a b : Nat} (ha : a < 2147483648) (hb : b < 2147483648) : (nI a < nI b) = (a < b) := propext (nI_ltI ha hb)
theorem y_le {a b : Nat} (ha : a < 2147483648) (hb : b < 2147483648) : (nI a ≤ nI b) = (a ≤ b) := propext (nI_leI ha hb)
theorem y_eq {a b : Nat} (ha : a < 2147483648) (hb : b < 2147483648) : (nI a = nI b) = (a = b) := propext (nI_eq ha hb)
theorem y_lt0 {a : Nat} (ha : a < 2147483648) : (nI a < 0) = False := eq_false (nI_pos ha)
theorem y_eq0 {a : Nat} (ha : a < 2147483648) : (nI a = 0) = (a = 0) := y_eq (b := 0) ha (by decide)
theorem y_i {a b : Int32} : (a < b) = (a.toInt < b.toInt) := propext Int32.lt_iff_toInt_lt
theorem y_il {a b : Int32} : (a ≤ b) = (a.toInt ≤ b.toInt) := propext Int32.le_iff_toInt_le
theorem y_ie {a b : Int32} : (a = b) = (a.toInt = b.toInt) := propext Int32.toInt_inj.symm
theorem y_ti {a : Nat} (ha : a < 2147483648) : (nI a).toInt = (a : Int) := nI_toInt ha
theorem y_m2 : (-2 : Int32).toInt = -2 := rfl
theorem y_m1 : (-1 : Int32).toInt = -1 := rfl
theorem y_t0 : (0 : Int32).toInt = 0 := rfl
theorem y_ne2 {a : Nat} (ha : a < 2147483648) : (nI a = -2) = False := eq_false (by rw [y_ie, y_ti ha, y_m2]; omega)
theorem y_ne1 {a : Nat} (ha : a < 2147483648) : (nI a = -1) = False := eq_false (by rw [y_ie, y_ti ha, y_m1]; omega)
theorem y_2lt : ((-2 : Int32) < 0) = True := by decide
theorem y_1lt : ((-1 : Int32) < 0) = True := by decide
theorem y_22 : ((-2 : Int32) = -2) = True := eq_self _
theorem y_s1 (n : Nat) : nI n + 1 = nI (n + 1) := nI_1 n
/-- any int is below 0 or a number -/
theorem y_or (x : Int32) : x < 0 ∨ ∃ j : Nat, j < 2147483648 ∧ x = nI j := by
  by_cases h : x < 0
  · exact Or.inl h
  · exact Or.inr (nI_of h)
/-- 0 ≤ x < n as an int, by cases -/
theorem y_ix (x : Int32) {n : Nat} (hn : n < 2147483648) : x < 0 ∨ (nI n ≤ x ∧ ¬ x < 0) ∨ ∃ j : Nat, j < n ∧ x = nI j := by
  rcases y_or x with h | ⟨j, hj, rfl⟩
  · exact Or.inl h
  · by_cases hjn : j < n
    · exact Or.inr (Or.inr ⟨j, hjn, rfl⟩)
    · refine Or.inr (Or.inl ⟨?_, nI_pos hj⟩)
      rw [y_le hn hj]
      omega
/-! bits -/
def bt (x : Int32) (i : Nat) : Bool := x.toBitVec.getLsbD i
theorem b_ext {x y : Int32} (h : ∀ i, i < 32 → bt x i = bt y i) : x = y := Int32.toBitVec_inj.mp (BitVec.eq_of_getLsbD_eq (fun i hi => h i hi))
theorem b_or (x y : Int32) (i : Nat) : bt (x ||| y) i = (bt x i || bt y i) := by unfold bt; rw [Int32.toBitVec_or, BitVec.getLsbD_or]
theorem b_and (x y : Int32) (i : Nat) : bt (x &&& y) i = (bt x i && bt y i) := by unfold bt; rw [Int32.toBitVec_and, BitVec.getLsbD_and]
theorem b_xor (x y : Int32) (i : Nat) : bt (x ^^^ y) i = (bt x i ^^ bt y i) := by unfold bt; rw [Int32.toBitVec_xor, BitVec.getLsbD_xor]
theorem b_big {x : Int32} {i : Nat} (h : 32 ≤ i) : bt x i = false := BitVec.getLsbD_of_ge _ _ h
theorem b_m1 : ∀ i, i < 32 → bt (-1) i = true := by decide +kernel
theorem b_0 (i : Nat) : bt 0 i = false := BitVec.getLsbD_zero
theorem s_l : ∀ n, n < 32 → ((nI n &&& 31).toBitVec.smod 32).toNat = n := by decide +kernel
theorem b_shl (n : Nat) (hn : n < 32) (x : Int32) {i : Nat} (hi : i < 32) : bt (x <<< (nI n &&& 31)) i = (decide (n ≤ i) && bt x (i - n)) := by
  unfold bt
  rw [Int32.toBitVec_shiftLeft]
  show (x.toBitVec <<< ((nI n &&& 31).toBitVec.smod 32).toNat).getLsbD i = _
  rw [s_l n hn, BitVec.getLsbD_shiftLeft]
  rcases Nat.lt_or_ge i n with h | h
  · simp [h, Nat.not_le.mpr h]
  · simp [hi, h, Nat.not_lt.mpr h]
theorem b_sshr (n : Nat) (hn : n < 32) (x : Int32) {i : Nat} (hi : i < 32) : bt (x >>> (nI n &&& 31)) i = if n + i < 32 then bt x (n + i) else bt x 31 := by
  unfold bt
  rw [Int32.toBitVec_shiftRight]
  show (x.toBitVec.sshiftRight ((nI n &&& 31).toBitVec.smod 32).toNat).getLsbD i = _
  rw [s_l n hn, BitVec.getLsbD_sshiftRight, BitVec.msb_eq_getLsbD_last]
  simp [hi]
theorem b_1 : ∀ i, i < 32 → bt 1 i = decide (i = 0) := by decide +kernel
/-- 1 << n -/
theorem b_p (n : Nat) (hn : n < 32) {i : Nat} (hi : i < 32) : bt (1 <<< (nI n &&& 31)) i = decide (i = n) := by
  rw [b_shl n hn _ hi]
  by_cases h : n ≤ i
  · rw [b_1 _ (by omega), decide_eq_true h, Bool.true_and]
    exact decide_eq_decide.mpr ⟨fun e => by omega, fun e => by omega⟩
  · rw [decide_eq_false h, Bool.false_and]
    exact (decide_eq_false (by omega)).symm
theorem b_not {x : Int32} {i : Nat} (hi : i < 32) : bt (x ^^^ (-1)) i = !bt x i := by rw [b_xor, b_m1 i hi]; cases bt x i <;> rfl
theorem b_bit (x : Int32) (n : Nat) (hn : n < 32) : (x >>> (nI n &&& 31)) &&& 1 = if bt x n then 1 else 0 := by
  apply b_ext
  intro i hi
  rw [b_and, b_1 i hi, b_sshr n hn x hi]
  by_cases h : i = 0
  · subst h
    rw [if_pos (by omega), decide_eq_true rfl, Bool.and_true, Nat.add_zero]
    cases bt x n
    · rfl
    · rfl
  · rw [decide_eq_false h, Bool.and_false]
    cases bt x n
    · exact (b_0 i).symm
    · show false = bt 1 i
      rw [b_1 i hi, decide_eq_false h]
theorem y_has (x : Int32) (n : Nat) (hn : n < 32) : f8_has x (nI n) = if bt x n then 1 else 0 := by
  unfold f8_has
  rw [b_bit x n hn]
  cases bt x n <;> rfl
theorem y_has0 (x : Int32) (n : Nat) (hn : n < 32) : (f8_has x (nI n) = 0) = (bt x n = false) := by
  rw [y_has x n hn]
  cases bt x n
  · exact propext ⟨fun _ => rfl, fun _ => rfl⟩
  · exact propext ⟨fun h => absurd h (by decide), fun h => absurd h (by decide)⟩
theorem b_n (n i : Nat) (hi : i < 32) : bt (nI n) i = n.testBit i := by
  show (BitVec.ofNat 32 n).getLsbD i = _
  rw [BitVec.getLsbD_ofNat]
  simp [hi]
theorem b_eq0 {x : Int32} : x = 0 ↔ ∀ i, i < 32 → bt x i = false := ⟨fun h i _ => by rw [h, b_0], fun h => b_ext fun i hi => by rw [h i hi, b_0]⟩
/-- a mask of the first n by a test -/
def q_mk (c : Nat → Bool) : Nat → Int32
  | 0 => 0
  | n + 1 => if c n then q_mk c n ||| (1 <<< (nI n &&& 31)) else q_mk c n
theorem q_mk_b (c : Nat → Bool) : ∀ (n : Nat), n ≤ 32 → ∀ i, i < 32 → bt (q_mk c n) i = (decide (i < n) && c i)
  | 0, _, i, _ => by rw [q_mk, b_0, decide_eq_false (by omega), Bool.false_and]
  | n + 1, hn, i, hi => by
    rw [q_mk]
    have ih := q_mk_b c n (by omega) i hi
    by_cases hc : c n = true
    · rw [if_pos hc, b_or, ih, b_p n (by omega) hi]
      by_cases h : i = n
      · subst h
        rw [decide_eq_true rfl, Bool.or_true, decide_eq_true (by omega), hc]; rfl
      · rw [decide_eq_false h, Bool.or_false]
        congr 1
        exact decide_eq_decide.mpr ⟨fun e => by omega, fun e => by omega⟩
    · rw [if_neg hc, ih]
      by_cases h : i = n
      · subst h
        rw [decide_eq_false (by omega), Bool.false_and, decide_eq_true (by omega)]
        cases hh : c i
        · rfl
        · exact absurd hh hc
      · congr 1
        exact decide_eq_decide.mpr ⟨fun e => by omega, fun e => by omega⟩
theorem q_mk_eq {x : Int32} {c : Nat → Bool} {n : Nat} (hn : n ≤ 32) (h : ∀ i, i < 32 → bt x i = (decide (i < n) && c i)) : x = q_mk c n := b_ext fun i hi => by rw [h i hi, q_mk_b c n hn i hi]
theorem q_mk_cong {c d : Nat → Bool} {n : Nat} (h : ∀ i, i < n → c i = d i) : q_mk c n = q_mk d n := by
  induction n with
  | zero => rfl
  | succ n ih => rw [q_mk, q_mk, ih fun i hi => h i (by omega), h n (by omega)]
/-- a mask as a number -/
def q_nk (c : Nat → Bool) : Nat → Nat
  | 0 => 0
  | n + 1 => if c n then q_nk c n + 2 ^ n else q_nk c n
theorem q_nk_lt (c : Nat → Bool) : ∀ n, q_nk c n < 2 ^ n
  | 0 => by rw [q_nk]; omega
  | n + 1 => by
    have ih := q_nk_lt c n
    rw [q_nk, Nat.pow_succ]
    by_cases h : c n = true
    · rw [if_pos h]; omega
    · rw [if_neg h]; omega
theorem q_nk_b (c : Nat → Bool) : ∀ (n i : Nat), (q_nk c n).testBit i = (decide (i < n) && c i)
  | 0, i => by rw [q_nk, Nat.zero_testBit, decide_eq_false (by omega), Bool.false_and]
  | n + 1, i => by
    have ih := q_nk_b c n i
    have hl := q_nk_lt c n
    rw [q_nk]
    by_cases hc : c n = true
    · rw [if_pos hc, Nat.add_comm]
      by_cases h : i = n
      · subst h
        rw [Nat.testBit_two_pow_add_eq, Nat.testBit_lt_two_pow hl, decide_eq_true (by omega), hc]; rfl
      · by_cases h2 : i < n
        · rw [Nat.testBit_two_pow_add_gt (by omega), ih, decide_eq_true h2, decide_eq_true (by omega)]
        · rw [decide_eq_false (by omega), Bool.false_and]
          exact Nat.testBit_lt_two_pow (Nat.lt_of_lt_of_le (by rw [Nat.pow_succ]; omega : 2 ^ n + q_nk c n < 2 ^ (n + 1)) (Nat.pow_le_pow_right (by omega) (by omega)))
    · rw [if_neg hc, ih]
      by_cases h : i = n
      · subst h
        rw [decide_eq_false (by omega), decide_eq_true (by omega)]
        cases hh : c i
        · rfl
        · exact absurd hh hc
      · congr 1
        exact decide_eq_decide.mpr ⟨fun e => by omega, fun e => by omega⟩
theorem q_mk_n (c : Nat → Bool) {n : Nat} (hn : n ≤ 32) : q_mk c n = nI (q_nk c n) := b_ext fun i hi => by rw [q_mk_b c n hn i hi, b_n _ i hi, q_nk_b]
/-- any int whose bits lie below n is a number below 2 ^ n -/
theorem b_of {x : Int32} {n : Nat} (hn : n ≤ 31) (h : ∀ i, n ≤ i → i < 32 → bt x i = false) : ∃ k, k < 2 ^ n ∧ x = nI k := by
  refine ⟨q_nk (bt x) n, q_nk_lt _ n, ?_⟩
  rw [← q_mk_n _ (by omega)]
  refine q_mk_eq (by omega) fun i hi => ?_
  by_cases hin : i < n
  · rw [decide_eq_true hin, Bool.true_and]
  · rw [decide_eq_false hin, Bool.false_and, h i (by omega) hi]
/-- who is first with the most -/
def q_lg (c : Nat → Bool) (g : Nat → Int32) : Nat → Int32
  | 0 => -2
  | p + 1 => if c p then (if q_lg c g p < 0 ∨ g (q_lg c g p).toNatClampNeg < g p then nI p else q_lg c g p) else q_lg c g p
theorem q_lg_in (c : Nat → Bool) (g : Nat → Int32) : ∀ n, q_lg c g n = -2 ∨ ∃ j, j < n ∧ q_lg c g n = nI j ∧ c j = true
  | 0 => Or.inl rfl
  | n + 1 => by
    rw [q_lg]
    by_cases hc : c n = true
    · rw [if_pos hc]
      by_cases h : q_lg c g n < 0 ∨ g (q_lg c g n).toNatClampNeg < g n
      · rw [if_pos h]; exact Or.inr ⟨n, by omega, rfl, hc⟩
      · rw [if_neg h]
        rcases q_lg_in c g n with h | ⟨j, hj, e, hc⟩
        · exact Or.inl h
        · exact Or.inr ⟨j, by omega, e, hc⟩
    · rw [if_neg hc]
      rcases q_lg_in c g n with h | ⟨j, hj, e, hc⟩
      · exact Or.inl h
      · exact Or.inr ⟨j, by omega, e, hc⟩
theorem q_lg_cong {c d : Nat → Bool} {g h : Nat → Int32} : ∀ {n : Nat}, (∀ i, i < n → c i = d i) → (∀ i, i < n → g i = h i) → n < 2147483648 → q_lg c g n = q_lg d h n
  | 0, _, _, _ => rfl
  | n + 1, h1, h2, hn => by
    have ih := q_lg_cong (n := n) (fun i hi => h1 i (by omega)) (fun i hi => h2 i (by omega)) (by omega)
    rw [q_lg, q_lg, ih, h1 n (by omega), h2 n (by omega)]
    rcases q_lg_in d h n with e | ⟨j, hj, e, _⟩
    · rw [e]
      have hb : ∀ (u v : Int32), ((-2 : Int32) < 0 ∨ u < v) = True := fun u v => eq_true (Or.inl (by decide))
      simp only [hb, if_true]
    · rw [e, y_cl (by omega), h2 j (by omega)]
theorem q_lg_more {c : Nat → Bool} {g : Nat → Int32} {n : Nat} : ∀ d, (∀ i, n ≤ i → i < n + d → c i = false) → q_lg c g (n + d) = q_lg c g n
  | 0, _ => rfl
  | d + 1, h => by
    rw [← Nat.add_assoc, q_lg, h (n + d) (by omega) (by omega)]
    exact q_lg_more d fun i h1 h2 => h i h1 (by omega)
theorem q_lg_to {c : Nat → Bool} {g : Nat → Int32} {n N : Nat} (hn : n ≤ N) (h : ∀ i, n ≤ i → i < N → c i = false) : q_lg c g N = q_lg c g n := by
  obtain ⟨d, rfl⟩ := Nat.exists_eq_add_of_le hn
  exact q_lg_more d h
/-- sums -/
def q_sm (f : Nat → Int32) : Nat → Int32
  | 0 => 0
  | n + 1 => q_sm f n + f n
theorem q_sm_cong {f g : Nat → Int32} : ∀ {n : Nat}, (∀ i, i < n → f i = g i) → q_sm f n = q_sm g n
  | 0, _ => rfl
  | n + 1, h => by rw [q_sm, q_sm, q_sm_cong fun i hi => h i (by omega), h n (by omega)]
theorem q_sm_more {f : Nat → Int32} {n : Nat} : ∀ d, (∀ i, n ≤ i → i < n + d → f i = 0) → q_sm f (n + d) = q_sm f n
  | 0, _ => rfl
  | d + 1, h => by
    rw [← Nat.add_assoc, q_sm, h (n + d) (by omega) (by omega), Int32.add_zero]
    exact q_sm_more d fun i h1 h2 => h i h1 (by omega)
theorem q_sm_to {f : Nat → Int32} {n N : Nat} (hn : n ≤ N) (h : ∀ i, n ≤ i → i < N → f i = 0) : q_sm f N = q_sm f n := by
  obtain ⟨d, rfl⟩ := Nat.exists_eq_add_of_le hn
  exact q_sm_more d h
/-! frames: what is left as it was -/
def z_fr (S : Nat → Nat → Prop) (m m' : zMem) : Prop := (∀ c i, ¬ S c i → m'.1 c i = m.1 c i) ∧ m'.2 = m.2
theorem z_fr_r {S : Nat → Nat → Prop} (m : zMem) : z_fr S m m := ⟨fun _ _ _ => rfl, rfl⟩
theorem z_fr_t {S : Nat → Nat → Prop} {m m1 m2 : zMem} (h : z_fr S m m1) (h' : z_fr S m1 m2) : z_fr S m m2 := ⟨fun c i hn => (h'.1 c i hn).trans (h.1 c i hn), h'.2.trans h.2⟩
theorem z_fr_m {S S' : Nat → Nat → Prop} {m m' : zMem} (h : z_fr S m m') (hs : ∀ c i, S c i → S' c i) : z_fr S' m m' := ⟨fun c i hn => h.1 c i fun q => hn (hs c i q), h.2⟩
theorem z_fr_u {S : Nat → Nat → Prop} {m m1 : zMem} {c i : Nat} {f : Nat → Int32} (h : z_fr S m m1) (hs : S c i) : z_fr S m (z_uI m1 c i f) := ⟨fun a b hn => by
    rw [z_uI_ne (fun e => hn (by rw [e.1, e.2]; exact hs))]
    exact h.1 a b hn, h.2⟩
theorem z_fr_s {S : Nat → Nat → Prop} {m m1 : zMem} {c i k : Nat} {x : Int32} (h : z_fr S m m1) (hs : S c i) : z_fr S m (z_sI m1 c i k x) := z_fr_u h hs
