/-! READ XI: words on both sides; what the TOKENS are -/
def q_wl (j : Nat) : Nat := q_ru (fun k => !decide (q_ws (7 * j + k) = 32)) 0 7
theorem w_wl : ∀ j, j < 21 → q_wl j < 7 ∧ q_ws (7 * j + q_wl j) = 32 ∧ q_key j = lN (q_nb 27 (fun k => q_ws (7 * j + k)) 0 (q_wl j)) ∧ ∀ k, k < q_wl j → q_let (q_ws (7 * j + k)) = true := by decide +kernel
theorem w_kd : ∀ j, j < 21 → ∀ k, k < 21 → q_key j = q_key k → j = k := by decide +kernel
section
variable {m m' : zMem} {n p L : Nat} {b : Nat → Int32} {e : Int64} {x : Int32}
theorem q_se_none {c : Nat → Bool} {n : Nat} (h : ∀ k, k < n → c k = false) : q_se c n = none := by
  rcases q_se_sp c n with ⟨h1, _⟩ | ⟨k, hk, _, h2, _⟩
  · exact h1
  · rw [h k hk] at h2; exact absurd h2 (by decide)
theorem q_isw_k {j : Nat} (hj : j < 21) (hL : L ≤ 8) (hl : ∀ k, k < L → q_let (b (p + k)) = true) : q_isw b j p L = decide (q_key j = q_w27 b p L) := by
  obtain ⟨a1, a2, a3, a4⟩ := w_wl j hj
  unfold q_isw q_ne
  obtain ⟨W, hW⟩ : ∃ W : Nat → Int32, W = fun k => q_ws (7 * j + k) := ⟨_, rfl⟩
  have eW : ∀ k, q_ws (7 * j + k) = W k := fun k => by rw [hW]
  rw [← hW] at a3
  clear hW
  simp only [eW] at a2 a4 ⊢
  generalize q_wl j = wl at *
  have a4' : ∀ k, k < wl → q_let (W (0 + k)) = true := fun k hk => by
    rw [Nat.zero_add]; exact a4 k hk
  have c1 : q_nb 27 W 0 wl < 2 ^ 63 := Nat.lt_trans (q_nb_lt (B := 27) (b := W) (p := 0) (by omega) a4') (q_p27 (L := wl) (by omega))
  have c2 : q_nb 27 b p L < 2 ^ 63 := Nat.lt_trans (q_nb_lt (B := 27) (by omega) hl) (q_p27 hL)
  rw [q_nb_w hL hl, a3]
  by_cases ee : lN (q_nb 27 W 0 wl) = lN (q_nb 27 b p L)
  · rw [decide_eq_true ee]
    obtain ⟨e1, e2⟩ := q_nb_inj (B := 27) (b := W) (p := 0) (b' := b) (p' := p) (by omega) a4' hl ((pk_lEQ c1 c2).mp ee)
    subst e1
    rw [decide_eq_true a1, decide_eq_true a2, q_se_none fun k hk => ?_]
    · rfl
    · have := e2 k hk
      rw [Nat.zero_add] at this
      rw [decide_eq_true this]; rfl
  · rw [decide_eq_false ee]
    cases hq : (decide (L < 7) && (decide (W L = 32) && decide (q_se (fun k => !decide (W k = b (p + k))) L = none)))
    · rfl
    · exfalso
      rw [Bool.and_eq_true, Bool.and_eq_true, decide_eq_true_eq, decide_eq_true_eq, decide_eq_true_eq] at hq
      obtain ⟨g1, g2, g3⟩ := hq
      have g4 : ∀ k, k < L → W k = b (p + k) := fun k hk => by
        rcases q_se_sp (fun k => !decide (W k = b (p + k))) L with ⟨_, h2⟩ | ⟨k', hk', h1, _⟩
        · have := h2 k hk
          rw [Bool.not_eq_false', decide_eq_true_eq] at this
          exact this
        · rw [h1] at g3; exact absurd g3 (by simp)
      have g5 : L = wl := by
        rcases Nat.lt_trichotomy L wl with c | c | c
        · have := a4 L c
          rw [g2] at this
          exact absurd this (by decide)
        · exact c
        · have := hl wl c
          rw [← g4 _ c, a2] at this
          exact absurd this (by decide)
      subst g5
      have g6 : q_nb 27 W 0 L = q_nb 27 b p L := q_nb_cong (b := W) (p := 0) (b' := b) (p' := p) fun k hk => by rw [Nat.zero_add]; exact g4 k hk
      exact ee (congrArg lN g6)
theorem q_kw_no : ∀ {n : Nat}, (∀ k, k < n → ¬ q_key k = e) → q_kw e x n = x
  | 0, _ => rfl
  | n + 1, h => by rw [q_kw, if_neg (h n (by omega)), q_kw_no fun k hk => h k (by omega)]
theorem q_kw_yes {j : Nat} (hj : j < 21) (he : q_key j = e) : ∀ {n : Nat}, n ≤ 21 → j < n → q_kw e x n = nI (20 + j)
  | 0, _, h => absurd h (by omega)
  | n + 1, hn, h => by
    rw [q_kw]
    by_cases c : q_key n = e
    · have := w_kd j hj n (by omega) (he.trans c.symm)
      rw [if_pos c, this]
    · rw [if_neg c]
      have : j ≠ n := fun q => c (by rw [← q]; exact he)
      exact q_kw_yes hj he (by omega) (by omega)
end
/-! the TOKENS of n bytes b -/
def qk_sk (b : Nat → Int32) (n p : Nat) : Nat := q_ru (fun k => q_blank (b k)) p (n - p)
def qk_end (b : Nat → Int32) (n p : Nat) : Nat := if p < n then (if q_let (b p) then q_ru (fun k => q_let (b k)) p (n - p) else if q_dig (b p) then q_ru (fun k => q_dig (b k)) p (n - p) else p + 1) else p
def qk_kd (b : Nat → Int32) (n p : Nat) : Nat := if p < n then (if q_let (b p) then (if 8 < qk_end b n p - p then 1 else match q_se (fun j => q_isw b j p (qk_end b n p - p)) 21 with | some j => 128 + j | none => 2) else if q_dig (b p) then (if 4 < qk_end b n p - p then 1 else 3) else if q_sg (b p) then (b p).toNatClampNeg else 1) else 0
def qk_p (b : Nat → Int32) (n : Nat) : Nat → Nat
  | 0 => 0
  | i + 1 => qk_end b n (qk_sk b n (qk_p b n i))
def qk_S (b : Nat → Int32) (n i : Nat) : Nat := qk_sk b n (qk_p b n i)
def qk_K (b : Nat → Int32) (n i : Nat) : Nat := qk_kd b n (qk_S b n i)
def qk_L (b : Nat → Int32) (n i : Nat) : Nat := qk_end b n (qk_S b n i) - qk_S b n i
def qk_V (b : Nat → Int32) (n i : Nat) : Nat := qk_nd b (qk_S b n i) (qk_L b n i)
def qk_A (b : Nat → Int32) (n i : Nat) : Int64 := q_va q_f32 b (qk_S b n i) (qk_L b n i)
def qk_B (b : Nat → Int32) (n i : Nat) : Int64 := q_w27 b (qk_S b n i) (qk_L b n i)
section
variable {n p : Nat} {b : Nat → Int32}
theorem qk_sk_sp (hp : p ≤ n) : p ≤ qk_sk b n p ∧ qk_sk b n p ≤ n ∧ (∀ j, p ≤ j → j < qk_sk b n p → q_blank (b j) = true) ∧ (qk_sk b n p < n → q_blank (b (qk_sk b n p)) = false) := by
  obtain ⟨h1, h2, h3, h4⟩ := q_ru_sp (fun k => q_blank (b k)) (n - p) p
  exact ⟨h1, by show q_ru _ _ _ ≤ n; omega, h3, fun h => h4 (by have : q_ru (fun k => q_blank (b k)) p (n - p) < n := h; omega)⟩
theorem q_ru_gt {c : Nat → Bool} (h : c p = true) (hp : p < n) : p < q_ru c p (n - p) := by
  obtain ⟨h1, h2, h3, h4⟩ := q_ru_sp c (n - p) p
  rcases Nat.lt_or_ge p (q_ru c p (n - p)) with q | q
  · exact q
  · have e : q_ru c p (n - p) = p := by omega
    rw [e] at h4
    rw [h4 (by omega)] at h
    exact absurd h (by decide)
theorem qk_end_sp (hp : p ≤ n) : p ≤ qk_end b n p ∧ qk_end b n p ≤ n ∧ (p < n → p < qk_end b n p) := by
  unfold qk_end
  by_cases c : p < n
  · rw [if_pos c]
    cases hl : q_let (b p)
    · rw [y_ff]
      cases hd : q_dig (b p)
      · rw [y_ff]; omega
      · rw [if_pos rfl]
        have g := q_ru_gt (c := fun k => q_dig (b k)) hd c
        obtain ⟨h1, h2, _⟩ := q_ru_sp (fun k => q_dig (b k)) (n - p) p
        omega
    · rw [if_pos rfl]
      have g := q_ru_gt (c := fun k => q_let (b k)) hl c
      obtain ⟨h1, h2, _⟩ := q_ru_sp (fun k => q_let (b k)) (n - p) p
      omega
  · rw [if_neg c]; omega
theorem qk_p_le : ∀ i, qk_p b n i ≤ n
  | 0 => Nat.zero_le _
  | i + 1 => (qk_end_sp (qk_sk_sp (qk_p_le i)).2.1).2.1
theorem qk_S_le (i : Nat) : qk_S b n i ≤ n := (qk_sk_sp (qk_p_le i)).2.1
theorem qk_S_lt {i : Nat} (h : qk_S b n i < n) : qk_S b n i < qk_S b n (i + 1) := by
  have h1 := (qk_end_sp (b := b) (qk_S_le (b := b) (n := n) i)).2.2 h
  have h2 := (qk_sk_sp (b := b) (qk_p_le (b := b) (n := n) (i + 1))).1
  have h3 : qk_end b n (qk_S b n i) ≤ qk_S b n (i + 1) := h2
  omega
theorem q_sg_n {x : Int32} (h : q_sg x = true) : x.toNatClampNeg = 59 ∨ x.toNatClampNeg = 61 ∨ x.toNatClampNeg = 40 ∨ x.toNatClampNeg = 41 ∨ x.toNatClampNeg = 43 ∨ x.toNatClampNeg = 45 ∨ x.toNatClampNeg = 42 ∨ x.toNatClampNeg = 47 ∨ x.toNatClampNeg = 60 := by
  unfold q_sg at h
  simp only [Bool.or_eq_true, decide_eq_true_eq] at h
  rcases h with (((((((h | h) | h) | h) | h) | h) | h) | h) | h <;> subst h <;> decide
theorem q_sg_i {x : Int32} (h : q_sg x = true) : nI x.toNatClampNeg = x := by
  unfold q_sg at h
  simp only [Bool.or_eq_true, decide_eq_true_eq] at h
  rcases h with (((((((h | h) | h) | h) | h) | h) | h) | h) | h <;> subst h <;> decide
/-- the kinds that there are -/
def qk_ok (k : Nat) : Bool := decide (k < 4) || decide (k = 59) || decide (k = 61) || decide (k = 40) || decide (k = 41) || decide (k = 43) || decide (k = 45) || decide (k = 42) || decide (k = 47) || decide (k = 60) || (decide (128 ≤ k) && decide (k < 149))
theorem qk_ok_lt {k : Nat} (h : qk_ok k = true) : k < 149 := by
  unfold qk_ok at h
  simp only [Bool.or_eq_true, Bool.and_eq_true, decide_eq_true_eq] at h
  omega
theorem qk_kd_ok (b : Nat → Int32) (n p : Nat) : qk_ok (qk_kd b n p) = true := by
  unfold qk_kd
  by_cases c : p < n
  · rw [if_pos c]
    cases q_let (b p)
    · rw [y_ff]
      cases q_dig (b p)
      · rw [y_ff]
        cases hs : q_sg (b p)
        · rw [y_ff]; decide
        · rw [if_pos rfl]
          rcases q_sg_n hs with h | h | h | h | h | h | h | h | h <;> rw [h] <;> decide
      · rw [if_pos rfl]
        by_cases c4 : 4 < qk_end b n p - p
        · rw [if_pos c4]; decide
        · rw [if_neg c4]; decide
    · rw [if_pos rfl]
      by_cases c8 : 8 < qk_end b n p - p
      · rw [if_pos c8]; decide
      · rw [if_neg c8]
        rcases q_se_sp (fun j => q_isw b j p (qk_end b n p - p)) 21 with ⟨h1, _⟩ | ⟨k, hk, h1, _⟩
        · rw [h1]; decide
        · rw [h1]
          unfold qk_ok
          simp only [Bool.or_eq_true, Bool.and_eq_true, decide_eq_true_eq]
          omega
  · rw [if_neg c]; decide
theorem qk_K_ok (b : Nat → Int32) (n i : Nat) : qk_ok (qk_K b n i) = true := qk_kd_ok b n _
/-- the end's kind is 0, no other's -/
theorem qk_kd_0 : qk_kd b n p = 0 ↔ ¬ p < n := by
  unfold qk_kd
  by_cases c : p < n
  · rw [if_pos c]
    refine ⟨fun h => ?_, fun h => absurd c h⟩
    cases hl : q_let (b p)
    · rw [hl, y_ff] at h
      cases hd : q_dig (b p)
      · rw [hd, y_ff] at h
        cases hs : q_sg (b p)
        · rw [hs, y_ff] at h; omega
        · rw [hs, if_pos rfl] at h
          rcases q_sg_n hs with h' | h' | h' | h' | h' | h' | h' | h' | h' <;> omega
      · rw [hd, if_pos rfl] at h
        by_cases c4 : 4 < qk_end b n p - p
        · rw [if_pos c4] at h; omega
        · rw [if_neg c4] at h; omega
    · rw [hl, if_pos rfl] at h
      by_cases c8 : 8 < qk_end b n p - p
      · rw [if_pos c8] at h; omega
      · rw [if_neg c8] at h
        rcases q_se_sp (fun j => q_isw b j p (qk_end b n p - p)) 21 with ⟨h1, _⟩ | ⟨k, hk, h1, _⟩
        · rw [h1] at h; exact absurd h (by decide)
        · rw [h1] at h
          have : 128 + k = 0 := h
          omega
  · rw [if_neg c]; exact ⟨fun _ => c, fun _ => rfl⟩
/-- a NAME: letters, 8 at most; an INT: digits, 4 at most -/
theorem qk_kd_2 (h : qk_kd b n p = 2) : p < n ∧ q_let (b p) = true ∧ qk_end b n p = q_ru (fun k => q_let (b k)) p (n - p) ∧ qk_end b n p - p ≤ 8 := by
  unfold qk_kd at h
  by_cases c : p < n
  · rw [if_pos c] at h
    cases hl : q_let (b p)
    · exfalso
      rw [hl, y_ff] at h
      cases hd : q_dig (b p)
      · rw [hd, y_ff] at h
        cases hs : q_sg (b p)
        · rw [hs, y_ff] at h; omega
        · rw [hs, if_pos rfl] at h
          rcases q_sg_n hs with h' | h' | h' | h' | h' | h' | h' | h' | h' <;> omega
      · rw [hd, if_pos rfl] at h
        by_cases c4 : 4 < qk_end b n p - p
        · rw [if_pos c4] at h; omega
        · rw [if_neg c4] at h; omega
    · rw [hl, if_pos rfl] at h
      by_cases c8 : 8 < qk_end b n p - p
      · rw [if_pos c8] at h; omega
      · refine ⟨c, rfl, ?_, by omega⟩
        unfold qk_end
        rw [if_pos c, hl, if_pos rfl]
  · rw [if_neg c] at h; omega
theorem qk_kd_3 (h : qk_kd b n p = 3) : p < n ∧ q_let (b p) = false ∧ q_dig (b p) = true ∧ qk_end b n p = q_ru (fun k => q_dig (b k)) p (n - p) ∧ qk_end b n p - p ≤ 4 := by
  unfold qk_kd at h
  by_cases c : p < n
  · rw [if_pos c] at h
    cases hl : q_let (b p)
    · rw [hl, y_ff] at h
      cases hd : q_dig (b p)
      · exfalso
        rw [hd, y_ff] at h
        cases hs : q_sg (b p)
        · rw [hs, y_ff] at h; omega
        · rw [hs, if_pos rfl] at h
          rcases q_sg_n hs with h' | h' | h' | h' | h' | h' | h' | h' | h' <;> omega
      · rw [hd, if_pos rfl] at h
        by_cases c4 : 4 < qk_end b n p - p
        · rw [if_pos c4] at h; omega
        · refine ⟨c, rfl, rfl, ?_, by omega⟩
          unfold qk_end
          rw [if_pos c, hl, y_ff, hd, if_pos rfl]
    · exfalso
      rw [hl, if_pos rfl] at h
      by_cases c8 : 8 < qk_end b n p - p
      · rw [if_pos c8] at h; omega
      · rw [if_neg c8] at h
        rcases q_se_sp (fun j => q_isw b j p (qk_end b n p - p)) 21 with ⟨h1, _⟩ | ⟨k, hk, h1, _⟩
        · rw [h1] at h; exact absurd h (by decide)
        · rw [h1] at h
          have : 128 + k = 3 := h
          omega
  · rw [if_neg c] at h; omega
theorem qk_run2 {i : Nat} (h : qk_K b n i = 2) : qk_L b n i ≤ 8 ∧ ∀ k, k < qk_L b n i → q_let (b (qk_S b n i + k)) = true := by
  obtain ⟨h1, h2, h3, h4⟩ := qk_kd_2 h
  refine ⟨h4, fun k hk => ?_⟩
  have hk' : k < qk_end b n (qk_S b n i) - qk_S b n i := hk
  rw [h3] at hk'
  exact (q_ru_sp (fun k => q_let (b k)) (n - qk_S b n i) (qk_S b n i)).2.2.1 _ (by omega) (by omega)
theorem qk_run3 {i : Nat} (h : qk_K b n i = 3) : qk_L b n i ≤ 4 ∧ ∀ k, k < qk_L b n i → q_dig (b (qk_S b n i + k)) = true := by
  obtain ⟨h1, _, h2, h3, h4⟩ := qk_kd_3 h
  refine ⟨h4, fun k hk => ?_⟩
  have hk' : k < qk_end b n (qk_S b n i) - qk_S b n i := hk
  rw [h3] at hk'
  exact (q_ru_sp (fun k => q_dig (b k)) (n - qk_S b n i) (qk_S b n i)).2.2.1 _ (by omega) (by omega)
theorem qk_V_lt {i : Nat} (h : qk_K b n i = 3) : qk_V b n i < 10000 := by
  obtain ⟨h1, h2⟩ := qk_run3 h
  exact Nat.lt_of_lt_of_le (qk_nd_lt h2) (Nat.le_trans (Nat.pow_le_pow_right (by omega) h1) (by decide))
theorem qk_AB {i j : Nat} (hi : qk_K b n i = 2) (hj : qk_K b n j = 2) : (qk_A b n i = qk_A b n j) ↔ (qk_B b n i = qk_B b n j) := q_name (qk_run2 hi).1 (qk_run2 hj).1 (qk_run2 hi).2 (qk_run2 hj).2
end
