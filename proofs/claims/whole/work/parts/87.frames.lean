/-! READ X: frames with longs; runs as numbers -/
def zj (S : Nat → Nat → Nat → Prop) (L : Nat → Prop) (m m' : zMem) : Prop := (∀ c i k, ¬ S c i k → m'.1 c i k = m.1 c i k) ∧ (∀ c, ¬ L c → m'.2.1 c = m.2.1 c) ∧ m'.2.2 = m.2.2
section
variable {S S' : Nat → Nat → Nat → Prop} {L L' : Nat → Prop} {m m1 m2 m' : zMem} {c i k : Nat}
theorem zj_r (m : zMem) : zj S L m m := ⟨fun _ _ _ _ => rfl, fun _ _ => rfl, rfl⟩
theorem zj_t (h : zj S L m m1) (h' : zj S L m1 m2) : zj S L m m2 := ⟨fun c i k hn => (h'.1 c i k hn).trans (h.1 c i k hn), fun c hn => (h'.2.1 c hn).trans (h.2.1 c hn), h'.2.2.trans h.2.2⟩
theorem zj_m (h : zj S L m m') (hs : ∀ c i k, S c i k → S' c i k) (hl : ∀ c, L c → L' c) : zj S' L' m m' := ⟨fun c i k hn => h.1 c i k fun q => hn (hs c i k q), fun c hn => h.2.1 c fun q => hn (hl c q), h.2.2⟩
theorem zj_k (h : zk S m m') : zj S L m m' := ⟨h.1, fun c _ => by rw [h.2], by rw [h.2]⟩
theorem zj_s {x : Int32} (h : zj S L m m1) (hs : S c i k) : zj S L m (z_sI m1 c i k x) := ⟨fun a b j hn => by
    rw [z_sI_1, if_neg (fun e => hn (by rw [e.1, e.2.1, e.2.2]; exact hs))]
    exact h.1 a b j hn, h.2⟩
theorem zj_l {x : Int64} (h : zj S L m m1) (hs : L c) : zj S L m (z_sL m1 c i k x) := ⟨h.1, fun a hn => by
    rw [← h.2.1 a hn]
    funext b
    show (if a = c ∧ b = i then _ else m1.2.1 a b) = m1.2.1 a b
    rw [if_neg (fun e => hn (by rw [e.1]; exact hs))], h.2.2⟩
theorem z_sL_j {μ : zMem} {c i k a b j : Nat} {x : Int64} : (z_sL μ c i k x).2.1 a b j = if a = c ∧ b = i ∧ j = k then x else μ.2.1 a b j := by
  show (if a = c ∧ b = i then vp_updL (μ.2.1 c i) k x else μ.2.1 a b) j = _
  by_cases h : a = c ∧ b = i
  · obtain ⟨rfl, rfl⟩ := h
    rw [if_pos ⟨rfl, rfl⟩]
    by_cases hj : j = k
    · rw [if_pos ⟨rfl, rfl, hj⟩]; exact if_pos hj
    · rw [if_neg (fun q => hj q.2.2)]; exact if_neg hj
  · rw [if_neg h, if_neg (fun q => h ⟨q.1, q.2.1⟩)]
end
theorem q_dig_n {x : Int32} (h : q_dig x = true) : ∃ d, d < 10 ∧ x = nI (48 + d) := by
  unfold q_dig at h
  rw [Bool.and_eq_true, Bool.not_eq_true', Bool.not_eq_true', decide_eq_false_iff_not, decide_eq_false_iff_not] at h
  obtain ⟨h1, h2⟩ := h
  rw [y_i, show (48 : Int32).toInt = 48 from rfl] at h1
  rw [y_i, show (57 : Int32).toInt = 57 from rfl] at h2
  rcases y_or x with c | ⟨j, hj, rfl⟩
  · rw [y_i, y_t0] at c; omega
  · rw [y_ti hj] at h1 h2
    exact ⟨j - 48, by omega, by rw [show 48 + (j - 48) = j by omega]⟩
theorem q_let_n {x : Int32} (h : q_let x = true) : ∃ d, d < 26 ∧ x = nI (97 + d) := by
  unfold q_let at h
  rw [Bool.and_eq_true, Bool.not_eq_true', Bool.not_eq_true', decide_eq_false_iff_not, decide_eq_false_iff_not] at h
  obtain ⟨h1, h2⟩ := h
  rw [y_i, show (97 : Int32).toInt = 97 from rfl] at h1
  rw [y_i, show (122 : Int32).toInt = 122 from rfl] at h2
  rcases y_or x with c | ⟨j, hj, rfl⟩
  · rw [y_i, y_t0] at c; omega
  · rw [y_ti hj] at h1 h2
    exact ⟨j - 97, by omega, by rw [show 97 + (j - 97) = j by omega]⟩
/-- a run of digits, a run of letters, as numbers -/
def qk_nd (b : Nat → Int32) (p : Nat) : Nat → Nat
  | 0 => 0
  | k + 1 => qk_nd b p k * 10 + ((b (p + k)).toNatClampNeg - 48)
def q_nb (B : Nat) (b : Nat → Int32) (p : Nat) : Nat → Nat
  | 0 => 0
  | k + 1 => B * q_nb B b p k + ((b (p + k)).toNatClampNeg - 96)
section
variable {b b' : Nat → Int32} {p p' L L' B : Nat}
theorem qk_nd_v : ∀ {L : Nat}, (∀ k, k < L → q_dig (b (p + k)) = true) → q_va q_f10 b p L = lN (qk_nd b p L)
  | 0, _ => rfl
  | L + 1, h => by
    obtain ⟨d, hd, e⟩ := q_dig_n (h L (by omega))
    rw [q_va, qk_nd, qk_nd_v fun k hk => h k (by omega), e, y_cl (by omega), q_f10, show (48 : Int32) = nI 48 from rfl, pk_sub (by omega), nI_l (by omega), show (10 : Int64) = lN 10 from rfl, lN_mul, lN_add]
theorem qk_nd_w : ∀ {L : Nat}, L ≤ 4 → (∀ k, k < L → q_dig (b (p + k)) = true) → q_w10 b p L = nI (qk_nd b p L)
  | 0, _, _ => rfl
  | L + 1, hL, h => by
    obtain ⟨d, hd, e⟩ := q_dig_n (h L (by omega))
    rw [q_w10, if_pos (by omega), qk_nd, qk_nd_w (by omega) fun k hk => h k (by omega), e, y_cl (by omega), show (48 : Int32) = nI 48 from rfl, show (10 : Int32) = nI 10 from rfl, pk_mul, nI_add, pk_sub (by omega)]
    congr 1
    omega
theorem qk_nd_lt : ∀ {L : Nat}, (∀ k, k < L → q_dig (b (p + k)) = true) → qk_nd b p L < 10 ^ L
  | 0, _ => by show 0 < 1; omega
  | L + 1, h => by
    obtain ⟨d, hd, e⟩ := q_dig_n (h L (by omega))
    have ih := qk_nd_lt (fun k (hk : k < L) => h k (by omega))
    rw [qk_nd, e, y_cl (by omega), Nat.pow_succ]
    omega
theorem q_nb_v : ∀ {L : Nat}, (∀ k, k < L → q_let (b (p + k)) = true) → q_va q_f32 b p L = lN (q_nb 32 b p L)
  | 0, _ => rfl
  | L + 1, h => by
    obtain ⟨d, hd, e⟩ := q_let_n (h L (by omega))
    rw [q_va, q_nb, q_nb_v fun k hk => h k (by omega), e, y_cl (by omega), q_f32, show (97 : Int32) = nI 97 from rfl, pk_sub (by omega), y_s1, nI_l (by omega), show (32 : Int64) = lN 32 from rfl, lN_mul, lN_add]
    congr 1
    rw [Nat.mul_comm]
    omega
theorem q_nb_w : ∀ {L : Nat}, L ≤ 8 → (∀ k, k < L → q_let (b (p + k)) = true) → q_w27 b p L = lN (q_nb 27 b p L)
  | 0, _, _ => rfl
  | L + 1, hL, h => by
    obtain ⟨d, hd, e⟩ := q_let_n (h L (by omega))
    rw [q_w27, if_pos (by omega), q_nb, q_nb_w (by omega) fun k hk => h k (by omega), e, y_cl (by omega), f9_appends, if_neg (nI_ne0 (by omega) (by omega)), show (97 : Int32) = nI 97 from rfl, pk_sub (by omega), y_s1, nI_l (by omega), show (27 : Int64) = lN 27 from rfl, lN_mul, lN_add]
    congr 1
    omega
theorem q_nb_lt (hB : 27 ≤ B) : ∀ {L : Nat}, (∀ k, k < L → q_let (b (p + k)) = true) → q_nb B b p L < B ^ L
  | 0, _ => by show 0 < 1; omega
  | L + 1, h => by
    obtain ⟨d, hd, e⟩ := q_let_n (h L (by omega))
    have ih := q_nb_lt hB (fun k (hk : k < L) => h k (by omega))
    rw [q_nb, e, y_cl (by omega), Nat.pow_succ, Nat.mul_comm (B ^ L)]
    have h1 : B * (q_nb B b p L + 1) ≤ B * B ^ L := Nat.mul_le_mul_left B ih
    rw [Nat.mul_add, Nat.mul_one] at h1
    omega
theorem q_nb_cong : ∀ {L : Nat}, (∀ k, k < L → b (p + k) = b' (p' + k)) → q_nb B b p L = q_nb B b' p' L
  | 0, _ => rfl
  | L + 1, h => by rw [q_nb, q_nb, q_nb_cong fun k hk => h k (by omega), h L (by omega)]
theorem q_nb_inj (hB : 27 ≤ B) : ∀ {L L' : Nat}, (∀ k, k < L → q_let (b (p + k)) = true) → (∀ k, k < L' → q_let (b' (p' + k)) = true) → q_nb B b p L = q_nb B b' p' L' → L = L' ∧ ∀ k, k < L → b (p + k) = b' (p' + k)
  | 0, 0, _, _, _ => ⟨rfl, fun k hk => absurd hk (by omega)⟩
  | 0, L' + 1, _, h', e => by
    obtain ⟨d, hd, e1⟩ := q_let_n (h' L' (by omega))
    rw [q_nb, q_nb, e1, y_cl (by omega)] at e
    omega
  | L + 1, 0, h, _, e => by
    obtain ⟨d, hd, e1⟩ := q_let_n (h L (by omega))
    rw [q_nb, q_nb, e1, y_cl (by omega)] at e
    omega
  | L + 1, L' + 1, h, h', e => by
    obtain ⟨d, hd, e1⟩ := q_let_n (h L (by omega))
    obtain ⟨d', hd', e1'⟩ := q_let_n (h' L' (by omega))
    rw [q_nb, q_nb, e1, e1', y_cl (by omega), y_cl (by omega)] at e
    have m1 := congrArg (· % B) e
    simp only [Nat.mul_add_mod] at m1
    rw [Nat.mod_eq_of_lt (by omega), Nat.mod_eq_of_lt (by omega)] at m1
    have ed : d = d' := by omega
    subst ed
    have e2 : q_nb B b p L = q_nb B b' p' L' := Nat.eq_of_mul_eq_mul_left (show 0 < B by omega) (by omega)
    obtain ⟨eL, ek⟩ := q_nb_inj hB (fun k hk => h k (by omega)) (fun k hk => h' k (by omega)) e2
    subst eL
    refine ⟨rfl, fun k hk => ?_⟩
    by_cases c : k = L
    · rw [c, e1, e1']
    · exact ek k (by omega)
theorem q_p27 {L : Nat} (hL : L ≤ 8) : 27 ^ L < 2 ^ 63 := Nat.lt_of_le_of_lt (Nat.pow_le_pow_right (by omega) hL) (by decide)
theorem q_p32 {L : Nat} (hL : L ≤ 8) : 32 ^ L < 2 ^ 63 := Nat.lt_of_le_of_lt (Nat.pow_le_pow_right (by omega) hL) (by decide)
/-- NAMES are alike on both sides when their letters are -/
theorem q_name (hL : L ≤ 8) (hL' : L' ≤ 8) (h : ∀ k, k < L → q_let (b (p + k)) = true) (h' : ∀ k, k < L' → q_let (b (p' + k)) = true) : (q_va q_f32 b p L = q_va q_f32 b p' L') ↔ (q_w27 b p L = q_w27 b p' L') := by
  have a1 := q_nb_lt (B := 32) (by omega) h
  have a2 := q_nb_lt (B := 32) (by omega) h'
  have a3 := q_nb_lt (B := 27) (by omega) h
  have a4 := q_nb_lt (B := 27) (by omega) h'
  have b1 := q_p32 hL
  have b2 := q_p32 hL'
  have b3 := q_p27 hL
  have b4 := q_p27 hL'
  rw [q_nb_v h, q_nb_v h', q_nb_w hL h, q_nb_w hL' h', pk_lEQ (Nat.lt_trans a1 b1) (Nat.lt_trans a2 b2), pk_lEQ (Nat.lt_trans a3 b3) (Nat.lt_trans a4 b4)]
  constructor
  · intro e
    obtain ⟨e1, e2⟩ := q_nb_inj (by omega) h h' e
    subst e1
    exact q_nb_cong e2
  · intro e
    obtain ⟨e1, e2⟩ := q_nb_inj (by omega) h h' e
    subst e1
    exact q_nb_cong e2
end
