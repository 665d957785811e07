/-! ORDERS: the tables in the class's and the reference's memory -/
def q_nd (te tf : Nat → Nat) : Nat → Nat → Int32
  | 0, _ => 0
  | k + 1, p => if tf k = p then q_nd te tf k p ||| ((1 : Int32) <<< (nI (te k) &&& 31)) else q_nd te tf k p
theorem y_ev {n : Nat} (hn : n ≤ 7) : f8_everybody (nI n) = nI (2 ^ n - 1) := (by decide +kernel : ∀ n, n < 8 → f8_everybody (nI n) = nI (2 ^ n - 1)) n (by omega)
theorem y_ev9 {n : Nat} (hn : n ≤ 7) : ((1 : Int32) <<< (nI n &&& 31)) - 1 = nI (2 ^ n - 1) := y_ev hn
section
variable {T : qT} {o v : Nat} {m m' : zMem} {nd : Nat → Int32} {n : Nat}
theorem p2_canFollow (hm : ∀ p, p < 7 → m.1 17 0 p = nd p) {x S : Nat} (hx : x < 7) : f2_canFollow (nI S) (nI x) m = some (if q_go nd x S then 1 else 0) := by
  unfold f2_canFollow q_go
  simp (disch := omega) only [y_has0, b_n, y_in, ↓reduceIte, y_cl, hm x hx]
  cases S.testBit x
  · by_cases c : nd x &&& (nI S ^^^ -1) = 0
    · rw [if_pos rfl, if_pos c, decide_eq_true c]; rfl
    · rw [if_pos rfl, if_neg c, decide_eq_false c]; rfl
  · rfl
theorem p9_mayGo (hm : ∀ p, p < 7 → m.1 161 0 p = nd p) {x S : Nat} (hx : x < 7) : f9_mayGo (nI x) (nI S) m = some (if q_go nd x S then 1 else 0) := by
  unfold f9_mayGo q_go
  simp (disch := omega) only [b_bit, b_n, y_in, ↓reduceIte, y_cl, hm x hx]
  cases S.testBit x
  · by_cases c : nd x &&& (nI S ^^^ -1) = 0
    · rw [y_ff, if_pos rfl, if_pos c, decide_eq_true c]; rfl
    · rw [y_ff, if_pos rfl, if_neg c, decide_eq_false c]; rfl
  · rfl
theorem p2_headsOf (hn : n ≤ 7) (h3 : m.1 2 0 3 = nI n) (hm : ∀ p, p < 7 → m.1 17 0 p = nd p) {S : Nat} (hS : S < 2 ^ n) (h0 : S ≠ 0) (hH : ∀ R, R < S → m.1 18 0 R = q_H nd n R) : f2_headsOf (nI S) m = some (q_H nd n S) := by
  have h128 := y_p7 hn
  rw [q_H_eq, if_neg h0]
  unfold f2_headsOf
  refine z_it_eb (fun k => (q_sm (fun p => if S.testBit p && q_go nd p (S - 2 ^ p) then q_H nd n (S - 2 ^ p) else 0) k, nI k)) n _ rfl (fun k hk => ?_) ?_ (z_fu_lt (by omega)) rfl
  · show f2_headsOf_L1 (nI S) m (q_sm (fun p => if S.testBit p && q_go nd p (S - 2 ^ p) then q_H nd n (S - 2 ^ p) else 0) k, nI k) = some (Sum.inl (q_sm (fun p => if S.testBit p && q_go nd p (S - 2 ^ p) then q_H nd n (S - 2 ^ p) else 0) k + (if S.testBit k && q_go nd k (S - 2 ^ k) then q_H nd n (S - 2 ^ k) else 0), nI (k + 1)))
    generalize q_sm (fun p => if S.testBit p && q_go nd p (S - 2 ^ p) then q_H nd n (S - 2 ^ p) else 0) k = acc
    unfold f2_headsOf_L1
    simp (disch := omega) only [z_u2, h3, y_lt, hk, ↓reduceIte, z_let, y_has0, b_n, y_s1]
    cases eb : S.testBit k
    · rw [if_pos rfl, Bool.false_and, y_ff, Int32.add_zero]; rfl
    · obtain ⟨l1, l2, l3⟩ := w_2 S (by omega) k (by omega) eb
      have hpos := Nat.two_pow_pos k
      rw [if_neg (by decide), l3, p2_canFollow hm (by omega), Option.bind_some, Bool.true_and]
      cases q_go nd k (S - 2 ^ k)
      · rw [y_ff, if_pos rfl, y_ff, Int32.add_zero]; rfl
      · rw [if_pos rfl, if_neg n01, if_pos (y_in (by omega) (by omega)), y_cl (by omega), hH _ (by omega), if_pos rfl]; rfl
  · unfold f2_headsOf_L1
    simp (disch := omega) only [z_u2, h3, y_lt, Nat.lt_irrefl, ↓reduceIte]
theorem p2_tailsOf (hn : n ≤ 7) (h3 : m.1 2 0 3 = nI n) (hm : ∀ p, p < 7 → m.1 17 0 p = nd p) {S : Nat} (hS : S < 2 ^ n) (h0 : S ≠ 2 ^ n - 1) (hW : ∀ R, S < R → R < 2 ^ n → m.1 19 0 R = q_W nd n R) : f2_tailsOf (nI S) m = some (q_W nd n S) := by
  have h128 := y_p7 hn
  rw [q_W_eq nd hn hS, if_neg h0]
  unfold f2_tailsOf
  refine z_it_eb (fun k => (q_sm (fun p => if q_go nd p S then q_W nd n (S + 2 ^ p) else 0) k, nI k)) n _ rfl (fun k hk => ?_) ?_ (z_fu_lt (by omega)) rfl
  · show f2_tailsOf_L1 (nI S) m (q_sm (fun p => if q_go nd p S then q_W nd n (S + 2 ^ p) else 0) k, nI k) = some (Sum.inl (q_sm (fun p => if q_go nd p S then q_W nd n (S + 2 ^ p) else 0) k + (if q_go nd k S then q_W nd n (S + 2 ^ k) else 0), nI (k + 1)))
    generalize q_sm (fun p => if q_go nd p S then q_W nd n (S + 2 ^ p) else 0) k = acc
    unfold f2_tailsOf_L1
    simp (disch := omega) only [z_u2, h3, y_lt, hk, ↓reduceIte, z_let, p2_canFollow hm (show k < 7 by omega), Option.bind_some, y_s1]
    cases eg : q_go nd k S
    · rw [y_ff, if_pos rfl, y_ff, Int32.add_zero]; rfl
    · have hb := q_go_b eg
      obtain ⟨l1, l2, l3⟩ := w_1 S (by omega) k (by omega) hb
      have l4 := w_4 n (by omega) S (by omega) hS k hk hb
      have hpos := Nat.two_pow_pos k
      rw [if_pos rfl, if_neg n01, l3, if_pos (y_in (by omega) (by omega)), y_cl (by omega), hW _ (by omega) l4, if_pos rfl]; rfl
  · unfold f2_tailsOf_L1
    simp (disch := omega) only [z_u2, h3, y_lt, Nat.lt_irrefl, ↓reduceIte]
abbrev sLc : Nat → Nat → Nat → Prop := fun c _ k => c = 17 ∨ c = 18 ∨ c = 19 ∨ (c = 2 ∧ k = 3)
def qLt (m : zMem) (nd : Nat → Int32) (n : Nat) : Prop := m.1 2 0 3 = nI n ∧ (∀ p, p < 7 → m.1 17 0 p = nd p) ∧ (∀ S, S < 2 ^ n → m.1 18 0 S = q_H nd n S) ∧ ∀ S, S < 2 ^ n → m.1 19 0 S = q_W nd n S
theorem p2_weigh (hT : tOk T) {td : Nat} {te tf : Nat → Nat} (hl : qI_L T td te tf m) {k : Nat} (hk : k ≤ td) : zw (f2_weigh (nI (tP T)) (nI k) m) fun m' => zk sLc m m' ∧ qLt m' (q_nd te tf k) (tP T) := by
  have hP := hT.2
  have h128 := y_p7 hP
  have htd := hl.1
  generalize hn : tP T = n at *
  unfold f2_weigh
  simp only [z_let]
  have f0 : zk sLc m (z_sI m 2 0 3 (nI n)) := zk_s (zk_r m) (by omega)
  have g0 : (z_sI m 2 0 3 (nI n)).1 2 0 3 = nI n := by rw [z_sI_1, if_pos ⟨rfl, rfl, rfl⟩]
  generalize z_sI m 2 0 3 (nI n) = m0 at *
  refine zw_b (zw_for (Q := fun m1 => (zk sLc m m1 ∧ m1.1 2 0 3 = nI n) ∧ ∀ p, p < 7 → m1.1 17 0 p = 0) 7 (fun i m1 => (zk sLc m m1 ∧ m1.1 2 0 3 = nI n) ∧ ∀ p, p < i → m1.1 17 0 p = 0) (by omega) ⟨⟨f0, g0⟩, fun p hp => absurd hp (by omega)⟩ ?_ ?_) ?_
  · rintro i m1 hi ⟨⟨hf, h3⟩, hz⟩
    unfold f2_weigh_L3
    simp (disch := omega) only [z_u2, y_7, y_lt, hi, ↓reduceIte, y_in, y_cl, z_let, y_s1]
    refine zw_some.mpr ⟨rfl, ⟨zk_s hf (by omega), by rw [z_sI_1, if_neg (by omega)]; exact h3⟩, fun p hp => ?_⟩
    rw [z_sI_1]
    by_cases e : p = i
    · rw [if_pos ⟨rfl, rfl, e⟩]
    · rw [if_neg (fun q => e q.2.2)]; exact hz p (by omega)
  · rintro m1 hI
    unfold f2_weigh_L3
    simp only [z_u2]
    rw [if_neg (show ¬ nI 7 < 7 by decide)]
    exact zw_some.mpr hI
  rintro m1 ⟨⟨hf1, h31⟩, hz1⟩
  refine zw_b (zw_for (Q := fun m2 => (zk sLc m m2 ∧ m2.1 2 0 3 = nI n) ∧ ∀ p, p < 7 → m2.1 17 0 p = q_nd te tf k p) k (fun i m2 => (zk sLc m m2 ∧ m2.1 2 0 3 = nI n) ∧ ∀ p, p < 7 → m2.1 17 0 p = q_nd te tf i p) (by omega) ⟨⟨hf1, h31⟩, hz1⟩ ?_ ?_) ?_
  · rintro i m2 hi ⟨⟨hf, h3⟩, hd⟩
    have h2 : m2.1 2 0 2 = nI td := by rw [hf.1 2 0 2 (by omega)]; exact hl.2.1
    obtain ⟨a1, a2, a3, a4, a5, _⟩ := hl.2.2.2 i (by omega)
    have b4 : m2.1 15 0 i = nI (te i) := by rw [hf.1 15 0 i (by omega)]; exact a4
    have b5 : m2.1 16 0 i = nI (tf i) := by rw [hf.1 16 0 i (by omega)]; exact a5
    have hi2 : i < td := by omega
    unfold f2_weigh_L12
    simp (disch := omega) only [z_u2, h2, y_lt, hi, hi2, ↓reduceIte, y_in, y_cl, z_let, b4, b5, y_s1]
    refine zw_some.mpr ⟨rfl, ⟨zk_s hf (by omega), by rw [z_sI_1, if_neg (by omega)]; exact h3⟩, fun p hp => ?_⟩
    rw [z_sI_1, q_nd]
    by_cases e : tf i = p
    · rw [if_pos ⟨rfl, rfl, e.symm⟩, if_pos e, hd _ (by omega), e]
    · rw [if_neg (fun q => e q.2.2.symm), if_neg e]; exact hd p hp
  · rintro m2 hI
    unfold f2_weigh_L12
    simp only [z_u2]
    rw [if_neg Int32.lt_irrefl]
    exact zw_some.mpr hI
  rintro m2 ⟨⟨hf2, h32⟩, hd2⟩
  generalize hnd : q_nd te tf k = nd at *
  refine zw_b (zw_for (Q := fun m3 => (zk sLc m m3 ∧ m3.1 2 0 3 = nI n ∧ ∀ p, p < 7 → m3.1 17 0 p = nd p) ∧ ∀ S, S < 2 ^ n → m3.1 18 0 S = q_H nd n S) (2 ^ n) (fun i m3 => (zk sLc m m3 ∧ m3.1 2 0 3 = nI n ∧ ∀ p, p < 7 → m3.1 17 0 p = nd p) ∧ ∀ S, S < i → m3.1 18 0 S = q_H nd n S) (by omega) ⟨⟨hf2, h32, hd2⟩, fun p hp => absurd hp (by omega)⟩ ?_ ?_) ?_
  · rintro i m3 hi ⟨⟨hf, h3, hd⟩, hH⟩
    have hnl : ¬ nI (2 ^ n - 1) < nI i := nI_nlt (by omega) (by omega)
    have hval : (if nI i = 0 then some 1 else (f2_headsOf (nI i) m3).bind (fun q31 => some q31)) = some (q_H nd n i) := by
      by_cases e : i = 0
      · rw [e, q_H_0]; rfl
      · rw [if_neg (by rw [y_eq0 (by omega)]; exact e), p2_headsOf hP h3 hd hi e hH]; rfl
    unfold f2_weigh_L23
    simp only [z_u2, h3, y_ev hP]
    rw [if_neg hnl, hval, Option.bind_some, if_pos (y_in (by omega) (by omega)), y_cl (by omega)]
    refine zw_some.mpr ⟨y_s1 i, ⟨zk_s hf (by omega), by rw [z_sI_1, if_neg (by omega)]; exact h3, fun p hp => by rw [z_sI_1, if_neg (by omega)]; exact hd p hp⟩, fun S hS => ?_⟩
    rw [z_sI_1]
    by_cases e : S = i
    · rw [if_pos ⟨rfl, rfl, e⟩, e]
    · rw [if_neg (fun q => e q.2.2)]; exact hH S (by omega)
  · rintro m3 hI
    unfold f2_weigh_L23
    simp only [z_u2, hI.1.2.1, y_ev hP]
    have := Nat.two_pow_pos n
    rw [if_pos (nI_lt (by omega) (by omega))]
    exact zw_some.mpr hI
  rintro m3 ⟨⟨hf3, h33, hd3⟩, hH3⟩
  rw [h33, y_ev hP]
  refine zw_b (zw_forG (Q := fun m4 => zk sLc m m4 ∧ qLt m4 nd n) (2 ^ n) (fun i s => s.1 = (if i < 2 ^ n then nI (2 ^ n - 1 - i) else -1) ∧ (zk sLc m s.2 ∧ s.2.1 2 0 3 = nI n ∧ (∀ p, p < 7 → s.2.1 17 0 p = nd p) ∧ ∀ S, S < 2 ^ n → s.2.1 18 0 S = q_H nd n S) ∧ ∀ S, S < 2 ^ n → 2 ^ n - i ≤ S → s.2.1 19 0 S = q_W nd n S) (by omega) ⟨by rw [if_pos (Nat.two_pow_pos n)]; rfl, ⟨hf3, h33, hd3, hH3⟩, fun S h1 h2 => by omega⟩ ?_ ?_) (fun m4 h4 => zw_some.mpr h4)
  · rintro i ⟨x, m4⟩ hi ⟨ex, ⟨hf, h3, hd, hH⟩, hW⟩
    have ex' : x = nI (2 ^ n - 1 - i) := by
      have : x = (if i < 2 ^ n then nI (2 ^ n - 1 - i) else -1) := ex
      rw [if_pos hi] at this; exact this
    subst ex'
    have hf' : zk sLc m m4 := hf
    have h3' : m4.1 2 0 3 = nI n := h3
    have hd' : ∀ p, p < 7 → m4.1 17 0 p = nd p := hd
    have hH' : ∀ S, S < 2 ^ n → m4.1 18 0 S = q_H nd n S := hH
    have hW' : ∀ S, S < 2 ^ n → 2 ^ n - i ≤ S → m4.1 19 0 S = q_W nd n S := hW
    have hval : (if nI (2 ^ n - 1 - i) = nI (2 ^ n - 1) then some 1 else (f2_tailsOf (nI (2 ^ n - 1 - i)) m4).bind (fun q50 => some q50)) = some (q_W nd n (2 ^ n - 1 - i)) := by
      by_cases e : i = 0
      · rw [if_pos (by rw [e]; rfl), q_W_eq nd hP (by omega), if_pos (by omega)]
      · rw [if_neg (by rw [y_eq (by omega) (by omega)]; omega), p2_tailsOf hP h3' hd' (by omega) (by omega) (fun R h1 h2 => hW' R h2 (by omega))]; rfl
    unfold f2_weigh_L42
    simp only [z_u2, h3', y_ev hP]
    rw [if_neg (nI_pos (by omega)), hval, Option.bind_some, if_pos (y_in (by omega) (by omega)), y_cl (by omega)]
    refine zw_some.mpr ⟨?_, ⟨zk_s hf' (by omega), by rw [z_sI_1, if_neg (by omega)]; exact h3', fun p hp => by rw [z_sI_1, if_neg (by omega)]; exact hd' p hp, fun S hS => by rw [z_sI_1, if_neg (by omega)]; exact hH' S hS⟩, fun S h1 h2 => ?_⟩
    · show nI (2 ^ n - 1 - i) + -1 = _
      by_cases e : i + 1 < 2 ^ n
      · rw [if_pos e, show 2 ^ n - 1 - i = (2 ^ n - 1 - (i + 1)) + 1 by omega, pk_m1]
      · rw [if_neg e, show 2 ^ n - 1 - i = 0 by omega]; rfl
    · rw [z_sI_1]
      by_cases e : S = 2 ^ n - 1 - i
      · rw [if_pos ⟨rfl, rfl, e⟩, e]
      · rw [if_neg (fun q => e q.2.2)]; exact hW' S h1 (by omega)
  · rintro ⟨x, m4⟩ ⟨ex, ⟨hf, h3, hd, hH⟩, hW⟩
    have ex' : x = -1 := by
      have : x = (if 2 ^ n < 2 ^ n then nI (2 ^ n - 1 - 2 ^ n) else -1) := ex
      rw [if_neg (by omega)] at this; exact this
    subst ex'
    unfold f2_weigh_L42
    simp only [z_u2]
    rw [if_pos (by decide)]
    exact zw_some.mpr ⟨hf, h3, hd, hH, fun S hS => hW S hS (by omega)⟩
end
