/-! LETTERS: orders, first, last, placed, before, sum, ahead -/
def q_se (c : Nat → Bool) : Nat → Option Nat
  | 0 => none
  | n + 1 => match q_se c n with
    | some j => some j
    | none => if c n then some n else none
theorem q_se_sp (c : Nat → Bool) : ∀ n, (q_se c n = none ∧ ∀ i, i < n → c i = false) ∨ ∃ k, k < n ∧ q_se c n = some k ∧ c k = true ∧ ∀ i, i < k → c i = false
  | 0 => Or.inl ⟨rfl, fun i hi => absurd hi (by omega)⟩
  | n + 1 => by
    rcases q_se_sp c n with ⟨h1, h2⟩ | ⟨k, hk, h1, h2, h3⟩
    · rw [q_se, h1]
      cases e : c n
      · refine Or.inl ⟨rfl, fun i hi => ?_⟩
        by_cases e2 : i = n
        · rw [e2]; exact e
        · exact h2 i (by omega)
      · exact Or.inr ⟨n, by omega, rfl, e, h2⟩
    · rw [q_se, h1]
      exact Or.inr ⟨k, by omega, rfl, h2, h3⟩
theorem z_se {ρ : Type} {body : Int32 → Option (Int32 ⊕ (Unit ⊕ ρ))} {s0 : Int32} (c : Nat → Bool) (s : Nat → Int32) (N : Nat) (res : Nat → ρ) (h0 : s0 = s 0) (hs : ∀ k, k < N → body (s k) = if c k then some (.inr (.inr (res k))) else some (.inl (s (k + 1)))) (he : body (s N) = some (.inr (.inl ()))) (hN : N < 5000) : z_it body z_fu s0 = some (match q_se c N with | some j => Sum.inr (res j) | none => Sum.inl ()) := by
  rcases q_se_sp c N with ⟨h1, h2⟩ | ⟨k, hk, h1, h2, h3⟩
  · rw [h1]
    exact z_it_e s N _ h0 (fun k hk => by rw [hs k hk, h2 k hk]; rfl) he hN
  · rw [h1]
    exact z_it_x s N _ h0 k (by omega) (fun i hi => by rw [hs i (by omega), h3 i hi]; rfl) (by rw [hs k hk, h2]; rfl) hN
section
variable {T : qT} {o v td : Nat} {te tf : Nat → Nat} {m m' : zMem} {nd : Nat → Int32} {n : Nat}
def q_bh (nd : Nat → Int32) (n p S : Nat) : Int32 := if q_go nd p S then q_H nd n S * q_W nd n (S + 2 ^ p) else 0
def q_plc (nd : Nat → Int32) (n p : Nat) (a : Int32) : Int32 := q_sm (fun S => if decide (q_bc (nI S) 7 = a) then q_bh nd n p S else 0) (2 ^ n)
theorem p2_timesBehind (hn : n ≤ 7) (hq : qLt m nd n) {p S : Nat} (hp : p < n) (hS : S < 2 ^ n) : f2_timesBehind (nI S) (nI p) m = some (q_bh nd n p S) := by
  have h128 := y_p7 hn
  unfold f2_timesBehind q_bh
  rw [p2_canFollow hq.2.1 (by omega), Option.bind_some]
  cases eg : q_go nd p S
  · rw [y_ff, if_pos rfl, y_ff]
  · have hb := q_go_b eg
    obtain ⟨l1, l2, l3⟩ := w_1 S (by omega) p (by omega) hb
    have l4 := w_4 n (by omega) S (by omega) hS p hp hb
    rw [if_pos rfl, if_neg n01, l3, if_pos (y_in (by omega) (by omega)), if_pos (y_in (by omega) (by omega)), y_cl (by omega), y_cl (by omega), hq.2.2.1 S hS, hq.2.2.2 _ l4, if_pos rfl]
theorem p2_timesAt (hn : n ≤ 7) (hq : qLt m nd n) {p : Nat} (hp : p < n) (a : Int32) : f2_timesAt (nI p) a m = some (q_plc nd n p a) := by
  have h128 := y_p7 hn
  have hpos := Nat.two_pow_pos n
  unfold f2_timesAt
  refine z_it_eb (fun k => (q_sm (fun S => if decide (q_bc (nI S) 7 = a) then q_bh nd n p S else 0) k, nI k)) (2 ^ n) _ rfl (fun k hk => ?_) ?_ (z_fu_lt (by omega)) rfl
  · show f2_timesAt_L1 (nI p) a m (q_sm (fun S => if decide (q_bc (nI S) 7 = a) then q_bh nd n p S else 0) k, nI k) = some (Sum.inl (q_sm (fun S => if decide (q_bc (nI S) 7 = a) then q_bh nd n p S else 0) k + (if decide (q_bc (nI k) 7 = a) then q_bh nd n p k else 0), nI (k + 1)))
    generalize q_sm (fun S => if decide (q_bc (nI S) 7 = a) then q_bh nd n p S else 0) k = acc
    unfold f2_timesAt_L1
    simp only [z_u2, hq.1, y_ev hn]
    rw [if_neg (nI_nlt (by omega) (by omega)), p6_bitCount_n k (by omega), p2_timesBehind hn hq hp hk, Option.bind_some]
    by_cases e : q_bc (nI k) 7 = a
    · rw [if_pos e, decide_eq_true e, if_pos rfl, Option.bind_some, y_s1]
    · rw [if_neg e, decide_eq_false e, y_ff, Int32.add_zero, Option.bind_some, y_s1]
  · unfold f2_timesAt_L1
    simp only [z_u2, hq.1, y_ev hn]
    rw [if_pos (nI_lt (by omega) (by omega))]
    rfl
theorem p2_timesAhead (hn : n ≤ 7) (hq : qLt m nd n) {p s : Nat} (hp : p < n) (hs : s < n) : f2_timesAhead (nI p) (nI s) m = some (q_ahd nd n p s) := by
  have h128 := y_p7 hn
  have hpos := Nat.two_pow_pos n
  unfold f2_timesAhead
  refine z_it_eb (fun k => (q_sm (fun S => if S.testBit p && q_go nd s S then q_H nd n S * q_W nd n (S + 2 ^ s) else 0) k, nI k)) (2 ^ n) _ rfl (fun k hk => ?_) ?_ (z_fu_lt (by omega)) rfl
  · show f2_timesAhead_L1 (nI p) (nI s) m (q_sm (fun S => if S.testBit p && q_go nd s S then q_H nd n S * q_W nd n (S + 2 ^ s) else 0) k, nI k) = some (Sum.inl (q_sm (fun S => if S.testBit p && q_go nd s S then q_H nd n S * q_W nd n (S + 2 ^ s) else 0) k + (if k.testBit p && q_go nd s k then q_H nd n k * q_W nd n (k + 2 ^ s) else 0), nI (k + 1)))
    generalize q_sm (fun S => if S.testBit p && q_go nd s S then q_H nd n S * q_W nd n (S + 2 ^ s) else 0) k = acc
    unfold f2_timesAhead_L1
    simp only [z_u2, hq.1, y_ev hn]
    rw [if_neg (nI_nlt (by omega) (by omega)), p2_timesBehind hn hq hs hk, Option.bind_some]
    simp only [y_has0 _ p (show p < 32 by omega), b_n _ p (show p < 32 by omega)]
    cases k.testBit p
    · rw [if_pos rfl, Bool.false_and, y_ff, Int32.add_zero, Option.bind_some, y_s1]
    · rw [if_neg (by decide), Bool.true_and, Option.bind_some, y_s1]; rfl
  · unfold f2_timesAhead_L1
    simp only [z_u2, hq.1, y_ev hn]
    rw [if_pos (nI_lt (by omega) (by omega))]
    rfl
theorem p9_placedAt (hx : qMx m T v) (hT : tOk T) (hq : qLm m nd (tP T)) {p : Nat} (hp : p < tP T) (a : Int32) : f9_placedAt (nI p) a m = some (q_plc nd (tP T) p a) := by
  have hP := hT.2
  have h128 := y_p7 hP
  have hpos := Nat.two_pow_pos (tP T)
  have hall := p9_allBits hx hT
  generalize tP T = n at *
  unfold f9_placedAt
  refine z_it_eb (fun k => (q_sm (fun S => if decide (q_bc (nI S) 7 = a) then q_bh nd n p S else 0) k, nI k)) (2 ^ n) _ rfl (fun k hk => ?_) ?_ (z_fu_lt (by omega)) rfl
  · show f9_placedAt_L1 (nI p) a m (q_sm (fun S => if decide (q_bc (nI S) 7 = a) then q_bh nd n p S else 0) k, nI k) = some (Sum.inl (q_sm (fun S => if decide (q_bc (nI S) 7 = a) then q_bh nd n p S else 0) k + (if decide (q_bc (nI k) 7 = a) then q_bh nd n p k else 0), nI (k + 1)))
    generalize q_sm (fun S => if decide (q_bc (nI S) 7 = a) then q_bh nd n p S else 0) k = acc
    unfold f9_placedAt_L1
    simp only [z_u2, hall, Option.bind_some, p9_bits]
    rw [if_neg (nI_nlt (by omega) (by omega)), p9_mayGo hq.1 (by omega), Option.bind_some]
    by_cases e : q_bc (nI k) 7 = a
    · rw [if_pos e, decide_eq_true e, if_pos rfl]
      unfold q_bh
      cases eg : q_go nd p k
      · rw [y_ff, if_pos rfl, y_ff, Int32.add_zero, Option.bind_some, y_s1]
      · have hb := q_go_b eg
        obtain ⟨l1, l2, l3⟩ := w_1 k (by omega) p (by omega) hb
        have l4 := w_4 n (by omega) k (by omega) hk p hp hb
        rw [if_pos rfl, if_neg n01, l3, if_pos (y_in (by omega) (by omega)), if_pos (y_in (by omega) (by omega)), y_cl (by omega), y_cl (by omega), hq.2.1 k hk, hq.2.2 _ l4, if_pos rfl]
        show some (Sum.inl (_, nI k + 1)) = _
        rw [y_s1]
    · rw [if_neg e, decide_eq_false e, y_ff, Int32.add_zero, Option.bind_some, y_s1]
  · unfold f9_placedAt_L1
    simp only [z_u2, hall, Option.bind_some]
    rw [if_pos (nI_lt (by omega) (by omega))]
    rfl
/-- with letters -/
def qAl (T : qT) (o v td : Nat) (te tf : Nat → Nat) (f : zMem → Option (Int32 × zMem)) (a : Int32) : Prop := ∀ m, qI_T T o v m → qI_L T td te tf m → zw (f m) fun q => q.1 = a ∧ zk sQ m q.2
theorem y_known (htd : td ≤ 20) (a : Int32) : (∀ m, qI_L T td te tf m → f8_isKnown a m = 0 ∧ f9_isKnown a m = some 0) ∨ ∃ k, k ≤ td ∧ a = nI k ∧ ∀ m, qI_L T td te tf m → f8_isKnown a m = 1 ∧ f9_isKnown a m = some 1 := by
  have e8 : ∀ m, qI_L T td te tf m → f8_isKnown a m = f9_in a (nI 0) (nI td) ∧ (f9_isKnown a m = if z_b (f9_in a (nI 0) (nI td)) = true then some (f9_in a (nI 0) (nI td)) else none) := fun m h => by
    unfold f8_isKnown f9_isKnown
    rw [h.2.1, h.2.2.1]
    exact ⟨rfl, rfl⟩
  rcases y_span a (l := 0) (u := td) (by omega) with h | ⟨h, k, _, hk, e⟩ | h
  · refine Or.inl fun m hm => ?_
    rw [(e8 m hm).1, (e8 m hm).2, h]
    exact ⟨rfl, rfl⟩
  · refine Or.inr ⟨k, hk, e, fun m hm => ?_⟩
    rw [(e8 m hm).1, (e8 m hm).2, h]
    exact ⟨rfl, rfl⟩
  · omega
theorem zk_lc {m m' : zMem} (h : zk sLc m m') : zk sQ m m' := zk_m h (fun c i k h => by omega)
theorem c_orders (hT : tOk T) (htd : td ≤ 20) (a : Int32) : ∃ x, qAl T o v td te tf (f8_orders a) x ∧ qAl T o v td te tf (f9_orders a) x := by
  rcases y_known (T := T) (te := te) (tf := tf) htd a with hk | ⟨k, hk, rfl, hk'⟩
  · refine ⟨-1, fun m h hl => ?_, fun m h hl => ?_⟩
    · unfold f8_orders
      rw [(hk m hl).1, if_pos rfl]; exact q_some m
    · unfold f9_orders
      refine zw_eq (hk m hl).2 ?_
      rw [if_pos rfl]; exact q_some m
  · refine ⟨q_W (q_nd te tf k) (tP T) 0, fun m h hl => ?_, fun m h hl => ?_⟩
    · unfold f8_orders f2_all
      rw [(hk' m hl).1, if_neg n01, h.ox, h.P]
      refine zw_b (p2_weigh hT hl hk) ?_
      rintro m1 ⟨hf, hq⟩
      exact zw_some.mpr ⟨hq.2.2.2 0 (Nat.two_pow_pos _), zk_lc hf⟩
    · unfold f9_orders
      refine zw_eq (hk' m hl).2 ?_
      rw [if_neg n01]
      exact zw_b (p9_countsBy h hl hk) (fun q hq => zw_some.mpr ⟨hq.1, hq.2.1⟩)
theorem c_placed (hT : tOk T) (htd : td ≤ 20) (a b c : Int32) : ∃ x, qAl T o v td te tf (f8_placed a b c) x ∧ qAl T o v td te tf (f9_placed a b c) x := by
  have hP := hT.2
  rcases y_known (T := T) (te := te) (tf := tf) htd a with hk | ⟨k, hk, rfl, hk'⟩
  · refine ⟨-1, fun m h hl => ?_, fun m h hl => ?_⟩
    · unfold f8_placed
      rw [(hk m hl).1, if_pos rfl]; exact q_some m
    · unfold f9_placed
      refine zw_eq (hk m hl).2 ?_
      rw [if_pos rfl]; exact q_some m
  rcases y_is b (n := tP T) (by omega) with hb | ⟨p, hp, rfl⟩
  · refine ⟨-1, fun m h hl => ?_, fun m h hl => ?_⟩
    · unfold f8_placed
      rw [(hk' m hl).1, if_neg n01, p8_isPerson_n h hb, if_pos rfl]; exact q_some m
    · unfold f9_placed
      refine zw_eq (hk' m hl).2 ?_
      rw [if_neg n01]
      refine zw_eq (p9_isPerson_n h hb) ?_
      rw [if_pos rfl]; exact q_some m
  have hin : f9_in c 0 (nI (tP T) - 1) = if 0 ≤ c ∧ c < nI (tP T) then 1 else 0 := by
    have es : (nI (tP T) - 1).toInt = (tP T : Int) - 1 := pk_sub_toInt (b := 1) (by omega) (by omega)
    have et : (nI (tP T)).toInt = (tP T : Int) := y_ti (by omega)
    unfold f9_in
    simp only [y_i, y_il, es, et, y_t0]
    by_cases h : c.toInt < 0
    · rw [if_pos h, if_neg (by omega)]
    · rw [if_neg h]
      by_cases h2 : (tP T : Int) - 1 < c.toInt
      · rw [if_pos h2, if_neg (by omega)]
      · rw [if_neg h2, if_pos (by omega)]
  by_cases hc : 0 ≤ c ∧ c < nI (tP T)
  · refine ⟨q_plc (q_nd te tf k) (tP T) p c, fun m h hl => ?_, fun m h hl => ?_⟩
    · unfold f8_placed
      have c0 : ¬ c < 0 := by have := hc.1; rw [y_il, y_t0] at this; rw [y_i, y_t0]; omega
      rw [(hk' m hl).1, if_neg n01, p8_isPerson_y h hp, if_neg n01, h.ox, h.P, if_neg c0, if_pos hc.2]
      refine zw_b (p2_weigh hT hl hk) ?_
      rintro m1 ⟨hf, hq⟩
      rw [p2_timesAt hP hq hp]
      exact zw_some.mpr ⟨rfl, zk_lc hf⟩
    · unfold f9_placed
      obtain ⟨hv, h9, _, h1, _⟩ := h.mx
      refine zw_eq (hk' m hl).2 ?_
      rw [if_neg n01]
      refine zw_eq (p9_isPerson_y h hp) ?_
      rw [if_neg n01, h9, if_pos (y_in hv (by omega)), y_cl (by omega), h1, hin, if_pos hc, if_neg n01]
      refine zw_b (p9_countsBy h hl hk) ?_
      rintro ⟨x, m1⟩ ⟨_, hf, hq⟩
      simp only [z_u2]
      rw [p9_placedAt (q_T_q h hf).mx hT hq hp]
      exact zw_some.mpr ⟨rfl, hf⟩
  · refine ⟨-1, fun m h hl => ?_, fun m h hl => ?_⟩
    · unfold f8_placed
      rw [(hk' m hl).1, if_neg n01, p8_isPerson_y h hp, if_neg n01, h.ox, h.P]
      by_cases c0 : c < 0
      · rw [if_pos c0]; exact q_some m
      · rw [if_neg c0]
        by_cases c1 : c < nI (tP T)
        · exact absurd ⟨by rw [y_il, y_t0]; rw [y_i, y_t0] at c0; omega, c1⟩ hc
        · rw [if_neg c1]; exact q_some m
    · unfold f9_placed
      obtain ⟨hv, h9, _, h1, _⟩ := h.mx
      refine zw_eq (hk' m hl).2 ?_
      rw [if_neg n01]
      refine zw_eq (p9_isPerson_y h hp) ?_
      rw [if_neg n01, h9, if_pos (y_in hv (by omega)), y_cl (by omega), h1, hin, if_neg hc, if_pos rfl]
      exact q_some m
theorem c_before (hT : tOk T) (htd : td ≤ 20) (a b c : Int32) : ∃ x, qAl T o v td te tf (f8_before a b c) x ∧ qAl T o v td te tf (f9_before a b c) x := by
  have hP := hT.2
  rcases y_known (T := T) (te := te) (tf := tf) htd a with hk | ⟨k, hk, rfl, hk'⟩
  · refine ⟨-1, fun m h hl => ?_, fun m h hl => ?_⟩
    · unfold f8_before
      rw [(hk m hl).1, if_pos rfl]; exact q_some m
    · unfold f9_before
      refine zw_eq (hk m hl).2 ?_
      rw [if_pos rfl]; exact q_some m
  rcases y_is b (n := tP T) (by omega) with hb | ⟨p, hp, rfl⟩
  · refine ⟨-1, fun m h hl => ?_, fun m h hl => ?_⟩
    · unfold f8_before
      rw [(hk' m hl).1, if_neg n01, p8_isPerson_n h hb, if_pos rfl]; exact q_some m
    · unfold f9_before
      refine zw_eq (hk' m hl).2 ?_
      rw [if_neg n01]
      refine zw_eq (p9_isPerson_n h hb) ?_
      rw [if_pos rfl]; exact q_some m
  rcases y_is c (n := tP T) (by omega) with hc | ⟨s, hs, rfl⟩
  · refine ⟨-1, fun m h hl => ?_, fun m h hl => ?_⟩
    · unfold f8_before
      rw [(hk' m hl).1, if_neg n01, p8_isPerson_y h hp, if_neg n01, p8_isPerson_n h hc, if_pos rfl]; exact q_some m
    · unfold f9_before
      refine zw_eq (hk' m hl).2 ?_
      rw [if_neg n01]
      refine zw_eq (p9_isPerson_y h hp) ?_
      rw [if_neg n01]
      refine zw_eq (p9_isPerson_n h hc) ?_
      rw [if_pos rfl]; exact q_some m
  by_cases e : nI p = nI s
  · refine ⟨-1, fun m h hl => ?_, fun m h hl => ?_⟩
    · unfold f8_before
      rw [(hk' m hl).1, if_neg n01, p8_isPerson_y h hp, if_neg n01, p8_isPerson_y h hs, if_neg n01, if_pos e]; exact q_some m
    · unfold f9_before
      refine zw_eq (hk' m hl).2 ?_
      rw [if_neg n01]
      refine zw_eq (p9_isPerson_y h hp) ?_
      rw [if_neg n01]
      refine zw_eq (p9_isPerson_y h hs) ?_
      rw [if_neg n01, if_pos e]; exact q_some m
  · refine ⟨q_ahd (q_nd te tf k) (tP T) p s, fun m h hl => ?_, fun m h hl => ?_⟩
    · unfold f8_before
      rw [(hk' m hl).1, if_neg n01, p8_isPerson_y h hp, if_neg n01, p8_isPerson_y h hs, if_neg n01, if_neg e, h.ox, h.P]
      refine zw_b (p2_weigh hT hl hk) ?_
      rintro m1 ⟨hf, hq⟩
      rw [p2_timesAhead hP hq hp hs]
      exact zw_some.mpr ⟨rfl, zk_lc hf⟩
    · unfold f9_before
      refine zw_eq (hk' m hl).2 ?_
      rw [if_neg n01]
      refine zw_eq (p9_isPerson_y h hp) ?_
      rw [if_neg n01]
      refine zw_eq (p9_isPerson_y h hs) ?_
      rw [if_neg n01, if_neg e]
      exact zw_b (p9_beforeBy h hl hk hp hs) (fun q hq => zw_some.mpr hq)
end
