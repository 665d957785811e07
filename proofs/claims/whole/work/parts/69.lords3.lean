/-! LORDS IV: the reference's table, and lords -/
abbrev s157 : Nat → Nat → Nat → Prop := fun c _ _ => c = 157
theorem q_mh_b {sv : Nat → Int32} {h p U : Nat} (e : q_mh sv h p U = true) : U.testBit p = false := by
  unfold q_mh at e
  rw [Bool.and_eq_true] at e
  have := e.2
  cases q : U.testBit p
  · rfl
  · rw [q] at this; exact absurd this (by decide)
section
variable {T : qT} {o v B : Nat} {r : Nat → Int32} {m m' : zMem}
theorem p9_mayHave (hT : tOk T) (hr : qMr m r) {p h U : Nat} (hp : p < tP T) (hh : h < 5) : f9_mayHave (nI p) (nI h) (nI U) m = some (if q_mh (q_sv T r) h p U then 1 else 0) := by
  have hP := hT.2
  unfold f9_mayHave q_mh
  rw [if_pos (y_in (by omega) (by omega)), y_cl (by omega), hr _ (by omega), p9_hasRight hr (by omega) hh, Option.bind_some, b_bit _ _ (by omega), b_n _ p (by omega), q_sv_b hP (by omega), decide_eq_true hp, Bool.true_and]
  by_cases c : r p = 1
  · rw [if_pos c, decide_eq_true c, Bool.and_true]
    cases bt (r (28 + h)) p <;> cases U.testBit p <;> decide
  · rw [if_neg c, decide_eq_false c, Bool.and_false, Bool.false_and, y_ff]
theorem p9_lordsWith {d : Nat → Nat} {p h U : Nat} (hp : p < 7) (hh : h < 5) (hU : U < 128) (hb : U.testBit p = false) (ht : ∀ W, W < 128 → m.1 157 0 (128 * (h + 1) + W) = nI (d W)) : f9_lordsWith (nI h) (nI p) (nI U) m = some (nI (d (U + 2 ^ p) + 1)) := by
  obtain ⟨w1, _, w3⟩ := w_1 U hU p hp hb
  unfold f9_lordsWith
  rw [w3, y_128, pk_mul, nI_add, nI_add, if_pos (y_in (by omega) (by omega)), y_cl (by omega), show 128 * h + 128 + (U + 2 ^ p) = 128 * (h + 1) + (U + 2 ^ p) by omega, ht _ w1, Int32.add_comm, nI_1]
theorem p9_L26 (h : qI_T T o v m) (hr : qMr m r) {d : Nat → Nat} {a U : Nat} (ha : a < tH T) (hU : U < 128) (hd : ∀ W, d W ≤ 5) (ht : ∀ W, W < 128 → m.1 157 0 (128 * (a + 1) + W) = nI (d W)) : z_it (f9_fillsLords_L26 (nI a) (nI U) m) z_fu (nI (d U), 0) = some (nI (q_db (q_sv T r) d a U (tP T))) := by
  have hH := h.ok.1
  have hP := h.ok.2
  obtain ⟨hv, h9, _, h1, _⟩ := h.mx
  refine z_it_e (fun k => (nI (q_db (q_sv T r) d a U k), nI k)) (tP T) _ rfl (fun k hk => ?_) ?_ (z_fu_lt (by omega))
  · have hx : q_db (q_sv T r) d a U k ≤ 6 := by
      rcases q_db_or (q_sv T r) d a U k with e | ⟨p, _, _, e⟩
      · rw [e]; have := hd U; omega
      · rw [e]; have := hd (U + 2 ^ p); omega
    have hs : q_db (q_sv T r) d a U (k + 1) = if (q_mh (q_sv T r) a k U && decide (q_db (q_sv T r) d a U k < d (U + 2 ^ k) + 1)) = true then d (U + 2 ^ k) + 1 else q_db (q_sv T r) d a U k := rfl
    show f9_fillsLords_L26 (nI a) (nI U) m (nI (q_db (q_sv T r) d a U k), nI k) = some (Sum.inl (nI (q_db (q_sv T r) d a U (k + 1)), nI (k + 1)))
    rw [hs]
    generalize q_db (q_sv T r) d a U k = x at *
    have hd' := hd (U + 2 ^ k)
    unfold f9_fillsLords_L26
    simp (disch := omega) only [z_u2, h9, h1, y_in, y_cl, y_lt, hk, ↓reduceIte, p9_mayHave h.ok hr, Option.bind_some, y_s1]
    cases em : q_mh (q_sv T r) a k U
    · rw [y_ff, if_pos rfl, Bool.false_and, y_ff]; rfl
    · rw [if_pos rfl, if_neg n01, p9_lordsWith (d := d) (by omega) (by omega) hU (q_mh_b em) ht, Bool.true_and]
      simp only [Option.bind_some]
      by_cases c : x < d (U + 2 ^ k) + 1
      · rw [if_pos (nI_lt c (by omega)), decide_eq_true c, if_pos rfl]; rfl
      · rw [if_neg (nI_nlt (by omega) (by omega)), decide_eq_false c, y_ff]; rfl
  · unfold f9_fillsLords_L26
    simp (disch := omega) only [z_u2, h9, h1, y_lt, y_in, y_cl, Nat.lt_irrefl, ↓reduceIte]
abbrev q_tab (T : qT) (r : Nat → Int32) (m : zMem) (a : Nat) : Prop := ∀ W, W < 128 → m.1 157 0 (128 * a + W) = nI (q_lt T r (tH T - a) W)
theorem p9_fillsLords (h : qI_T T o v m) (hn : qI_N B T r m) : zw (f9_fillsLords m) fun m' => zk sQ m m' ∧ qMr m' r ∧ ∀ a, a ≤ tH T → q_tab T r m' a := by
  have hT := h.ok
  have hH := hT.1
  unfold f9_fillsLords
  refine zw_b (p9_copiesK h.mx hn.2.2) ?_
  rintro m1 ⟨hf1, hr1, _⟩
  have h1 := q_T_q h (zk_cp hf1)
  obtain ⟨hv, h9, hh, _⟩ := h1.mx
  have up : ∀ m2, zk s157 m1 m2 → qI_T T o v m2 ∧ qMr m2 r := fun m2 hf => ⟨q_T_q h1 (zk_m hf (fun c i k e => by omega)), fun k hk => by rw [hf.1 149 0 k (by omega)]; exact hr1 k hk⟩
  rw [h9, if_pos (y_in hv (by omega)), y_cl (by omega), hh]
  simp only [z_let]
  refine zw_b (zw_for (Q := fun m2 => zk s157 m1 m2 ∧ q_tab T r m2 (tH T)) 128 (fun i m2 => zk s157 m1 m2 ∧ ∀ W, W < i → m2.1 157 0 (128 * tH T + W) = 0) (by omega) ⟨zk_r m1, fun W hW => absurd hW (by omega)⟩ ?_ ?_) ?_
  · rintro i m2 hi ⟨hf, hW⟩
    unfold f9_fillsLords_L6
    simp only [z_u2, z_let]
    rw [y_128, if_pos (show nI i < nI 128 from nI_lt hi (by decide)), pk_mul, nI_add, if_pos (y_in (by omega) (by omega)), y_cl (by omega)]
    refine zw_some.mpr ⟨y_s1 i, zk_s hf rfl, fun W hW' => ?_⟩
    by_cases e : W = i
    · rw [z_sI_1, if_pos ⟨rfl, rfl, by rw [e]⟩]
    · rw [z_sI_1, if_neg (by omega)]; exact hW W (by omega)
  · rintro m2 ⟨hf, hW⟩
    unfold f9_fillsLords_L6
    simp only [z_u2]
    rw [if_neg (show ¬ nI 128 < 128 by decide)]
    refine zw_some.mpr ⟨hf, fun W hW' => ?_⟩
    rw [hW W hW', Nat.sub_self]; rfl
  rintro m2 ⟨hf2, ht2⟩
  refine zw_b (zw_forG (Q := fun m3 => zk s157 m1 m3 ∧ ∀ a, a ≤ tH T → q_tab T r m3 a) (tH T) (fun i (s : Int32 × zMem) => s.1 = (if i < tH T then nI (tH T - 1 - i) else -1) ∧ zk s157 m1 s.2 ∧ ∀ a, a ≤ tH T → tH T - i ≤ a → q_tab T r s.2 a) (by omega) ⟨?_, hf2, fun a h1 h2 => (show a = tH T by omega) ▸ ht2⟩ ?_ ?_) ?_
  · show nI (tH T) - 1 = if 0 < tH T then nI (tH T - 1 - 0) else -1
    by_cases e : 0 < tH T
    · rw [if_pos e, y_1, pk_sub (by omega)]; rfl
    · rw [if_neg e, show tH T = 0 by omega]; rfl
  · rintro i ⟨x, m3⟩ hi ⟨ex, hf, ht⟩
    have ex' : x = nI (tH T - 1 - i) := by
      have : x = (if i < tH T then nI (tH T - 1 - i) else -1) := ex
      rw [if_pos hi] at this; exact this
    subst ex'
    have hf' : zk s157 m1 m3 := hf
    have ht' : ∀ a, a ≤ tH T → tH T - i ≤ a → q_tab T r m3 a := ht
    clear ex hf ht
    obtain ⟨a, ha⟩ : ∃ a, a = tH T - 1 - i := ⟨_, rfl⟩
    rw [← ha]
    unfold f9_fillsLords_L15
    simp only [z_u2]
    rw [if_neg (nI_pos (by omega))]
    refine zw_b (zw_for (Q := fun m4 => zk s157 m1 m4 ∧ (∀ b, b ≤ tH T → a < b → q_tab T r m4 b) ∧ q_tab T r m4 a) 128 (fun j m4 => zk s157 m1 m4 ∧ (∀ b, b ≤ tH T → a < b → q_tab T r m4 b) ∧ ∀ W, W < j → m4.1 157 0 (128 * a + W) = nI (q_lt T r (tH T - a) W)) (by omega) ⟨hf', fun b h1 h2 => ht' b h1 (by omega), fun W hW => absurd hW (by omega)⟩ ?_ ?_) ?_
    · rintro j m4 hj ⟨hf4, hb4, hW4⟩
      obtain ⟨i4, r4⟩ := up m4 hf4
      have htb := hb4 (a + 1) (by omega) (by omega)
      have hle : ∀ W, q_lt T r (tH T - (a + 1)) W ≤ 5 := fun W => by have := q_lt_le (r := r) hT (tH T - (a + 1)) W; omega
      have e1 : 128 * a + 128 + j = 128 * (a + 1) + j := by omega
      have e2 : q_db (q_sv T r) (q_lt T r (tH T - (a + 1))) a j (tP T) = q_lt T r (tH T - a) j := by
        rw [show tH T - a = (tH T - (a + 1)) + 1 by omega]
        show _ = q_db (q_sv T r) (q_lt T r (tH T - (a + 1))) (tH T - (tH T - (a + 1) + 1)) j (tP T)
        rw [show tH T - (tH T - (a + 1) + 1) = a by omega]
      unfold f9_fillsLords_L19
      simp (disch := omega) only [z_u2, z_let, y_128, y_lt, hj, ↓reduceIte, pk_mul, nI_add, y_in, y_cl, e1]
      rw [htb j hj]
      refine zw_eq (p9_L26 i4 r4 (by omega) hj hle htb) ?_
      rw [e2]
      refine zw_some.mpr ⟨y_s1 j, zk_s hf4 rfl, fun b h1 h2 W hW => ?_, fun W hW => ?_⟩
      · rw [z_sI_1, if_neg (by omega)]; exact hb4 b h1 h2 W hW
      · by_cases e : W = j
        · rw [z_sI_1, if_pos ⟨rfl, rfl, by rw [e]⟩, e]
        · rw [z_sI_1, if_neg (by omega)]; exact hW4 W (by omega)
    · rintro m4 ⟨hf4, hb4, hW4⟩
      unfold f9_fillsLords_L19
      simp only [z_u2]
      rw [if_neg (show ¬ nI 128 < 128 by decide)]
      exact zw_some.mpr ⟨hf4, hb4, hW4⟩
    · rintro m4 ⟨hf4, hb4, hW4⟩
      refine zw_some.mpr ⟨?_, hf4, fun b h1 h2 => ?_⟩
      · show nI a + -1 = if i + 1 < tH T then nI (tH T - 1 - (i + 1)) else -1
        by_cases e : i + 1 < tH T
        · rw [if_pos e, show tH T - 1 - (i + 1) = a - 1 by omega, ← Int32.sub_eq_add_neg, y_1, pk_sub (by omega)]
        · rw [if_neg e, show a = 0 by omega]; rfl
      · by_cases e : b = a
        · rw [e]; exact hW4
        · exact hb4 b h1 (by omega)
  · rintro ⟨x, m3⟩ ⟨ex, hf, ht⟩
    have ex' : x = -1 := by
      have : x = (if tH T < tH T then nI (tH T - 1 - tH T) else -1) := ex
      rw [if_neg (by omega)] at this; exact this
    subst ex'
    unfold f9_fillsLords_L15
    simp only [z_u2]
    rw [if_pos (by decide)]
    exact zw_some.mpr ⟨hf, fun a ha => ht a ha (by omega)⟩
  · rintro m3 ⟨hf, ht⟩
    exact zw_some.mpr ⟨zk_t (zk_cp hf1) (zk_m hf (fun c i k e => by omega)), (up m3 hf).2, ht⟩
theorem p9_lordFor (h : qI_T T o v m) (hr : qMr m r) (ht : ∀ a, a ≤ tH T → q_tab T r m a) {a U : Nat} (ha : a < tH T) (hU : U < 128) : f9_lordFor (nI a) (nI U) m = some (q_res1 (q_lf T r a U)) := by
  have hH := h.ok.1
  have hP := h.ok.2
  obtain ⟨hv, h9, _, h1, _⟩ := h.mx
  unfold f9_lordFor
  rw [z_se (body := f9_lordFor_L1 (nI a) (nI U) m) (s0 := 0) (q_lc T r a U) nI (tP T) nI rfl (fun p hp => ?_) ?_ (by omega)]
  · unfold q_lf q_res1
    cases q_se (q_lc T r a U) (tP T) <;> rfl
  · unfold f9_lordFor_L1
    simp (disch := omega) only [h9, h1, y_in, y_cl, y_lt, Nat.lt_irrefl, ↓reduceIte]
  · have l1 := q_lt_le (r := r) h.ok (tH T - (a + 1)) (U + 2 ^ p)
    have l2 := q_lt_le (r := r) h.ok (tH T - a) U
    unfold f9_lordFor_L1 q_lc
    simp (disch := omega) only [h9, h1, y_in, y_cl, y_lt, hp, ↓reduceIte, p9_mayHave h.ok hr, Option.bind_some, y_s1]
    cases em : q_mh (q_sv T r) a p U
    · rw [y_ff, if_pos rfl, Bool.false_and, y_ff]
    · rw [if_pos rfl, if_neg n01, p9_lordsWith (d := q_lt T r (tH T - (a + 1))) (by omega) (by omega) hU (q_mh_b em) (ht (a + 1) (by omega)), Option.bind_some, y_128, pk_mul, nI_add, if_pos (y_in (by omega) (by omega)), y_cl (by omega), ht a (by omega) U hU, Bool.true_and]
      by_cases c : q_lt T r (tH T - (a + 1)) (U + 2 ^ p) + 1 = q_lt T r (tH T - a) U
      · rw [if_pos (by rw [c]), decide_eq_true c, if_pos rfl]
      · rw [if_neg (by rw [y_eq (by omega) (by omega)]; exact c), decide_eq_false c, y_ff]
theorem c_lords (hT : tOk T) (a : Int32) : ∃ x, qAp T o v B r (f8_lords a) x ∧ qAn T o v B r (f9_lords a) x := by
  have hH := hT.1
  have hP := hT.2
  by_cases e1 : a = -1
  · subst e1
    refine ⟨nI (q_lt T r (tH T) 0), fun m h hn => ?_, fun m h hn => ?_⟩
    · unfold f8_lords
      have := p8_most h hn (a := 0) (U := 0) (by omega) (by omega)
      rw [if_pos rfl]
      show (f8_mostLords (nI 0) (nI 0) m).bind _ = _
      rw [this]; rfl
    · unfold f9_lords
      rw [if_pos rfl]
      refine zw_b (p9_fillsLords h hn) ?_
      rintro m' ⟨hf, _, ht⟩
      rw [if_pos rfl]
      exact zw_some.mpr ⟨by have := ht 0 (by omega) 0 (by omega); exact this, hf⟩
  rcases y_is a (n := tH T) (by omega) with ha | ⟨j, hj, rfl⟩
  · refine ⟨-1, fun m h hn => ?_, fun m h hn => ?_⟩
    · unfold f8_lords
      rw [if_neg e1, p8_isHouse_n h ha, if_pos rfl]
    · unfold f9_lords
      rw [if_neg e1]
      refine zw_eq (p9_isHouse_n h ha) ?_
      rw [if_pos rfl]
      exact q_some m
  refine ⟨q_res1 (q_lf T r j (q_us T r j)), fun m h hn => ?_, fun m h hn => ?_⟩
  · unfold f8_lords
    rw [if_neg e1, p8_isHouse_y h hj, if_neg n01]
    refine z_it_eb (fun k => (nI (q_us T r k), (if k = 0 then -2 else q_res1 (q_lf T r (k - 1) (q_us T r (k - 1)))), nI k)) (j + 1) (q_res1 (q_lf T r j (q_us T r j))) rfl (fun k hk => ?_) ?_ (z_fu_lt (by omega)) rfl
    · show f8_lords_L6 (nI j) m (nI (q_us T r k), (if k = 0 then -2 else q_res1 (q_lf T r (k - 1) (q_us T r (k - 1)))), nI k) = some (Sum.inl (nI (q_us T r (k + 1)), (if k + 1 = 0 then -2 else q_res1 (q_lf T r k (q_us T r k))), nI (k + 1)))
      unfold f8_lords_L6
      simp only [z_u3, z_let]
      rw [if_neg (nI_nlt (by omega) (by omega)), p8_given h hn (by omega) (q_us_lt hP k), Option.bind_some, q_us_s hP k, Option.bind_some, y_s1, if_neg (show ¬ k + 1 = 0 by omega)]
    · show f8_lords_L6 (nI j) m (nI (q_us T r (j + 1)), (if j + 1 = 0 then -2 else q_res1 (q_lf T r j (q_us T r j))), nI (j + 1)) = some (Sum.inr (q_res1 (q_lf T r j (q_us T r j))))
      unfold f8_lords_L6
      simp only [z_u3]
      rw [if_pos (nI_lt (by omega) (by omega)), if_neg (show ¬ j + 1 = 0 by omega)]
  · unfold f9_lords
    rw [if_neg e1]
    refine zw_eq (p9_isHouse_y h hj) ?_
    rw [if_neg n01]
    refine zw_b (p9_fillsLords h hn) ?_
    rintro m' ⟨hf, hr, ht⟩
    rw [if_neg e1]
    have h' := q_T_q h hf
    refine zw_eq (z_it_e (fun k => (nI (q_us T r k), nI k)) j (nI (q_us T r j)) rfl (fun k hk => ?_) ?_ (z_fu_lt (by omega))) ?_
    · show f9_lords_L27 (nI j) m' (nI (q_us T r k), nI k) = some (Sum.inl (nI (q_us T r (k + 1)), nI (k + 1)))
      unfold f9_lords_L27
      simp only [z_u2, z_let]
      rw [if_pos (nI_lt hk (by omega)), p9_lordFor h' hr ht (by omega) (q_us_lt hP k), Option.bind_some, q_us_s hP k, Option.bind_some, y_s1]
    · unfold f9_lords_L27
      simp only [z_u2]
      rw [if_neg (nI_nlt (by omega) (by omega))]
    · rw [p9_lordFor h' hr ht hj (q_us_lt hP j)]
      exact zw_some.mpr ⟨rfl, hf⟩
end
