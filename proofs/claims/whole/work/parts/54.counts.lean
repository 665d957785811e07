/-! ORDERS: the reference's tables -/
section
variable {T : qT} {o v : Nat} {m m' : zMem} {nd : Nat → Int32}
abbrev sNd : Nat → Nat → Nat → Prop := fun c _ _ => c = 161
abbrev sWy : Nat → Nat → Nat → Prop := fun c _ _ => c = 162 ∨ c = 163
def qLm (m : zMem) (nd : Nat → Int32) (n : Nat) : Prop := (∀ p, p < 7 → m.1 161 0 p = nd p) ∧ (∀ S, S < 2 ^ n → m.1 162 0 S = q_H nd n S) ∧ ∀ S, S < 2 ^ n → m.1 163 0 S = q_W nd n S
theorem p9_fillsNeeds (hT : tOk T) {td : Nat} {te tf : Nat → Nat} (hl : qI_L T td te tf m) {k : Nat} (hk : k ≤ td) : zw (f9_fillsNeeds (nI k) m) fun m' => zk sNd m m' ∧ ∀ p, p < 7 → m'.1 161 0 p = q_nd te tf k p := by
  have hP := hT.2
  have htd := hl.1
  unfold f9_fillsNeeds
  refine zw_b (zw_for (Q := fun m1 => zk sNd m m1 ∧ ∀ p, p < 7 → m1.1 161 0 p = 0) 7 (fun i m1 => zk sNd m m1 ∧ ∀ p, p < i → m1.1 161 0 p = 0) (by omega) ⟨zk_r m, fun p hp => absurd hp (by omega)⟩ ?_ ?_) ?_
  · rintro i m1 hi ⟨hf, hz⟩
    unfold f9_fillsNeeds_L1
    simp (disch := omega) only [z_u2, y_7, y_lt, hi, ↓reduceIte, y_in, y_cl, z_let, y_s1]
    refine zw_some.mpr ⟨rfl, zk_s hf rfl, fun p hp => ?_⟩
    rw [z_sI_1]
    by_cases e : p = i
    · rw [if_pos ⟨rfl, rfl, e⟩]
    · rw [if_neg (fun q => e q.2.2)]; exact hz p (by omega)
  · rintro m1 hI
    unfold f9_fillsNeeds_L1
    simp only [z_u2]
    rw [if_neg (show ¬ nI 7 < 7 by decide)]
    exact zw_some.mpr hI
  rintro m1 ⟨hf1, hz1⟩
  refine zw_b (zw_for (Q := fun m2 => zk sNd m m2 ∧ ∀ p, p < 7 → m2.1 161 0 p = q_nd te tf k p) k (fun i m2 => zk sNd m m2 ∧ ∀ p, p < 7 → m2.1 161 0 p = q_nd te tf i p) (by omega) ⟨hf1, hz1⟩ ?_ ?_) (fun m2 h2 => zw_some.mpr h2)
  · rintro i m2 hi ⟨hf, hd⟩
    obtain ⟨a1, a2, a3, _, _, a4, a5⟩ := hl.2.2.2 i (by omega)
    have b4 : m2.1 159 0 i = nI (te i) := by rw [hf.1 159 0 i (by omega)]; exact a4
    have b5 : m2.1 160 0 i = nI (tf i) := by rw [hf.1 160 0 i (by omega)]; exact a5
    unfold f9_fillsNeeds_L10
    simp (disch := omega) only [z_u2, y_lt, hi, ↓reduceIte, y_in, y_cl, z_let, b4, b5, y_s1]
    refine zw_some.mpr ⟨rfl, zk_s hf rfl, fun p hp => ?_⟩
    rw [z_sI_1, q_nd]
    by_cases e : tf i = p
    · rw [if_pos ⟨rfl, rfl, e.symm⟩, if_pos e, hd _ (by omega), e]
    · rw [if_neg (fun q => e q.2.2.symm), if_neg e]; exact hd p hp
  · rintro m2 hI
    unfold f9_fillsNeeds_L10
    simp only [z_u2]
    rw [if_neg Int32.lt_irrefl]
    exact zw_some.mpr hI
theorem p9_allBits (hx : qMx m T v) (hT : tOk T) : f9_allBits m = some (nI (2 ^ tP T - 1)) := by
  obtain ⟨hv, h9, _, h1, _⟩ := hx
  unfold f9_allBits
  rw [h9, if_pos (y_in hv (by omega)), y_cl (by omega), h1, y_ev9 hT.2]
theorem p9_counts (hx : qMx m T v) (hT : tOk T) (hm : ∀ p, p < 7 → m.1 161 0 p = nd p) : zw (f9_counts m) fun q => q.1 = q_W nd (tP T) 0 ∧ zk sWy m q.2 ∧ qLm q.2 nd (tP T) := by
  have hP := hT.2
  have h128 := y_p7 hP
  unfold f9_counts
  refine zw_eq (p9_allBits hx hT) ?_
  have hpn : ∀ m1, zk sWy m m1 → z_in (m1.1 9 0 18) 2 = true ∧ m1.1 126 0 (m1.1 9 0 18).toNatClampNeg = nI (tP T) := fun m1 hf => by
    obtain ⟨hv, h9, _, h1, _⟩ := hx.zk hf (fun k => by omega)
    rw [h9, y_cl (by omega), h1]
    exact ⟨y_in hv (by omega), rfl⟩
  generalize hn : tP T = n at *
  have hpos := Nat.two_pow_pos n
  refine zw_b (zw_for (Q := fun m3 => zk sWy m m3 ∧ ∀ S, S < 2 ^ n → m3.1 162 0 S = q_H nd n S) (2 ^ n) (fun i m3 => zk sWy m m3 ∧ ∀ S, S < i → m3.1 162 0 S = q_H nd n S) (by omega) ⟨zk_r m, fun p hp => absurd hp (by omega)⟩ ?_ ?_) ?_
  · rintro i m3 hi ⟨hf, hH⟩
    have hnl : ¬ nI (2 ^ n - 1) < nI i := nI_nlt (by omega) (by omega)
    unfold f9_counts_L3
    simp only [z_u2]
    have hval : (if nI i = 0 then some (1 : Int32) else some 0) = some (if i = 0 then 1 else 0) := by
      by_cases e : i = 0
      · rw [e]; rfl
      · rw [if_neg (by rw [y_eq0 (by omega)]; exact e), if_neg e]
    rw [if_neg hnl, hval, Option.bind_some, if_pos (y_in (by omega) (by omega)), y_cl (by omega)]
    simp only [z_let]
    refine zw_b (zw_for (Q := fun m4 => zk sWy m m4 ∧ (∀ S, S < i → m4.1 162 0 S = q_H nd n S) ∧ m4.1 162 0 i = q_H nd n i) n (fun j m4 => zk sWy m m4 ∧ (∀ S, S < i → m4.1 162 0 S = q_H nd n S) ∧ m4.1 162 0 i = (if i = 0 then 1 else 0) + q_sm (fun p => if i.testBit p && q_go nd p (i - 2 ^ p) then q_H nd n (i - 2 ^ p) else 0) j) (by omega) ⟨zk_s hf (by omega), fun S hS => by rw [z_sI_1, if_neg (by omega)]; exact hH S hS, by rw [z_sI_1, if_pos ⟨rfl, rfl, rfl⟩]; exact (Int32.add_zero _).symm⟩ ?_ ?_) ?_
    · rintro j m4 hj ⟨hf4, hH4, hi4⟩
      obtain ⟨z1, z2⟩ := hpn m4 hf4
      have hm4 : ∀ p, p < 7 → m4.1 161 0 p = nd p := fun p hp => by rw [hf4.1 161 0 p (by omega)]; exact hm p hp
      have hsm : q_sm (fun p => if i.testBit p && q_go nd p (i - 2 ^ p) then q_H nd n (i - 2 ^ p) else 0) (j + 1) = q_sm (fun p => if i.testBit p && q_go nd p (i - 2 ^ p) then q_H nd n (i - 2 ^ p) else 0) j + (if i.testBit j && q_go nd j (i - 2 ^ j) then q_H nd n (i - 2 ^ j) else 0) := rfl
      unfold f9_counts_L14
      simp (disch := omega) only [z_u2, z1, z2, ↓reduceIte, y_lt, hj, z_let]
      cases eb : i.testBit j
      · rw [w_3 i (by omega) j (by omega) eb, if_pos rfl]
        refine zw_some.mpr ⟨y_s1 j, hf4, hH4, ?_⟩
        rw [hsm, eb, Bool.false_and, y_ff, Int32.add_zero]; exact hi4
      · obtain ⟨l1, l2, l3⟩ := w_2 i (by omega) j (by omega) eb
        have hpj := Nat.two_pow_pos j
        rw [l3, if_neg (by rw [y_eq (by omega) (by omega)]; omega), p9_mayGo hm4 (by omega), Option.bind_some]
        cases eg : q_go nd j (i - 2 ^ j)
        · rw [y_ff, if_pos rfl]
          refine zw_some.mpr ⟨y_s1 j, hf4, hH4, ?_⟩
          rw [hsm, eb, eg, Bool.and_false, y_ff, Int32.add_zero]; exact hi4
        · rw [if_pos rfl, if_neg n01, if_pos (y_in (by omega) (by omega)), if_pos (y_in (by omega) (by omega)), y_cl (by omega), y_cl (by omega)]
          refine zw_some.mpr ⟨y_s1 j, zk_s hf4 (by omega), fun S hS => by rw [z_sI_1, if_neg (by omega)]; exact hH4 S hS, ?_⟩
          rw [z_sI_1, if_pos ⟨rfl, rfl, rfl⟩, hsm, eb, eg, Bool.and_true, if_pos rfl, hi4, hH4 _ (by omega), Int32.add_assoc]
    · rintro m4 ⟨hf4, hH4, hi4⟩
      obtain ⟨z1, z2⟩ := hpn m4 hf4
      unfold f9_counts_L14
      simp (disch := omega) only [z_u2, z1, z2, ↓reduceIte, y_lt, Nat.lt_irrefl]
      refine zw_some.mpr ⟨hf4, hH4, ?_⟩
      rw [hi4, q_H_eq]
      by_cases e : i = 0
      · rw [if_pos e, if_pos e]
        have : q_sm (fun p => if i.testBit p && q_go nd p (i - 2 ^ p) then q_H nd n (i - 2 ^ p) else 0) n = 0 := (q_sm_cong fun p hp => by rw [e, Nat.zero_testBit, Bool.false_and, y_ff]).trans (q_sm_0 n)
        rw [this]; rfl
      · rw [if_neg e, if_neg e, Int32.zero_add]
    · rintro m4 ⟨hf4, hH4, hi4⟩
      refine zw_some.mpr ⟨y_s1 i, hf4, fun S hS => ?_⟩
      by_cases e : S = i
      · rw [e]; exact hi4
      · exact hH4 S (by omega)
  · rintro m3 hI
    unfold f9_counts_L3
    simp only [z_u2]
    rw [if_pos (nI_lt (by omega) (by omega))]
    exact zw_some.mpr hI
  rintro m3 ⟨hf3, hH3⟩
  refine zw_b (zw_forG (Q := fun m4 => zk sWy m m4 ∧ qLm m4 nd n) (2 ^ n) (fun i s => s.1 = (if i < 2 ^ n then nI (2 ^ n - 1 - i) else -1) ∧ (zk sWy m s.2 ∧ ∀ S, S < 2 ^ n → s.2.1 162 0 S = q_H nd n S) ∧ ∀ S, S < 2 ^ n → 2 ^ n - i ≤ S → s.2.1 163 0 S = q_W nd n S) (by omega) ⟨by rw [if_pos hpos]; rfl, ⟨hf3, hH3⟩, fun S h1 h2 => by omega⟩ ?_ ?_) ?_
  · rintro i ⟨x, m4⟩ hi ⟨ex, ⟨hf, hH⟩, hW⟩
    have ex' : x = nI (2 ^ n - 1 - i) := by
      have : x = (if i < 2 ^ n then nI (2 ^ n - 1 - i) else -1) := ex
      rw [if_pos hi] at this; exact this
    subst ex'
    have hf' : zk sWy m m4 := hf
    have hH' : ∀ S, S < 2 ^ n → m4.1 162 0 S = q_H nd n S := hH
    have hW' : ∀ S, S < 2 ^ n → 2 ^ n - i ≤ S → m4.1 163 0 S = q_W nd n S := hW
    generalize hS : 2 ^ n - 1 - i = S at *
    have hval : (if nI S = nI (2 ^ n - 1) then some (1 : Int32) else some 0) = some (if S = 2 ^ n - 1 then 1 else 0) := by
      by_cases e : S = 2 ^ n - 1
      · rw [if_pos (by rw [e]), if_pos e]
      · rw [if_neg (by rw [y_eq (by omega) (by omega)]; exact e), if_neg e]
    unfold f9_counts_L36
    simp only [z_u2]
    rw [if_neg (nI_pos (by omega)), hval, Option.bind_some, if_pos (y_in (by omega) (by omega)), y_cl (by omega)]
    simp only [z_let]
    refine zw_b (zw_for (Q := fun m5 => (zk sWy m m5 ∧ ∀ S, S < 2 ^ n → m5.1 162 0 S = q_H nd n S) ∧ (∀ R, R < 2 ^ n → S < R → m5.1 163 0 R = q_W nd n R) ∧ m5.1 163 0 S = q_W nd n S) n (fun j m5 => (zk sWy m m5 ∧ ∀ S, S < 2 ^ n → m5.1 162 0 S = q_H nd n S) ∧ (∀ R, R < 2 ^ n → S < R → m5.1 163 0 R = q_W nd n R) ∧ m5.1 163 0 S = (if S = 2 ^ n - 1 then 1 else 0) + q_sm (fun p => if q_go nd p S then q_W nd n (S + 2 ^ p) else 0) j) (by omega) ⟨⟨zk_s hf' (by omega), fun R hR => by rw [z_sI_1, if_neg (by omega)]; exact hH' R hR⟩, fun R hR hR2 => by rw [z_sI_1, if_neg (by omega)]; exact hW' R hR (by omega), by rw [z_sI_1, if_pos ⟨rfl, rfl, rfl⟩]; exact (Int32.add_zero _).symm⟩ ?_ ?_) ?_
    · rintro j m5 hj ⟨⟨hf5, hH5⟩, hW5, hS5⟩
      obtain ⟨z1, z2⟩ := hpn m5 hf5
      have hm5 : ∀ p, p < 7 → m5.1 161 0 p = nd p := fun p hp => by rw [hf5.1 161 0 p (by omega)]; exact hm p hp
      have hsm : q_sm (fun p => if q_go nd p S then q_W nd n (S + 2 ^ p) else 0) (j + 1) = q_sm (fun p => if q_go nd p S then q_W nd n (S + 2 ^ p) else 0) j + (if q_go nd j S then q_W nd n (S + 2 ^ j) else 0) := rfl
      unfold f9_counts_L47
      simp (disch := omega) only [z_u2, z1, z2, ↓reduceIte, y_lt, hj, z_let, p9_mayGo hm5 (show j < 7 by omega), Option.bind_some]
      cases eg : q_go nd j S
      · rw [y_ff, if_pos rfl]
        refine zw_some.mpr ⟨y_s1 j, ⟨hf5, hH5⟩, hW5, ?_⟩
        rw [hsm, eg, y_ff, Int32.add_zero]; exact hS5
      · have hb := q_go_b eg
        obtain ⟨l1, l2, l3⟩ := w_1 S (by omega) j (by omega) hb
        have l4 := w_4 n (by omega) S (by omega) (by omega) j hj hb
        have hpj := Nat.two_pow_pos j
        rw [if_pos rfl, if_neg n01, l3, if_pos (y_in (by omega) (by omega)), if_pos (y_in (by omega) (by omega)), y_cl (by omega), y_cl (by omega)]
        refine zw_some.mpr ⟨y_s1 j, ⟨zk_s hf5 (by omega), fun R hR => by rw [z_sI_1, if_neg (by omega)]; exact hH5 R hR⟩, fun R hR hR2 => by rw [z_sI_1, if_neg (by omega)]; exact hW5 R hR hR2, ?_⟩
        rw [z_sI_1, if_pos ⟨rfl, rfl, rfl⟩, hsm, eg, if_pos rfl, hS5, hW5 _ l4 (by omega), Int32.add_assoc]
    · rintro m5 ⟨⟨hf5, hH5⟩, hW5, hS5⟩
      obtain ⟨z1, z2⟩ := hpn m5 hf5
      unfold f9_counts_L47
      simp (disch := omega) only [z_u2, z1, z2, ↓reduceIte, y_lt, Nat.lt_irrefl]
      refine zw_some.mpr ⟨⟨hf5, hH5⟩, hW5, ?_⟩
      rw [hS5, q_W_eq nd hP (by omega)]
      by_cases e : S = 2 ^ n - 1
      · rw [if_pos e, if_pos e]
        have : q_sm (fun p => if q_go nd p S then q_W nd n (S + 2 ^ p) else 0) n = 0 := (q_sm_cong fun p hp => by
          have f : q_go nd p S = false := by
            unfold q_go
            rw [e, w_7 n (by omega) p hp]; rfl
          rw [f, y_ff]).trans (q_sm_0 n)
        rw [this]; rfl
      · rw [if_neg e, if_neg e, Int32.zero_add]
    · rintro m5 ⟨⟨hf5, hH5⟩, hW5, hS5⟩
      refine zw_some.mpr ⟨?_, ⟨hf5, hH5⟩, fun R h1 h2 => ?_⟩
      · show nI S + -1 = _
        by_cases e : i + 1 < 2 ^ n
        · rw [if_pos e, show S = (2 ^ n - 1 - (i + 1)) + 1 by omega, pk_m1]
        · rw [if_neg e, show S = 0 by omega]; rfl
      · by_cases e : R = S
        · rw [e]; exact hS5
        · exact hW5 R h1 (by omega)
  · rintro ⟨x, m4⟩ ⟨ex, ⟨hf, hH⟩, hW⟩
    have ex' : x = -1 := by
      have : x = (if 2 ^ n < 2 ^ n then nI (2 ^ n - 1 - 2 ^ n) else -1) := ex
      rw [if_neg (by omega)] at this; exact this
    subst ex'
    have hf' : zk sWy m m4 := hf
    unfold f9_counts_L36
    simp only [z_u2]
    rw [if_pos (by decide)]
    exact zw_some.mpr ⟨hf', fun p hp => by rw [hf'.1 161 0 p (by omega)]; exact hm p hp, hH, fun S hS => hW S hS (by omega)⟩
  · rintro m4 ⟨hf4, h4⟩
    exact zw_some.mpr ⟨h4.2.2 0 hpos, hf4, h4⟩
theorem p9_countsBy (h : qI_T T o v m) {td : Nat} {te tf : Nat → Nat} (hl : qI_L T td te tf m) {k : Nat} (hk : k ≤ td) : zw (f9_countsBy (nI k) m) fun q => q.1 = q_W (q_nd te tf k) (tP T) 0 ∧ zk sQ m q.2 ∧ qLm q.2 (q_nd te tf k) (tP T) := by
  unfold f9_countsBy
  refine zw_b (p9_fillsNeeds h.ok hl hk) ?_
  rintro m1 ⟨hf1, hd1⟩
  refine zw_b (p9_counts (h.mx.zk hf1 (fun k => by omega)) h.ok hd1) ?_
  rintro ⟨x, m2⟩ ⟨ex, hf2, h2⟩
  exact zw_some.mpr ⟨ex, zk_t (zk_m hf1 (fun c i k h => by omega)) (zk_m hf2 (fun c i k h => by omega)), h2⟩
theorem p9_beforeBy (h : qI_T T o v m) {td : Nat} {te tf : Nat → Nat} (hl : qI_L T td te tf m) {k p s : Nat} (hk : k ≤ td) (hp : p < tP T) (hs : s < tP T) : zw (f9_beforeBy (nI k) (nI p) (nI s) m) fun q => q.1 = q_ahd (q_nd te tf k) (tP T) p s ∧ zk sQ m q.2 := by
  have hP := h.ok.2
  unfold f9_beforeBy
  refine zw_b (p9_fillsNeeds h.ok hl hk) ?_
  rintro m1 ⟨hf1, hd1⟩
  rw [if_pos (y_in (by omega) (by omega)), y_cl (by omega)]
  simp only [z_let]
  have hf2 : zk sNd m1 (z_sI m1 161 0 s (m1.1 161 0 s ||| (1 <<< (nI p &&& 31)))) := zk_s (zk_r m1) rfl
  refine zw_b (p9_counts (nd := q_nd1 (q_nd te tf k) s p) ((h.mx.zk hf1 (fun k => by omega)).zk hf2 (fun k => by omega)) h.ok (fun x hx => ?_)) ?_
  · rw [z_sI_1]
    unfold q_nd1
    by_cases e : x = s
    · rw [if_pos ⟨rfl, rfl, e⟩, if_pos e, hd1 s (by omega)]
    · rw [if_neg (fun q => e q.2.2), if_neg e, hd1 x hx]
  · rintro ⟨x, m2⟩ ⟨ex, hf3, h3⟩
    refine zw_some.mpr ⟨?_, zk_t (zk_m hf1 (fun c i k h => by omega)) (zk_t (zk_m hf2 (fun c i k h => by omega)) (zk_m hf3 (fun c i k h => by omega)))⟩
    show x = _
    rw [q_ahead hP hp hs]
    exact ex
end
