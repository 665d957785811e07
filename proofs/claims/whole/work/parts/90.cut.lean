/-! READ XIII: the reference cuts its TOKENS -/
def qk_G (k : Nat) : Nat := if k = 0 then 0 else if k = 2 then 1 else if k = 3 then 2 else if k = 1 then 3 else if k = 59 then 4 else if k = 61 then 5 else if k = 40 then 6 else if k = 41 then 7 else if k = 43 then 8 else if k = 45 then 9 else if k = 42 then 10 else if k = 47 then 15 else if k = 60 then 13 else k - 108
theorem w_G : ∀ k, k < 149 → qk_ok k = true → qk_G k ≤ 40 ∧ ∀ c, c < 149 → qk_ok c = true → (qk_G k = qk_G c ↔ k = c) := by decide +kernel
theorem qk_G_lt {k : Nat} (h : qk_ok k = true) : qk_G k ≤ 40 := (w_G k (qk_ok_lt h) h).1
theorem qk_G_eq {k c : Nat} (h : qk_ok k = true) (hc : qk_ok c = true) : (nI (qk_G k) = nI (qk_G c)) = (k = c) := by
  have a := qk_G_lt h
  have a' := qk_G_lt hc
  rw [y_eq (by omega) (by omega)]
  exact propext ((w_G k (qk_ok_lt h) h).2 c (qk_ok_lt hc) hc)
def q_sgk (x : Int32) : Int32 := if x = 60 then 13 else if x = 47 then 15 else if x = 42 then 10 else if x = 45 then 9 else if x = 43 then 8 else if x = 59 then 4 else if x = 61 then 5 else if x = 40 then 6 else if x = 41 then 7 else 3
theorem p9_sign_eq (a1 x a3 : Int32) (m : zMem) : f9_sign a1 x a3 m = (f9_token (q_sgk x) a1 0 0 m).bind (fun qm28 => some ((1 : Int32), qm28)) := by
  unfold f9_sign q_sgk
  by_cases h1 : x = 60
  · subst h1; rfl
  by_cases h2 : x = 47
  · subst h2; rfl
  by_cases h3 : x = 42
  · subst h3; rfl
  by_cases h4 : x = 45
  · subst h4; rfl
  by_cases h5 : x = 43
  · subst h5; rfl
  simp only [if_neg h1, if_neg h2, if_neg h3, if_neg h4, if_neg h5]
  by_cases h6 : x = 59
  · simp only [if_pos h6, Option.bind_some]
  by_cases h7 : x = 61
  · simp only [if_neg h6, if_pos h7, Option.bind_some]
  by_cases h8 : x = 40
  · simp only [if_neg h6, if_neg h7, if_pos h8, Option.bind_some]
  by_cases h9 : x = 41
  · simp only [if_neg h6, if_neg h7, if_neg h8, if_pos h9, Option.bind_some]
  · simp only [if_neg h6, if_neg h7, if_neg h8, if_neg h9, Option.bind_some]
theorem w_sgk : ∀ k, k < 256 → q_sgk ((nI k - 128) &&& 255) = nI (qk_G (if q_sg (nI k - 128) then (nI k - 128).toNatClampNeg else 1)) := by decide +kernel
theorem p9_sgk {x : Int32} (h : q_by x) : q_sgk (x &&& 255) = nI (qk_G (if q_sg x then x.toNatClampNeg else 1)) := by
  obtain ⟨k, hk, rfl⟩ := q_by_k h
  exact w_sgk k hk
section
variable {m m' : zMem} {n p i : Nat} {b : Nat → Int32}
abbrev l108 : Nat → Prop := fun c => c = 108
abbrev sCut : Nat → Nat → Nat → Prop := fun c _ k => c = 105 ∨ c = 106 ∨ c = 107 ∨ (c = 9 ∧ k = 10)
/-- the reference's TOKENS up to i -/
def qk_tm (b : Nat → Int32) (n i : Nat) (m : zMem) : Prop := ∀ j, j < i → m.1 105 0 j = nI (qk_G (qk_K b n j)) ∧ m.1 106 0 j = nI (qk_S b n j) ∧ (qk_K b n j = 2 → m.2.1 108 0 j = qk_B b n j) ∧ (qk_K b n j = 3 → m.1 107 0 j = nI (qk_V b n j))
theorem p9_token {a1 a2 a3 : Int32} {a4 : Int64} (hi : i < 403) (h10 : m.1 9 0 10 = nI i) : zw (f9_token a1 a2 a3 a4 m) fun m' => zj sCut l108 m m' ∧ m'.1 9 0 10 = nI (i + 1) ∧ m'.1 105 0 i = a1 ∧ m'.1 106 0 i = a2 ∧ m'.1 107 0 i = a3 ∧ m'.2.1 108 0 i = a4 ∧ ∀ j, j ≠ i → m'.1 105 0 j = m.1 105 0 j ∧ m'.1 106 0 j = m.1 106 0 j ∧ m'.1 107 0 j = m.1 107 0 j ∧ m'.2.1 108 0 j = m.2.1 108 0 j := by
  unfold f9_token
  simp only [z_let]
  rw [h10, if_pos (y_in hi (by omega)), y_cl (by omega)]
  have e1 : (z_sI m 105 0 i a1).1 9 0 10 = nI i := by rw [z_sI_1, if_neg (by omega)]; exact h10
  rw [e1, if_pos (y_in hi (by omega)), y_cl (by omega)]
  have e2 : (z_sI (z_sI m 105 0 i a1) 106 0 i a2).1 9 0 10 = nI i := by rw [z_sI_1, if_neg (by omega)]; exact e1
  rw [e2, if_pos (y_in hi (by omega)), y_cl (by omega)]
  have e3 : (z_sI (z_sI (z_sI m 105 0 i a1) 106 0 i a2) 107 0 i a3).1 9 0 10 = nI i := by rw [z_sI_1, if_neg (by omega)]; exact e2
  rw [e3, if_pos (y_in hi (by omega)), y_cl (by omega)]
  have e4 : (z_sL (z_sI (z_sI (z_sI m 105 0 i a1) 106 0 i a2) 107 0 i a3) 108 0 i a4).1 9 0 10 = nI i := e3
  rw [e4, y_s1]
  refine zw_some.mpr ⟨zj_s (zj_l (zj_s (zj_s (zj_s (zj_r m) (by omega)) (by omega)) (by omega)) rfl) (by omega), ?_, ?_, ?_, ?_, ?_, fun j hj => ⟨?_, ?_, ?_, ?_⟩⟩
  · rw [z_sI_1, if_pos ⟨rfl, rfl, rfl⟩]
  · rw [z_sI_1, if_neg (by omega), z_sL_a, z_sI_1, if_neg (by omega), z_sI_1, if_neg (by omega), z_sI_1, if_pos ⟨rfl, rfl, rfl⟩]
  · rw [z_sI_1, if_neg (by omega), z_sL_a, z_sI_1, if_neg (by omega), z_sI_1, if_pos ⟨rfl, rfl, rfl⟩]
  · rw [z_sI_1, if_neg (by omega), z_sL_a, z_sI_1, if_pos ⟨rfl, rfl, rfl⟩]
  · rw [z_sI_2, z_sL_j, if_pos ⟨rfl, rfl, rfl⟩]
  · rw [z_sI_1, if_neg (by omega), z_sL_a, z_sI_1, if_neg (by omega), z_sI_1, if_neg (by omega), z_sI_1, if_neg (by omega)]
  · rw [z_sI_1, if_neg (by omega), z_sL_a, z_sI_1, if_neg (by omega), z_sI_1, if_neg (by omega), z_sI_1, if_neg (by omega)]
  · rw [z_sI_1, if_neg (by omega), z_sL_a, z_sI_1, if_neg (by omega), z_sI_1, if_neg (by omega), z_sI_1, if_neg (by omega)]
  · rw [z_sI_2, z_sL_j, if_neg (fun q => hj q.2.2)]; rfl
/-- one TOKEN more -/
theorem p9_tokenK {a1 a2 a3 : Int32} {a4 : Int64} {m0 : zMem} (hi : i < 403) (h10 : m.1 9 0 10 = nI i) (hf : zj sCut l108 m0 m) (ht : qk_tm b n i m) (k1 : a1 = nI (qk_G (qk_K b n i))) (k2 : a2 = nI (qk_S b n i)) (k3 : qk_K b n i = 3 → a3 = nI (qk_V b n i)) (k4 : qk_K b n i = 2 → a4 = qk_B b n i) : zw (f9_token a1 a2 a3 a4 m) fun m' => zj sCut l108 m0 m' ∧ m'.1 9 0 10 = nI (i + 1) ∧ qk_tm b n (i + 1) m' := by
  refine zw_mono (p9_token hi h10) ?_
  rintro m' ⟨g0, g1, g2, g3, g4, g5, g6⟩
  refine ⟨zj_t hf g0, g1, fun j hj => ?_⟩
  by_cases c : j = i
  · subst c
    exact ⟨by rw [g2, k1], by rw [g3, k2], fun q => by rw [g5, k4 q], fun q => by rw [g4, k3 q]⟩
  · obtain ⟨c1, c2, c3, c4⟩ := ht j (by omega)
    obtain ⟨d1, d2, d3, d4⟩ := g6 j c
    exact ⟨by rw [d1, c1], by rw [d2, c2], fun q => by rw [d4]; exact c3 q, fun q => by rw [d3]; exact c4 q⟩
theorem q_blank_255 {x : Int32} (hy : q_by x) : q_blank (x &&& 255) = q_blank x := (q_b255 hy).2.2.1
/-- what is left of the cutting: from the place p on, i TOKENS cut -/
theorem p9_cutL {m0 : zMem} (hn : n ≤ 2000) (h0 : q_tp9 n b m0) (hk : ∀ k, k < 21 → m0.2.1 109 0 k = q_key k) : ∀ (f p i : Nat) (m : zMem), n < p + f → p ≤ n → i ≤ 401 → qk_p b n i ≤ p → p ≤ qk_S b n i → zj sCut l108 m0 m → m.1 9 0 10 = nI i → qk_tm b n i m → (∀ j, j < i → qk_K b n j ≠ 0) → zw (z_it f9_cut_L3 f (nI p, m)) fun r => ∃ m' e, (r = Sum.inl m' ∨ r = Sum.inr m') ∧ zj sCut l108 m0 m' ∧ e ≤ 400 ∧ qk_tm b n (e + 1) m' ∧ (∀ j, j < e → qk_K b n j ≠ 0) ∧ (qk_K b n e = 0 ∨ e = 400)
  | 0, p, i, m, hf, hp, _, _, _, _, _, _, _ => by omega
  | f + 1, p, i, m, hf, hp, hi, hpi, hS, hz, h10, ht, h00 => by
    have t9 : q_tp9 n b m := ⟨hn, by rw [hz.1 _ _ _ (by omega)]; exact h0.2.1, fun k hk => by rw [hz.1 _ _ _ (by omega)]; exact h0.2.2 k hk⟩
    have kw : ∀ k, k < 21 → m.2.1 109 0 k = q_key k := fun k hk' => by rw [hz.2.1 109 (by decide)]; exact hk k hk'
    have h4 : m.1 9 0 4 = nI n := t9.2.1
    have hSn := qk_S_le (b := b) (n := n) i
    obtain ⟨s1, s2, s3, s4⟩ := qk_sk_sp (b := b) (qk_p_le (b := b) (n := n) i)
    -- the step
    have go : ∀ {s : (Int32 × zMem) ⊕ (zMem ⊕ zMem)} {Q : zMem ⊕ zMem → Prop}, f9_cut_L3 (nI p, m) = some s → (match s with | .inl s' => zw (z_it f9_cut_L3 f s') Q | .inr e => Q e) → zw (z_it f9_cut_L3 (f + 1) (nI p, m)) Q := by
      intro s Q hs hQ
      cases s with
      | inl s' => rw [z_it_s hs]; exact hQ
      | inr e => exact ⟨e, z_it_d hs, hQ⟩
    by_cases ci : i = 401
    · subst ci
      refine go (s := .inr (.inl m)) ?_ ⟨m, 400, Or.inl rfl, hz, by omega, ht, fun j hj => h00 j (by omega), Or.inr rfl⟩
      unfold f9_cut_L3
      rw [z_u2_ap, h10, if_pos (show (400 : Int32) < nI 401 by decide)]
    have ci' : i < 401 := by omega
    have hd : ∀ {α : Type} {x y : α}, (if (400 : Int32) < m.1 9 0 10 then x else y) = y := fun {α x y} => by rw [h10, show (400 : Int32) = nI 400 from rfl, if_neg (nI_nlt (by omega) (by omega))]
    by_cases cn : p < n
    · -- a byte
      have hy : q_by (b p) := (t9.2.2 p cn).2
      have hby : f9_byteAt (nI p) m = some (b p &&& 255) := by rw [p9_byteAt t9 (by omega), if_pos cn]
      obtain ⟨e1, e2, e3, e4, e5⟩ := q_b255 hy
      cases hbl : q_blank (b p)
      · -- a TOKEN
        have hpS : p = qk_S b n i := by
          rcases Nat.lt_or_ge p (qk_S b n i) with c | c
          · have := s3 p hpi c
            rw [hbl] at this; exact absurd this (by decide)
          · omega
        have n9 : ¬ (b p &&& 255) = 9 := fun q => by rw [← e3, q] at hbl; exact absurd hbl (by decide)
        have n10 : ¬ (b p &&& 255) = 10 := fun q => by rw [← e3, q] at hbl; exact absurd hbl (by decide)
        have n13 : ¬ (b p &&& 255) = 13 := fun q => by rw [← e3, q] at hbl; exact absurd hbl (by decide)
        have n32 : ¬ (b p &&& 255) = 32 := fun q => by rw [← e3, q] at hbl; exact absurd hbl (by decide)
        obtain ⟨g1, g2, g3⟩ := qk_end_sp (b := b) (Nat.le_of_lt cn)
        have g4 := g3 cn
        have K0 : qk_K b n i ≠ 0 := fun q => by
          have : ¬ qk_S b n i < n := qk_kd_0.mp q
          omega
        have fin : ∀ {a1 a3 : Int32} {a4 : Int64} {w : Int32}, (nI p + w = nI (qk_end b n p)) → a1 = nI (qk_G (qk_K b n i)) → (qk_K b n i = 3 → a3 = nI (qk_V b n i)) → (qk_K b n i = 2 → a4 = qk_B b n i) → f9_cut_L3 (nI p, m) = (f9_token a1 (nI p) a3 a4 m).bind (fun qm => some (.inl (nI p + w, qm))) → zw (z_it f9_cut_L3 (f + 1) (nI p, m)) fun r => ∃ m' e, (r = Sum.inl m' ∨ r = Sum.inr m') ∧ zj sCut l108 m0 m' ∧ e ≤ 400 ∧ qk_tm b n (e + 1) m' ∧ (∀ j, j < e → qk_K b n j ≠ 0) ∧ (qk_K b n e = 0 ∨ e = 400) := by
          intro a1 a3 a4 w hw k1 k3 k4 hq
          obtain ⟨m1, hm1, z1, z2, z3⟩ := p9_tokenK (b := b) (n := n) (a2 := nI p) (by omega) h10 hz ht k1 (by rw [hpS]) k3 k4
          rw [hm1, Option.bind_some, hw] at hq
          refine go hq ?_
          have hp1 : qk_p b n (i + 1) = qk_end b n p := by rw [hpS]; rfl
          refine p9_cutL hn h0 hk f (qk_end b n p) (i + 1) m1 (by omega) g2 (by omega) (by omega) ?_ z1 z2 z3 (fun j hj => ?_)
          · rw [← hp1]; exact (qk_sk_sp (qk_p_le (i + 1))).1
          · by_cases c : j = i
            · rw [c]; exact K0
            · exact h00 j (by omega)
        cases hl : q_let (b p)
        · cases hdg : q_dig (b p)
          · -- a sign
            have he : qk_end b n p = p + 1 := by unfold qk_end; rw [if_pos cn, hl, y_ff, hdg, y_ff]
            have hkd : qk_K b n i = (if q_sg (b p) then (b p).toNatClampNeg else 1) := by show qk_kd b n (qk_S b n i) = _; rw [← hpS]; unfold qk_kd; rw [if_pos cn, hl, y_ff, hdg, y_ff]
            have k2 : qk_K b n i ≠ 2 := fun q => by
              have := (qk_kd_2 q).2.1
              rw [← hpS, hl] at this; exact absurd this (by decide)
            have k3 : qk_K b n i ≠ 3 := fun q => by
              have := (qk_kd_3 q).2.2.1
              rw [← hpS, hdg] at this; exact absurd this (by decide)
            refine fin (a1 := q_sgk (b p &&& 255)) (a3 := 0) (a4 := 0) (w := 1) (by rw [he, y_s1]) (by rw [p9_sgk hy, hkd]) (fun q => absurd q k3) (fun q => absurd q k2) ?_
            unfold f9_cut_L3
            rw [z_u2_ap, hd, hby, Option.bind_some, h4, if_pos (nI_lt cn (by omega)), if_neg n9, if_neg n10, if_neg n13, if_neg n32, p9_isLetter, p9_isDigit, e2, e1, hl, hdg, y_ff, if_pos rfl, if_pos rfl, y_s1, p9_byteAt t9 (by omega), Option.bind_some, p9_sign_eq]
            cases f9_token (q_sgk (b p &&& 255)) (nI p) 0 0 m with
            | none => rfl
            | some m1 => show some (Sum.inl (nI p + 1, m1)) = some (Sum.inl (nI (p + 1), m1)); rw [y_s1]
          · -- digits
            have he : qk_end b n p = q_ru (fun k => q_dig (b k)) p (n - p) := by unfold qk_end; rw [if_pos cn, hl, y_ff, hdg, if_pos rfl]
            have hkd : qk_K b n i = (if 4 < qk_end b n p - p then 1 else 3) := by show qk_kd b n (qk_S b n i) = _; rw [← hpS]; unfold qk_kd; rw [if_pos cn, hl, y_ff, hdg, if_pos rfl]
            have k2 : qk_K b n i ≠ 2 := fun q => by
              have := (qk_kd_2 q).2.1
              rw [← hpS, hl] at this; exact absurd this (by decide)
            refine fin (a1 := if 4 < qk_end b n p - p then 3 else 2) (a3 := q_w10 b p (qk_end b n p - p)) (a4 := 0) (w := nI (qk_end b n p - p)) (by rw [nI_add]; congr 1; omega) ?_ (fun q => ?_) (fun q => absurd q k2) ?_
            · rw [hkd]
              by_cases c : 4 < qk_end b n p - p
              · rw [if_pos c, if_pos c]; rfl
              · rw [if_neg c, if_neg c]; rfl
            · obtain ⟨r1, r2⟩ := qk_run3 q
              have : qk_L b n i = qk_end b n p - p := by show qk_end b n (qk_S b n i) - qk_S b n i = _; rw [← hpS]
              rw [this] at r1 r2
              rw [← hpS] at r2
              rw [qk_nd_w r1 r2]
              show _ = nI (qk_nd b (qk_S b n i) (qk_L b n i))
              rw [this, ← hpS]
            · unfold f9_cut_L3
              rw [z_u2_ap, hd, hby, Option.bind_some, h4, if_pos (nI_lt cn (by omega)), if_neg n9, if_neg n10, if_neg n13, if_neg n32, p9_isLetter, p9_isDigit, e2, e1, hl, hdg, y_ff, if_pos rfl, if_pos rfl, if_neg n01, p9_digits t9 hp, Option.bind_some, ← he, z_u2_ap, y_4]
              by_cases c : 4 < qk_end b n p - p
              · rw [if_pos (nI_lt c (by omega)), if_pos c, Option.bind_some]
                cases f9_token 3 (nI p) (q_w10 b p (qk_end b n p - p)) 0 m with
                | none => rfl
                | some m1 => rfl
              · rw [if_neg (nI_nlt (by omega) (by omega)), if_neg c, Option.bind_some]
                cases f9_token 2 (nI p) (q_w10 b p (qk_end b n p - p)) 0 m with
                | none => rfl
                | some m1 => rfl
        · -- letters
          have he : qk_end b n p = q_ru (fun k => q_let (b k)) p (n - p) := by unfold qk_end; rw [if_pos cn, hl, if_pos rfl]
          have hkd : qk_K b n i = (if 8 < qk_end b n p - p then 1 else match q_se (fun j => q_isw b j p (qk_end b n p - p)) 21 with | some j => 128 + j | none => 2) := by show qk_kd b n (qk_S b n i) = _; rw [← hpS]; unfold qk_kd; rw [if_pos cn, hl, if_pos rfl]; rfl
          have k3 : qk_K b n i ≠ 3 := fun q => by
            have := (qk_kd_3 q).2.1
            rw [← hpS, hl] at this; exact absurd this (by decide)
          have hlt : ∀ k, k < qk_end b n p - p → q_let (b (p + k)) = true := fun k hk' => by
            rw [he] at hk'
            exact (q_ru_sp (fun k => q_let (b k)) (n - p) p).2.2.1 _ (by omega) (by omega)
          refine fin (a1 := if 8 < qk_end b n p - p then 3 else q_kw (q_w27 b p (qk_end b n p - p)) 1 21) (a3 := 0) (a4 := q_w27 b p (qk_end b n p - p)) (w := nI (qk_end b n p - p)) (by rw [nI_add]; congr 1; omega) ?_ (fun q => absurd q k3) (fun q => ?_) ?_
          · rw [hkd]
            by_cases c : 8 < qk_end b n p - p
            · rw [if_pos c, if_pos c]; rfl
            · rw [if_neg c, if_neg c]
              rcases q_se_sp (fun j => q_isw b j p (qk_end b n p - p)) 21 with ⟨q1, q2⟩ | ⟨k, hk', q1, q2, _⟩
              · rw [q1, q_kw_no fun k hk' q => ?_]
                · rfl
                · have := q2 k hk'
                  rw [q_isw_k hk' (by omega) hlt, decide_eq_true q] at this
                  exact absurd this (by decide)
              · rw [q1]
                rw [q_isw_k hk' (by omega) hlt, decide_eq_true_eq] at q2
                rw [q_kw_yes hk' q2 (by omega) hk']
                exact (by decide +kernel : ∀ k, k < 21 → nI (20 + k) = nI (qk_G (128 + k))) k hk'
          · show _ = q_w27 b (qk_S b n i) (qk_end b n (qk_S b n i) - qk_S b n i)
            rw [← hpS]
          · unfold f9_cut_L3
            rw [z_u2_ap, hd, hby, Option.bind_some, h4, if_pos (nI_lt cn (by omega)), if_neg n9, if_neg n10, if_neg n13, if_neg n32, p9_isLetter, e2, hl, if_pos rfl, if_neg n01, p9_letters t9 hp, Option.bind_some, ← he, z_u2_ap, y_8]
            by_cases c : 8 < qk_end b n p - p
            · rw [if_pos (nI_lt c (by omega)), if_pos c, Option.bind_some, if_pos (nI_lt c (by omega)), Option.bind_some]
              cases f9_token 3 (nI p) 0 (q_w27 b p (qk_end b n p - p)) m with
              | none => rfl
              | some m1 => rfl
            · rw [if_neg (nI_nlt (by omega) (by omega)), if_neg c, Option.bind_some, if_neg (nI_nlt (by omega) (by omega)), p9_words kw, Option.bind_some, Option.bind_some]
              cases f9_token (q_kw (q_w27 b p (qk_end b n p - p)) 1 21) (nI p) 0 (q_w27 b p (qk_end b n p - p)) m with
              | none => rfl
              | some m1 => rfl
      · -- a blank
        have hpS : p < qk_S b n i := by
          rcases Nat.lt_or_ge p (qk_S b n i) with c | c
          · exact c
          · have e : p = qk_S b n i := by omega
            have := s4 (by rw [show qk_sk b n (qk_p b n i) = qk_S b n i from rfl, ← e]; exact cn)
            rw [show qk_sk b n (qk_p b n i) = qk_S b n i from rfl, ← e, hbl] at this
            exact absurd this (by decide)
        have hq : f9_cut_L3 (nI p, m) = some (.inl (nI (p + 1), m)) := by
          unfold f9_cut_L3
          rw [z_u2_ap, hd, hby, Option.bind_some, h4, if_pos (nI_lt cn (by omega)), y_s1]
          rw [← e3] at hbl
          unfold q_blank at hbl
          simp only [Bool.or_eq_true, decide_eq_true_eq] at hbl
          by_cases b1 : (b p &&& 255) = 9
          · rw [if_pos b1]; rfl
          by_cases b2 : (b p &&& 255) = 10
          · rw [if_neg b1, if_pos b2]; rfl
          by_cases b3 : (b p &&& 255) = 13
          · rw [if_neg b1, if_neg b2, if_pos b3]; rfl
          by_cases b4 : (b p &&& 255) = 32
          · rw [if_neg b1, if_neg b2, if_neg b3, if_pos b4]; rfl
          · exact absurd hbl (by rintro (((q | q) | q) | q) <;> contradiction)
        refine go hq ?_
        exact p9_cutL hn h0 hk f (p + 1) i m (by omega) (by omega) hi (by omega) (by omega) hz h10 ht h00
    · -- the end
      have hpn : p = n := by omega
      have hSn' : qk_S b n i = n := by omega
      have K0 : qk_K b n i = 0 := qk_kd_0.mpr (by show ¬ qk_S b n i < n; omega)
      obtain ⟨m1, hm1, z1, z2, z3⟩ := p9_tokenK (b := b) (n := n) (i := i) (a1 := 0) (a2 := nI n) (a3 := 0) (a4 := 0) (by omega) h10 hz ht (by rw [K0]; rfl) (by rw [hSn']) (fun q => by rw [K0] at q; exact absurd q (by decide)) (fun q => by rw [K0] at q; exact absurd q (by decide))
      refine go (s := .inr (.inr m1)) ?_ ⟨m1, i, Or.inr rfl, z1, by omega, z3, h00, Or.inl K0⟩
      unfold f9_cut_L3
      rw [z_u2_ap, hd, p9_byteAt t9 (by omega), Option.bind_some, h4, if_neg (nI_nlt (by omega) (by omega)), hm1]
      rfl
/-- the reference's cut -/
theorem p9_cut (hn : n ≤ 2000) (h0 : q_tp9 n b m) (hk : ∀ k, k < 21 → m.2.1 109 0 k = q_key k) : zw (f9_cut m) fun m' => zj sCut l108 m m' ∧ ∃ e, e ≤ 400 ∧ qk_tm b n (e + 1) m' ∧ (∀ j, j < e → qk_K b n j ≠ 0) ∧ (qk_K b n e = 0 ∨ e = 400) := by
  unfold f9_cut
  simp only [z_let]
  have f0 : zj sCut l108 m (z_sI m 9 0 10 0) := zj_s (zj_r m) (by omega)
  have t9 : q_tp9 n b (z_sI m 9 0 10 0) := ⟨hn, by rw [f0.1 _ _ _ (by omega)]; exact h0.2.1, fun k hk => by rw [f0.1 _ _ _ (by omega)]; exact h0.2.2 k hk⟩
  refine zw_b (p9_cutL hn t9 hk z_fu 0 0 (z_sI m 9 0 10 0) (by show n < 0 + 5000; omega) (by omega) (by omega) (Nat.zero_le _) (Nat.zero_le _) (zj_r _) (by rw [z_sI_1, if_pos ⟨rfl, rfl, rfl⟩]; rfl) (fun j hj => absurd hj (by omega)) (fun j hj => absurd hj (by omega))) ?_
  rintro r ⟨m', e, hr, h1, h2⟩
  rcases hr with rfl | rfl
  · exact zw_some.mpr ⟨zj_t f0 h1, e, h2⟩
  · exact zw_some.mpr ⟨zj_t f0 h1, e, h2⟩
end
