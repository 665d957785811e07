/-! READ XXV: the reference reads a LAW -/
def x_iflc (K V : Nat → Nat) (n t : Nat) (bs : List qB) : qE (List qB) := e_bd (x_ifl K V n t bs) fun t3 bs => if K t3 = 137 then .inl (2, t3) else .inr (t3, bs)
def x_lawR (K V : Nat → Nat) (t1 : Nat) : qE (List qB × List qI) := e_bd (e_t K 61 t1) fun t2 _ => e_bd (x_iflc K V 4 t2 []) fun t3 bs => e_bd (e_s K V t3) fun t4 f => e_bd (e_t K 59 t4) fun t5 _ => .inr (t5, (bs, f))
section
variable {K V S : Nat → Nat} {e t k d F C c0 b b0 v : Nat} {m m' m1 m2 m3 : zMem} {l l' : List qI} {a x4 : Int32}
theorem e_bd_r {α β : Type} {t : Nat} {a : α} {f : Nat → α → qE β} : e_bd (.inr (t, a)) f = f t a := rfl
theorem e_bd_l {α β : Type} {p : Nat × Nat} {f : Nat → α → qE β} : e_bd (.inl p) f = .inl p := rfl
theorem x_law_R : x_law K V k t = e_bd (e_t K (132 + k) t) fun t1 _ => x_lawR K V t1 := by
  unfold x_law x_lawR x_iflc
  rcases e_t K (132 + k) t with p | ⟨t1, u⟩
  · rfl
  · rw [e_bd_r, e_bd_r]
    rcases e_t K 61 t1 with p | ⟨t2, u⟩
    · rfl
    · rw [e_bd_r, e_bd_r]
      rcases x_ifl K V 4 t2 [] with p | ⟨t3, bs⟩
      · rfl
      · rw [e_bd_r, e_bd_r]
        by_cases c : K t3 = 137
        · rw [if_pos c, if_pos c]; rfl
        · rw [if_neg c, if_neg c]; rfl
/-- the ifs: behind them, or a FAULT -/
def g9_Q (K V S : Nat → Nat) (e c0 t C b b1 b0 : Nat) (m : zMem) (res : qE (List qB)) (r : zMem ⊕ zMem) : Prop := (∀ F t', res = .inl (F, t') → ∃ m', (r = .inr m' ∨ (r = .inl m' ∧ ∃ b', m'.1 9 0 34 = nI b' ∧ b0 ≤ b' ∧ b' < b0 + 128)) ∧ (F = 1 ∨ F = 2) ∧ zk (sRL c0 b0) m m' ∧ m'.1 9 0 13 = nI F ∧ m'.1 9 0 14 = nI (S t')) ∧ (∀ t' bs', res = .inr (t', bs') → ∃ m', r = .inl m' ∧ zk (sRL c0 b0) m m' ∧ ∃ C' b', r9_q K V S e c0 t' C' m' ∧ C ≤ C' ∧ m'.1 9 0 34 = nI b' ∧ b ≤ b' ∧ r9_mp m' c0 C' b1 bs' b' ∧ r9_ag b C m m' ∧ 4 * b' + t ≤ 4 * b + t' ∧ t ≤ t')
theorem p9_iflc {b1 : Nat} (hk : r9_kk K e) (hV : ∀ j, K j = 3 → V j < 10000) (hb0 : b0 ≤ 130) : ∀ (n c t C b f : Nat) (bs : List qB) (m : zMem), c + n = 4 → n + 1 < f → r9_q K V S e c0 t C m → b0 ≤ b ∧ 4 * b ≤ 4 * b0 + t → m.1 9 0 34 = nI b → r9_mp m c0 C b1 bs b → zw (z_it f9_tellLaw_L3 f (nI c, m)) (g9_Q K V S e c0 t C b b1 b0 m (x_iflc K V n t bs))
  | n, c, t, C, b, 0, bs, m, _, hf, _, _, _, _ => by omega
  | n, c, t, C, b, f + 1, bs, m, hc, hf, h, hb, h34, hmp => by
    have ht := h.1
    have he := hk.1
    have h13 : m.1 9 0 13 = 0 := h.2.2.2.2.2.1
    have h11 : m.1 9 0 11 = nI t := h.2.2.2.1
    have htk := h.2.2.2.2.2.2.2
    have hbs : b < 258 := by omega
    by_cases c7 : K t = 137
    · match n, hc, hf with
      | 0, hc, hf =>
        have hx : x_iflc K V 0 t bs = .inl (2, t) := by
          show (if K t = 137 then _ else _) = _
          rw [if_pos c7]
        obtain ⟨m2, hm2, f2, g1, g2⟩ := p9_fail (F := 2) (Or.inr rfl) he ht htk h11 h13
        have c4 : c = 4 := by omega
        subst c4
        have eb : f9_tellLaw_L3 (nI 4, m) = some (.inr (.inr m2)) := by
          rw [g9_L3, h13, if_pos rfl, p9_is (a := 29) (c := 137) hk ht htk h11 h13 (by decide) rfl, Option.bind_some, if_pos c7, if_neg n01, if_pos (show nI 4 = 4 from rfl), show (2 : Int32) = nI 2 from rfl, hm2, Option.bind_some, Option.bind_some, g1, if_pos (show (0 : Int32) < nI 2 by decide)]
        rw [hx]
        refine ⟨_, z_it_d eb, fun F t' q => ?_, fun t' bs' q => by cases q⟩
        cases q
        exact ⟨m2, Or.inl rfl, Or.inr rfl, zk_m f2 (fun c i k e => by omega), g1, g2⟩
      | n + 1, hc, hf =>
        have hx : x_iflc K V (n + 1) t bs = e_bd (x_if K V t) fun t1 x => x_iflc K V n t1 (bs ++ [x]) := by
          unfold x_iflc
          rw [x_ifl, if_pos c7]
          rcases x_if K V t with p | ⟨t1, x⟩ <;> rfl
        obtain ⟨m2, hm2, f2, g1, g2⟩ := p9_goesOn he ht htk h11 h13
        have eb : f9_tellLaw_L3 (nI c, m) = g9_B0 (nI c) m2 := by
          rw [g9_L3, h13, if_pos rfl, p9_is (a := 29) (c := 137) hk ht htk h11 h13 (by decide) rfl, Option.bind_some, if_pos c7, if_neg n01, y_4, if_neg (show ¬ nI c = nI 4 by rw [y_eq (by omega) (by omega)]; omega), Option.bind_some, h13, if_neg (show ¬ (0 : Int32) < 0 by decide), hm2, Option.bind_some]
        have e234 : m2.1 9 0 34 = nI b := by rw [f2.1 _ _ _ (by omega)]; exact h34
        obtain ⟨f, rfl⟩ : ∃ k, f = k + 1 := ⟨f - 1, by omega⟩
        -- behind a FAULT the ifs end
        have bad : ∀ (F t' : Nat) (m3 : zMem) (b' : Nat), x_if K V t = .inl (F, t') → f9_tellLaw_L3 (nI c, m) = some (.inl (nI c + 1, m3)) → (F = 1 ∨ F = 2) → zk (sRL c0 b0) m m3 → m3.1 9 0 13 = nI F → m3.1 9 0 14 = nI (S t') → m3.1 9 0 34 = nI b' → b ≤ b' ∧ b' ≤ b + 1 → zw (z_it f9_tellLaw_L3 (f + 1 + 1) (nI c, m)) (g9_Q K V S e c0 t C b b1 b0 m (x_iflc K V (n + 1) t bs)) := by
          intro F t' m3 b' hi hq hF f3 g13 g14 g34 gb
          rw [hi] at hx
          have hx' : x_iflc K V (n + 1) t bs = .inl (F, t') := hx
          rw [z_it_s hq, hx']
          have e3 : f9_tellLaw_L3 (nI c + 1, m3) = some (.inr (.inl m3)) := by
            rw [g9_L3, g13, if_neg (y_F hF).2]
          refine ⟨_, z_it_d e3, fun F2 t2 q => ?_, fun t2 bs2 q => by cases q⟩
          cases q
          exact ⟨m3, Or.inr ⟨rfl, b', g34, by omega, by omega⟩, hF, f3, g13, g14⟩
        by_cases c4 : t < 400
        · have e1 := e_t_ok c7 c4
          have q2 : r9_q K V S e c0 (t + 1) C m2 := ⟨hk.2.2 t ht (by omega) c4, by have := h.2.1; omega, h.2.2.1, (g1 c4).1, by rw [f2.1 _ _ _ (by omega)]; exact h.2.2.2.2.1, (g1 c4).2, by rw [f2.1 _ _ _ (by omega)]; exact h.2.2.2.2.2.2.1, htk.fr f2 (fun c k e => by omega)⟩
          have hif : x_if K V t = x_ifR K V (t + 1) := by rw [x_if_R, e1]; rfl
          obtain ⟨r, hr, m3, rfl, f3, p1, p2⟩ := p9_ifR (x4 := nI c) hk hV q2 hb0 (show b0 ≤ b ∧ b < b0 + 130 by omega) e234
          rw [hr] at eb
          rw [hif] at hx
          rcases hi : x_ifR K V (t + 1) with ⟨F, t'⟩ | ⟨t1, x⟩
          · obtain ⟨hF, g13, g14, b', g34, gb⟩ := p1 F t' hi
            exact bad F t' m3 b' (hif.trans hi) eb hF (zk_t (zk_GL f2) f3) g13 g14 g34 gb
          · obtain ⟨q3, g34, mb3, ag3, lt3⟩ := p2 t1 x hi
            rw [hi] at hx
            have hx' : x_iflc K V (n + 1) t bs = x_iflc K V n t1 (bs ++ [x]) := hx
            have ag : r9_ag b C m m3 := r9_ag_t (r9_ag_k f2 (fun c j e => by omega)) ag3 (Nat.le_refl _) (Nat.le_refl _)
            rw [z_it_s eb, y_s1, hx']
            have hmp3 : r9_mp m3 c0 (C + x.1.length + x.2.1.length + x.2.2.length) b1 (bs ++ [x]) (b + 1) := r9_mp_app (r9_mp_cong (by omega) ag hmp) mb3
            refine zw_mono (p9_iflc hk hV hb0 n (c + 1) t1 _ (b + 1) (f + 1) (bs ++ [x]) m3 (by omega) (by omega) q3 (by omega) g34 hmp3) ?_
            rintro r ⟨r1, r2⟩
            refine ⟨fun F t' q => ?_, fun t' bs' q => ?_⟩
            · obtain ⟨m', s1, s2, s3, s4⟩ := r1 F t' q
              exact ⟨m', s1, s2, zk_t (zk_GL f2) (zk_t f3 s3), s4⟩
            · obtain ⟨m', s1, s2, C', b', s3, s4, s5, s6, s7, s8, s9, s10⟩ := r2 t' bs' q
              exact ⟨m', s1, zk_t (zk_GL f2) (zk_t f3 s2), C', b', s3, by omega, s5, by omega, s7, r9_ag_t ag s8 (by omega) (by omega), by omega, by omega⟩
        · have hi : x_if K V t = .inl (2, t) := by
            rw [x_if_R]
            unfold e_t
            rw [if_pos c7, if_neg c4]; rfl
          obtain ⟨v1, v2⟩ := g2 c4
          obtain ⟨r, hr, m3, rfl, f3, b', g34, gb⟩ := g9_B0F (x4 := nI c) (F := 2) (Or.inr rfl) v1 hb0 (show b0 ≤ b ∧ b < b0 + 130 by omega) e234
          rw [hr] at eb
          exact bad 2 t m3 b' hi eb (Or.inr rfl) (zk_t (zk_GL f2) (zk_FL f3)) (by rw [f3.1 _ _ _ (by omega)]; exact v1) (by rw [f3.1 _ _ _ (by omega)]; exact v2) g34 gb
    · have hx : x_iflc K V n t bs = .inr (t, bs) := by
        unfold x_iflc
        match n with
        | 0 =>
          show (if K t = 137 then _ else _) = _
          rw [if_neg c7]
        | n + 1 =>
          rw [x_ifl, if_neg c7]
          show (if K t = 137 then _ else _) = _
          rw [if_neg c7]
      have eb : f9_tellLaw_L3 (nI c, m) = some (.inr (.inl m)) := by
        rw [g9_L3, h13, if_pos rfl, p9_is (a := 29) (c := 137) hk ht htk h11 h13 (by decide) rfl, Option.bind_some, if_neg c7, if_pos rfl]
      rw [hx]
      refine ⟨_, z_it_d eb, (fun F t' q => by cases q), fun t' bs' q => ?_⟩
      cases q
      exact ⟨m, rfl, zk_r m, C, b, h, Nat.le_refl _, h34, Nat.le_refl _, hmp, r9_ag_r, Nat.le_refl _, Nat.le_refl _⟩
abbrev sRM (c0 b0 v : Nat) : Nat → Nat → Nat → Prop := fun c i k => (c = 9 ∧ i = 0 ∧ (k = 11 ∨ k = 12 ∨ k = 13 ∨ k = 14 ∨ k = 34 ∨ k = 40 ∨ k = 44)) ∨ (135 ≤ c ∧ c ≤ 139 ∧ b0 ≤ k ∧ k < b0 + 130) ∨ ((c = 141 ∨ c = 142) ∧ c0 ≤ k ∧ k < c0 + 420) ∨ c = 143 ∨ ((c = 132 ∨ c = 133) ∧ 4 * v ≤ k ∧ k < 4 * v + 4)
theorem zk_LM (h : zk (sRL c0 b0) m m') : zk (sRM c0 b0 v) m m' := zk_m h (fun c i k e => by omega)
theorem zk_GM (h : zk sG m m') : zk (sRM c0 b0 v) m m' := zk_m h (fun c i k e => by omega)
theorem zk_FM (h : zk (sRF b0) m m') : zk (sRM c0 b0 v) m m' := zk_m h (fun c i k e => by omega)
def g9_R (K V S : Nat → Nat) (e c0 b0 t C b v k : Nat) (m : zMem) (res : qE (List qB × List qI)) (m' : zMem) : Prop := zk (sRM c0 b0 v) m m' ∧ (∀ F t', res = .inl (F, t') → (F = 1 ∨ F = 2) ∧ m'.1 9 0 13 = nI F ∧ m'.1 9 0 14 = nI (S t')) ∧ (∀ t' bs f, res = .inr (t', (bs, f)) → ∃ C', r9_q K V S e c0 t' C' m' ∧ C ≤ C' ∧ m'.1 9 0 34 = nI (b + bs.length + 1) ∧ r9_ml m' c0 C' b bs f ∧ r9_ag b C m m' ∧ m'.1 132 0 (4 * v + k) = nI b ∧ m'.1 133 0 (4 * v + k) = nI (b + bs.length + 1) ∧ (∀ j, j ≠ 4 * v + k → m'.1 132 0 j = m.1 132 0 j ∧ m'.1 133 0 j = m.1 133 0 j) ∧ 4 * (bs.length + 1) + t ≤ t' + 1 ∧ t < t')
theorem g9_R_l {res : qE (List qB × List qI)} {t' : Nat} (hr : res = .inl (F, t')) (hF : F = 1 ∨ F = 2) (f1 : zk (sRM c0 b0 v) m m') (h13 : m'.1 9 0 13 = nI F) (h14 : m'.1 9 0 14 = nI (S t')) : g9_R K V S e c0 b0 t C b v k m res m' := ⟨f1, fun F2 t2 q => by
    rw [hr] at q
    cases q
    exact ⟨hF, h13, h14⟩, fun t2 bs f q => by rw [hr] at q; cases q⟩
theorem p9_tellLaw (hk : r9_kk K e) (hV : ∀ j, K j = 3 → V j < 10000) (hb0 : b0 ≤ 130) (h : r9_q K V S e c0 t C m) (hb : b0 ≤ b ∧ 4 * b ≤ 4 * b0 + t) (h34 : m.1 9 0 34 = nI b) (hv : v < 2) (h19 : m.1 9 0 19 = nI v) (hk4 : k < 4) : zw (f9_tellLaw (nI k) m) (g9_R K V S e c0 b0 t C b v k m (x_lawR K V t)) := by
  have ht := h.1
  have he := hk.1
  unfold f9_tellLaw x_lawR
  -- the end with a FAULT
  have tailF : ∀ (F b' : Nat) (X : Int32) (m2 : zMem), (F = 1 ∨ F = 2) → m2.1 9 0 13 = nI F → m2.1 9 0 34 = nI b' → b0 ≤ b' ∧ b' < b0 + 128 → zw (if z_in (m2.1 9 0 34) 260 = true then z_let (z_sI m2 135 0 (m2.1 9 0 34).toNatClampNeg (vp_nar .boolean (0 : Int32))) fun m46 => (f9_term m46).bind (fun qm49 => (f9_must (4 : Int32) qm49).bind (fun qm51 => (if 0 < (qm51.1 9 0 13) then some qm51 else if z_in (((4 : Int32) * (qm51.1 9 0 19)) + nI k) 8 = true then z_let (z_sI qm51 132 0 (((4 : Int32) * (qm51.1 9 0 19)) + nI k).toNatClampNeg X) fun m54 => if z_in (((4 : Int32) * (m54.1 9 0 19)) + nI k) 8 = true then z_let (z_sI m54 133 0 (((4 : Int32) * (m54.1 9 0 19)) + nI k).toNatClampNeg (m54.1 9 0 34)) fun m57 => some m57 else none else none))) else none) fun m' => zk (sRF b0) m2 m' := by
    intro F b' X m2 hF h13 h34' hb'
    obtain ⟨y1, y2⟩ := y_F hF
    simp only [z_let]
    rw [h34', if_pos (y_in (by omega) (by omega)), y_cl (by omega)]
    have e13 : (z_sI m2 135 0 b' (vp_nar .boolean (0 : Int32))).1 9 0 13 = nI F := by rw [z_sI_1, if_neg (by omega)]; exact h13
    refine zw_b (p9_termF hF e13 hb0 (show b0 ≤ b' ∧ b' < b0 + 130 by omega) (by rw [z_sI_1, if_neg (by omega)]; exact h34')) ?_
    rintro m3 ⟨f3, g3⟩
    have e33 : m3.1 9 0 13 = nI F := by rw [f3.1 _ _ _ (by omega)]; exact e13
    rw [p9_mustF hF e33, Option.bind_some, e33, if_pos y1]
    exact zw_some.mpr (zk_t (zk_s (zk_r m2) (by omega)) f3)
  refine r9_muQ (k := 61) hk (by decide) (by omega) rfl h ?_ ?_
  · intro e1 c1 m1 f1 q1
    have e134 : m1.1 9 0 34 = nI b := by rw [f1.1 _ _ _ (by omega)]; exact h34
    rw [e1, e134]
    have hl := p9_iflc (b1 := b) (S := S) (c0 := c0) hk hV hb0 4 0 (t + 1) C b z_fu [] m1 rfl (by show 5 < 5000; omega) q1 (by omega) e134 rfl
    refine zw_b (x := z_it f9_tellLaw_L3 z_fu (0, m1)) hl ?_
    rintro r ⟨r1, r2⟩
    rcases hi : x_iflc K V 4 (t + 1) [] with ⟨F, t'⟩ | ⟨t3, bs⟩
    · obtain ⟨m2, s1, hF, f2, g13, g14⟩ := r1 F t' hi
      have hx : (e_bd (Sum.inr (t + 1, ()) : qE Unit) fun t2 _ => e_bd (x_iflc K V 4 t2 []) fun t3 bs => e_bd (e_s K V t3) fun t4 f => e_bd (e_t K 59 t4) fun t5 _ => .inr (t5, (bs, f))) = (.inl (F, t') : qE (List qB × List qI)) := by
        rw [e_bd, Sum.elim_inr, hi]; rfl
      rcases s1 with rfl | ⟨rfl, b', g34, gb⟩
      · exact zw_some.mpr (g9_R_l hx hF (zk_t (zk_GM f1) (zk_LM f2)) g13 g14)
      · refine zw_mono (tailF F b' (nI b) m2 hF g13 g34 gb) ?_
        intro m' f3
        exact g9_R_l hx hF (zk_t (zk_GM f1) (zk_t (zk_LM f2) (zk_FM f3))) (by rw [f3.1 _ _ _ (by omega)]; exact g13) (by rw [f3.1 _ _ _ (by omega)]; exact g14)
    · obtain ⟨m2, rfl, f2, C2, b2, q2, hC2, g34, hb2, hmp, ag2, hbt, ltt⟩ := r2 t3 bs hi
      have ht3 := q2.1
      have hb2' := r9_mp_le hmp
      have hbs : b2 < 258 := by omega
      have hx : ∀ {y : qE (List qB × List qI)}, (e_bd (e_s K V t3) fun t4 f => e_bd (e_t K 59 t4) fun t5 _ => .inr (t5, (bs, f))) = y → (e_bd (Sum.inr (t + 1, ()) : qE Unit) fun t2 _ => e_bd (x_iflc K V 4 t2 []) fun t3 bs => e_bd (e_s K V t3) fun t4 f => e_bd (e_t K 59 t4) fun t5 _ => .inr (t5, (bs, f))) = y := by
        intro y hy
        rw [e_bd, Sum.elim_inr, hi]
        exact hy
      rw [Sum.elim_inl, g34, if_pos (y_in (by omega) (by omega)), y_cl (by omega)]
      simp only [z_let]
      obtain ⟨M, hM⟩ : ∃ M, M = z_sI m2 135 0 b2 (vp_nar .boolean (0 : Int32)) := ⟨_, rfl⟩
      rw [← hM]
      have fM : zk (fun c i k => c = 135 ∧ i = 0 ∧ k = b2) m2 M := by rw [hM]; exact zk_s (zk_r m2) ⟨rfl, rfl, rfl⟩
      have M135 : M.1 135 0 b2 = 0 := by
        rw [hM, z_sI_1, if_pos ⟨rfl, rfl, rfl⟩]
        decide
      clear hM
      have qM : r9_q K V S e c0 t3 C2 M := q2.fr fM (fun c k e => by omega)
      have M34 : M.1 9 0 34 = nI b2 := by rw [fM.1 _ _ _ (by omega)]; exact g34
      have FM : zk (sRM c0 b0 v) m M := zk_t (zk_GM f1) (zk_t (zk_LM f2) (zk_m fM (fun c i k e => by omega)))
      refine p9_term hk hV qM hb0 (show b0 ≤ b2 ∧ b2 < b0 + 130 by omega) M34 ?_ ?_
      · intro t4 f m4 e4 l4 g4 f4 q4 v34 v138 v139 vms vag v13x
        refine r9_muQ (k := 59) hk (by decide) (by omega) rfl q4 ?_ ?_
        · intro e5 c5 m5 f5 q5
          have e513 : m5.1 9 0 13 = 0 := q5.2.2.2.2.2.1
          have e519 : m5.1 9 0 19 = nI v := by rw [f5.1 _ _ _ (by omega), f4.1 _ _ _ (by omega), fM.1 _ _ _ (by omega), f2.1 _ _ _ (by omega), f1.1 _ _ _ (by omega)]; exact h19
          have e534 : m5.1 9 0 34 = nI (b2 + 1) := by rw [f5.1 _ _ _ (by omega)]; exact v34
          rw [e513, if_neg (show ¬ (0 : Int32) < 0 by decide), e519, y_4, pk_mul, nI_add, if_pos (y_in (by omega) (by omega)), y_cl (by omega)]
          have e6 : (z_sI m5 132 0 (4 * v + k) (nI b)).1 9 0 19 = nI v := by rw [z_sI_1, if_neg (by omega)]; exact e519
          have e7 : (z_sI m5 132 0 (4 * v + k) (nI b)).1 9 0 34 = nI (b2 + 1) := by rw [z_sI_1, if_neg (by omega)]; exact e534
          rw [e6, pk_mul, nI_add, if_pos (y_in (by omega) (by omega)), y_cl (by omega), e7]
          obtain ⟨M6, hM6⟩ : ∃ M6, M6 = z_sI (z_sI m5 132 0 (4 * v + k) (nI b)) 133 0 (4 * v + k) (nI (b2 + 1)) := ⟨_, rfl⟩
          rw [← hM6]
          have f6 : zk (fun c i j => (c = 132 ∨ c = 133) ∧ i = 0 ∧ j = 4 * v + k) m5 M6 := by rw [hM6]; exact zk_s (zk_s (zk_r m5) (by omega)) (by omega)
          have a132 : M6.1 132 0 (4 * v + k) = nI b := by rw [hM6, z_sI_1, if_neg (by omega), z_sI_1, if_pos ⟨rfl, rfl, rfl⟩]
          have a133 : M6.1 133 0 (4 * v + k) = nI (b2 + 1) := by rw [hM6, z_sI_1, if_pos ⟨rfl, rfl, rfl⟩]
          clear hM6
          have FA : zk (sRM c0 b0 v) m M6 := zk_t FM (zk_t (zk_LM f4) (zk_t (zk_GM f5) (zk_m f6 (fun c i k e => by omega))))
          have agM : r9_ag b2 C2 m2 M6 := r9_ag_t (r9_ag_k fM (fun c j e => by omega)) (r9_ag_t vag (r9_ag_t (r9_ag_k (b := b2) (C := C2) f5 (fun c j e => by omega)) (r9_ag_k (b := b2) (C := C2) f6 (fun c j e => by omega)) (Nat.le_refl _) (Nat.le_refl _)) (Nat.le_refl _) (Nat.le_refl _)) (Nat.le_refl _) (Nat.le_refl _)
          have hfin := hx (show _ = Sum.inr (t4 + 1, (bs, f)) by rw [e4, e_bd, Sum.elim_inr, e5]; rfl)
          rw [hfin]
          refine zw_some.mpr ⟨FA, (fun F t' q => by cases q), fun t' bs' f' q => ?_⟩
          cases q
          refine ⟨C2 + f.length, q5.fr f6 (fun c k e => by omega), by omega, ?_, ⟨b2, r9_mp_cong (by omega) agM hmp, by omega, ?_, C2, ?_, ?_, ?_, q2.2.1.1, Nat.le_refl _⟩, ?_, a132, ?_, fun j hj => ⟨?_, ?_⟩, by omega, by omega⟩
          · rw [f6.1 _ _ _ (by omega), e534, hb2']
          · rw [f6.1 _ _ _ (by omega), f5.1 _ _ _ (by omega), v13x _ (by omega) (by omega)]; exact M135
          · rw [f6.1 _ _ _ (by omega), f5.1 _ _ _ (by omega)]; exact v138
          · rw [f6.1 _ _ _ (by omega), f5.1 _ _ _ (by omega)]; exact v139
          · exact q_ms_cong (fun j _ _ => ⟨by rw [f6.1 _ _ _ (by omega), f5.1 _ _ _ (by omega)], by rw [f6.1 _ _ _ (by omega), f5.1 _ _ _ (by omega)]⟩) vms
          · exact r9_ag_t (r9_ag_k f1 (fun c j e => by omega)) (r9_ag_t ag2 agM (by omega) (by omega)) (Nat.le_refl _) (Nat.le_refl _)
          · rw [a133, hb2']
          · rw [f6.1 _ _ _ (by omega), f5.1 _ _ _ (by omega), f4.1 _ _ _ (by omega), fM.1 _ _ _ (by omega), f2.1 _ _ _ (by omega), f1.1 _ _ _ (by omega)]
          · rw [f6.1 _ _ _ (by omega), f5.1 _ _ _ (by omega), f4.1 _ _ _ (by omega), fM.1 _ _ _ (by omega), f2.1 _ _ _ (by omega), f1.1 _ _ _ (by omega)]
        · intro F m5 e5 hF f5 g13 g14
          rw [g13, if_pos (y_F hF).1]
          exact zw_some.mpr (g9_R_l (hx (by rw [e4, e_bd, Sum.elim_inr, e5]; rfl)) hF (zk_t FM (zk_t (zk_LM f4) (zk_GM f5))) g13 g14)
      · intro F t' m4 e4 hF f4 g13 g14 v34
        rw [p9_mustF hF g13, Option.bind_some, g13, if_pos (y_F hF).1]
        exact zw_some.mpr (g9_R_l (hx (by rw [e4]; rfl)) hF (zk_t FM (zk_LM f4)) g13 g14)
  · intro F m1 e1 hF f1 g13 g14
    obtain ⟨y1, y2⟩ := y_F hF
    have e134 : m1.1 9 0 34 = nI b := by rw [f1.1 _ _ _ (by omega)]; exact h34
    rw [e134]
    have e3 : f9_tellLaw_L3 (0, m1) = some (.inr (.inl m1)) := by
      rw [g9_L3, g13, if_neg y2]
    rw [show z_fu = 4999 + 1 from rfl, z_it_d e3, Option.bind_some, Sum.elim_inl]
    refine zw_mono (tailF F b (nI b) m1 hF g13 e134 (by omega)) ?_
    intro m' f3
    exact g9_R_l (by rw [e1]; rfl) hF (zk_t (zk_GM f1) (zk_FM f3)) (by rw [f3.1 _ _ _ (by omega)]; exact g13) (by rw [f3.1 _ _ _ (by omega)]; exact g14)
end
