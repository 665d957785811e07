/-! LAWS III: the reference's termOf and lawTells -/
section
variable {m : zMem} {b i d : Nat}
theorem p9_s_int {v : Nat} (hi : i < b) (hb : b ≤ 840) (hd : d < 400) (hc : m.1 141 0 i = nI 0) (hv : m.1 142 0 i = nI v) : f9_termOf_L1 (nI b) (nI d, nI i, m) = some (.inl (nI (d + 1), nI (i + 1), z_sI m 146 0 d (nI v))) := by
  have h2 : (nI 0 < 2) = True := by decide
  unfold f9_termOf_L1
  simp (disch := omega) only [z_u3, y_lt, hi, ↓reduceIte, y_in, y_cl, z_let, hc, hv, h2, y_eq0, Option.bind_some, y_s1]
theorem p9_s_var {j : Nat} {x : Int32} (hi : i < b) (hb : b ≤ 840) (hd : d < 400) (hc : m.1 141 0 i = nI 1) (hv : m.1 142 0 i = nI j) (hj : j < 9) (hx : m.1 145 0 j = x) : f9_termOf_L1 (nI b) (nI d, nI i, m) = some (.inl (nI (d + 1), nI (i + 1), z_sI m 146 0 d x)) := by
  have h2 : (nI 1 < 2) = True := by decide
  have h3 : (nI 1 = 0) = False := by decide
  unfold f9_termOf_L1
  simp (disch := omega) only [z_u3, y_lt, hi, ↓reduceIte, y_in, y_cl, z_let, hc, hv, h2, h3, hx, Option.bind_some, y_s1]
theorem y_mops : ∀ k, k < 4 → ¬ (nI (k + 2) < 2) ∧ ((nI (k + 2) = 5) ↔ k = 3) ∧ ((nI (k + 2) = 2) ↔ k = 0) ∧ ((nI (k + 2) = 3) ↔ k = 1) ∧ ((nI (k + 2) = 4) ↔ k = 2) := by decide +kernel
theorem p9_s_opc {k : Nat} {u w c : Int32} (hi : i < b) (hb : b ≤ 840) (hd : d + 2 ≤ 400) (hc : m.1 141 0 i = c) (h1 : ¬ (c < 2)) (h5 : (c = 5) ↔ k = 3) (h2 : (c = 2) ↔ k = 0) (h3 : (c = 3) ↔ k = 1) (h4 : (c = 4) ↔ k = 2) (hk : k < 4) (hw : m.1 146 0 (d + 1) = w) (hu : m.1 146 0 d = u) : f9_termOf_L1 (nI b) (nI (d + 2), nI i, m) = if k = 3 ∧ w = 0 then some (.inr (.inr (0, z_sI m 9 0 47 1))) else some (.inl (nI (d + 1), nI (i + 1), z_sI m 146 0 d (q_op k u w))) := by
  have key : ¬ (k = 3 ∧ w = 0) → (if c = 2 then some (u + w) else (if c = 3 then some (u - w) else (if c = 4 then some (u * w) else if w = 0 then none else some (u / w)))) = some (q_op k u w) := by
    intro hn
    unfold q_op
    by_cases e0 : k = 0
    · rw [if_pos (h2.mpr e0), if_pos e0]
    · rw [if_neg (fun q => e0 (h2.mp q)), if_neg e0]
      by_cases e1 : k = 1
      · rw [if_pos (h3.mpr e1), if_pos e1]
      · rw [if_neg (fun q => e1 (h3.mp q)), if_neg e1]
        by_cases e2 : k = 2
        · rw [if_pos (h4.mpr e2), if_pos e2]
        · rw [if_neg (fun q => e2 (h4.mp q)), if_neg e2, if_neg (fun q => hn ⟨by omega, q⟩)]
  have hiL : (nI i < nI b) = True := eq_true (nI_lt hi (by omega))
  have hz1 : z_in (nI i) 840 = true := y_in (by omega) (by omega)
  have hz2 : z_in (nI d) 400 = true := y_in (by omega) (by omega)
  have hz3 : z_in (nI (d + 1)) 400 = true := y_in (by omega) (by omega)
  have c1 : (nI i).toNatClampNeg = i := y_cl (by omega)
  have c2 : (nI d).toNatClampNeg = d := y_cl (by omega)
  have c3 : (nI (d + 1)).toNatClampNeg = d + 1 := y_cl (by omega)
  have e1 : nI (d + 2) + (-1) = nI (d + 1) := y_p2 d
  have e2 : nI (d + 1) - 1 = nI d := y_p3 d
  generalize nI (d + 2) = D2 at *
  generalize nI (d + 1) = D1 at *
  by_cases hq : k = 3 ∧ w = 0
  · rw [if_pos hq]
    have h5' : (c = 5) = True := eq_true (h5.mpr hq.1)
    unfold f9_termOf_L1 z_u3
    show (if nI i < nI b then _ else _) = _
    rw [e1, e2]
    simp only [hiL, ↓reduceIte, hz1, c1, z_let, hc, h1, hz2, hz3, c2, c3, hw, hu, h5', hq.2]
  · rw [if_neg hq]
    unfold f9_termOf_L1 z_u3
    show (if nI i < nI b then _ else _) = _
    rw [e1, e2]
    simp only [hiL, ↓reduceIte, hz1, c1, z_let, hc, h1, hz2, hz3, c2, c3, hw, hu, key hq, Option.bind_some, y_s1]
    by_cases hk3 : k = 3
    · rw [if_pos (h5.mpr hk3), if_neg (fun q => hq ⟨hk3, q⟩)]
    · rw [if_neg (fun q => hk3 (h5.mp q))]
theorem p9_s_op {k : Nat} {u w : Int32} (hi : i < b) (hb : b ≤ 840) (hd : d + 2 ≤ 400) (hc : m.1 141 0 i = nI (k + 2)) (hk : k < 4) (hw : m.1 146 0 (d + 1) = w) (hu : m.1 146 0 d = u) : f9_termOf_L1 (nI b) (nI (d + 2), nI i, m) = if k = 3 ∧ w = 0 then some (.inr (.inr (0, z_sI m 9 0 47 1))) else some (.inl (nI (d + 1), nI (i + 1), z_sI m 146 0 d (q_op k u w))) := by
  obtain ⟨h1, h5, h2, h3, h4⟩ := y_mops k hk
  exact p9_s_opc hi hb hd hc h1 h5 h2 h3 h4 hk hw hu
theorem p9_s_end : f9_termOf_L1 (nI b) (nI d, nI b, m) = some (.inr (.inl m)) := by
  unfold f9_termOf_L1
  simp only [z_u3]
  rw [if_neg Int32.lt_irrefl]
end
theorem p9_seg {x : Nat → Int32} {m0 : zMem} {b : Nat} (hb : b ≤ 840) (hx : ∀ j, j < 9 → m0.1 145 0 j = x j) : ∀ (l : List qI) (s : List Int32) (i n e : Nat) (m : zMem), z_fr (fun c i => c = 146 ∧ i = 0) m0 m → q_ms (m0.1 141 0) (m0.1 142 0) i l → i + l.length ≤ b → q_wf 16 l s.length e → s.length ≤ 16 → q_sk (m.1 146 0) s → ∃ m', z_fr (fun c i => c = 146 ∧ i = 0) m0 m' ∧ (match q_ev x l s with
    | some s' => q_sk (m'.1 146 0) s' ∧ z_it (f9_termOf_L1 (nI b)) (n + l.length) (nI s.length, nI i, m) = z_it (f9_termOf_L1 (nI b)) n (nI e, nI (i + l.length), m')
    | none => z_it (f9_termOf_L1 (nI b)) (n + l.length) (nI s.length, nI i, m) = some (.inr (0, z_sI m' 9 0 47 1)))
  | [], s, i, n, e, m, hf, hc, hi, hwf, hl, hk => by
    have hwf' : s.length = e := hwf
    exact ⟨m, hf, hk, by rw [← hwf']; rfl⟩
  | (0, v) :: l, s, i, n, e, m, hf, hc, hi, hwf, hl, hk => by
    have hi' : i + (l.length + 1) ≤ b := hi
    have e1 : m.1 141 0 = m0.1 141 0 := hf.1 141 0 (by omega)
    have e2 : m.1 142 0 = m0.1 142 0 := hf.1 142 0 (by omega)
    have hstep := p9_s_int (m := m) (d := s.length) (v := v) (show i < b by omega) hb (by omega) (by rw [e1]; exact hc.1.1) (by rw [e2]; exact hc.1.2 (by show 0 < 2; omega))
    obtain ⟨m', hf', hm'⟩ := p9_seg hb hx l (nI v :: s) (i + 1) n e (z_sI m 146 0 s.length (nI v)) (z_fr_s hf ⟨rfl, rfl⟩) hc.2 (by omega) hwf.2.2 (by show s.length + 1 ≤ 16; have := hwf.2.1; omega) ⟨by unfold z_sI; rw [z_uI_at, pk_us], by unfold z_sI; rw [z_uI_at]; exact q_sk_u hk (Nat.le_refl _)⟩
    refine ⟨m', hf', ?_⟩
    have e3 : z_it (f9_termOf_L1 (nI b)) (n + (l.length + 1)) (nI s.length, nI i, m) = z_it (f9_termOf_L1 (nI b)) (n + l.length) (nI (s.length + 1), nI (i + 1), z_sI m 146 0 s.length (nI v)) := z_it_s hstep
    show match q_ev x l (nI v :: s) with | some s' => _ | none => _
    have e4 : i + 1 + l.length = i + (l.length + 1) := by omega
    rw [e4] at hm'
    cases hq : q_ev x l (nI v :: s) with
    | none => rw [hq] at hm'; exact e3.trans hm'
    | some s' => rw [hq] at hm'; exact ⟨hm'.1, e3.trans hm'.2⟩
  | (1, j) :: l, s, i, n, e, m, hf, hc, hi, hwf, hl, hk => by
    have hi' : i + (l.length + 1) ≤ b := hi
    have e1 : m.1 141 0 = m0.1 141 0 := hf.1 141 0 (by omega)
    have e2 : m.1 142 0 = m0.1 142 0 := hf.1 142 0 (by omega)
    have e5 : m.1 145 0 = m0.1 145 0 := hf.1 145 0 (by omega)
    have hstep := p9_s_var (m := m) (d := s.length) (j := j) (x := x j) (show i < b by omega) hb (by omega) (by rw [e1]; exact hc.1.1) (by rw [e2]; exact hc.1.2 (by show 1 < 2; omega)) hwf.1 (by rw [e5]; exact hx j hwf.1)
    obtain ⟨m', hf', hm'⟩ := p9_seg hb hx l (x j :: s) (i + 1) n e (z_sI m 146 0 s.length (x j)) (z_fr_s hf ⟨rfl, rfl⟩) hc.2 (by omega) hwf.2.2 (by show s.length + 1 ≤ 16; have := hwf.2.1; omega) ⟨by unfold z_sI; rw [z_uI_at, pk_us], by unfold z_sI; rw [z_uI_at]; exact q_sk_u hk (Nat.le_refl _)⟩
    refine ⟨m', hf', ?_⟩
    have e3 : z_it (f9_termOf_L1 (nI b)) (n + (l.length + 1)) (nI s.length, nI i, m) = z_it (f9_termOf_L1 (nI b)) (n + l.length) (nI (s.length + 1), nI (i + 1), z_sI m 146 0 s.length (x j)) := z_it_s hstep
    show match q_ev x l (x j :: s) with | some s' => _ | none => _
    have e4 : i + 1 + l.length = i + (l.length + 1) := by omega
    rw [e4] at hm'
    cases hq : q_ev x l (x j :: s) with
    | none => rw [hq] at hm'; exact e3.trans hm'
    | some s' => rw [hq] at hm'; exact ⟨hm'.1, e3.trans hm'.2⟩
  | (k + 2, _) :: l, [], i, n, e, m, hf, hc, hi, hwf, hl, hk => absurd hwf.2.1 (by show ¬ 2 ≤ 0; omega)
  | (k + 2, _) :: l, [w], i, n, e, m, hf, hc, hi, hwf, hl, hk => absurd hwf.2.1 (by show ¬ 2 ≤ 1; omega)
  | (k + 2, z) :: l, w :: u :: s, i, n, e, m, hf, hc, hi, hwf, hl, hk => by
    have hi' : i + (l.length + 1) ≤ b := hi
    have hl' : s.length + 2 ≤ 16 := hl
    have e1 : m.1 141 0 = m0.1 141 0 := hf.1 141 0 (by omega)
    have hstep := p9_s_op (m := m) (d := s.length) (k := k) (u := u) (w := w) (show i < b by omega) hb (by omega) (by rw [e1]; exact hc.1.1) hwf.1 hk.1 hk.2.1
    rw [q_ev]
    by_cases hq : k = 3 ∧ w = 0
    · rw [if_pos hq] at hstep ⊢
      exact ⟨m, hf, z_it_d (n := n + l.length) hstep⟩
    · rw [if_neg hq] at hstep ⊢
      obtain ⟨m', hf', hm'⟩ := p9_seg hb hx l (q_op k u w :: s) (i + 1) n e (z_sI m 146 0 s.length (q_op k u w)) (z_fr_s hf ⟨rfl, rfl⟩) hc.2 (by omega) hwf.2.2 (by show s.length + 1 ≤ 16; omega) ⟨by unfold z_sI; rw [z_uI_at, pk_us], by unfold z_sI; rw [z_uI_at]; exact q_sk_u hk.2.2 (Nat.le_refl _)⟩
      refine ⟨m', hf', ?_⟩
      have e3 : z_it (f9_termOf_L1 (nI b)) (n + (l.length + 1)) (nI (s.length + 2), nI i, m) = z_it (f9_termOf_L1 (nI b)) (n + l.length) (nI (s.length + 1), nI (i + 1), z_sI m 146 0 s.length (q_op k u w)) := z_it_s hstep
      have e4 : i + 1 + l.length = i + (l.length + 1) := by omega
      rw [e4] at hm'
      cases hq : q_ev x l (q_op k u w :: s) with
      | none => rw [hq] at hm'; exact e3.trans hm'
      | some s' => rw [hq] at hm'; exact ⟨hm'.1, e3.trans hm'.2⟩
/-- what may be written while a LAW is reckoned: the pile, and that it is broken -/
abbrev qPile : Nat → Nat → Prop := fun c i => i = 0 ∧ (c = 146 ∨ c = 9)
/-- one term: its value, or broken -/
theorem p9_termOf {x : Nat → Int32} {m : zMem} (hx : ∀ j, j < 9 → m.1 145 0 j = x j) {l : List qI} (hl : q_wf 16 l 0 1) {i : Nat} (hi : i + l.length ≤ 840) (hc : q_ms (m.1 141 0) (m.1 142 0) i l) : zw (f9_termOf (nI i) (nI (i + l.length)) m) fun q => z_fr qPile m q.2 ∧ ((∃ t, q_ev x l [] = some [t] ∧ q.1 = t ∧ q.2.1 9 0 = m.1 9 0) ∨ (q_ev x l [] = none ∧ q.1 = 0 ∧ q.2.1 9 0 = upd (m.1 9 0) 47 1)) := by
  obtain ⟨m', hf, hm⟩ := p9_seg hi hx l [] i (5000 - l.length) 1 m (z_fr_r m) hc (Nat.le_refl _) hl (by show 0 ≤ 16; omega) trivial
  have e5 : 5000 - l.length + l.length = z_fu := by show _ = 5000; omega
  rw [e5] at hm
  have hfP : z_fr qPile m m' := z_fr_m hf (fun c i h => ⟨h.2, Or.inl h.1⟩)
  have e9 : m'.1 9 0 = m.1 9 0 := hf.1 9 0 (by omega)
  unfold f9_termOf
  rcases q_one (x := x) hl with e | ⟨t, e⟩
  · rw [e] at hm
    refine zw_eq hm (zw_some.mpr ⟨z_fr_s hfP ⟨rfl, Or.inr rfl⟩, Or.inr ⟨e, rfl, ?_⟩⟩)
    show (z_sI m' 9 0 47 1).1 9 0 = _
    unfold z_sI
    rw [z_uI_at, e9]
  · rw [e] at hm
    obtain ⟨n1, hn1⟩ : ∃ n1, 5000 - l.length = n1 + 1 := ⟨5000 - l.length - 1, by omega⟩
    have hm2 := hm.2
    rw [hn1] at hm2
    refine zw_eq (hm2.trans (z_it_d p9_s_end)) (zw_some.mpr ⟨hfP, Or.inl ⟨t, e, ?_, e9⟩⟩)
    show m'.1 146 0 (0 : Int32).toNatClampNeg = t
    exact hm.1.1
/-- the reference's branches of a LAW -/
def q_ml (m : zMem) : Nat → List qB → List qI → Prop
  | b, [], f => b < 260 ∧ m.1 135 0 b = 0 ∧ ∃ i, m.1 138 0 b = nI i ∧ m.1 139 0 b = nI (i + f.length) ∧ q_ms (m.1 141 0) (m.1 142 0) i f ∧ i + f.length ≤ 840
  | b, (u, v, w) :: bs, f => b < 260 ∧ m.1 135 0 b ≠ 0 ∧ (∃ i, m.1 136 0 b = nI i ∧ m.1 137 0 b = nI (i + u.length) ∧ m.1 138 0 b = nI (i + u.length + v.length) ∧ m.1 139 0 b = nI (i + u.length + v.length + w.length) ∧ q_ms (m.1 141 0) (m.1 142 0) i u ∧ q_ms (m.1 141 0) (m.1 142 0) (i + u.length) v ∧ q_ms (m.1 141 0) (m.1 142 0) (i + u.length + v.length) w ∧ i + u.length + v.length + w.length ≤ 840) ∧ q_ml m (b + 1) bs f
/-- the rows of the reference that its LAWS are read from -/
abbrev qMlE (m m' : zMem) : Prop := m'.1 135 0 = m.1 135 0 ∧ m'.1 136 0 = m.1 136 0 ∧ m'.1 137 0 = m.1 137 0 ∧ m'.1 138 0 = m.1 138 0 ∧ m'.1 139 0 = m.1 139 0 ∧ m'.1 141 0 = m.1 141 0 ∧ m'.1 142 0 = m.1 142 0
theorem q_ml_fr {m m' : zMem} (h : qMlE m m') : ∀ {bs : List qB} {f : List qI} {b : Nat}, q_ml m b bs f → q_ml m' b bs f
  | [], f, b, hb => by
    obtain ⟨h1, h2, h3, h4, h5, h6, h7⟩ := h
    unfold q_ml at *
    rw [h1, h4, h5, h6, h7]
    exact hb
  | (u, v, w) :: bs, f, b, hb => by
    have ih := q_ml_fr h hb.2.2.2
    obtain ⟨h1, h2, h3, h4, h5, h6, h7⟩ := h
    unfold q_ml
    unfold q_ml at hb
    rw [h1, h2, h3, h4, h5, h6, h7]
    exact ⟨hb.1, hb.2.1, hb.2.2.1, ih⟩
theorem qPile_ml {m m' : zMem} (h : z_fr qPile m m') : qMlE m m' := ⟨h.1 _ _ (by omega), h.1 _ _ (by omega), h.1 _ _ (by omega), h.1 _ _ (by omega), h.1 _ _ (by omega), h.1 _ _ (by omega), h.1 _ _ (by omega)⟩
/-- the loop over a LAW's branches -/
theorem p9_branches {x : Nat → Int32} {v1 : Int32} {k1 : Nat} (hv1 : v1 = nI k1) (hk1 : k1 < 8) : ∀ (bs : List qB) (f : List qI) (b n : Nat) (m : zMem), q_ml m b bs f → q_lw bs f → (∀ j, j < 9 → m.1 145 0 j = x j) → m.1 9 0 47 = 0 → m.1 133 0 k1 = nI (b + bs.length + 1) → b + bs.length < 260 → bs.length < n → ∃ m', z_fr qPile m m' ∧ (∀ j, j ≠ 47 → m'.1 9 0 j = m.1 9 0 j) ∧ z_it (f9_lawTells_L9 v1) n (nI b, m) = some (.inr (q_law x bs f, m'))
  | [], f, b, n + 1, m, hm, hl, hx, h47, h133, hb, hn => by
    obtain ⟨hb', h135, i, h138, h139, hms, hi⟩ := hm
    obtain ⟨⟨q, m1⟩, he, hf, ht⟩ := p9_termOf hx hl hi hms
    have step : f9_lawTells_L9 v1 (nI b, m) = some (.inr (.inr (q_law x [] f, m1))) := by
      unfold f9_lawTells_L9
      simp (disch := omega) only [z_u2, hv1, y_in, y_cl, h133, y_lt, if_true, h135, h138, h139, List.length_nil, Nat.add_zero, Nat.lt_add_one, he, Option.bind_some]
      rw [q_law]
      rcases ht with ⟨t, e, eq, e9⟩ | ⟨e, eq, e9⟩
      · rw [e9, if_pos h47, e]
        rw [show q = t from eq]
        rfl
      · rw [e9, pk_us, if_neg (by decide), e]
        rfl
    refine ⟨m1, hf, fun j hj => ?_, z_it_d step⟩
    rcases ht with ⟨t, e, eq, e9⟩ | ⟨e, eq, e9⟩
    · exact congrFun e9 j
    · exact (congrFun e9 j).trans (pk_un hj)
  | (u, v, w) :: bs, f, b, n + 1, m, hm, hl, hx, h47, h133, hb, hn => by
    obtain ⟨hb', h135, ⟨i, h136, h137, h138, h139, mu, mv, mw, hi⟩, hr⟩ := hm
    obtain ⟨lu, lv, lw, lr⟩ := hl
    obtain ⟨⟨q1, m1⟩, he1, hf1, ht1⟩ := p9_termOf hx lu (show i + u.length ≤ 840 by omega) mu
    obtain ⟨a1, a2, a3, a4, a5, a6, a7⟩ := qPile_ml hf1
    have x1 : ∀ j, j < 9 → m1.1 145 0 j = x j := fun j hj => by rw [hf1.1 145 0 (by omega)]; exact hx j hj
    obtain ⟨⟨q2, m2⟩, he2, hf2, ht2⟩ := p9_termOf x1 (q_wf_more (by omega) lv) (show i + u.length + v.length ≤ 840 by omega) (by rw [a6, a7]; exact mv)
    obtain ⟨b1, b2, b3, b4, b5, b6, b7⟩ := qPile_ml hf2
    have x2 : ∀ j, j < 9 → m2.1 145 0 j = x j := fun j hj => by rw [hf2.1 145 0 (by omega)]; exact x1 j hj
    obtain ⟨⟨q3, m3⟩, he3, hf3, ht3⟩ := p9_termOf x2 lw (show i + u.length + v.length + w.length ≤ 840 by omega) (by rw [b6, b7, a6, a7]; exact mw)
    have hlen : (((u, v, w) :: bs : List qB)).length = bs.length + 1 := rfl
    rw [hlen] at h133 hb hn
    have c137 : m1.1 137 0 b = nI (i + u.length) := by rw [a3]; exact h137
    have c138 : m1.1 138 0 b = nI (i + u.length + v.length) := by rw [a4]; exact h138
    have d138 : m2.1 138 0 b = nI (i + u.length + v.length) := by rw [b4]; exact c138
    have d139 : m2.1 139 0 b = nI (i + u.length + v.length + w.length) := by rw [b5, a5]; exact h139
    have o1 : ∀ j, j ≠ 47 → m1.1 9 0 j = m.1 9 0 j := fun j hj => by
      rcases ht1 with ⟨t, e, eq, e9⟩ | ⟨e, eq, e9⟩
      · exact congrFun e9 j
      · exact (congrFun e9 j).trans (pk_un hj)
    have o2 : ∀ j, j ≠ 47 → m2.1 9 0 j = m.1 9 0 j := fun j hj => by
      rcases ht2 with ⟨t, e, eq, e9⟩ | ⟨e, eq, e9⟩
      · exact (congrFun e9 j).trans (o1 j hj)
      · exact ((congrFun e9 j).trans (pk_un hj)).trans (o1 j hj)
    have o3 : ∀ j, j ≠ 47 → m3.1 9 0 j = m.1 9 0 j := fun j hj => by
      rcases ht3 with ⟨t, e, eq, e9⟩ | ⟨e, eq, e9⟩
      · exact (congrFun e9 j).trans (o2 j hj)
      · exact ((congrFun e9 j).trans (pk_un hj)).trans (o2 j hj)
    have body : f9_lawTells_L9 v1 (nI b, m) = (if (m2.1 9 0 47) = 0 then (if q1 < q2 then (if (m3.1 9 0 47) = 0 then some (.inr (.inr (q3, m3))) else some (.inr (.inr ((0 : Int32), m3)))) else some (.inl (nI (b + 1), m2))) else some (.inr (.inr ((0 : Int32), m2)))) := by
      unfold f9_lawTells_L9
      simp (disch := omega) only [z_u2, hv1, y_in, y_cl, h133, y_lt, show b < b + (bs.length + 1) + 1 by omega, if_true, h135, if_false, h136, h137, he1, Option.bind_some, c137, c138, he2, d138, d139, he3, y_s1]
    rcases ht1 with ⟨t1, e1, eq1, e91⟩ | ⟨e1, eq1, e91⟩
    · rcases ht2 with ⟨t2, e2, eq2, e92⟩ | ⟨e2, eq2, e92⟩
      · have z47 : m2.1 9 0 47 = 0 := by rw [e92, e91]; exact h47
        rw [if_pos z47] at body
        by_cases hlt : q1 < q2
        · rw [if_pos hlt] at body
          have hlaw : q_law x ((u, v, w) :: bs) f = q_top (q_ev x w []) := by
            rw [q_law, e1, e2]
            show (if t1 < t2 then _ else _) = _
            rw [if_pos (by rw [← show q1 = t1 from eq1, ← show q2 = t2 from eq2]; exact hlt)]
          refine ⟨m3, z_fr_t (z_fr_t hf1 hf2) hf3, o3, ?_⟩
          rcases ht3 with ⟨t3, e3, eq3, e93⟩ | ⟨e3, eq3, e93⟩
          · rw [e93, if_pos z47] at body
            rw [hlaw, e3, show q_top (some [t3]) = q3 from (show q3 = t3 from eq3).symm]
            exact z_it_d body
          · rw [e93, pk_us, if_neg (by decide)] at body
            rw [hlaw, e3]
            exact z_it_d body
        · rw [if_neg hlt] at body
          have hlaw : q_law x ((u, v, w) :: bs) f = q_law x bs f := by
            rw [q_law, e1, e2]
            show (if t1 < t2 then _ else _) = _
            rw [if_neg (by rw [← show q1 = t1 from eq1, ← show q2 = t2 from eq2]; exact hlt)]
          obtain ⟨m4, hf4, o4, he4⟩ := p9_branches hv1 hk1 bs f (b + 1) n m2 (q_ml_fr (qPile_ml (z_fr_t hf1 hf2)) hr) lr x2 z47 (by rw [hf2.1 133 0 (by omega), hf1.1 133 0 (by omega), h133]; congr 1; omega) (by omega) (by omega)
          refine ⟨m4, z_fr_t (z_fr_t hf1 hf2) hf4, fun j hj => (o4 j hj).trans (o2 j hj), ?_⟩
          rw [hlaw]
          exact (z_it_s body).trans he4
      · rw [e92, pk_us, if_neg (by decide)] at body
        refine ⟨m2, z_fr_t hf1 hf2, o2, ?_⟩
        rw [q_law, e1, e2]
        exact z_it_d body
    · have z47 : ¬ m2.1 9 0 47 = 0 := by
        rcases ht2 with ⟨t2, e2, eq2, e92⟩ | ⟨e2, eq2, e92⟩
        · rw [e92, e91, pk_us]; decide
        · rw [e92, pk_us]; decide
      rw [if_neg z47] at body
      refine ⟨m2, z_fr_t hf1 hf2, o2, ?_⟩
      rw [q_law, e1]
      exact z_it_d body
/-- the reference's LAWS are those of T: not told, or told -/
def q_pl (k : Nat) : List qI := if k = 3 then [(1, 0)] else [(0, 0)]
/-- alike where the LAWS of a side lie -/
def q_ra (v : Nat) (m m' : zMem) : Prop := (∀ c j, 135 ≤ c → c ≤ 139 → 130 * v ≤ j → j < 130 * v + 130 → m'.1 c 0 j = m.1 c 0 j) ∧ ∀ c j, c = 141 ∨ c = 142 → 420 * v ≤ j → j < 420 * v + 420 → m'.1 c 0 j = m.1 c 0 j
def qMl (m : zMem) (v : Nat) (T : qT) : Prop := ∀ k, k < 4 → ((m.1 132 0 (4 * v + k) = m.1 133 0 (4 * v + k) ∧ tL T k = ([], q_pl k)) ∨ ∃ b, b + (tL T k).1.length < 260 ∧ m.1 132 0 (4 * v + k) = nI b ∧ m.1 133 0 (4 * v + k) = nI (b + (tL T k).1.length + 1) ∧ ∀ m', q_ra v m m' → q_ml m' b (tL T k).1 (tL T k).2)
theorem p9_lawTells {x : Nat → Int32} {m : zMem} {T : qT} {v : Nat} (hv : v < 2) (h18 : m.1 9 0 18 = nI v) (hl : tLw T) (hM : qMl m v T) (hx : ∀ j, j < 9 → m.1 145 0 j = x j) {k : Nat} (hk : k < 4) {pl : Int32} (hp : pl = q_top (q_ev x (q_pl k) [])) : zw (f9_lawTells (nI k) pl m) fun q => q.1 = tV T k x ∧ z_fr qPile m q.2 ∧ (∀ j, j ≠ 47 → q.2.1 9 0 j = m.1 9 0 j) := by
  unfold f9_lawTells
  have e4 : ((4 : Int32) * (m.1 9 0 18)) + nI k = nI (4 * v + k) := by rw [h18, y_4, pk_mul, nI_add]
  rw [e4]
  show zw (if z_in (nI (4 * v + k)) 8 = true then _ else _) _
  rw [if_pos (y_in (by omega) (by omega)), y_cl (by omega)]
  rcases hM k hk with ⟨heq, hT⟩ | ⟨b, hb, h132, h133, hml'⟩
  · rw [if_pos heq]
    refine zw_some.mpr ⟨?_, z_fr_r m, fun _ _ => rfl⟩
    unfold tV
    rw [hT, q_law, hp]
  · have hml := hml' m ⟨fun _ _ _ _ _ _ => rfl, fun _ _ _ _ _ => rfl⟩
    have hne : ¬ m.1 132 0 (4 * v + k) = m.1 133 0 (4 * v + k) := by
      rw [h132, h133, y_eq (by omega) (by omega)]
      omega
    rw [if_neg hne]
    have hf0 : z_fr qPile m (z_sI m 9 0 47 0) := z_fr_s (z_fr_r m) ⟨rfl, Or.inr rfl⟩
    obtain ⟨m', hf, ho, he⟩ := p9_branches (x := x) rfl (show 4 * v + k < 8 by omega) (tL T k).1 (tL T k).2 b z_fu (z_sI m 9 0 47 0) (q_ml_fr (qPile_ml hf0) hml) (hl k hk) (fun j hj => by rw [hf0.1 145 0 (by omega)]; exact hx j hj) (by unfold z_sI; rw [z_uI_at, pk_us]) (by rw [hf0.1 133 0 (by omega)]; exact h133) hb (by show _ < 5000; omega)
    show zw ((z_it (f9_lawTells_L9 (nI (4 * v + k))) z_fu ((z_sI m 9 0 47 0).1 132 0 (4 * v + k), z_sI m 9 0 47 0)).bind _) _
    rw [hf0.1 132 0 (by omega), h132]
    refine zw_eq he (zw_some.mpr ⟨rfl, z_fr_t hf0 hf, fun j hj => (ho j hj).trans ?_⟩)
    unfold z_sI
    rw [z_uI_at, pk_un hj]
