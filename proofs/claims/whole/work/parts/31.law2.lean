/-! LAWS II: branches; the class's valueOf -/
def q_top : Option (List Int32) → Int32
  | some (t :: _) => t
  | _ => 0
def q_law (x : Nat → Int32) : List qB → List qI → Int32
  | [], f => q_top (q_ev x f [])
  | (u, v, w) :: bs, f => match q_ev x u [], q_ev x v [] with
    | some (a :: _), some (b :: _) => if a < b then q_top (q_ev x w []) else q_law x bs f
    | _, _ => 0
def tV (T : qT) (k : Nat) (x : Nat → Int32) : Int32 := q_law x (tL T k).1 (tL T k).2
/-- well formed branches -/
def q_lw : List qB → List qI → Prop
  | [], f => q_wf 16 f 0 1
  | (u, v, w) :: bs, f => q_wf 16 u 0 1 ∧ q_wf 15 v 0 1 ∧ q_wf 16 w 0 1 ∧ q_lw bs f
/-- the class's words of a LAW -/
def q_cl (c : Nat → Int32) (N : Nat) : Nat → List qB → List qI → Prop
  | i, [], f => q_cs c i f ∧ c (i + f.length) = -15 ∧ i + f.length < N
  | i, (u, v, w) :: bs, f => q_cs c i u ∧ q_cs c (i + u.length) v ∧ c (i + u.length + v.length) = -100 - nI (i + u.length + v.length + 1 + w.length + 1) ∧ q_cs c (i + u.length + v.length + 1) w ∧ c (i + u.length + v.length + 1 + w.length) = -15 ∧ q_cl c N (i + u.length + v.length + 1 + w.length + 1) bs f
theorem q_cl_lt {c : Nat → Int32} {N : Nat} : ∀ {bs : List qB} {f : List qI} {i : Nat}, q_cl c N i bs f → i < N
  | [], f, i, h => by have := h.2.2; omega
  | (u, v, w) :: bs, f, i, h => by have := q_cl_lt h.2.2.2.2.2; omega
theorem q_ev_app {x : Nat → Int32} {D : Nat} {s0 : List Int32} : ∀ {l : List qI} {s : List Int32} {e : Nat}, q_wf D l s.length e → q_ev x l (s ++ s0) = (q_ev x l s).map (fun s' => s' ++ s0)
  | [], s, e, h => rfl
  | (0, v) :: l, s, e, h => q_ev_app (s := nI v :: s) h.2.2
  | (1, i) :: l, s, e, h => q_ev_app (s := x i :: s) h.2.2
  | (k + 2, _) :: l, [], e, h => absurd h.2.1 (by show ¬ 2 ≤ 0; omega)
  | (k + 2, _) :: l, [b], e, h => absurd h.2.1 (by show ¬ 2 ≤ 1; omega)
  | (k + 2, _) :: l, b :: a :: s, e, h => by
    show (if k = 3 ∧ b = 0 then none else q_ev x l (q_op k a b :: (s ++ s0))) = Option.map _ (if k = 3 ∧ b = 0 then none else q_ev x l (q_op k a b :: s))
    by_cases hq : k = 3 ∧ b = 0
    · rw [if_pos hq, if_pos hq]; rfl
    · rw [if_neg hq, if_neg hq]
      exact q_ev_app (s := q_op k a b :: s) h.2.2
/-- one value more below -/
theorem q_wf_up {D : Nat} : ∀ {l : List qI} {d e : Nat}, q_wf D l d e → q_wf (D + 1) l (d + 1) (e + 1)
  | [], d, e, h => congrArg (· + 1) h
  | (0, v) :: l, d, e, h => ⟨h.1, by have := h.2.1; omega, q_wf_up h.2.2⟩
  | (1, v) :: l, d, e, h => ⟨h.1, by have := h.2.1; omega, q_wf_up h.2.2⟩
  | (k + 2, v) :: l, d, e, h => by
    have h2 := h.2.1
    refine ⟨h.1, by omega, ?_⟩
    have := q_wf_up h.2.2
    rw [show d + 1 - 1 = d - 1 + 1 by omega]
    exact this
theorem q_wf_more {D D' : Nat} (hD : D ≤ D') : ∀ {l : List qI} {d e : Nat}, q_wf D l d e → q_wf D' l d e
  | [], d, e, h => h
  | (0, v) :: l, d, e, h => ⟨h.1, by have := h.2.1; omega, q_wf_more hD h.2.2⟩
  | (1, v) :: l, d, e, h => ⟨h.1, by have := h.2.1; omega, q_wf_more hD h.2.2⟩
  | (k + 2, v) :: l, d, e, h => ⟨h.1, h.2.1, q_wf_more hD h.2.2⟩
theorem q_one {x : Nat → Int32} {D : Nat} {l : List qI} (h : q_wf D l 0 1) : q_ev x l [] = none ∨ ∃ t, q_ev x l [] = some [t] := by
  cases hq : q_ev x l [] with
  | none => exact Or.inl rfl
  | some s =>
    have := q_ev_len (s := []) h hq
    match s, this with
    | [t], _ => exact Or.inr ⟨t, rfl⟩
theorem p1_law {o0 o1 o2 : Nat} {a4 a5 : Int32} {x : Nat → Int32} {m0 : zMem} {N : Nat} (hN : N ≤ 404) (hw : m0.1 6 o1 9 = nI N) (hv : ∀ m, z_fr (fun c i => c = 13 ∧ i = o0) m0 m → ∀ j, j < 9 → f1_variableOf o0 o1 o2 (nI j) a4 a5 m = some (x j)) : ∀ (bs : List qB) (f : List qI) (i st n : Nat) (m : zMem), z_fr (fun c i => c = 13 ∧ i = o0) m0 m → q_cl (m0.1 29 o1) N i bs f → q_lw bs f → st ≤ i → N ≤ n + i → ∃ m', z_fr (fun c i => c = 13 ∧ i = o0) m0 m' ∧ z_it (f1_valueOf_L4 o0 o1 o2 a4 a5) n (nI i, nI 0, nI st, m) = some (.inr (q_law x bs f, m'))
  | [], f, i, st, n, m, hf, hc, hl, hs, hn => by
    have hlt := hc.2.2
    obtain ⟨n', rfl⟩ : ∃ n', n = (n' + 1) + f.length := ⟨n - f.length - 1, by omega⟩
    obtain ⟨m', hf', hm'⟩ := p1_seg hN hw hv f [] i st (n' + 1) 1 m hf hc.1 (by omega) (by omega) hl (by show 0 ≤ 16; omega) trivial
    refine ⟨m', hf', ?_⟩
    rcases q_one (x := x) hl with e | ⟨t, e⟩
    · rw [e] at hm'
      rw [q_law, e]
      exact hm'
    · rw [e] at hm'
      rw [q_law, e]
      refine hm'.2.trans ?_
      have e6 : m'.1 6 o1 = m0.1 6 o1 := hf'.1 6 o1 (by omega)
      have e29 : m'.1 29 o1 = m0.1 29 o1 := hf'.1 29 o1 (by omega)
      exact z_it_d (p1_s_stop (d := 0) (by omega) hlt hN (by rw [e6]; exact hw) (by rw [e29]; exact hc.2.1) (by omega) hm'.1.1)
  | (u, v, w) :: bs, f, i, st, n, m, hf, hc, hl, hs, hn => by
    obtain ⟨cu, cv, cj, cw, cs, cr⟩ := hc
    obtain ⟨lu, lv, lw, lr⟩ := hl
    have hlt := q_cl_lt cr
    obtain ⟨n1, rfl⟩ : ∃ n1, n = (((n1 + 1 + w.length) + 1) + v.length) + u.length := ⟨n - u.length - v.length - 1 - w.length - 1, by omega⟩
    obtain ⟨m1, hf1, hm1⟩ := p1_seg hN hw hv u [] i st (((n1 + 1 + w.length) + 1) + v.length) 1 m hf cu (by omega) (by omega) lu (by show 0 ≤ 16; omega) trivial
    rcases q_one (x := x) lu with eu | ⟨a, eu⟩
    · rw [eu] at hm1
      refine ⟨m1, hf1, ?_⟩
      rw [q_law, eu]
      exact hm1
    rw [eu] at hm1
    obtain ⟨m2, hf2, hm2⟩ := p1_seg hN hw hv v [a] (i + u.length) (st + u.length) ((n1 + 1 + w.length) + 1) 2 m1 hf1 cv (by omega) (by omega) (q_wf_up lv) (by show 1 ≤ 16; omega) hm1.1
    have ea : q_ev x v [a] = (q_ev x v []).map (fun s' => s' ++ [a]) := q_ev_app (s := []) (s0 := [a]) lv
    rcases q_one (x := x) lv with ev | ⟨b, ev⟩
    · rw [ea, ev] at hm2
      refine ⟨m2, hf2, ?_⟩
      rw [q_law, eu, ev]
      exact hm1.2.trans hm2
    rw [ea, ev] at hm2
    have e6 : m2.1 6 o1 = m0.1 6 o1 := hf2.1 6 o1 (by omega)
    have e29 : m2.1 29 o1 = m0.1 29 o1 := hf2.1 29 o1 (by omega)
    have hj := p1_s_jump (o0 := o0) (o2 := o2) (a4 := a4) (a5 := a5) (m := m2) (st := st + u.length + v.length) (d := 0) (a := a) (b := b) (by omega) (show i + u.length + v.length < N by omega) hN (by rw [e6]; exact hw) (show i + u.length + v.length + 1 + w.length + 1 ≤ 404 by omega) (by rw [e29]; exact cj) (by omega) hm2.1.1 hm2.1.2.1
    have e12 := (hm1.2.trans hm2.2).trans (z_it_s hj)
    by_cases hab : a < b
    · rw [if_pos hab] at e12
      obtain ⟨m3, hf3, hm3⟩ := p1_seg hN hw hv w [] (i + u.length + v.length + 1) (st + u.length + v.length + 1) (n1 + 1) 1 m2 hf2 cw (by omega) (by omega) lw (by show 0 ≤ 16; omega) trivial
      refine ⟨m3, hf3, ?_⟩
      rcases q_one (x := x) lw with e | ⟨t, e⟩
      · rw [e] at hm3
        rw [q_law, eu, ev]
        show _ = some (Sum.inr (if a < b then q_top (q_ev x w []) else _, m3))
        rw [if_pos hab, e]
        rw [show n1 + 1 + w.length = n1 + 1 + w.length from rfl] at e12
        exact e12.trans hm3
      · rw [e] at hm3
        rw [q_law, eu, ev]
        show _ = some (Sum.inr (if a < b then q_top (q_ev x w []) else _, m3))
        rw [if_pos hab, e]
        refine (e12.trans hm3.2).trans ?_
        have e6 : m3.1 6 o1 = m0.1 6 o1 := hf3.1 6 o1 (by omega)
        have e29 : m3.1 29 o1 = m0.1 29 o1 := hf3.1 29 o1 (by omega)
        exact z_it_d (p1_s_stop (d := 0) (by omega) (show i + u.length + v.length + 1 + w.length < N by omega) hN (by rw [e6]; exact hw) (by rw [e29]; exact cs) (by omega) hm3.1.1)
    · rw [if_neg hab] at e12
      obtain ⟨m3, hf3, hm3⟩ := p1_law hN hw hv bs f (i + u.length + v.length + 1 + w.length + 1) (st + u.length + v.length + 1) (n1 + 1 + w.length) m2 hf2 cr lr (by omega) (by omega)
      refine ⟨m3, hf3, ?_⟩
      rw [q_law, eu, ev]
      show _ = some (Sum.inr (if a < b then _ else q_law x bs f, m3))
      rw [if_neg hab]
      exact e12.trans hm3
/-- the class's Text o has the LAWS of T -/
def qCl (m : zMem) (o : Nat) (T : qT) : Prop := ∃ N, N ≤ 404 ∧ m.1 6 o 9 = nI N ∧ ∀ k, k < 4 → ∃ i, m.1 30 o k = nI i ∧ q_cl (m.1 29 o) N i (tL T k).1 (tL T k).2
def tLw (T : qT) : Prop := ∀ k, k < 4 → q_lw (tL T k).1 (tL T k).2
theorem qCl.fr {m m' : zMem} {o : Nat} {T : qT} (h : qCl m o T) (h6 : m'.1 6 o = m.1 6 o) (h30 : m'.1 30 o = m.1 30 o) (h29 : m'.1 29 o = m.1 29 o) : qCl m' o T := by
  unfold qCl at *
  rw [h6, h30, h29]
  exact h
theorem p1_valueOf {o0 o1 o2 : Nat} {a4 a5 : Int32} {x : Nat → Int32} {m : zMem} {T : qT} (hc : qCl m o1 T) (hl : tLw T) (hv : ∀ m', z_fr (fun c i => c = 13 ∧ i = o0) m m' → ∀ j, j < 9 → f1_variableOf o0 o1 o2 (nI j) a4 a5 m' = some (x j)) {k : Nat} (hk : k < 4) : zw (f1_valueOf o0 o1 o2 (nI k) a4 a5 m) fun q => q.1 = tV T k x ∧ z_fr (fun c i => c = 13 ∧ i = o0) m q.2 := by
  obtain ⟨N, hN, h6, hk'⟩ := hc
  obtain ⟨i, h30, hcl⟩ := hk' k hk
  unfold f1_valueOf
  rw [if_pos (y_in hk (by omega)), y_cl (by omega), h30]
  have hlt := q_cl_lt hcl
  obtain ⟨m', hf, he⟩ := p1_law hN h6 hv (tL T k).1 (tL T k).2 i 0 z_fu m (z_fr_r m) hcl (hl k hk) (by omega) (by show N ≤ 5000 + i; omega)
  refine zw_eq he ?_
  exact zw_some.mpr ⟨rfl, hf⟩
