/-! LAWS: items (0, int), (1, variable), (2 .. 5, _) for + - * /; what they come to; the class's words and the reference's codes -/
def q_op (k : Nat) (a b : Int32) : Int32 := if k = 0 then a + b else if k = 1 then a - b else if k = 2 then a * b else a / b
def q_ev (x : Nat → Int32) : List qI → List Int32 → Option (List Int32)
  | [], s => some s
  | (0, v) :: l, s => q_ev x l (nI v :: s)
  | (1, i) :: l, s => q_ev x l (x i :: s)
  | (k + 2, _) :: l, b :: a :: s => if k = 3 ∧ b = 0 then none else q_ev x l (q_op k a b :: s)
  | (_ + 2, _) :: _, _ => none
/-- well formed: never more than D values, none wanting, from d to e values -/
def q_wf (D : Nat) : List qI → Nat → Nat → Prop
  | [], d, e => d = e
  | (0, v) :: l, d, e => v < 10000 ∧ d < D ∧ q_wf D l (d + 1) e
  | (1, i) :: l, d, e => i < 9 ∧ d < D ∧ q_wf D l (d + 1) e
  | (k + 2, _) :: l, d, e => k < 4 ∧ 2 ≤ d ∧ q_wf D l (d - 1) e
def q_wd : qI → Int32
  | (0, v) => nI v
  | (1, i) => -1 - nI i
  | (k + 2, _) => -11 - nI k
/-- the class's words from a place on -/
def q_cs (c : Nat → Int32) : Nat → List qI → Prop
  | _, [] => True
  | a, w :: l => c a = q_wd w ∧ q_cs c (a + 1) l
/-- the reference's codes from a place on -/
def q_ms (c d : Nat → Int32) : Nat → List qI → Prop
  | _, [] => True
  | a, w :: l => (c a = nI w.1 ∧ (w.1 < 2 → d a = nI w.2)) ∧ q_ms c d (a + 1) l
/-- a row holds the values, the latest first -/
def q_sk (g : Nat → Int32) : List Int32 → Prop
  | [] => True
  | v :: s => g s.length = v ∧ q_sk g s
theorem q_sk_u {g : Nat → Int32} {x : Int32} : ∀ {s : List Int32} {k : Nat}, q_sk g s → s.length ≤ k → q_sk (upd g k x) s
  | [], _, _, _ => trivial
  | v :: s, k, h, hk => by
    have hk' : s.length + 1 ≤ k := hk
    exact ⟨by rw [pk_un (by omega)]; exact h.1, q_sk_u h.2 (by omega)⟩
theorem q_ev_len {x : Nat → Int32} {D : Nat} : ∀ {l : List qI} {s s' : List Int32} {e : Nat}, q_wf D l s.length e → q_ev x l s = some s' → s'.length = e
  | [], s, s', e, h, hs => by
    cases hs
    exact h
  | (0, v) :: l, s, s', e, h, hs => q_ev_len (s := nI v :: s) h.2.2 hs
  | (1, i) :: l, s, s', e, h, hs => q_ev_len (s := x i :: s) h.2.2 hs
  | (k + 2, _) :: l, [], s', e, h, hs => by cases hs
  | (k + 2, _) :: l, [b], s', e, h, hs => by cases hs
  | (k + 2, _) :: l, b :: a :: s, s', e, h, hs => by
    rw [q_ev] at hs
    by_cases hq : k = 3 ∧ b = 0
    · rw [if_pos hq] at hs; cases hs
    · rw [if_neg hq] at hs
      exact q_ev_len (s := q_op k a b :: s) h.2.2 hs
theorem y_404 : (404 : Int32) = nI 404 := rfl
theorem y_16 : (16 : Int32) = nI 16 := rfl
theorem y_g10 {v : Nat} (h : v < 2147483648) : ((-10 : Int32) < nI v) = True := eq_true (by rw [y_i, y_ti h, show (-10 : Int32).toInt = -10 from rfl]; omega)
theorem y_var : ∀ i, i < 9 → ((-10 : Int32) < -1 - nI i) ∧ (-1 - nI i < 0) ∧ (-1 : Int32) - (-1 - nI i) = nI i := by decide +kernel
theorem y_ops : ∀ k, k < 4 → ¬ ((-10 : Int32) < -11 - nI k) ∧ ¬ (-11 - nI k = -15) ∧ ((-100 : Int32) < -11 - nI k) ∧ ((-11 - nI k = -14) ↔ k = 3) ∧ ((-11 - nI k = -13) ↔ k = 2) ∧ ((-11 - nI k = -12) ↔ k = 1) ∧ ((-11 - nI k = -11) ↔ k = 0) := by decide +kernel
theorem y_p2 (d : Nat) : nI (d + 2) + (-1) = nI (d + 1) := pk_m1 (d + 1)
theorem y_p3 (d : Nat) : nI (d + 1) - 1 = nI d := nI_pred d
theorem p1_reckon {k : Nat} (hk : k < 4) {a b : Int32} (h : ¬ (k = 3 ∧ b = 0)) : f1_reckon (-11 - nI k) a b = some (q_op k a b) := by
  obtain ⟨_, _, _, _, h13, h12, h11⟩ := y_ops k hk
  unfold f1_reckon q_op
  by_cases h2 : k = 2
  · subst h2; rfl
  · rw [if_neg (fun q => h2 (h13.mp q))]
    by_cases h1 : k = 1
    · subst h1; rfl
    · rw [if_neg (fun q => h1 (h12.mp q))]
      by_cases h0 : k = 0
      · subst h0; rfl
      · rw [if_neg (fun q => h0 (h11.mp q)), if_neg h0, if_neg h1, if_neg h2]
        have h3 : k = 3 := by omega
        have hb : ¬ b = 0 := fun q => h ⟨h3, q⟩
        rw [if_neg hb, if_neg hb]
section
variable {o0 o1 o2 : Nat} {a4 a5 : Int32} {m : zMem} {N i d st : Nat}
theorem p1_s_int {v : Nat} (hst : st < 404) (hi : i < N) (hN : N ≤ 404) (hw : m.1 6 o1 9 = nI N) (hc : m.1 29 o1 i = nI v) (hv : v < 10000) (hd : d < 16) : f1_valueOf_L4 o0 o1 o2 a4 a5 (nI i, nI d, nI st, m) = some (.inl (nI (i + 1), nI (d + 1), nI (st + 1), z_sI m 13 o0 d (nI v))) := by
  unfold f1_valueOf_L4
  simp (disch := omega) only [z_u4, y_404, y_lt, y_lt0, hst, hi, ↓reduceIte, hw, y_in, y_cl, z_let, hc, y_g10, y_16, hd, Option.bind_some, y_s1]
theorem p1_s_var {j : Nat} {x : Int32} (hst : st < 404) (hi : i < N) (hN : N ≤ 404) (hw : m.1 6 o1 9 = nI N) (hc : m.1 29 o1 i = -1 - nI j) (hv : j < 9) (hd : d < 16) (hx : f1_variableOf o0 o1 o2 (nI j) a4 a5 m = some x) : f1_valueOf_L4 o0 o1 o2 a4 a5 (nI i, nI d, nI st, m) = some (.inl (nI (i + 1), nI (d + 1), nI (st + 1), z_sI m 13 o0 d x)) := by
  obtain ⟨h1, h2, h3⟩ := y_var j hv
  unfold f1_valueOf_L4
  simp (disch := omega) only [z_u4, y_404, y_lt, y_lt0, hst, hi, ↓reduceIte, hw, y_in, y_cl, z_let, hc, h1, h2, h3, y_16, hd, hx, Option.bind_some, y_s1]
theorem p1_s_op {k : Nat} {a b : Int32} (hst : st < 404) (hi : i < N) (hN : N ≤ 404) (hw : m.1 6 o1 9 = nI N) (hc : m.1 29 o1 i = -11 - nI k) (hk : k < 4) (hd : d + 2 ≤ 16) (hb : m.1 13 o0 (d + 1) = b) (ha : m.1 13 o0 d = a) : f1_valueOf_L4 o0 o1 o2 a4 a5 (nI i, nI (d + 2), nI st, m) = if k = 3 ∧ b = 0 then some (.inr (.inr (0, m))) else some (.inl (nI (i + 1), nI (d + 1), nI (st + 1), z_sI m 13 o0 d (q_op k a b))) := by
  obtain ⟨h1, h2, h3, h4, _⟩ := y_ops k hk
  have h2' : ¬ (nI (d + 2) < 2) := by rw [y_2, y_lt (by omega) (by omega)]; omega
  unfold f1_valueOf_L4
  simp (disch := omega) only [z_u4, y_404, y_lt, y_lt0, hst, hi, if_true, if_false, hw, y_in, y_cl, z_let, hc, h1, h2, h2', h3, h4, y_p2, y_p3, hb, ha, y_s1]
  by_cases hk3 : k = 3
  · by_cases hb0 : b = 0
    · rw [if_pos hk3, if_pos hb0, if_pos ⟨hk3, hb0⟩]
    · rw [if_pos hk3, if_neg hb0, p1_reckon hk (fun q => hb0 q.2), if_neg (fun q => hb0 q.2)]
      rfl
  · rw [if_neg hk3, p1_reckon hk (fun q => hk3 q.1), if_neg (fun q => hk3 q.1)]
    rfl
theorem p1_s_stop {a : Int32} (hst : st < 404) (hi : i < N) (hN : N ≤ 404) (hw : m.1 6 o1 9 = nI N) (hc : m.1 29 o1 i = -15) (hd : d < 16) (ha : m.1 13 o0 d = a) : f1_valueOf_L4 o0 o1 o2 a4 a5 (nI i, nI (d + 1), nI st, m) = some (.inr (.inr (a, m))) := by
  have h0 : (0 : Int32) < nI (d + 1) := nI_lt (a := 0) (by omega) (by omega)
  unfold f1_valueOf_L4
  simp (disch := omega) only [z_u4, y_404, y_lt, y_lt0, hst, hi, if_true, if_false, hw, y_in, y_cl, z_let, hc, y_p3, ha, h0, show ¬ ((-10 : Int32) < -15) from by decide]
theorem y_jmp {t : Nat} (ht : t ≤ 404) : ¬ ((-10 : Int32) < -100 - nI t) ∧ ¬ (-100 - nI t = -15) ∧ ¬ ((-100 : Int32) < -100 - nI t) ∧ (-100 : Int32) - (-100 - nI t) = nI t := (by decide +kernel : ∀ t, t < 405 → ¬ ((-10 : Int32) < -100 - nI t) ∧ ¬ (-100 - nI t = -15) ∧ ¬ ((-100 : Int32) < -100 - nI t) ∧ (-100 : Int32) - (-100 - nI t) = nI t) t (by omega)
theorem y_p4 (d : Nat) : nI (d + 2) + (-2) = nI d := by rw [show (-2 : Int32) = (-1) + (-1) from rfl, ← Int32.add_assoc, y_p2, pk_m1]
theorem p1_s_jump {a b : Int32} {t : Nat} (hst : st < 404) (hi : i < N) (hN : N ≤ 404) (hw : m.1 6 o1 9 = nI N) (ht : t ≤ 404) (hc : m.1 29 o1 i = -100 - nI t) (hd : d + 2 ≤ 16) (hb : m.1 13 o0 (d + 1) = b) (ha : m.1 13 o0 d = a) : f1_valueOf_L4 o0 o1 o2 a4 a5 (nI i, nI (d + 2), nI st, m) = some (.inl (if a < b then nI (i + 1) else nI t, nI d, nI (st + 1), m)) := by
  obtain ⟨h1, h2, h3, h4⟩ := y_jmp ht
  have h2' : ¬ (nI (d + 2) < 2) := by rw [y_2, y_lt (by omega) (by omega)]; omega
  unfold f1_valueOf_L4
  simp (disch := omega) only [z_u4, y_404, y_lt, y_lt0, hst, hi, if_true, if_false, hw, y_in, y_cl, z_let, hc, h1, h2, h2', h3, h4, y_p4, hb, ha, y_s1]
  by_cases h : a < b
  · rw [if_pos h, if_pos h]; rfl
  · rw [if_neg h, if_neg h]; rfl
end
theorem z_it_s {σ ρ : Type} {body : σ → Option (σ ⊕ ρ)} {s s' : σ} {n : Nat} (h : body s = some (.inl s')) : z_it body (n + 1) s = z_it body n s' := by
  conv => lhs; unfold z_it
  rw [h]
theorem z_it_d {σ ρ : Type} {body : σ → Option (σ ⊕ ρ)} {s : σ} {e : ρ} {n : Nat} (h : body s = some (.inr e)) : z_it body (n + 1) s = some e := by
  conv => lhs; unfold z_it
  rw [h]
/-- the class goes through the words of one E -/
theorem p1_seg {o0 o1 o2 : Nat} {a4 a5 : Int32} {x : Nat → Int32} {m0 : zMem} {N : Nat} (hN : N ≤ 404) (hw : m0.1 6 o1 9 = nI N) (hv : ∀ m, z_fr (fun c i => c = 13 ∧ i = o0) m0 m → ∀ j, j < 9 → f1_variableOf o0 o1 o2 (nI j) a4 a5 m = some (x j)) : ∀ (l : List qI) (s : List Int32) (i st n e : Nat) (m : zMem), z_fr (fun c i => c = 13 ∧ i = o0) m0 m → q_cs (m0.1 29 o1) i l → i + l.length ≤ N → st + l.length ≤ 404 → q_wf 16 l s.length e → s.length ≤ 16 → q_sk (m.1 13 o0) s → ∃ m', z_fr (fun c i => c = 13 ∧ i = o0) m0 m' ∧ (match q_ev x l s with
    | some s' => q_sk (m'.1 13 o0) s' ∧ z_it (f1_valueOf_L4 o0 o1 o2 a4 a5) (n + l.length) (nI i, nI s.length, nI st, m) = z_it (f1_valueOf_L4 o0 o1 o2 a4 a5) n (nI (i + l.length), nI e, nI (st + l.length), m')
    | none => z_it (f1_valueOf_L4 o0 o1 o2 a4 a5) (n + l.length) (nI i, nI s.length, nI st, m) = some (.inr (0, m')))
  | [], s, i, st, n, e, m, hf, hc, hi, hs, hwf, hl, hk => by
    have hwf' : s.length = e := hwf
    exact ⟨m, hf, hk, by rw [← hwf']; rfl⟩
  | (0, v) :: l, s, i, st, n, e, m, hf, hc, hi, hs, hwf, hl, hk => by
    have hi' : i + (l.length + 1) ≤ N := hi
    have hs' : st + (l.length + 1) ≤ 404 := hs
    have e6 : m.1 6 o1 = m0.1 6 o1 := hf.1 6 o1 (by omega)
    have e29 : m.1 29 o1 = m0.1 29 o1 := hf.1 29 o1 (by omega)
    have hstep := p1_s_int (o0 := o0) (o2 := o2) (a4 := a4) (a5 := a5) (m := m) (st := st) (by omega) (show i < N by omega) hN (by rw [e6]; exact hw) (by rw [e29]; exact hc.1) hwf.1 hwf.2.1
    obtain ⟨m', hf', hm'⟩ := p1_seg hN hw hv l (nI v :: s) (i + 1) (st + 1) n e (z_sI m 13 o0 s.length (nI v)) (z_fr_s hf ⟨rfl, rfl⟩) hc.2 (by omega) (by omega) hwf.2.2 (by show s.length + 1 ≤ 16; have := hwf.2.1; omega) ⟨by unfold z_sI; rw [z_uI_at, pk_us], by unfold z_sI; rw [z_uI_at]; exact q_sk_u hk (Nat.le_refl _)⟩
    refine ⟨m', hf', ?_⟩
    have e1 : z_it (f1_valueOf_L4 o0 o1 o2 a4 a5) (n + (l.length + 1)) (nI i, nI s.length, nI st, m) = z_it (f1_valueOf_L4 o0 o1 o2 a4 a5) (n + l.length) (nI (i + 1), nI (s.length + 1), nI (st + 1), z_sI m 13 o0 s.length (nI v)) := z_it_s hstep
    show match q_ev x l (nI v :: s) with | some s' => _ | none => _
    have e2 : i + 1 + l.length = i + (l.length + 1) := by omega
    have e3 : st + 1 + l.length = st + (l.length + 1) := by omega
    rw [e2, e3] at hm'
    cases hq : q_ev x l (nI v :: s) with
    | none => rw [hq] at hm'; exact e1.trans hm'
    | some s' => rw [hq] at hm'; exact ⟨hm'.1, e1.trans hm'.2⟩
  | (1, j) :: l, s, i, st, n, e, m, hf, hc, hi, hs, hwf, hl, hk => by
    have hi' : i + (l.length + 1) ≤ N := hi
    have hs' : st + (l.length + 1) ≤ 404 := hs
    have e6 : m.1 6 o1 = m0.1 6 o1 := hf.1 6 o1 (by omega)
    have e29 : m.1 29 o1 = m0.1 29 o1 := hf.1 29 o1 (by omega)
    have hstep := p1_s_var (o0 := o0) (o2 := o2) (a4 := a4) (a5 := a5) (m := m) (st := st) (by omega) (show i < N by omega) hN (by rw [e6]; exact hw) (by rw [e29]; exact hc.1) hwf.1 hwf.2.1 (hv m hf j hwf.1)
    obtain ⟨m', hf', hm'⟩ := p1_seg hN hw hv l (x j :: s) (i + 1) (st + 1) n e (z_sI m 13 o0 s.length (x j)) (z_fr_s hf ⟨rfl, rfl⟩) hc.2 (by omega) (by omega) hwf.2.2 (by show s.length + 1 ≤ 16; have := hwf.2.1; omega) ⟨by unfold z_sI; rw [z_uI_at, pk_us], by unfold z_sI; rw [z_uI_at]; exact q_sk_u hk (Nat.le_refl _)⟩
    refine ⟨m', hf', ?_⟩
    have e1 : z_it (f1_valueOf_L4 o0 o1 o2 a4 a5) (n + (l.length + 1)) (nI i, nI s.length, nI st, m) = z_it (f1_valueOf_L4 o0 o1 o2 a4 a5) (n + l.length) (nI (i + 1), nI (s.length + 1), nI (st + 1), z_sI m 13 o0 s.length (x j)) := z_it_s hstep
    show match q_ev x l (x j :: s) with | some s' => _ | none => _
    have e2 : i + 1 + l.length = i + (l.length + 1) := by omega
    have e3 : st + 1 + l.length = st + (l.length + 1) := by omega
    rw [e2, e3] at hm'
    cases hq : q_ev x l (x j :: s) with
    | none => rw [hq] at hm'; exact e1.trans hm'
    | some s' => rw [hq] at hm'; exact ⟨hm'.1, e1.trans hm'.2⟩
  | (k + 2, _) :: l, [], i, st, n, e, m, hf, hc, hi, hs, hwf, hl, hk => absurd hwf.2.1 (by show ¬ 2 ≤ 0; omega)
  | (k + 2, _) :: l, [b], i, st, n, e, m, hf, hc, hi, hs, hwf, hl, hk => absurd hwf.2.1 (by show ¬ 2 ≤ 1; omega)
  | (k + 2, u) :: l, b :: a :: s, i, st, n, e, m, hf, hc, hi, hs, hwf, hl, hk => by
    have hi' : i + (l.length + 1) ≤ N := hi
    have hs' : st + (l.length + 1) ≤ 404 := hs
    have hl' : s.length + 2 ≤ 16 := hl
    have e6 : m.1 6 o1 = m0.1 6 o1 := hf.1 6 o1 (by omega)
    have e29 : m.1 29 o1 = m0.1 29 o1 := hf.1 29 o1 (by omega)
    have hstep := p1_s_op (o0 := o0) (o2 := o2) (a4 := a4) (a5 := a5) (m := m) (st := st) (d := s.length) (a := a) (b := b) (by omega) (show i < N by omega) hN (by rw [e6]; exact hw) (by rw [e29]; exact hc.1) hwf.1 hl' hk.1 hk.2.1
    rw [q_ev]
    by_cases hq : k = 3 ∧ b = 0
    · rw [if_pos hq] at hstep ⊢
      exact ⟨m, hf, z_it_d (n := n + l.length) hstep⟩
    · rw [if_neg hq] at hstep ⊢
      obtain ⟨m', hf', hm'⟩ := p1_seg hN hw hv l (q_op k a b :: s) (i + 1) (st + 1) n e (z_sI m 13 o0 s.length (q_op k a b)) (z_fr_s hf ⟨rfl, rfl⟩) hc.2 (by omega) (by omega) hwf.2.2 (by show s.length + 1 ≤ 16; omega) ⟨by unfold z_sI; rw [z_uI_at, pk_us], by unfold z_sI; rw [z_uI_at]; exact q_sk_u hk.2.2 (Nat.le_refl _)⟩
      refine ⟨m', hf', ?_⟩
      have e1 : z_it (f1_valueOf_L4 o0 o1 o2 a4 a5) (n + (l.length + 1)) (nI i, nI (s.length + 2), nI st, m) = z_it (f1_valueOf_L4 o0 o1 o2 a4 a5) (n + l.length) (nI (i + 1), nI (s.length + 1), nI (st + 1), z_sI m 13 o0 s.length (q_op k a b)) := z_it_s hstep
      have e2 : i + 1 + l.length = i + (l.length + 1) := by omega
      have e3 : st + 1 + l.length = st + (l.length + 1) := by omega
      rw [e2, e3] at hm'
      cases hq : q_ev x l (q_op k a b :: s) with
      | none => rw [hq] at hm'; exact e1.trans hm'
      | some s' => rw [hq] at hm'; exact ⟨hm'.1, e1.trans hm'.2⟩
