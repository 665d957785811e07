/-! READ XIV: terms: one reading of the TOKENS: (FAULT or 0, the place, the items) -/
abbrev qX : Type := Nat × Nat × List qI
def x_bd (r : qX) (f : Nat → List qI → qX) : qX := if r.1 = 0 then f r.2.1 r.2.2 else (r.1, r.2.1, [])
def x_t (K : Nat → Nat) (k t : Nat) : qX := if K t = k then (if t < 400 then (0, t + 1, []) else (2, t, [])) else (1, t, [])
def x_unit (K V : Nat → Nat) (fs : Nat → Nat → qX) (d t : Nat) : qX := if K t = 40 then (if d < 6 then x_bd (x_t K 40 t) fun t1 _ => x_bd (fs (d + 1) t1) fun t2 l => x_bd (x_t K 41 t2) fun t3 _ => (0, t3, l) else (2, t, [])) else if 140 ≤ K t ∧ K t < 149 then x_bd (x_t K (K t) t) fun t1 _ => (0, t1, [(1, K t - 140)]) else x_bd (x_t K 3 t) fun t1 _ => (0, t1, [(0, V t)])
def x_lp (K : Nat → Nat) (ka kb ia : Nat) (u : Nat → qX) : Nat → Nat → List qI → qX
  | 0, t, l => (0, t, l)
  | n + 1, t, l => if K t = ka ∨ K t = kb then x_bd (x_t K (K t) t) fun t1 _ => x_bd (u t1) fun t2 l2 => x_lp K ka kb ia u n t2 (l ++ (l2 ++ [(if K t = ka then ia else ia + 1, 0)])) else (0, t, l)
def x_seq (K : Nat → Nat) (ka kb ia : Nat) (u : Nat → qX) (t : Nat) : qX := x_bd (u t) fun t1 l => x_lp K ka kb ia u 400 t1 l
def x_prod (K V : Nat → Nat) (fs : Nat → Nat → qX) (d : Nat) : Nat → qX := x_seq K 42 47 4 (x_unit K V fs d)
def x_sum (K V : Nat → Nat) : Nat → Nat → Nat → qX
  | 0, _, _ => (1, 0, [])
  | n + 1, d, t => x_seq K 43 45 2 (x_prod K V (x_sum K V n) d) t
section
variable {K V : Nat → Nat} {t k d D F : Nat} {l l' : List qI} {f : Nat → List qI → qX}
theorem x_bd_0 : x_bd (0, t, l) f = f t l := rfl
theorem x_bd_F (h : F ≠ 0) : x_bd (F, t, l) f = (F, t, []) := if_neg h
theorem x_t_ok (h : K t = k) (ht : t < 400) : x_t K k t = (0, t + 1, []) := by unfold x_t; rw [if_pos h, if_pos ht]
theorem x_t_1 (h : ¬ K t = k) : x_t K k t = (1, t, []) := by unfold x_t; rw [if_neg h]
theorem x_t_2 (h : K t = k) (ht : ¬ t < 400) : x_t K k t = (2, t, []) := by unfold x_t; rw [if_pos h, if_neg ht]
theorem q_wf_app {D : Nat} {l' : List qI} {e f : Nat} (h' : q_wf D l' e f) : ∀ {l : List qI} {d : Nat}, q_wf D l d e → q_wf D (l ++ l') d f
  | [], d, h => by
    have e' : d = e := h
    subst e'; exact h'
  | (0, v) :: l, d, h => ⟨h.1, h.2.1, q_wf_app h' h.2.2⟩
  | (1, v) :: l, d, h => ⟨h.1, h.2.1, q_wf_app h' h.2.2⟩
  | (k + 2, v) :: l, d, h => ⟨h.1, h.2.1, q_wf_app h' h.2.2⟩
/-- what is so of each reading -/
def x_g (D t : Nat) (r : qX) : Prop := (r.1 = 0 → t < r.2.1 ∧ r.2.1 ≤ 400 ∧ t + r.2.2.length ≤ r.2.1 ∧ ∀ e, q_wf (e + D) r.2.2 e (e + 1)) ∧ (r.1 ≠ 0 → (r.1 = 1 ∨ r.1 = 2) ∧ t ≤ r.2.1 ∧ r.2.1 ≤ 400)
theorem x_g_F {t' : Nat} (hF : F = 1 ∨ F = 2) (h : t ≤ t') (h' : t' ≤ 400) : x_g D t (F, t', l) := ⟨fun q => by have : F = 0 := q; omega, fun _ => ⟨hF, h, h'⟩⟩
theorem x_g_m {D' : Nat} {r : qX} (h : x_g D t r) (hD : D ≤ D') : x_g D' t r := ⟨fun q => ⟨(h.1 q).1, (h.1 q).2.1, (h.1 q).2.2.1, fun e => q_wf_more (by omega) ((h.1 q).2.2.2 e)⟩, h.2⟩
theorem x_unit_g {fs : Nat → Nat → qX} (hV : ∀ j, K j = 3 → V j < 10000) (hD : 0 < D) (hf : d < 6 → ∀ t, t ≤ 400 → x_g D t (fs (d + 1) t)) (ht : t ≤ 400) : x_g D t (x_unit K V fs d t) := by
  unfold x_unit
  by_cases c : K t = 40
  · rw [if_pos c]
    by_cases cd : d < 6
    · rw [if_pos cd]
      by_cases c4 : t < 400
      · rw [x_t_ok c c4, x_bd_0]
        have hg := hf cd (t + 1) (by omega)
        rcases hq : fs (d + 1) (t + 1) with ⟨F, t2, l2⟩
        rw [hq] at hg
        by_cases cF : F = 0
        · subst cF
          obtain ⟨g1, g2, g3, g4⟩ := hg.1 rfl
          have g1' : t + 1 < t2 := g1
          have g2' : t2 ≤ 400 := g2
          have g3' : t + 1 + l2.length ≤ t2 := g3
          rw [x_bd_0]
          by_cases e : K t2 = 41
          · by_cases e4 : t2 < 400
            · rw [x_t_ok e e4, x_bd_0]
              exact ⟨fun _ => ⟨by show t < t2 + 1; omega, by show t2 + 1 ≤ 400; omega, by show t + l2.length ≤ t2 + 1; omega, g4⟩, fun q => absurd rfl q⟩
            · rw [x_t_2 e e4, x_bd_F (by omega)]
              exact x_g_F (Or.inr rfl) (by omega) (by omega)
          · rw [x_t_1 e, x_bd_F (by omega)]
            exact x_g_F (Or.inl rfl) (by omega) (by omega)
        · obtain ⟨g1, g2, g3⟩ := hg.2 cF
          have g2' : t + 1 ≤ t2 := g2
          rw [x_bd_F cF]
          exact x_g_F g1 (by omega) g3
      · rw [x_t_2 c c4, x_bd_F (by omega)]
        exact x_g_F (Or.inr rfl) (by omega) (by omega)
    · rw [if_neg cd]
      exact x_g_F (Or.inr rfl) (by omega) (by omega)
  · rw [if_neg c]
    by_cases cv : 140 ≤ K t ∧ K t < 149
    · rw [if_pos cv]
      by_cases c4 : t < 400
      · rw [x_t_ok rfl c4, x_bd_0]
        exact ⟨fun _ => ⟨by show t < t + 1; omega, by show t + 1 ≤ 400; omega, Nat.le_refl _, fun e => ⟨by omega, by omega, rfl⟩⟩, fun q => absurd rfl q⟩
      · rw [x_t_2 rfl c4, x_bd_F (by omega)]
        exact x_g_F (Or.inr rfl) (by omega) (by omega)
    · rw [if_neg cv]
      by_cases e : K t = 3
      · by_cases c4 : t < 400
        · rw [x_t_ok e c4, x_bd_0]
          exact ⟨fun _ => ⟨by show t < t + 1; omega, by show t + 1 ≤ 400; omega, Nat.le_refl _, fun e' => ⟨hV t e, by omega, rfl⟩⟩, fun q => absurd rfl q⟩
        · rw [x_t_2 e c4, x_bd_F (by omega)]
          exact x_g_F (Or.inr rfl) (by omega) (by omega)
      · rw [x_t_1 e, x_bd_F (by omega)]
        exact x_g_F (Or.inl rfl) (by omega) (by omega)
theorem x_lp_g {ka kb ia : Nat} {u : Nat → qX} (h2 : 2 ≤ ia) (h4 : ia + 1 < 6) (hu : ∀ t, t ≤ 400 → x_g D t (u t)) : ∀ (n t0 t : Nat) (l : List qI), t0 < t → t ≤ 400 → t0 + l.length ≤ t → (∀ e, q_wf (e + (D + 1)) l e (e + 1)) → x_g (D + 1) t0 (x_lp K ka kb ia u n t l)
  | 0, t0, t, l, a1, a2, a3, a4 => ⟨fun _ => ⟨a1, a2, a3, a4⟩, fun q => absurd rfl q⟩
  | n + 1, t0, t, l, a1, a2, a3, a4 => by
    rw [x_lp]
    by_cases c : K t = ka ∨ K t = kb
    · rw [if_pos c]
      by_cases c4 : t < 400
      · rw [x_t_ok rfl c4, x_bd_0]
        have hg := hu (t + 1) (by omega)
        rcases hq : u (t + 1) with ⟨F, t2, l2⟩
        rw [hq] at hg
        by_cases cF : F = 0
        · subst cF
          obtain ⟨g1, g2, g3, g4⟩ := hg.1 rfl
          have g1' : t + 1 < t2 := g1
          have g2' : t2 ≤ 400 := g2
          have g3' : t + 1 + l2.length ≤ t2 := g3
          have g4' : ∀ e, q_wf (e + D) l2 e (e + 1) := g4
          rw [x_bd_0]
          refine x_lp_g h2 h4 hu n t0 t2 _ (by omega) (by omega) (by rw [List.length_append, List.length_append]; show t0 + (l.length + (l2.length + 1)) ≤ t2; omega) fun e => ?_
          refine q_wf_app (q_wf_app ?_ (q_wf_more (by omega) (g4' (e + 1)))) (a4 e)
          obtain ⟨k, hk, hk4⟩ : ∃ k, (if K t = ka then ia else ia + 1) = k + 2 ∧ k < 4 := by
            by_cases ck : K t = ka
            · rw [if_pos ck]; exact ⟨ia - 2, by omega, by omega⟩
            · rw [if_neg ck]; exact ⟨ia + 1 - 2, by omega, by omega⟩
          rw [hk]
          exact ⟨hk4, by omega, by show e + 1 + 1 - 1 = e + 1; omega⟩
        · obtain ⟨g1, g2, g3⟩ := hg.2 cF
          have g2' : t + 1 ≤ t2 := g2
          rw [x_bd_F cF]
          exact x_g_F g1 (by omega) g3
      · rw [x_t_2 rfl c4, x_bd_F (by omega)]
        exact x_g_F (Or.inr rfl) (by omega) (by omega)
    · rw [if_neg c]
      exact ⟨fun _ => ⟨a1, a2, a3, a4⟩, fun q => absurd rfl q⟩
theorem x_seq_g {ka kb ia : Nat} {u : Nat → qX} (h2 : 2 ≤ ia) (h4 : ia + 1 < 6) (hu : ∀ t, t ≤ 400 → x_g D t (u t)) (ht : t ≤ 400) : x_g (D + 1) t (x_seq K ka kb ia u t) := by
  unfold x_seq
  have hg := hu t ht
  rcases hq : u t with ⟨F, t1, l1⟩
  rw [hq] at hg
  by_cases cF : F = 0
  · subst cF
    obtain ⟨g1, g2, g3, g4⟩ := hg.1 rfl
    rw [x_bd_0]
    exact x_lp_g h2 h4 hu 400 t t1 l1 g1 g2 g3 fun e => q_wf_more (by omega) (g4 e)
  · obtain ⟨g1, g2, g3⟩ := hg.2 cF
    rw [x_bd_F cF]
    exact x_g_F g1 g2 g3
theorem x_sum_g (hV : ∀ j, K j = 3 → V j < 10000) : ∀ (n d : Nat), n + d = 9 → d ≤ 6 → ∀ t, t ≤ 400 → x_g (15 - 2 * d) t (x_sum K V n d t)
  | 0, d, h, hd, t, ht => by omega
  | n + 1, d, h, hd, t, ht => by
    show x_g _ t (x_seq K 43 45 2 (x_prod K V (x_sum K V n) d) t)
    have hu : ∀ t, t ≤ 400 → x_g (13 - 2 * d) t (x_unit K V (x_sum K V n) d t) := fun t ht => x_unit_g hV (by omega) (fun cd t ht => by
      have := x_sum_g hV n (d + 1) (by omega) (by omega) t ht
      rw [show 15 - 2 * (d + 1) = 13 - 2 * d by omega] at this
      exact this) ht
    have hp : ∀ t, t ≤ 400 → x_g (14 - 2 * d) t (x_prod K V (x_sum K V n) d t) := fun t ht => by
      have := x_seq_g (K := K) (ka := 42) (kb := 47) (ia := 4) (by omega) (by omega) hu ht
      rw [show 13 - 2 * d + 1 = 14 - 2 * d by omega] at this
      exact this
    have := x_seq_g (K := K) (ka := 43) (kb := 45) (ia := 2) (by omega) (by omega) hp ht
    rw [show 14 - 2 * d + 1 = 15 - 2 * d by omega] at this
    exact this
end
