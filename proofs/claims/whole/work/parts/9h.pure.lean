/-! READ XXX: what stays so from sentence to sentence -/
def qz_ok (K S : Nat → Nat) : qZ → Prop
  | (t, T, W, G, c, hn, pn, d) => t ≤ 400 ∧ tOk T ∧ tLw T ∧ c.1 ≤ 20 ∧ c.2 ≤ 7 ∧ (∀ h, h < tH T → K (hn h) = 2 ∧ hn h < t) ∧ (∀ p, p < tP T → K (pn p) = 2 ∧ pn p < t) ∧ (∀ h, h < 5 → ∀ k, tP T ≤ k → k < 32 → bt (G h) k = false) ∧ (∀ h, tH T ≤ h → h < 5 → G h = 0) ∧ (d.1 = 0 → ∀ p, p < 7 → W p = -1 ∨ ∃ g, g ≤ 99 ∧ W p = nI g) ∧ d.1 ≤ 5 ∧ (d.1 ≠ 0 → ∃ t0, t0 < t ∧ d.2 = S t0)
section
variable {K V S : Nat → Nat} {A : Nat → Int64} {o t N k F H P p a : Nat} {d : Nat × Nat} {c : Nat × Nat} {T : qT} {W G : Nat → Int32} {hn pn : Nat → Nat}
theorem e_t_r {x : Nat × Unit} (h : e_t K k t = .inr x) : K t = k ∧ t < 400 ∧ x = (t + 1, ()) := by
  unfold e_t at h
  by_cases c : K t = k
  · rw [if_pos c] at h
    by_cases c4 : t < 400
    · rw [if_pos c4] at h
      cases h
      exact ⟨c, c4, rfl⟩
    · rw [if_neg c4] at h; cases h
  · rw [if_neg c] at h; cases h
theorem e_bd_ri {α β : Type} {x : qE α} {f : Nat → α → qE β} {y : Nat × β} (h : e_bd x f = .inr y) : ∃ t a, x = .inr (t, a) ∧ f t a = .inr y := by
  rcases x with q | ⟨t, a⟩
  · cases h
  · exact ⟨t, a, rfl, h⟩
theorem e_4_r {k0 k1 k2 k3 : Nat} {x : Nat × Unit} (h : e_4 K k0 k1 k2 k3 t = .inr x) : K t = k0 ∧ K (t + 1) = k1 ∧ K (t + 2) = k2 ∧ K (t + 3) = k3 ∧ t + 4 ≤ 400 := by
  unfold e_4 at h
  obtain ⟨t1, u1, a1, h⟩ := e_bd_ri h
  obtain ⟨b1, b2, b3⟩ := e_t_r a1
  cases b3
  obtain ⟨t2, u2, a2, h⟩ := e_bd_ri h
  obtain ⟨c1, c2, c3⟩ := e_t_r a2
  cases c3
  obtain ⟨t3, u3, a3, h⟩ := e_bd_ri h
  obtain ⟨d1, d2, d3⟩ := e_t_r a3
  cases d3
  obtain ⟨e1, e2, _⟩ := e_t_r h
  exact ⟨b1, c1, d1, e1, by omega⟩
theorem e_3_r {k0 k1 k2 : Nat} {x : Nat × Unit} (h : e_3 K k0 k1 k2 t = .inr x) : K t = k0 ∧ K (t + 1) = k1 ∧ K (t + 2) = k2 ∧ t + 3 ≤ 400 := by
  unfold e_3 at h
  obtain ⟨t1, u1, a1, h⟩ := e_bd_ri h
  obtain ⟨b1, b2, b3⟩ := e_t_r a1
  cases b3
  obtain ⟨t2, u2, a2, h⟩ := e_bd_ri h
  obtain ⟨c1, c2, c3⟩ := e_t_r a2
  cases c3
  obtain ⟨e1, e2, _⟩ := e_t_r h
  exact ⟨b1, c1, e1, by omega⟩
theorem e_s_r (hV : ∀ j, K j = 3 → V j < 10000) {x : Nat × List qI} (ht : t ≤ 400) (h : e_s K V t = .inr x) : t < x.1 ∧ x.1 ≤ 400 ∧ q_wf 15 x.2 0 1 := by
  have hg := x_sum_g hV 9 0 rfl (by omega) t ht
  unfold e_s at h
  by_cases c : (x_sum K V 9 0 t).1 = 0
  · rw [if_pos c] at h
    cases h
    obtain ⟨h1, h2, _, h4⟩ := hg.1 c
    exact ⟨h1, h2, h4 0⟩
  · rw [if_neg c] at h; cases h
theorem x_if_r (hV : ∀ j, K j = 3 → V j < 10000) {t' : Nat} {b : qB} (ht : t ≤ 400) (h : x_if K V t = .inr (t', b)) : t < t' ∧ t' ≤ 400 ∧ q_lwb b := by
  unfold x_if at h
  obtain ⟨t1, u1, a1, h⟩ := e_bd_ri h
  obtain ⟨b1, b2, b3⟩ := e_t_r a1
  cases b3
  obtain ⟨t2, u, a2, h⟩ := e_bd_ri h
  obtain ⟨c1, c2, c3⟩ := e_s_r hV (by omega) a2
  have c1' : t + 1 < t2 := c1
  have c2' : t2 ≤ 400 := c2
  obtain ⟨t3, u3, a3, h⟩ := e_bd_ri h
  obtain ⟨d1, d2, d3⟩ := e_t_r a3
  cases d3
  obtain ⟨t4, v, a4, h⟩ := e_bd_ri h
  obtain ⟨e1, e2, e3⟩ := e_s_r hV (by omega) a4
  have e1' : t2 + 1 < t4 := e1
  have e2' : t4 ≤ 400 := e2
  obtain ⟨t5, u5, a5, h⟩ := e_bd_ri h
  obtain ⟨f1, f2, f3⟩ := e_t_r a5
  cases f3
  obtain ⟨t6, w, a6, h⟩ := e_bd_ri h
  obtain ⟨g1, g2, g3⟩ := e_s_r hV (by omega) a6
  have g1' : t4 + 1 < t6 := g1
  have g2' : t6 ≤ 400 := g2
  obtain ⟨t7, u7, a7, h⟩ := e_bd_ri h
  obtain ⟨i1, i2, i3⟩ := e_t_r a7
  cases i3
  cases h
  exact ⟨by omega, by omega, q_wf_more (by omega) c3, e3, q_wf_more (by omega) g3⟩
theorem x_ifl_r (hV : ∀ j, K j = 3 → V j < 10000) : ∀ {n t t' : Nat} {bs bs' : List qB}, t ≤ 400 → (∀ b, b ∈ bs → q_lwb b) → x_ifl K V n t bs = .inr (t', bs') → t ≤ t' ∧ t' ≤ 400 ∧ ∀ b, b ∈ bs' → q_lwb b
  | 0, t, t', bs, bs', ht, hb, h => by
    rw [x_ifl] at h
    cases h
    exact ⟨Nat.le_refl _, ht, hb⟩
  | n + 1, t, t', bs, bs', ht, hb, h => by
    rw [x_ifl] at h
    by_cases c : K t = 137
    · rw [if_pos c] at h
      obtain ⟨t1, b, a1, h⟩ := e_bd_ri h
      obtain ⟨g1, g2, g3⟩ := x_if_r hV ht a1
      obtain ⟨i1, i2, i3⟩ := x_ifl_r hV g2 (fun b' hb' => by
        rcases List.mem_append.mp hb' with q | q
        · exact hb b' q
        · rw [List.mem_singleton.mp q]; exact g3) h
      exact ⟨by omega, i2, i3⟩
    · rw [if_neg c] at h
      cases h
      exact ⟨Nat.le_refl _, ht, hb⟩
theorem x_law_r (hV : ∀ j, K j = 3 → V j < 10000) {t' : Nat} {bs : List qB} {f : List qI} (ht : t ≤ 400) (h : x_law K V k t = .inr (t', (bs, f))) : t < t' ∧ t' ≤ 400 ∧ q_lw bs f := by
  unfold x_law at h
  obtain ⟨t1, u1, a1, h⟩ := e_bd_ri h
  obtain ⟨b1, b2, b3⟩ := e_t_r a1
  cases b3
  obtain ⟨t2, u2, a2, h⟩ := e_bd_ri h
  obtain ⟨c1, c2, c3⟩ := e_t_r a2
  cases c3
  obtain ⟨t3, bs3, a3, h⟩ := e_bd_ri h
  obtain ⟨d1, d2, d3⟩ := x_ifl_r hV (by omega) (fun b hb => absurd hb (by simp)) a3
  by_cases c : K t3 = 137
  · rw [if_pos c] at h; cases h
  · rw [if_neg c] at h
    obtain ⟨t4, f4, a4, h⟩ := e_bd_ri h
    obtain ⟨e1, e2, e3⟩ := e_s_r hV d2 a4
    have e1' : t3 < t4 := e1
    obtain ⟨t5, u5, a5, h⟩ := e_bd_ri h
    obtain ⟨f1, f2, f3⟩ := e_t_r a5
    cases f3
    cases h
    exact ⟨by omega, by omega, q_lw_of (q_wf_more (by omega) e3) d3⟩
theorem z_su_0 {c : Bool} (ha : a ≠ 0) (h : (z_su c a p d).1 = 0) : c = false ∧ d.1 = 0 := by
  unfold z_su at h
  cases c
  · exact ⟨rfl, h⟩
  · by_cases e : d.1 = 0
    · rw [decide_eq_true e] at h
      exact absurd h ha
    · rw [decide_eq_false e] at h
      exact absurd h e
theorem z_su_k {c : Bool} (ha : a ≤ 5) (h5 : d.1 ≤ 5) {t t' j : Nat} (hj : j < t') (hp : p = S j) (ht : t ≤ t') (h : d.1 ≠ 0 → ∃ t0, t0 < t ∧ d.2 = S t0) : (z_su c a p d).1 ≤ 5 ∧ ((z_su c a p d).1 ≠ 0 → ∃ t0, t0 < t' ∧ (z_su c a p d).2 = S t0) := by
  have h' : d.1 ≠ 0 → ∃ t0, t0 < t' ∧ d.2 = S t0 := fun q => by
    obtain ⟨t0, q1, q2⟩ := h q
    exact ⟨t0, by omega, q2⟩
  unfold z_su
  by_cases e : (c && decide (d.1 = 0)) = true
  · rw [if_pos e]
    exact ⟨ha, fun _ => ⟨j, hj, hp⟩⟩
  · rw [if_neg e]
    exact ⟨h5, h'⟩
theorem x_fh_lt {j : Nat} (h : x_fh A hn H t = some j) : j < H := q_se_lt h
theorem qz_tell {z z' : qZ} (hV : ∀ j, K j = 3 → V j < 10000) (hz : qz_ok K S z) (h : x_tell K V S A z = .inr z') : qz_ok K S z' ∧ z.1 < z'.1 := by
  obtain ⟨t, ⟨H, P, s, R, X, L⟩, W, G, c, hn, pn, d⟩ := z
  obtain ⟨h1, ⟨h2, h2'⟩, h3, h4, h5, h6, h7, h8, h9, h10, h11, h12⟩ := hz
  have hH : H ≤ 5 := h2
  have hP : P ≤ 7 := h2'
  unfold x_tell at h
  by_cases c1 : K t = 128
  · rw [if_pos c1] at h
    by_cases cc : H < 5
    · rw [if_pos cc] at h
      rcases he : e_4 K 128 2 3 59 t with q | x
      · rw [he] at h; cases h
      · rw [he] at h
        obtain ⟨k0, k1, k2, k3, ht⟩ := e_4_r he
        have e' : y_house V S A (t, (H, P, s, R, X, L), W, G, c, hn, pn, d) = z' := Sum.inr.inj h
        rw [← e']
        have d1 := z_su_k (a := 3) (c := (x_fh A hn H (t + 1)).isSome || (x_fh A pn P (t + 1)).isSome) (by omega) h11 (show t + 1 < t + 2 by omega) rfl (show t ≤ t + 2 by omega) h12
        have d2 := z_su_k (a := 5) (c := decide (99 < V (t + 2))) (by omega) d1.1 (show t + 2 < t + 4 by omega) rfl (show t + 2 ≤ t + 4 by omega) d1.2
        refine ⟨⟨ht, ⟨show H + 1 ≤ 5 by omega, hP⟩, h3, h4, h5, fun h' hh => ?_, fun p hp => ⟨(h7 p hp).1, by have := (h7 p hp).2; omega⟩, h8, fun h' q1 q2 => h9 h' (by have : H + 1 ≤ h' := q1; show H ≤ h'; omega) q2, fun q => h10 (z_su_0 (by omega) (z_su_0 (by omega) q).2).2, d2.1, d2.2⟩, show t < t + 4 by omega⟩
        have hh' : h' < H + 1 := hh
        unfold uN
        by_cases ch : h' = H
        · rw [if_pos ch]; exact ⟨k1, by omega⟩
        · rw [if_neg ch]
          have := h6 h' (show h' < H by omega)
          exact ⟨this.1, by omega⟩
    · rw [if_neg cc] at h; cases h
  rw [if_neg c1] at h
  by_cases c2 : K t = 129
  · rw [if_pos c2] at h
    by_cases cc : P < 7
    · rw [if_pos cc] at h
      rcases he : e_4 K 129 2 3 59 t with q | x
      · rw [he] at h; cases h
      · rw [he] at h
        obtain ⟨k0, k1, k2, k3, ht⟩ := e_4_r he
        have e' : y_person V S A (t, (H, P, s, R, X, L), W, G, c, hn, pn, d) = z' := Sum.inr.inj h
        rw [← e']
        have d1 := z_su_k (a := 3) (c := (x_fh A hn H (t + 1)).isSome || (x_fh A pn P (t + 1)).isSome) (by omega) h11 (show t + 1 < t + 2 by omega) rfl (show t ≤ t + 2 by omega) h12
        have d2 := z_su_k (a := 5) (c := decide (99 < V (t + 2))) (by omega) d1.1 (show t + 2 < t + 4 by omega) rfl (show t + 2 ≤ t + 4 by omega) d1.2
        refine ⟨⟨ht, ⟨hH, show P + 1 ≤ 7 by omega⟩, h3, h4, h5, fun p hp => ⟨(h6 p hp).1, by have := (h6 p hp).2; omega⟩, fun p hp => ?_, fun h' hh k q1 q2 => h8 h' hh k (by have : P + 1 ≤ k := q1; show P ≤ k; omega) q2, h9, fun q => h10 (z_su_0 (by omega) (z_su_0 (by omega) q).2).2, d2.1, d2.2⟩, show t < t + 4 by omega⟩
        have hp' : p < P + 1 := hp
        unfold uN
        by_cases ch : p = P
        · rw [if_pos ch]; exact ⟨k1, by omega⟩
        · rw [if_neg ch]
          have := h7 p (show p < P by omega)
          exact ⟨this.1, by omega⟩
    · rw [if_neg cc] at h; cases h
  rw [if_neg c2] at h
  by_cases c3 : K t = 130
  · rw [if_pos c3] at h
    by_cases cc : c.1 < 20
    · rw [if_pos cc] at h
      rcases he : e_4 K 130 2 2 59 t with q | x
      · rw [he] at h; cases h
      · rw [he] at h
        obtain ⟨k0, k1, k2, k3, ht⟩ := e_4_r he
        have e' : y_right S A (t, (H, P, s, R, X, L), W, G, c, hn, pn, d) = z' := Sum.inr.inj h
        rw [← e']
        have e1 : ∀ b, _ := fun b => z_su_k (a := 4) (c := b) (by omega) h11 (show t + 1 < t + 2 by omega) rfl (show t ≤ t + 2 by omega) h12
        have dd : (y_rD S G t d (x_fh A pn P (t + 1)) (x_fh A hn H (t + 2))).1 ≤ 5 ∧ ((y_rD S G t d (x_fh A pn P (t + 1)) (x_fh A hn H (t + 2))).1 ≠ 0 → ∃ t0, t0 < t + 4 ∧ (y_rD S G t d (x_fh A pn P (t + 1)) (x_fh A hn H (t + 2))).2 = S t0) ∧ ((y_rD S G t d (x_fh A pn P (t + 1)) (x_fh A hn H (t + 2))).1 = 0 → d.1 = 0) := by
          rcases x_fh A pn P (t + 1) with _ | jp <;> rcases x_fh A hn H (t + 2) with _ | jh
          · have d2 := z_su_k (a := 4) (c := true) (by omega) (e1 true).1 (show t + 2 < t + 4 by omega) rfl (show t + 2 ≤ t + 4 by omega) (e1 true).2
            exact ⟨d2.1, d2.2, fun q => (z_su_0 (by omega) (z_su_0 (by omega) q).2).2⟩
          · have d2 := z_su_k (a := 4) (c := true) (by omega) h11 (show t + 1 < t + 4 by omega) rfl (show t ≤ t + 4 by omega) h12
            exact ⟨d2.1, d2.2, fun q => (z_su_0 (by omega) q).2⟩
          · have d2 := z_su_k (a := 4) (c := true) (by omega) h11 (show t + 2 < t + 4 by omega) rfl (show t ≤ t + 4 by omega) h12
            exact ⟨d2.1, d2.2, fun q => (z_su_0 (by omega) q).2⟩
          · have d2 := z_su_k (a := 3) (c := bt (G jh) jp) (by omega) h11 (show t + 2 < t + 4 by omega) rfl (show t ≤ t + 4 by omega) h12
            exact ⟨d2.1, d2.2, fun q => (z_su_0 (by omega) q).2⟩
        have gg : (∀ h, h < 5 → ∀ k, P ≤ k → k < 32 → bt (y_rG G (x_fh A pn P (t + 1)) (x_fh A hn H (t + 2)) h) k = false) ∧ ∀ h, H ≤ h → h < 5 → y_rG G (x_fh A pn P (t + 1)) (x_fh A hn H (t + 2)) h = 0 := by
          rcases ep : x_fh A pn P (t + 1) with _ | jp <;> rcases eh : x_fh A hn H (t + 2) with _ | jh
          · exact ⟨h8, h9⟩
          · exact ⟨h8, h9⟩
          · exact ⟨h8, h9⟩
          · have g1 := x_fh_lt ep
            have g2 := x_fh_lt eh
            refine ⟨fun h' hh k q1 q2 => ?_, fun h' q1 q2 => ?_⟩
            · show bt (upd G jh (G jh ||| ((1 : Int32) <<< (nI jp &&& 31))) h') k = false
              by_cases ch : h' = jh
              · rw [ch, pk_us, b_or, b_p jp (by omega) q2, decide_eq_false (by omega), Bool.or_false]
                exact h8 jh (by omega) k q1 q2
              · rw [pk_un ch]; exact h8 h' hh k q1 q2
            · show upd G jh (G jh ||| ((1 : Int32) <<< (nI jp &&& 31))) h' = 0
              rw [pk_un (by omega)]; exact h9 h' q1 q2
        exact ⟨⟨ht, ⟨hH, hP⟩, h3, show c.1 + 1 ≤ 20 by omega, h5, fun p hp => ⟨(h6 p hp).1, by have := (h6 p hp).2; omega⟩, fun p hp => ⟨(h7 p hp).1, by have := (h7 p hp).2; omega⟩, gg.1, gg.2, fun q => h10 (dd.2.2 q), dd.1, dd.2.1⟩, show t < t + 4 by omega⟩
    · rw [if_neg cc] at h; cases h
  rw [if_neg c3] at h
  by_cases c4 : K t = 131
  · rw [if_pos c4] at h
    by_cases cc : c.2 < 7
    · rw [if_pos cc] at h
      rcases he : e_4 K 131 2 3 59 t with q | x
      · rw [he] at h; cases h
      · rw [he] at h
        obtain ⟨k0, k1, k2, k3, ht⟩ := e_4_r he
        have e' : y_away V S A (t, (H, P, s, R, X, L), W, G, c, hn, pn, d) = z' := Sum.inr.inj h
        rw [← e']
        have d1 := z_su_k (a := 4) (c := (x_fh A pn P (t + 1)).isNone) (by omega) h11 (show t + 1 < t + 2 by omega) rfl (show t ≤ t + 2 by omega) h12
        have d2 := z_su_k (a := 5) (c := decide (99 < V (t + 2))) (by omega) d1.1 (show t + 2 < t + 4 by omega) rfl (show t + 2 ≤ t + 4 by omega) d1.2
        refine ⟨⟨ht, ⟨hH, hP⟩, h3, h4, show c.2 + 1 ≤ 7 by omega, fun p hp => ⟨(h6 p hp).1, by have := (h6 p hp).2; omega⟩, fun p hp => ⟨(h7 p hp).1, by have := (h7 p hp).2; omega⟩, h8, h9, fun q p hp => ?_, d2.1, d2.2⟩, show t < t + 4 by omega⟩
        obtain ⟨q1, q2⟩ := z_su_0 (by omega) q
        have q3 := h10 (z_su_0 (by omega) q2).2 p hp
        have q4 : ¬ 99 < V (t + 2) := of_decide_eq_false q1
        rcases x_fh A pn P (t + 1) with _ | jp
        · exact q3
        · show upd W jp (nI (V (t + 2))) p = -1 ∨ ∃ g, g ≤ 99 ∧ upd W jp (nI (V (t + 2))) p = nI g
          by_cases cp : p = jp
          · rw [cp, pk_us]
            exact Or.inr ⟨V (t + 2), by omega, rfl⟩
          · rw [pk_un cp]; exact q3
    · rw [if_neg cc] at h; cases h
  rw [if_neg c4] at h
  by_cases c5 : K t = 136
  · rw [if_pos c5] at h
    rcases he : e_3 K 136 3 59 t with q | x
    · rw [he] at h; cases h
    · rw [he] at h
      obtain ⟨k0, k1, k2, ht⟩ := e_3_r he
      have e' : y_seed V (t, (H, P, s, R, X, L), W, G, c, hn, pn, d) = z' := Sum.inr.inj h
      rw [← e']
      exact ⟨⟨ht, ⟨hH, hP⟩, h3, h4, h5, fun p hp => ⟨(h6 p hp).1, by have := (h6 p hp).2; omega⟩, fun p hp => ⟨(h7 p hp).1, by have := (h7 p hp).2; omega⟩, h8, h9, h10, h11, fun q => by
        obtain ⟨t0, q1, q2⟩ := h12 q
        exact ⟨t0, by omega, q2⟩⟩, show t < t + 3 by omega⟩
  rw [if_neg c5] at h
  by_cases c6 : 132 ≤ K t ∧ K t < 136
  · rw [if_pos c6] at h
    rcases he : x_law K V (K t - 132) t with q | ⟨t', bs, f⟩
    · rw [he] at h; cases h
    · rw [he] at h
      obtain ⟨g1, g2, g3⟩ := x_law_r hV h1 he
      have e' : y_law (K t - 132) t' (bs, f) (t, (H, P, s, R, X, L), W, G, c, hn, pn, d) = z' := Sum.inr.inj h
      rw [← e']
      refine ⟨⟨g2, ⟨hH, hP⟩, fun j hj => ?_, h4, h5, fun p hp => ⟨(h6 p hp).1, by have := (h6 p hp).2; omega⟩, fun p hp => ⟨(h7 p hp).1, by have := (h7 p hp).2; omega⟩, h8, h9, h10, h11, fun q => by
        obtain ⟨t0, q1, q2⟩ := h12 q
        exact ⟨t0, by omega, q2⟩⟩, g1⟩
      show q_lw (if j = K t - 132 then (bs, f) else L j).1 (if j = K t - 132 then (bs, f) else L j).2
      by_cases cj : j = K t - 132
      · rw [if_pos cj]; exact g3
      · rw [if_neg cj]; exact h3 j hj
  · rw [if_neg c6] at h; cases h
end
