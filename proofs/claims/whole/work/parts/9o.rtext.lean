/-! READ XXXVII: the reference reads a text; where its LAWS lie -/
section
variable {K V S : Nat → Nat} {A B : Nat → Int64} {e t k F H P p a v c0 b0 C b : Nat} {m m' : zMem} {c d : Nat × Nat} {T : qT} {W G : Nat → Int32} {hn pn : Nat → Nat}
theorem p9_tell {z : qZ} (hk : r9_kk K e) (hV : ∀ j, K j = 3 → V j < 10000) (hp : r9_pl S e) (hAB : r9_ab K A B) (hz : qz_ok K S z) (h : r9_st K V S B e c0 b0 v z m) : zw (f9_tellOne m) (r9_sp K V S B e c0 b0 v m (x_tell K V S A z)) := by
  obtain ⟨t, T, W, G, c, hn, pn, d⟩ := z
  have hq : ∃ C, r9_q K V S e c0 t C m := by
    obtain ⟨C, b, hh, _⟩ := h
    exact ⟨C, hh.1⟩
  obtain ⟨C, ht, _, _, h11, _, h13, _, htk⟩ := hq
  have he := hk.1
  have hok := hk.2.1 t
  have hlt := qk_ok_lt hok
  rw [g9_tellOne, h11, if_pos (y_in (by omega) (by omega)), y_cl (by omega), (htk t ht).1]
  have eq : ∀ (x : Int32) (n : Nat), x = nI (qk_G n) → qk_ok n = true → (nI (qk_G (K t)) = x) = (K t = n) := fun x n hx hn' => by rw [hx]; exact qk_G_eq hok hn'
  unfold x_tell
  dsimp only
  by_cases c1 : K t = 128
  · rw [if_pos c1, if_pos ((eq 20 128 rfl (by decide)).mpr c1)]
    exact p9_house hk hV hp hAB hz c1 h
  rw [if_neg c1, if_neg (fun q => c1 ((eq 20 128 rfl (by decide)).mp q))]
  by_cases c2 : K t = 129
  · rw [if_pos c2, if_pos ((eq 21 129 rfl (by decide)).mpr c2)]
    exact p9_person hk hV hp hAB hz c2 h
  rw [if_neg c2, if_neg (fun q => c2 ((eq 21 129 rfl (by decide)).mp q))]
  by_cases c3 : K t = 130
  · rw [if_pos c3, if_pos ((eq 22 130 rfl (by decide)).mpr c3)]
    exact p9_right hk hp hAB hz c3 h
  rw [if_neg c3, if_neg (fun q => c3 ((eq 22 130 rfl (by decide)).mp q))]
  by_cases c4 : K t = 131
  · rw [if_pos c4, if_pos ((eq 23 131 rfl (by decide)).mpr c4)]
    exact p9_away hk hV hp hAB hz c4 h
  rw [if_neg c4, if_neg (fun q => c4 ((eq 23 131 rfl (by decide)).mp q))]
  by_cases c5 : K t = 136
  · rw [if_pos c5, if_neg (fun q => absurd ((eq 24 132 rfl (by decide)).mp q) (by omega)), if_neg (fun q => absurd ((eq 25 133 rfl (by decide)).mp q) (by omega)), if_neg (fun q => absurd ((eq 26 134 rfl (by decide)).mp q) (by omega)), if_neg (fun q => absurd ((eq 27 135 rfl (by decide)).mp q) (by omega)), if_pos ((eq 28 136 rfl (by decide)).mpr c5)]
    exact p9_seed hk hV hp hz c5 h
  rw [if_neg c5, if_neg (fun q => c5 ((eq 28 136 rfl (by decide)).mp q)), ite_self, ite_self, ite_self, ite_self]
  by_cases c6 : 132 ≤ K t ∧ K t < 136
  · rw [if_pos c6]
    exact p9_lawS hk hV hz c6 h
  · rw [if_neg c6]
    exact p9_lawN hk (by omega) h
def r9_tp (K V S : Nat → Nat) (B : Nat → Int64) (e c0 b0 v : Nat) (m : zMem) (res : (Nat × Nat) ⊕ qZ) (m' : zMem) : Prop := zj (sPR c0 b0 v) l121 m m' ∧ (∀ F t', res = .inl (F, t') → r9_fl S F t' m') ∧ (∀ z', res = .inr z' → qz_ok K S z' ∧ r9_st K V S B e c0 b0 v z' m')
theorem p9_text (hk : r9_kk K e) (hV : ∀ j, K j = 3 → V j < 10000) (hp : r9_pl S e) (hAB : r9_ab K A B) : ∀ (n f : Nat) (z : qZ) (m : zMem), 401 ≤ n + z.1 → n < f → qz_ok K S z → r9_st K V S B e c0 b0 v z m → zw (z_it f9_read_L34 f m) (r9_tp K V S B e c0 b0 v m (x_text K V S A n z))
  | n, 0, z, m, _, hf, _, _ => by omega
  | 0, f + 1, z, m, h1, hf, hz, h => by
    have : z.1 ≤ 400 := hz.1
    omega
  | n + 1, f + 1, z, m, h1, hf, hz, h => by
    have hq : ∃ C, r9_q K V S e c0 z.1 C m := by
      obtain ⟨C, b, hh, _⟩ := h
      exact ⟨C, hh.1⟩
    obtain ⟨C, ht, _, _, h11, _, h13, _, htk⟩ := hq
    have h0 := p9_is (a := 0) (c := 0) hk ht htk h11 h13 (by decide) rfl
    by_cases c0' : K z.1 = 0
    · have hx : x_text K V S A (n + 1) z = .inr z := by rw [x_text, if_pos c0']
      have eb : f9_read_L34 m = some (.inr m) := by
        unfold f9_read_L34
        rw [h13, if_pos rfl, h0, Option.bind_some, if_pos c0', if_neg n01]
      rw [hx]
      refine ⟨_, z_it_d eb, zj_r m, (fun F t' q => by cases q), fun z' q => ?_⟩
      cases q
      exact ⟨hz, h⟩
    · have hx : x_text K V S A (n + 1) z = Sum.elim Sum.inl (fun z' => x_text K V S A n z') (x_tell K V S A z) := by rw [x_text, if_neg c0']
      obtain ⟨m1, hm1, j1, p1, p2⟩ := p9_tell hk hV hp hAB hz h
      have eb : f9_read_L34 m = some (.inl m1) := by
        unfold f9_read_L34
        rw [h13, if_pos rfl, h0, Option.bind_some, if_neg c0', if_pos rfl, hm1, Option.bind_some]
      rw [z_it_s eb]
      rcases hte : x_tell K V S A z with ⟨F, t'⟩ | z'
      · have fl := p1 F t' hte
        rw [hte] at hx
        have hx' : x_text K V S A (n + 1) z = .inl (F, t') := hx
        obtain ⟨f, rfl⟩ : ∃ k, f = k + 1 := ⟨f - 1, by omega⟩
        have e2 : f9_read_L34 m1 = some (.inr m1) := by
          unfold f9_read_L34
          rw [fl.2.1, if_neg (y_F fl.1).2]
        rw [hx']
        refine ⟨_, z_it_d e2, j1, fun F2 t2 q => ?_, (fun z' q => by cases q)⟩
        cases q
        exact fl
      · have st1 := p2 z' hte
        obtain ⟨hz1, hlt⟩ := qz_tell hV hz hte
        rw [hte] at hx
        have hx' : x_text K V S A (n + 1) z = x_text K V S A n z' := hx
        rw [hx']
        refine zw_mono (p9_text hk hV hp hAB n f z' m1 (by omega) (by omega) hz1 st1) ?_
        rintro m2 ⟨r1, r2, r3⟩
        exact ⟨zj_t j1 r1, r2, r3⟩
/-! the region of a side -/
theorem r9_mb_ra {x : qB} (h : q_ra v m m') (hC : C ≤ 420 * v + 420) (hb : 130 * v ≤ b ∧ b < 130 * v + 130) (hx : r9_mb m (420 * v) C b x) : r9_mb m' (420 * v) C b x := by
  obtain ⟨h1, h2, i, h3, h4, h5, h6, h7, h8, h9, h10, h11⟩ := hx
  refine ⟨h1, ?_, i, ?_, ?_, ?_, ?_, q_ms_cong (fun j q1 q2 => ⟨h.2 _ j (Or.inl rfl) (by omega) (by omega), h.2 _ j (Or.inr rfl) (by omega) (by omega)⟩) h7, q_ms_cong (fun j q1 q2 => ⟨h.2 _ j (Or.inl rfl) (by omega) (by omega), h.2 _ j (Or.inr rfl) (by omega) (by omega)⟩) h8, q_ms_cong (fun j q1 q2 => ⟨h.2 _ j (Or.inl rfl) (by omega) (by omega), h.2 _ j (Or.inr rfl) (by omega) (by omega)⟩) h9, h10, h11⟩
  · rw [h.1 _ _ (by omega) (by omega) hb.1 hb.2]; exact h2
  · rw [h.1 _ _ (by omega) (by omega) hb.1 hb.2]; exact h3
  · rw [h.1 _ _ (by omega) (by omega) hb.1 hb.2]; exact h4
  · rw [h.1 _ _ (by omega) (by omega) hb.1 hb.2]; exact h5
  · rw [h.1 _ _ (by omega) (by omega) hb.1 hb.2]; exact h6
theorem r9_mp_ra (h : q_ra v m m') (hC : C ≤ 420 * v + 420) : ∀ {bs : List qB} {b b' : Nat}, 130 * v ≤ b → b' < 130 * v + 130 → r9_mp m (420 * v) C b bs b' → r9_mp m' (420 * v) C b bs b'
  | [], _, _, _, _, hp => hp
  | x :: bs, b, b', h1, h2, hp => by
    have := r9_mp_le hp.2
    exact ⟨r9_mb_ra h hC ⟨h1, by omega⟩ hp.1, r9_mp_ra h hC (by omega) h2 hp.2⟩
theorem r9_ml_ra {bs : List qB} {f : List qI} (hv : v < 2) (h : q_ra v m m') (hC : C ≤ 420 * v + 420) (hb : 130 * v ≤ b ∧ b + bs.length < 130 * v + 130) (hl : r9_ml m (420 * v) C b bs f) : q_ml m' b bs f := by
  refine r9_ml_q (c0 := 420 * v) (C := C) (by omega) ?_
  obtain ⟨b1, hp, h1, h2, i, h3, h4, h5, h6, h7⟩ := hl
  have e := r9_mp_le hp
  refine ⟨b1, r9_mp_ra h hC hb.1 (by omega) hp, h1, ?_, i, ?_, ?_, q_ms_cong (fun j q1 q2 => ⟨h.2 _ j (Or.inl rfl) (by omega) (by omega), h.2 _ j (Or.inr rfl) (by omega) (by omega)⟩) h5, h6, h7⟩
  · rw [h.1 _ _ (by omega) (by omega) (by omega) (by omega)]; exact h2
  · rw [h.1 _ _ (by omega) (by omega) (by omega) (by omega)]; exact h3
  · rw [h.1 _ _ (by omega) (by omega) (by omega) (by omega)]; exact h4
theorem r9_lw_q (hv : v < 2) (ht : t ≤ 400) (hC : C ≤ 420 * v + t) (h : r9_lw v (420 * v) (130 * v) t b C T m) : qMl m v T := by
  obtain ⟨h1, h2, h3, h4⟩ := h
  intro k hk
  rcases h4 k hk with q | ⟨i, q1, q2, q3, q4⟩
  · exact Or.inl q
  · exact Or.inr ⟨i, by omega, q2, q3, fun m' hr => r9_ml_ra hv hr (by omega) (by omega) q4⟩
end
