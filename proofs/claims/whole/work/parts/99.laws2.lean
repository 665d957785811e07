/-! READ XXII: the class reads a LAW -/
abbrev sL (o : Nat) : Nat → Nat → Nat → Prop := fun c i k => (c = 4 ∧ i = 0 ∧ (k = 4 ∨ k = 7)) ∨ (c = 6 ∧ i = o ∧ k = 9) ∨ (c = 29 ∧ i = o) ∨ (c = 30 ∧ i = o)
section
variable {K V : Nat → Nat} {o t N k d F : Nat} {m m' : zMem} {l l' : List qI}
theorem p4_ifl {N0 : Nat} (hK : ∀ j, K j < 149) (hV : ∀ j, K j = 3 → V j < 10000) : ∀ (n c t N f : Nat) (bs : List qB) (m : zMem), c + n = 4 → n < f → c4_in K V o t N m → qk_cp (m.1 29 o) N0 bs N → (∀ b, b ∈ bs → q_lwb b) → zw (z_it f4_readLaw_L17 f (nI c, m)) fun r => (∀ F t', x_ifl K V n t bs = .inl (F, t') → ∃ q, r = .inr q ∧ c4_pF o m F t' q) ∧ (∀ t' bs', x_ifl K V n t bs = .inr (t', bs') → ∃ m', r = .inl m' ∧ zk (sX o) m m' ∧ ∃ N', c4_in K V o t' N' m' ∧ qk_cp (m'.1 29 o) N0 bs' N' ∧ (∀ b, b ∈ bs' → q_lwb b) ∧ (∀ a, a < N0 → m'.1 29 o a = m.1 29 o a) ∧ N' + t ≤ N + t' ∧ N ≤ N')
  | n, c, t, N, 0, bs, m, _, hf, _, _, _ => by omega
  | 0, c, t, N, f + 1, bs, m, hc, hf, h, hcp, hw => by
    have e : f4_readLaw_L17 (nI c, m) = some (.inr (.inl m)) := by
      unfold f4_readLaw_L17
      rw [z_u2_ap, y_4, if_neg (nI_nlt (by omega) (by omega))]
    refine ⟨_, z_it_d e, fun F t' q => ?_, fun t' bs' q => ?_⟩
    · cases q
    · have q' : (Sum.inr (t, bs) : qE (List qB)) = .inr (t', bs') := q
      cases q'
      exact ⟨m, rfl, zk_r m, N, h, hcp, hw, fun _ _ => rfl, Nat.le_refl _, Nat.le_refl _⟩
  | n + 1, c, t, N, f + 1, bs, m, hc, hf, h, hcp, hw => by
    have ht := h.1
    have hkd : f4_kind m = some (nI (K t)) := by rw [p4_kind ht h.2.2.2.1, h.2.2.2.2.2.2.1 t (by omega)]
    have hle := qk_cp_le hcp
    by_cases c7 : K t = 137
    · have hx : x_ifl K V (n + 1) t bs = e_bd (x_if K V t) fun t1 b => x_ifl K V n t1 (bs ++ [b]) := by rw [x_ifl, if_pos c7]
      obtain ⟨⟨q, m1⟩, hq, p1, p2⟩ := p4_if hK hV h
      have hb : f4_readLaw_L17 (nI c, m) = if q = 0 then some (.inr (.inr ((0 : Int32), m1))) else some (.inl ((nI c + (1 : Int32)), m1)) := by
        unfold f4_readLaw_L17
        rw [z_u2_ap, y_4, if_pos (nI_lt (by omega) (by omega)), hkd, Option.bind_some, if_pos (show nI (K t) = 137 by rw [c7]; rfl), hq, Option.bind_some, z_u2_ap]
      rcases hi : x_if K V t with ⟨F, t'⟩ | ⟨t1, b⟩
      · rw [hi] at hx
        have pf := p1 F t' hi
        have q0 : q = 0 := pf.1
        rw [if_pos q0] at hb
        subst q0
        refine ⟨_, z_it_d hb, fun F2 t2 e => ?_, fun t2 bs2 e => ?_⟩
        · rw [hx] at e
          have e' : (Sum.inl (F, t') : qE (List qB)) = .inl (F2, t2) := e
          cases e'
          exact ⟨_, rfl, pf⟩
        · rw [hx] at e
          cases e
      · rw [hi] at hx
        obtain ⟨q1, f1, i1, g1, cb1, w1, b1⟩ := p2 t1 b hi
        have q1' : q = 1 := q1
        have f1' : zk (sX o) m m1 := f1
        rw [if_neg (by rw [q1']; exact n01), y_s1] at hb
        have hx' : x_ifl K V (n + 1) t bs = x_ifl K V n t1 (bs ++ [b]) := hx
        have hcp1 : qk_cp (m1.1 29 o) N0 (bs ++ [b]) (N + q_bl b) := qk_cp_app (qk_cp_cong (fun a h1 h2 => b1 a h2) hcp) cb1
        have hw1 : ∀ b', b' ∈ bs ++ [b] → q_lwb b' := fun b' hb' => by
          rcases List.mem_append.mp hb' with e | e
          · exact hw b' e
          · rw [List.mem_singleton.mp e]; exact w1
        rw [z_it_s hb]
        refine zw_mono (p4_ifl hK hV n (c + 1) t1 (N + q_bl b) f (bs ++ [b]) m1 (by omega) (by omega) i1 hcp1 hw1) ?_
        rintro r ⟨r1, r2⟩
        refine ⟨fun F t' e => ?_, fun t' bs' e => ?_⟩
        · rw [hx'] at e
          obtain ⟨q, e1, e2, e3, e4, e5, e6⟩ := r1 F t' e
          exact ⟨q, e1, e2, e3, e4, zk_t f1' e5, e6⟩
        · rw [hx'] at e
          obtain ⟨m', e1, e2, N', e3, e4, e5, e6, e7, e8⟩ := r2 t' bs' e
          exact ⟨m', e1, zk_t f1' e2, N', e3, e4, e5, fun a ha => by rw [e6 a ha, b1 a (by omega)], by omega, by omega⟩
    · have hx : x_ifl K V (n + 1) t bs = .inr (t, bs) := by rw [x_ifl, if_neg c7]
      have hKt := hK t
      have e : f4_readLaw_L17 (nI c, m) = some (.inr (.inl m)) := by
        unfold f4_readLaw_L17
        rw [z_u2_ap, y_4, if_pos (nI_lt (by omega) (by omega)), hkd, Option.bind_some, if_neg (show ¬ nI (K t) = 137 by rw [show (137 : Int32) = nI 137 from rfl, y_eq (by omega) (by omega)]; exact c7)]
      refine ⟨_, z_it_d e, fun F t' q => ?_, fun t' bs' q => ?_⟩
      · rw [hx] at q
        cases q
      · rw [hx] at q
        cases q
        exact ⟨m, rfl, zk_r m, N, h, hcp, hw, fun _ _ => rfl, Nat.le_refl _, Nat.le_refl _⟩
def c4_lF (o : Nat) (m : zMem) (F t' : Nat) (q : Int32 × zMem) : Prop := q.1 = 0 ∧ (F = 1 ∨ F = 2) ∧ t' ≤ 400 ∧ zk (sL o) m q.2 ∧ q.2.1 4 0 4 = nI t' ∧ q.2.1 4 0 7 = nI F
def c4_pL (K V : Nat → Nat) (o t N k : Nat) (m : zMem) (r : qE (List qB × List qI)) (q : Int32 × zMem) : Prop := (∀ F t', r = .inl (F, t') → c4_lF o m F t' q) ∧ (∀ t' bs f, r = .inr (t', (bs, f)) → q.1 = 1 ∧ zk (sL o) m q.2 ∧ t < t' ∧ ∃ N', c4_in K V o t' N' q.2 ∧ q_cl (q.2.1 29 o) N' N bs f ∧ q_lw bs f ∧ q.2.1 30 o k = nI N ∧ (∀ j, j ≠ k → q.2.1 30 o j = m.1 30 o j) ∧ (∀ a, a < N → q.2.1 29 o a = m.1 29 o a) ∧ N ≤ N')
theorem c4_pL_l {r : qE (List qB × List qI)} {q : Int32 × zMem} {t' : Nat} (hr : r = .inl (F, t')) (h : c4_lF o m F t' q) : c4_pL K V o t N k m r q := ⟨fun F2 t2 e => by
    rw [hr] at e
    cases e
    exact h, fun t2 bs f e => by rw [hr] at e; cases e⟩
theorem zk_XL (h : zk (sX o) m m') : zk (sL o) m m' := zk_m h (fun c i k e => by omega)
theorem zk_TL (h : zk sT m m') : zk (sL o) m m' := zk_m h (fun c i k e => by omega)
theorem zk_WL (h : zk (sW o) m m') : zk (sL o) m m' := zk_m h (fun c i k e => by omega)
theorem p4_law (hK : ∀ j, K j < 149) (hV : ∀ j, K j = 3 → V j < 10000) (hk : k < 4) (h : c4_in K V o t N m) : zw (f4_readLaw (nI k) m) (c4_pL K V o t N k m (x_law K V k t)) := by
  obtain ⟨ht, hN, h3, h4, h7, h9, h31, h33⟩ := id h
  unfold f4_readLaw x_law
  rw [if_neg (nI_pos (by omega)), y_4, if_pos (nI_lt hk (by omega)), if_pos (y_in hk (by omega)), y_cl (by omega), h3, h9]
  simp only [z_let]
  obtain ⟨M, hM⟩ : ∃ M, M = z_sI m 30 o k (nI N) := ⟨_, rfl⟩
  rw [← hM]
  have fM : zk (fun c i j => c = 30 ∧ i = o ∧ j = k) m M := by rw [hM]; exact zk_s (zk_r m) ⟨rfl, rfl, rfl⟩
  have MN : M.1 30 o k = nI N := by rw [hM, z_sI_1, if_pos ⟨rfl, rfl, rfl⟩]
  clear hM
  have fML : zk (sL o) m M := zk_m fM (fun c i k e => by omega)
  have iM : c4_in K V o t N M := ⟨ht, hN, by rw [fM.2]; exact h3, by rw [fM.1 _ _ _ (by omega)]; exact h4, by rw [fM.1 _ _ _ (by omega)]; exact h7, by rw [fM.1 _ _ _ (by omega)]; exact h9, fun j hj => by rw [fM.1 _ _ _ (by omega)]; exact h31 j hj, fun j hj q => by rw [fM.2]; exact h33 j hj q⟩
  rw [show (132 : Int32) = nI 132 from rfl, nI_add]
  refine c4_tkI (k := 132 + k) hK (by omega) iM ?_ ?_
  · intro e1 c1 m1 f1 i1
    rw [z_u2_ap, if_neg n01, e1]
    refine c4_tkI (k := 61) hK (by omega) i1 ?_ ?_
    · intro e2 c2 m2 f2 i2
      rw [z_u2_ap, if_neg n01]
      have f12 : zk (sL o) m m2 := zk_t fML (zk_t (zk_TL f1) (zk_TL f2))
      have hl := p4_ifl (N0 := N) hK hV 4 0 (t + 1 + 1) N z_fu [] m2 rfl (by show 4 < 5000; omega) i2 rfl (fun b hb => absurd hb (by simp))
      refine zw_b (x := z_it f4_readLaw_L17 z_fu (0, m2)) hl ?_
      rintro r ⟨r1, r2⟩
      rcases hi : x_ifl K V 4 (t + 1 + 1) [] with ⟨F, t'⟩ | ⟨t3, bs⟩
      · obtain ⟨⟨q, m3⟩, rfl, pf1, pf2, pf3, pf4, pf5, pf6⟩ := r1 F t' hi
        refine zw_some.mpr (c4_pL_l ?_ ⟨pf1, pf2, pf3, zk_t f12 (zk_XL pf4), pf5, pf6⟩)
        rw [e_bd, Sum.elim_inr, e2, e_bd, Sum.elim_inr, hi]; rfl
      · obtain ⟨m3, rfl, f3, N3, i3, cp3, w3, b3, g3, g3'⟩ := r2 t3 bs hi
        have ht3 := i3.1
        rw [Sum.elim_inl, p4_kind ht3 i3.2.2.2.1, Option.bind_some, i3.2.2.2.2.2.2.1 t3 (by omega)]
        have hKt := hK t3
        by_cases c7 : K t3 = 137
        · rw [if_pos (show nI (K t3) = 137 by rw [c7]; rfl)]
          unfold f4_refuse
          simp only [z_let]
          rw [z_u2_ap, if_pos y_b0]
          refine zw_some.mpr (c4_pL_l (F := 2) (t' := t3) ?_ ⟨rfl, Or.inr rfl, ht3, zk_s (zk_t f12 (zk_XL f3)) (by omega), ?_, ?_⟩)
          · rw [e_bd, Sum.elim_inr, e2, e_bd, Sum.elim_inr, hi]
            show (if K t3 = 137 then _ else _) = _
            rw [if_pos c7]
          · rw [z_sI_1, if_neg (by omega)]; exact i3.2.2.2.1
          · rw [z_sI_1, if_pos ⟨rfl, rfl, rfl⟩]; rfl
        · rw [if_neg (show ¬ nI (K t3) = 137 by rw [show (137 : Int32) = nI 137 from rfl, y_eq (by omega) (by omega)]; exact c7)]
          have hx3 : ∀ {y : qE (List qB × List qI)}, (e_bd (e_s K V t3) fun t4 f => e_bd (e_t K 59 t4) fun t5 _ => .inr (t5, (bs, f))) = y → (e_bd (Sum.inr (t + 1, ()) : qE Unit) fun t1 _ => e_bd (e_t K 61 t1) fun t2 _ => e_bd (x_ifl K V 4 t2 []) fun t3 bs => if K t3 = 137 then .inl (2, t3) else e_bd (e_s K V t3) fun t4 f => e_bd (e_t K 59 t4) fun t5 _ => .inr (t5, (bs, f))) = y := by
            intro y hy
            rw [e_bd, Sum.elim_inr, e2, e_bd, Sum.elim_inr, hi]
            show (if K t3 = 137 then _ else _) = _
            rw [if_neg c7]
            exact hy
          refine c4_sm hK hV i3 ?_ ?_
          · intro t4 f m4 e4 l4 g4 w4 f4 i4 s4 b4
            have ht4 := i4.1
            rw [z_u2_ap, if_neg n01, i4.2.2.1]
            refine zw_b (c6_write (o := o) (by omega) i4.2.2.2.2.2.1) ?_
            rintro m5 ⟨f5, v5⟩
            obtain ⟨k1, k2, k3⟩ := v5 (by omega)
            have i5 : c4_in K V o t4 (N3 + f.length + 1) m5 := i4.fr (zk_WX f5) i4.1 (by omega) (by rw [f5.1 _ _ _ (by omega)]; exact i4.2.2.2.1) (by rw [f5.1 _ _ _ (by omega)]; exact i4.2.2.2.2.1) k1
            have f15 : zk (sL o) m m5 := zk_t f12 (zk_t (zk_XL f3) (zk_t (zk_XL f4) (zk_WL f5)))
            refine c4_tkI (k := 59) hK (by omega) i5 ?_ ?_
            · intro e6 c6 m6 f6 i6
              rw [z_u2_ap, if_pos y_b1]
              have hfin := hx3 (show _ = Sum.inr (t4 + 1, (bs, f)) by rw [e4, e_bd, Sum.elim_inr, e6]; rfl)
              rw [hfin]
              refine zw_some.mpr ⟨(fun F t' q => by cases q), fun t' bs' f' q => ?_⟩
              cases q
              refine ⟨rfl, zk_t f15 (zk_TL f6), by omega, N3 + f.length + 1, i6, ?_, q_lw_of (q_wf_more (by omega) w4) w3, ?_, fun j hj => ?_, fun a ha => ?_, by omega⟩
              · refine qk_cp_cl (j := N3) (qk_cp_cong (fun a h1 h2 => ?_) cp3) (q_cs_cong (fun a h1 h2 => ?_) s4) ?_ (by omega)
                · rw [f6.1 _ _ _ (by omega), k3 a (by omega), b4 a (by omega)]
                · rw [f6.1 _ _ _ (by omega), k3 a (by omega)]
                · rw [f6.1 _ _ _ (by omega)]; exact k2
              · rw [f6.1 _ _ _ (by omega), f5.1 _ _ _ (by omega), f4.1 _ _ _ (by omega), f3.1 _ _ _ (by omega), f2.1 _ _ _ (by omega), f1.1 _ _ _ (by omega)]; exact MN
              · rw [f6.1 _ _ _ (by omega), f5.1 _ _ _ (by omega), f4.1 _ _ _ (by omega), f3.1 _ _ _ (by omega), f2.1 _ _ _ (by omega), f1.1 _ _ _ (by omega), fM.1 _ _ _ (by omega)]
              · rw [f6.1 _ _ _ (by omega), k3 a (by omega), b4 a (by omega), b3 a ha, f2.1 _ _ _ (by omega), f1.1 _ _ _ (by omega), fM.1 _ _ _ (by omega)]
            · intro F m6 e6 hF f6 g4' g7'
              rw [z_u2_ap, if_pos y_b0]
              exact zw_some.mpr (c4_pL_l (hx3 (by rw [e4, e_bd, Sum.elim_inr, e6]; rfl)) ⟨rfl, hF, i5.1, zk_t f15 (zk_TL f6), g4', g7'⟩)
          · intro F t' m4 e4 hF ht' f4 g4' g7'
            rw [z_u2_ap, if_pos rfl]
            exact zw_some.mpr (c4_pL_l (hx3 (by rw [e4]; rfl)) ⟨rfl, hF, ht', zk_t f12 (zk_t (zk_XL f3) (zk_XL f4)), g4', g7'⟩)
    · intro F m2 e2 hF f2 g4' g7'
      rw [z_u2_ap, if_pos rfl]
      refine zw_some.mpr (c4_pL_l ?_ ⟨rfl, hF, i1.1, zk_t fML (zk_t (zk_TL f1) (zk_TL f2)), g4', g7'⟩)
      rw [e_bd, Sum.elim_inr, e2]; rfl
  · intro F m1 e1 hF f1 g4' g7'
    rw [z_u2_ap, if_pos rfl]
    refine zw_some.mpr (c4_pL_l ?_ ⟨rfl, hF, ht, zk_t fML (zk_TL f1), g4', g7'⟩)
    rw [e1]; rfl
end
