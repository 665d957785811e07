/-! READ XX: the reference reads terms: units, products, sums -/
section
variable {K V S : Nat → Nat} {e t k d F C c0 : Nat} {m m' m1 m2 m3 : zMem} {l l' : List qI} {w pp : List Nat} {a : Int32}
def r9_lv (v : Nat) (w : List Nat) : Prop := v = 0 ∨ (v = 1 ∧ r9_bl 1 w) ∨ (v = 2 ∧ r9_bl 0 w)
def r9_pd (v : Nat) (pp : List Nat) : Prop := pp.length ≤ v ∧ ∀ k, k ∈ pp → r9_pp (if v = 2 then 0 else 1) k
/-- v = 0 a unit, 1 a product, 2 a sum: from where a unit is wanted to behind the last one -/
def r9_ok (m1 : zMem) (K V S : Nat → Nat) (e c0 v d : Nat) (s : Nat → qX) : Prop := ∀ (t C n n8 : Nat) (w : List Nat) (m : zMem) (Q : zMem → Prop), r9_in K V S e c0 t d w C m → w.length + v ≤ 3 * d + 2 → r9_lv v w → 402 ≤ n + t → 402 ≤ n8 + t →
  (∀ t' l m' pp l0 n' n33, s t = (0, t', l) → l = l0 ++ pp.map r9_oi → r9_pd v pp → r9_in K V S e c0 t' d (pp ++ w) (C + l0.length) m' → zk (sR c0) m m' → r9_cd C l0 m m' → 402 ≤ n' + t' → 402 ≤ n33 + t' → zw (r9_KB m1 n' n33 m') fun r => Q (Sum.elim id id r)) →
  (∀ F t' l m', s t = (F, t', l) → F ≠ 0 → r9_ft S c0 F t' m m' → Q m') → zw (r9_KU m1 n n8 m) fun r => Q (Sum.elim id id r)
theorem r9_pd0 (h : r9_pd 0 pp) : pp = [] := List.eq_nil_of_length_eq_zero (by have := h.1; omega)
theorem r9_okU {fs : Nat → Nat → qX} (hk : r9_kk K e) (hm1 : m1.1 9 0 12 = nI 0) (hd : d ≤ 6) (hs : d < 6 → r9_ok m1 K V S e c0 2 (d + 1) (fs (d + 1))) (hE : d < 6 → ∀ t t' l, t ≤ 400 → fs (d + 1) t = (0, t', l) → K t' ≠ 43 ∧ K t' ≠ 45 ∧ K t' ≠ 42 ∧ K t' ≠ 47) (hG : d < 6 → ∀ t, t ≤ 400 → x_g 15 t (fs (d + 1) t)) : r9_ok m1 K V S e c0 0 d (x_unit K V fs d) := by
  intro t C n n8 w m Q h hl _ hn hn8 hS hF
  have he := hk.1
  have ht := h.1
  obtain ⟨n8, rfl⟩ : ∃ k, n8 = k + 1 := ⟨n8 - 1, by omega⟩
  by_cases c : K t = 40
  · obtain ⟨r, hr, m2, rfl, f2, b1, b2⟩ := r9_L8s (n8 := 0) hk h c
    have e1 : r9_KU m1 n (n8 + 1) m = r9_KU m1 n n8 m2 := by unfold r9_KU; rw [z_it_s hr]
    rw [e1]
    by_cases cd : d < 6 ∧ t < 400
    · obtain ⟨i2, e141, e142⟩ := b1 cd.1 cd.2
      have hx : x_unit K V fs d t = x_bd (fs (d + 1) (t + 1)) fun t2 l => x_bd (x_t K 41 t2) fun t3 _ => (0, t3, l) := by
        unfold x_unit
        rw [if_pos c, if_pos cd.1, x_t_ok c cd.2, x_bd_0]
      refine hs cd.1 (t + 1) C n n8 (6 :: w) m2 Q i2 (by show w.length + 1 + 2 ≤ _; omega) (Or.inr (Or.inr ⟨rfl, Or.inr ⟨6, w, rfl, Or.inl rfl⟩⟩)) (by omega) (by omega) ?_ ?_
      · intro t' l m3 pp l0 n' n33 hs' hl0 hpd i3 f3 cd3 hn' hn33
        obtain ⟨o1, o2, o3, o4⟩ := hE cd.1 (t + 1) t' l (by omega) hs'
        have hgd := hG cd.1 (t + 1) (by omega)
        rw [hs'] at hgd
        have g1 : t + 1 < t' := (hgd.1 rfl).1
        have ht' : t' ≤ e := i3.1
        have hp0 : ∀ k, k ∈ pp → r9_pp 0 k := hpd.2
        rw [hs', x_bd_0] at hx
        obtain ⟨n33, rfl⟩ : ∃ k, n33 = k + 1 := ⟨n33 - 1, by omega⟩
        by_cases c41 : K t' = 41
        · obtain ⟨r, hr, m4, rfl, f4, cd4, b3, b4⟩ := r9_L33s hk hm1 i3 c41 hp0 (by omega)
          have e2 : r9_KB m1 n' (n33 + 1) m3 = r9_KB m1 n' n33 m4 := by unfold r9_KB; rw [z_it_s hr]
          rw [e2]
          have fall : zk (sR c0) m m4 := zk_t f2 (zk_t f3 f4)
          have cdall : r9_cd C l m m4 := by
            rw [hl0]
            exact r9_cd_t (r9_cd_0 e141 e142 cd3) cd4
          have ell : l.length = l0.length + pp.length := by rw [hl0, List.length_append, List.length_map]
          by_cases c4 : t' < 400
          · rw [x_t_ok c41 c4, x_bd_0] at hx
            have i4 := b3 c4
            rw [show C + l0.length + pp.length = C + l.length by omega] at i4
            refine hS (t' + 1) l m4 [] l n' n33 hx (by rw [List.map_nil, List.append_nil]) ⟨Nat.le_refl _, fun k hk' => absurd hk' (by simp)⟩ i4 fall cdall (by omega) (by omega)
          · rw [x_t_2 c41 c4, x_bd_F (by omega)] at hx
            obtain ⟨v1, v2, v3, v4, v5, v6, v7⟩ := b4 c4
            obtain ⟨r, hr, m5, rfl, f5⟩ := r9_TF (m1 := m1) (Or.inr rfl) v1 (by omega) v7 h.2.2.2.2.2.1 v6 v3 v4 v5
            obtain ⟨n33, rfl⟩ : ∃ k, n33 = k + 1 := ⟨n33 - 1, by omega⟩
            refine ⟨.inr m5, ?_, hF 2 t' [] m5 hx (by omega) ⟨zk_t fall (zk_OR f5), ?_, ?_⟩⟩
            · unfold r9_KB r9_go
              rw [r9_L33F (by rw [v1]; decide), Option.bind_some, hr]
              rfl
            · rw [f5.1 _ _ _ (by omega)]; exact v1
            · rw [f5.1 _ _ _ (by omega)]; exact v2
        · rw [x_t_1 c41, x_bd_F (by omega)] at hx
          obtain ⟨r, hr, m4, rfl, f4, _, b4⟩ := r9_Tno hk hm1 i3 o1 o2 o3 o4 hp0 (Or.inr ⟨6, w, rfl, Or.inl rfl⟩)
          obtain ⟨v1, v2⟩ := b4 (by omega)
          refine ⟨.inr m4, ?_, hF 1 t' [] m4 hx (by omega) ⟨zk_t f2 (zk_t f3 f4), v1, v2⟩⟩
          unfold r9_KB r9_go
          rw [r9_L33n hk hm1 i3 (Or.inl c41), Option.bind_some, hr]
          rfl
      · intro F t' l m3 hs' cF hft
        rw [hs', x_bd_F cF] at hx
        exact hF F t' [] m3 hx cF ⟨zk_t f2 hft.1, hft.2⟩
    · obtain ⟨v1, v2⟩ := b2 cd
      obtain ⟨n8, rfl⟩ : ∃ k, n8 = k + 1 := ⟨n8 - 1, by omega⟩
      have hx : x_unit K V fs d t = (2, t, []) := by
        unfold x_unit
        rw [if_pos c]
        by_cases cd' : d < 6
        · rw [if_pos cd', x_t_2 c (fun q => cd ⟨cd', q⟩), x_bd_F (by omega)]
        · rw [if_neg cd']
      refine ⟨.inr m2, ?_, hF 2 t [] m2 hx (by omega) ⟨f2, v1, v2⟩⟩
      unfold r9_KU r9_go
      rw [r9_L8F (by rw [v1]; decide), Option.bind_some, r9_UF (Or.inr rfl) v1]
      rfl
  · obtain ⟨m2, hm2, r, hr, f2, b1, b2⟩ := r9_unit hk h c
    rw [x_unit_n (fs' := fs) c] at hr
    have e1 : r9_KU m1 n (n8 + 1) m = r9_go m1 n ((fun qm30 => (if 0 < (qm30.1 9 0 13) then some (.inr (.inr qm30)) else (z_it (f9_expression_L33 m1) z_fu qm30).bind (r9_T m1))) m2) := by
      unfold r9_KU
      rw [r9_L8n hk h c, Option.bind_some]
      unfold r9_U
      rw [hm2, Option.bind_some]
    rw [e1]
    obtain ⟨F, t', l⟩ := r
    by_cases cF : F = 0
    · subst cF
      obtain ⟨i2, cd2, lt2⟩ := b1 rfl
      have lt2' : t < t' := lt2
      have i13 : m2.1 9 0 13 = 0 := i2.2.2.2.2.2.2.2.2.1
      show zw (r9_go m1 n (if 0 < m2.1 9 0 13 then _ else _)) _
      rw [i13, if_neg (show ¬ (0 : Int32) < 0 by decide)]
      exact hS t' l m2 [] l n z_fu hr (by rw [List.map_nil, List.append_nil]) ⟨Nat.le_refl _, fun k hk' => absurd hk' (by simp)⟩ i2 f2 cd2 (by omega) (by show 402 ≤ 5000 + t'; omega)
    · obtain ⟨v0, v1, v2⟩ := b2 cF
      have v1' : m2.1 9 0 13 = nI F := v1
      show zw (r9_go m1 n (if 0 < m2.1 9 0 13 then _ else _)) _
      rw [v1', if_pos (y_F v0).1]
      exact ⟨.inr m2, rfl, hF F t' l m2 hr cF ⟨f2, v1, v2⟩⟩
theorem w_oi : ∀ k, k < 149 → (k = 42 ∨ k = 47 → r9_oi (qk_G k) = (if k = 42 then 4 else 5, 0)) ∧ (k = 43 ∨ k = 45 → r9_oi (qk_G k) = (if k = 43 then 2 else 3, 0)) := by decide +kernel
theorem r9_lpS {v ka kb ia : Nat} {u : Nat → qX} (hk : r9_kk K e) (hm1 : m1.1 9 0 12 = nI 0) (hv : v = 0 ∧ ka = 42 ∧ kb = 47 ∧ ia = 4 ∨ v = 1 ∧ ka = 43 ∧ kb = 45 ∧ ia = 2) (hu : r9_ok m1 K V S e c0 v d u) (hg : ∀ t, t ≤ 400 → x_g 15 t (u t)) {Q : zMem → Prop} (hlw : w.length + (v + 1) ≤ 3 * d + 2) (hbw : r9_lv (v + 1) w) : ∀ (nn t : Nat) (l l0 : List qI) (pp : List Nat) (m2 : zMem) (n' n33 : Nat), 401 ≤ nn + t → l = l0 ++ pp.map r9_oi → r9_pd (v + 1) pp → r9_in K V S e c0 t d (pp ++ w) (C + l0.length) m2 → zk (sR c0) m m2 → r9_cd C l0 m m2 → 402 ≤ n' + t → 402 ≤ n33 + t →
    (∀ t' l' m' pp l0 n' n33, x_lp K ka kb ia u nn t l = (0, t', l') → l' = l0 ++ pp.map r9_oi → r9_pd (v + 1) pp → r9_in K V S e c0 t' d (pp ++ w) (C + l0.length) m' → zk (sR c0) m m' → r9_cd C l0 m m' → 402 ≤ n' + t' → 402 ≤ n33 + t' → zw (r9_KB m1 n' n33 m') fun r => Q (Sum.elim id id r)) →
    (∀ F t' l' m', x_lp K ka kb ia u nn t l = (F, t', l') → F ≠ 0 → r9_ft S c0 F t' m m' → Q m') → zw (r9_KB m1 n' n33 m2) fun r => Q (Sum.elim id id r)
  | 0, t, l, l0, pp, m2, n', n33, h1, _, _, i2, _, _, _, _, _, _ => by
    have := i2.1
    have := hk.1
    omega
  | nn + 1, t, l, l0, pp, m2, n', n33, h1, hl, hpd, i2, f2, cd2, hn', hn33, hS, hF => by
    have ht := i2.1
    have he := hk.1
    have hlt := qk_ok_lt (hk.2.1 t)
    by_cases c : K t = ka ∨ K t = kb
    · have hx : x_lp K ka kb ia u (nn + 1) t l = x_bd (x_t K (K t) t) fun t1 _ => x_bd (u t1) fun t2 l2 => x_lp K ka kb ia u nn t2 (l ++ (l2 ++ [(if K t = ka then ia else ia + 1, 0)])) := by rw [x_lp, if_pos c]
      have ho : (K t = 43 ∨ K t = 45) ∧ (if v + 1 = 2 then 0 else 1) = 0 ∨ (K t = 42 ∨ K t = 47) ∧ (if v + 1 = 2 then 0 else 1) = 1 := by
        rcases hv with ⟨rfl, rfl, rfl, rfl⟩ | ⟨rfl, rfl, rfl, rfl⟩
        · exact Or.inr ⟨c, rfl⟩
        · exact Or.inl ⟨c, rfl⟩
      have hit : r9_oi (qk_G (K t)) = (if K t = ka then ia else ia + 1, 0) := by
        obtain ⟨q1, q2⟩ := w_oi (K t) hlt
        rcases hv with ⟨rfl, rfl, rfl, rfl⟩ | ⟨rfl, rfl, rfl, rfl⟩
        · exact q1 c
        · exact q2 c
      have hbl : r9_bl (if v + 1 = 2 then 0 else 1) w := by
        rcases hv with ⟨rfl, rfl, rfl, rfl⟩ | ⟨rfl, rfl, rfl, rfl⟩
        · rcases hbw with q | ⟨_, q⟩ | ⟨q, _⟩
          · omega
          · exact q
          · omega
        · rcases hbw with q | ⟨q, _⟩ | ⟨_, q⟩
          · omega
          · omega
          · exact q
      have n41 : K t ≠ 41 := by omega
      obtain ⟨r, hr, m3, rfl, f3, cd3, b1, b2⟩ := r9_Top (m1 := m1) hk i2 ho hpd.2 hbl (by omega)
      obtain ⟨n33, rfl⟩ : ∃ k, n33 = k + 1 := ⟨n33 - 1, by omega⟩
      obtain ⟨n', rfl⟩ : ∃ k, n' = k + 1 := ⟨n' - 1, by omega⟩
      have e1 : r9_KB m1 (n' + 1) (n33 + 1) m2 = z_it (f9_expression_L3 m1) (n' + 1) (1, m3) := by
        unfold r9_KB r9_go
        rw [r9_L33n hk hm1 i2 (Or.inl n41), Option.bind_some, hr]
        rfl
      rw [e1]
      have fall : zk (sR c0) m m3 := zk_t f2 f3
      have ell : l.length = l0.length + pp.length := by rw [hl, List.length_append, List.length_map]
      have cdl : r9_cd C l m m3 := by
        rw [hl]
        exact r9_cd_t cd2 cd3
      by_cases c4 : t < 400
      · have i3 := b1 c4
        rw [x_t_ok rfl c4, x_bd_0] at hx
        rw [show C + l0.length + pp.length = C + l.length by omega] at i3
        rw [r9_step m1 n' m3 i3.2.2.2.2.2.2.2.2.1]
        have hop : r9_pp (if v + 1 = 2 then 0 else 1) (qk_G (K t)) := by
          unfold r9_pp
          rcases hv with ⟨rfl, rfl, rfl, rfl⟩ | ⟨rfl, rfl, rfl, rfl⟩ <;> rcases c with c | c <;> rw [c] <;> decide
        refine hu (t + 1) (C + l.length) n' z_fu (qk_G (K t) :: w) m3 Q i3 (by show w.length + 1 + v ≤ _; omega) ?_ (by omega) (by show 402 ≤ 5000 + (t + 1); omega) ?_ ?_
        · rcases hv with ⟨rfl, rfl, rfl, rfl⟩ | ⟨rfl, rfl, rfl, rfl⟩
          · exact Or.inl rfl
          · refine Or.inr (Or.inl ⟨rfl, Or.inr ⟨qk_G (K t), w, rfl, Or.inr ⟨rfl, ?_⟩⟩⟩)
            rcases c with c | c <;> rw [c] <;> decide
        · intro t2 l2 m4 pp2 l02 n2 n332 hs2 hl2 hpd2 i4 f4 cd4 hn2 hn332
          rw [hs2, x_bd_0] at hx
          have hgd := hg (t + 1) (by omega)
          rw [hs2] at hgd
          have g1 : t + 1 < t2 := (hgd.1 rfl).1
          rw [hx] at hS hF
          refine r9_lpS hk hm1 hv hu hg hlw hbw nn t2 (l ++ (l2 ++ [(if K t = ka then ia else ia + 1, 0)])) (l ++ l02) (pp2 ++ [qk_G (K t)]) m4 n2 n332 (by omega) ?_ ⟨?_, fun k hk' => ?_⟩ ?_ (zk_t fall f4) (r9_cd_t cdl cd4) hn2 hn332 hS hF
          · rw [hl2, List.map_append, ← hit]
            simp only [List.append_assoc, List.map_cons, List.map_nil]
          · rw [List.length_append]
            have := hpd2.1
            show pp2.length + 1 ≤ v + 1
            omega
          · rcases List.mem_append.mp hk' with q | q
            · have := hpd2.2 k q
              unfold r9_pp at this ⊢
              rcases hv with ⟨rfl, rfl, rfl, rfl⟩ | ⟨rfl, rfl, rfl, rfl⟩
              · rw [if_neg (by omega)] at this ⊢; exact this
              · rw [if_neg (by omega)] at this
                rw [if_pos rfl]
                omega
            · rw [List.mem_singleton.mp q]; exact hop
          · rw [List.append_assoc, List.length_append, ← Nat.add_assoc]
            exact i4
        · intro F t2 l2 m4 hs2 cF hft
          rw [hs2, x_bd_F cF] at hx
          exact hF F t2 [] m4 hx cF ⟨zk_t fall hft.1, hft.2⟩
      · obtain ⟨v1, v2⟩ := b2 c4
        rw [x_t_2 rfl c4, x_bd_F (by omega)] at hx
        rw [r9_stepF m1 n' m3 (by rw [v1]; decide)]
        exact ⟨_, rfl, hF 2 t [] m3 hx (by omega) ⟨fall, v1, v2⟩⟩
    · have hx : x_lp K ka kb ia u (nn + 1) t l = (0, t, l) := by rw [x_lp, if_neg c]
      exact hS t l m2 pp l0 n' n33 hx hl hpd i2 f2 cd2 hn' hn33
theorem r9_okS {v ka kb ia : Nat} {u : Nat → qX} (hk : r9_kk K e) (hm1 : m1.1 9 0 12 = nI 0) (hv : v = 0 ∧ ka = 42 ∧ kb = 47 ∧ ia = 4 ∨ v = 1 ∧ ka = 43 ∧ kb = 45 ∧ ia = 2) (hu : r9_ok m1 K V S e c0 v d u) (hg : ∀ t, t ≤ 400 → x_g 15 t (u t)) : r9_ok m1 K V S e c0 (v + 1) d (x_seq K ka kb ia u) := by
  intro t C n n8 w m Q h hl hlv hn hn8 hS hF
  have ht := h.1
  have he := hk.1
  unfold x_seq at hS hF
  refine hu t C n n8 w m Q h (by omega) ?_ hn hn8 ?_ ?_
  · rcases hv with ⟨rfl, rfl, rfl, rfl⟩ | ⟨rfl, rfl, rfl, rfl⟩
    · exact Or.inl rfl
    · rcases hlv with q | ⟨q, _⟩ | ⟨_, q⟩
      · omega
      · omega
      · refine Or.inr (Or.inl ⟨rfl, ?_⟩)
        rcases q with q | ⟨k, w', q1, q2⟩
        · exact Or.inl q
        · exact Or.inr ⟨k, w', q1, Or.inl (by omega)⟩
  · intro t1 l1 m2 pp l0 n' n33 hs1 hl1 hpd i2 f2 cd2 hn' hn33
    have hgd := hg t (by omega)
    rw [hs1] at hgd hS hF
    have g1 : t < t1 := (hgd.1 rfl).1
    rw [x_bd_0] at hS hF
    refine r9_lpS hk hm1 hv hu hg hl hlv 400 t1 l1 l0 pp m2 n' n33 (by omega) hl1 ⟨by have := hpd.1; omega, fun k hk' => ?_⟩ i2 f2 cd2 hn' hn33 hS hF
    have := hpd.2 k hk'
    unfold r9_pp at this ⊢
    rcases hv with ⟨rfl, rfl, rfl, rfl⟩ | ⟨rfl, rfl, rfl, rfl⟩
    · rw [if_neg (by omega)] at this ⊢; exact this
    · rw [if_neg (by omega)] at this
      rw [if_pos rfl]
      omega
  · intro F t1 l1 m2 hs1 cF hft
    rw [hs1, x_bd_F cF] at hF
    exact hF F t1 [] m2 rfl cF hft
/-- a sum -/
theorem r9_sum (hk : r9_kk K e) (hV : ∀ j, K j = 3 → V j < 10000) (hm1 : m1.1 9 0 12 = nI 0) : ∀ (n d : Nat), n + d = 9 → d ≤ 6 → r9_ok m1 K V S e c0 2 d (x_sum K V n d) ∧ ∀ t t' l, t ≤ 400 → x_sum K V n d t = (0, t', l) → K t' ≠ 43 ∧ K t' ≠ 45 ∧ K t' ≠ 42 ∧ K t' ≠ 47
  | 0, d, h, hd => by omega
  | n + 1, d, h, hd => by
    have ih : d < 6 → _ := fun cd => r9_sum hk hV hm1 n (d + 1) (by omega) (by omega)
    have hs : d < 6 → ∀ t, t ≤ 400 → x_g 15 t (x_sum K V n (d + 1) t) := fun cd t ht => x_g_m (x_sum_g hV n (d + 1) (by omega) (by omega) t ht) (by omega)
    have hs' : d < 6 → ∀ t, t ≤ 400 → x_g (13 - 2 * d) t (x_sum K V n (d + 1) t) := fun cd t ht => x_g_m (x_sum_g hV n (d + 1) (by omega) (by omega) t ht) (by omega)
    have hug : ∀ t, t ≤ 400 → x_g (13 - 2 * d) t (x_unit K V (x_sum K V n) d t) := fun t ht => x_unit_g hV (by omega) hs' ht
    have hug' : ∀ t, t ≤ 400 → x_g 15 t (x_unit K V (x_sum K V n) d t) := fun t ht => x_g_m (hug t ht) (by omega)
    have hpg : ∀ t, t ≤ 400 → x_g 15 t (x_prod K V (x_sum K V n) d t) := fun t ht => x_g_m (x_seq_g (by omega) (by omega) hug ht) (by omega)
    have hu : r9_ok m1 K V S e c0 0 d (x_unit K V (x_sum K V n) d) := r9_okU hk hm1 hd (fun cd => (ih cd).1) (fun cd => (ih cd).2) hs
    have hp : r9_ok m1 K V S e c0 1 d (x_prod K V (x_sum K V n) d) := r9_okS hk hm1 (Or.inl ⟨rfl, rfl, rfl, rfl⟩) hu hug'
    refine ⟨r9_okS hk hm1 (Or.inr ⟨rfl, rfl, rfl, rfl⟩) hp hpg, fun t t' l ht hq => ?_⟩
    have pe : ∀ t t' l, t ≤ 400 → x_prod K V (x_sum K V n) d t = (0, t', l) → (K t' ≠ 42 ∧ K t' ≠ 47) := fun t t' l ht hq => (x_seq_e (P := fun _ => True) hug' (fun _ _ _ _ _ => trivial) ht hq).2
    obtain ⟨q1, q2, q3⟩ := x_seq_e (P := fun k => k ≠ 42 ∧ k ≠ 47) (K := K) (ka := 43) (kb := 45) (ia := 2) hpg pe ht hq
    exact ⟨q2, q3, q1⟩
/-- the reference's expression -/
theorem p9_expression (hk : r9_kk K e) (hV : ∀ j, K j = 3 → V j < 10000) (h : r9_in K V S e c0 t 0 [] C (z_sI m 9 0 44 0)) : zw (f9_expression m) fun m' => zk (sR c0) m m' ∧ (∀ t' l, x_sum K V 9 0 t = (0, t', l) → r9_in K V S e c0 t' 0 [] (C + l.length) m' ∧ r9_cd C l m m') ∧ (∀ F t' l, x_sum K V 9 0 t = (F, t', l) → F ≠ 0 → m'.1 9 0 13 = nI F ∧ m'.1 9 0 14 = nI (S t')) := by
  obtain ⟨M, hM⟩ : ∃ M, M = z_sI m 9 0 44 0 := ⟨_, rfl⟩
  rw [← hM] at h
  have fM : zk (sR c0) m M := by rw [hM]; exact zk_s (zk_r m) (by omega)
  have e141 : M.1 141 0 = m.1 141 0 := by rw [hM]; funext i; rw [z_sI_1, if_neg (by omega)]
  have e142 : M.1 142 0 = m.1 142 0 := by rw [hM]; funext i; rw [z_sI_1, if_neg (by omega)]
  have M12 : M.1 9 0 12 = nI 0 := h.2.2.2.2.2.2.2.1
  have M13 : M.1 9 0 13 = 0 := h.2.2.2.2.2.2.2.2.1
  have ht := h.1
  have he := hk.1
  obtain ⟨hok, hend⟩ := r9_sum (S := S) (e := e) (c0 := c0) (m1 := M) hk hV M12 9 0 rfl (by omega)
  have key : zw (r9_KU M 4999 z_fu M) fun r => zk (sR c0) m (Sum.elim id id r) ∧ (∀ t' l, x_sum K V 9 0 t = (0, t', l) → r9_in K V S e c0 t' 0 [] (C + l.length) (Sum.elim id id r) ∧ r9_cd C l m (Sum.elim id id r)) ∧ (∀ F t' l, x_sum K V 9 0 t = (F, t', l) → F ≠ 0 → (Sum.elim id id r).1 9 0 13 = nI F ∧ (Sum.elim id id r).1 9 0 14 = nI (S t')) := by
    refine hok t C 4999 z_fu [] M (fun m' => zk (sR c0) m m' ∧ (∀ t' l, x_sum K V 9 0 t = (0, t', l) → r9_in K V S e c0 t' 0 [] (C + l.length) m' ∧ r9_cd C l m m') ∧ (∀ F t' l, x_sum K V 9 0 t = (F, t', l) → F ≠ 0 → m'.1 9 0 13 = nI F ∧ m'.1 9 0 14 = nI (S t'))) h (by show 0 + 2 ≤ _; omega) (Or.inr (Or.inr ⟨rfl, Or.inl rfl⟩)) (by omega) (by show 402 ≤ 5000 + t; omega) ?_ ?_
    · intro t' l m' pp l0 n' n33 hs hl hpd i2 f2 cd2 hn' hn33
      have ht' : t' ≤ e := i2.1
      obtain ⟨o1, o2, o3, o4⟩ := hend t t' l (by omega) hs
      obtain ⟨n33, rfl⟩ : ∃ k, n33 = k + 1 := ⟨n33 - 1, by omega⟩
      obtain ⟨r, hr, m3, rfl, f3, b1, _⟩ := r9_Tno hk M12 i2 o1 o2 o3 o4 hpd.2 (Or.inl rfl)
      obtain ⟨i3, cd3⟩ := b1 rfl
      have ell : l.length = l0.length + pp.length := by rw [hl, List.length_append, List.length_map]
      refine ⟨.inr m3, ?_, zk_t fM (zk_t f2 f3), fun t2 l2 hq => ?_, fun F t2 l2 hq cF => ?_⟩
      · unfold r9_KB r9_go
        rw [r9_L33n hk M12 i2 (Or.inr rfl), Option.bind_some, hr]
        rfl
      · rw [hs] at hq
        have q1 : t' = t2 := congrArg (fun r => r.2.1) hq
        have q2 : l = l2 := congrArg (fun r => r.2.2) hq
        subst q1
        subst q2
        rw [show C + l0.length + pp.length = C + l.length by omega] at i3
        refine ⟨i3, ?_⟩
        rw [hl]
        exact r9_cd_t (r9_cd_0 e141 e142 cd2) cd3
      · rw [hs] at hq
        exact absurd (congrArg Prod.fst hq).symm cF
    · intro F t' l m' hs cF hft
      refine ⟨zk_t fM hft.1, fun t2 l2 hq => ?_, fun F2 t2 l2 hq _ => ?_⟩
      · rw [hs] at hq
        exact absurd (congrArg Prod.fst hq) cF
      · rw [hs] at hq
        have q0 : F = F2 := congrArg Prod.fst hq
        have q1 : t' = t2 := congrArg (fun r => r.2.1) hq
        subst q0
        subst q1
        exact hft.2
  unfold f9_expression
  simp only [z_let]
  rw [← hM, show z_fu = 4999 + 1 from rfl, r9_step M 4999 M M13]
  refine zw_b key ?_
  rintro r hq
  cases r with
  | inl x => exact zw_some.mpr hq
  | inr x => exact zw_some.mpr hq
theorem p9_expressionF (h : ¬ m.1 9 0 13 = 0) : f9_expression m = some (z_sI m 9 0 44 0) := by
  unfold f9_expression
  simp only [z_let]
  rw [show z_fu = 4999 + 1 from rfl, r9_stepF _ 4999 _ (by rw [z_sI_1, if_neg (by omega)]; exact h)]
  rfl
end
