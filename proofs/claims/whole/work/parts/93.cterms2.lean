/-! READ XVI: the class's loops over terms; sums -/
def g4_L (ka kb wa wb : Int32) (u : zMem → Option (Int32 × zMem)) : (Int32 × zMem) → Option ((Int32 × zMem) ⊕ ((zMem) ⊕ (Int32 × zMem))) := (z_u2 fun x6 xm7 => 
  (if x6 < (400 : Int32) then (f4_kind xm7).bind (fun q9 => (if q9 = ka then (f4_kind xm7).bind (fun q12 => ((if q12 = ka then some wa else some wb) : Option (Int32)).bind (fun j17 => (f4_kind xm7).bind (fun q18 => (f4_take q18 xm7).bind (z_u2 fun q20 qm21 => (if q20 = 0 then some (.inr (.inr ((0 : Int32), qm21))) else (u qm21).bind (z_u2 fun q24 qm25 => (if q24 = 0 then some (.inr (.inr ((0 : Int32), qm25))) else (f6_write (qm25.2.2 4 0 3) j17 qm25).bind (fun qm28 => some (.inl ((x6 + (1 : Int32)), qm28)))))))))) else (f4_kind xm7).bind (fun q30 => (if q30 = kb then (f4_kind xm7).bind (fun q33 => ((if q33 = ka then some wa else some wb) : Option (Int32)).bind (fun j38 => (f4_kind xm7).bind (fun q39 => (f4_take q39 xm7).bind (z_u2 fun q41 qm42 => (if q41 = 0 then some (.inr (.inr ((0 : Int32), qm42))) else (u qm42).bind (z_u2 fun q45 qm46 => (if q45 = 0 then some (.inr (.inr ((0 : Int32), qm46))) else (f6_write (qm46.2.2 4 0 3) j38 qm46).bind (fun qm49 => some (.inl ((x6 + (1 : Int32)), qm49)))))))))) else some (.inr (.inl xm7)))))) else some (.inr (.inl xm7))))
def g4_seq (ka kb wa wb : Int32) (u : zMem → Option (Int32 × zMem)) (μ : zMem) : Option (Int32 × zMem) :=
  (u μ).bind (z_u2 fun q1 qm2 => (if q1 = 0 then some ((0 : Int32), qm2) else (z_it (g4_L ka kb wa wb u) z_fu ((0 : Int32), qm2)).bind (Sum.elim (fun e51 => some ((1 : Int32), e51)) (z_u2 fun qr53 qr54 => some (qr53, qr54)))))
theorem g4_prod (fr : Int32 → zMem → Option (Int32 × zMem)) (a : Int32) : f4_readProduct fr a = g4_seq 42 47 (-13) (-14) (f4_readUnit fr a) := rfl
theorem g4_sum (fr : Int32 → zMem → Option (Int32 × zMem)) (a : Int32) : f4_readSum fr a = g4_seq 43 45 (-11) (-12) (f4_readProduct fr a) := rfl
section
variable {K V : Nat → Nat} {o t N k d F ka kb ia : Nat} {m m' : zMem} {l l' : List qI} {u : zMem → Option (Int32 × zMem)} {su : Nat → qX}
/-- behind the operator's TOKEN: one more, and its word -/
theorem p4_step {x : Int32} {c t1 N0 : Nat} {w : qI} (hx : x = q_wd w) (hu : c4_ok K V o u su) (hg : ∀ t, t ≤ 400 → x_g 15 t (su t)) (hN : N0 + l.length + 1 ≤ t1 + 4) (h : c4_in K V o t1 (N0 + l.length) m) (hcs : q_cs (m.1 29 o) N0 l) {Q : (Int32 × zMem) ⊕ (zMem ⊕ (Int32 × zMem)) → Prop}
    (hF : ∀ F t2 l2 m2, su t1 = (F, t2, l2) → F ≠ 0 → c4_post o N0 m (F, t2, ([] : List qI)) (0, m2) → Q (.inr (.inr (0, m2))))
    (hS : ∀ t2 l2 m2, su t1 = (0, t2, l2) → zk (sX o) m m2 → c4_in K V o t2 (N0 + (l ++ (l2 ++ [w])).length) m2 → q_cs (m2.1 29 o) N0 (l ++ (l2 ++ [w])) → (∀ a, a < N0 → m2.1 29 o a = m.1 29 o a) → Q (.inl (nI c + 1, m2))) :
    zw ((u m).bind (z_u2 fun q24 qm25 => (if q24 = 0 then some (.inr (.inr ((0 : Int32), qm25))) else (f6_write (qm25.2.2 4 0 3) x qm25).bind (fun qm28 => some (.inl ((nI c + (1 : Int32)), qm28)))))) Q := by
  have hz := hu t1 _ m h
  have hgd := hg t1 h.1
  rcases hq : su t1 with ⟨F, t2, l2⟩
  rw [hq] at hz hgd
  refine zw_b hz ?_
  rintro ⟨q, m1⟩ ⟨f1, p2, p3, p4⟩
  have f1' : zk (sX o) m m1 := f1
  rw [z_u2_ap]
  by_cases cF : F = 0
  · subst cF
    obtain ⟨a1, a2, a3, a4, a5⟩ := p3 rfl
    have a1' : q = 1 := a1
    subst a1'
    obtain ⟨g1, g2, g3, _⟩ := hgd.1 rfl
    have g1' : t1 < t2 := g1
    have g2' : t2 ≤ 400 := g2
    have g3' : t1 + l2.length ≤ t2 := g3
    have a3' : m1.1 6 o 9 = nI (N0 + l.length + l2.length) := a3
    rw [if_neg n01, f1'.2, h.2.2.1]
    refine zw_b (c6_write (by omega) a3') ?_
    rintro m2 ⟨f2, w2⟩
    obtain ⟨v1, v2, v3⟩ := w2 (by omega)
    have el : (l ++ (l2 ++ [w])).length = l.length + l2.length + 1 := by rw [List.length_append, List.length_append]; show l.length + (l2.length + 1) = _; omega
    have fall : zk (sX o) m m2 := zk_t f1' (zk_WX f2)
    refine zw_some.mpr (hS t2 l2 m2 hq fall (h.fr fall g2' (by rw [el]; omega) (by rw [f2.1 _ _ _ (by omega)]; exact p2) (by rw [f2.1 _ _ _ (by omega)]; exact a2) (by rw [v1, el]; congr 1; omega)) ?_ fun a ha => ?_)
    · refine q_cs_app (q_cs_cong (fun i h1 h2 => ?_) hcs) (q_cs_app (q_cs_cong (fun i h1 h2 => v3 i (by omega)) a4) ⟨?_, trivial⟩)
      · rw [v3 i (by omega), a5 i (by omega)]
      · rw [v2]; exact hx
    · rw [v3 a (by omega), a5 a (by omega)]
  · obtain ⟨b1, b2⟩ := p4 cF
    have b1' : q = 0 := b1
    subst b1'
    rw [if_pos rfl]
    exact zw_some.mpr (hF F t2 l2 m1 hq cF (c4_post_F (m2 := m) (hgd.2 cF).1 f1' p2 b2))
theorem p4_lp {wa wb : Int32} (hK : ∀ j, K j < 149) (hka : ka < 149) (hkb : kb < 149) (hne : kb ≠ ka) (hwa : wa = q_wd (ia, 0)) (hwb : wb = q_wd (ia + 1, 0)) (hu : c4_ok K V o u su) (hg : ∀ t, t ≤ 400 → x_g 15 t (su t)) : ∀ (n c t N0 f : Nat) (l : List qI) (m : zMem), c + n = 400 → n < f → c4_in K V o t (N0 + l.length) m → q_cs (m.1 29 o) N0 l → zw (z_it (g4_L (nI ka) (nI kb) wa wb u) f (nI c, m)) fun r => c4_post o N0 m (x_lp K ka kb ia su n t l) (Sum.elim (fun e => ((1 : Int32), e)) id r)
  | n, c, t, N0, 0, l, m, _, hf, _, _ => by omega
  | 0, c, t, N0, f + 1, l, m, hc, hf, h, hcs => by
    obtain ⟨ht, hN, h3, h4, h7, h9, h31, h33⟩ := id h
    have e : g4_L (nI ka) (nI kb) wa wb u (nI c, m) = some (.inr (.inl m)) := by
      unfold g4_L
      rw [z_u2_ap, show (400 : Int32) = nI 400 from rfl, if_neg (nI_nlt (by omega) (by omega))]
    exact ⟨_, z_it_d e, zk_r m, h4, fun _ => ⟨rfl, h7, h9, hcs, fun _ _ => rfl⟩, fun q => absurd rfl q⟩
  | n + 1, c, t, N0, f + 1, l, m, hc, hf, h, hcs => by
    obtain ⟨ht, hN, h3, h4, h7, h9, h31, h33⟩ := id h
    have go : ∀ {Q : zMem ⊕ (Int32 × zMem) → Prop}, zw (g4_L (nI ka) (nI kb) wa wb u (nI c, m)) (Sum.elim (fun s => zw (z_it (g4_L (nI ka) (nI kb) wa wb u) f s) Q) Q) → zw (z_it (g4_L (nI ka) (nI kb) wa wb u) (f + 1) (nI c, m)) Q := by
      rintro Q ⟨s, hs, hQ⟩
      cases s with
      | inl s' => rw [z_it_s hs]; exact hQ
      | inr e => exact ⟨e, z_it_d hs, hQ⟩
    have hkd : f4_kind m = some (nI (K t)) := by rw [p4_kind ht h4, h31 t (by omega)]
    have hKt := hK t
    -- the two operators alike
    have both : ∀ (w : Int32), (K t = ka ∨ K t = kb) → w = q_wd (if K t = ka then ia else ia + 1, 0) → zw (α := (Int32 × zMem) ⊕ (zMem ⊕ (Int32 × zMem))) ((f4_take (nI (K t)) m).bind (z_u2 fun q20 qm21 => (if q20 = 0 then some (.inr (.inr ((0 : Int32), qm21))) else (u qm21).bind (z_u2 fun q24 qm25 => (if q24 = 0 then some (.inr (.inr ((0 : Int32), qm25))) else (f6_write (qm25.2.2 4 0 3) w qm25).bind (fun qm28 => some (.inl ((nI c + (1 : Int32)), qm28)))))))) (Sum.elim (fun s => zw (z_it (g4_L (nI ka) (nI kb) wa wb u) f s) fun r => c4_post o N0 m (x_lp K ka kb ia su (n + 1) t l) (Sum.elim (fun e => ((1 : Int32), e)) id r)) fun r => c4_post o N0 m (x_lp K ka kb ia su (n + 1) t l) (Sum.elim (fun e => ((1 : Int32), e)) id r)) := by
      intro w ho hw
      have hl : x_lp K ka kb ia su (n + 1) t l = x_bd (x_t K (K t) t) fun t1 _ => x_bd (su t1) fun t2 l2 => x_lp K ka kb ia su n t2 (l ++ (l2 ++ [(if K t = ka then ia else ia + 1, 0)])) := by rw [x_lp, if_pos ho]
      refine c4_take (K := K) ht h4 h7 (h31 t (by omega)) hKt hKt ?_ ?_
      · intro _ c4 m1 f1 g4 g7
        rw [z_u2_ap, if_neg n01]
        rw [x_t_ok rfl c4, x_bd_0] at hl
        have i1 : c4_in K V o (t + 1) (N0 + l.length) m1 := h.fr (zk_TX f1) (by omega) (by omega) g4 g7 (by rw [f1.1 _ _ _ (by omega)]; exact h9)
        refine p4_step hw hu hg (by omega) i1 (q_cs_cong (fun i _ _ => f1.1 _ _ _ (by omega)) hcs) ?_ ?_
        · intro F t2 l2 m2 hq cF hp
          rw [hq, x_bd_F cF] at hl
          rw [hl]
          exact ⟨zk_t (zk_TX f1) hp.1, hp.2.1, fun q => absurd q cF, hp.2.2.2⟩
        · intro t2 l2 m2 hq f2 i2 hcs2 hlow
          rw [hq, x_bd_0] at hl
          rw [hl, Sum.elim_inl, y_s1]
          refine zw_mono (p4_lp hK hka hkb hne hwa hwb hu hg n (c + 1) t2 N0 f _ m2 (by omega) (by omega) i2 hcs2) ?_
          rintro r ⟨r1, r2, r3, r4⟩
          refine ⟨zk_t (zk_TX f1) (zk_t f2 r1), r2, fun q => ?_, r4⟩
          obtain ⟨s1, s2, s3, s4, s5⟩ := r3 q
          exact ⟨s1, s2, s3, s4, fun a ha => by rw [s5 a ha, hlow a ha, f1.1 _ _ _ (by omega)]⟩
      · intro F m1 hx hF f1 g4 g7
        rw [z_u2_ap, if_pos rfl]
        rw [hx, x_bd_F (by omega)] at hl
        rw [hl]
        exact zw_some.mpr (c4_post_F (m2 := m) hF (zk_TX f1) g4 g7)
    refine go ?_
    unfold g4_L
    rw [z_u2_ap, show (400 : Int32) = nI 400 from rfl, if_pos (nI_lt (by omega) (by omega)), hkd, Option.bind_some]
    by_cases ca : K t = ka
    · rw [if_pos (show nI (K t) = nI ka by rw [ca]), Option.bind_some, if_pos (show nI (K t) = nI ka by rw [ca]), Option.bind_some, Option.bind_some]
      exact both wa (Or.inl ca) (by rw [if_pos ca]; exact hwa)
    · have na : ¬ nI (K t) = nI ka := by rw [y_eq (by omega) (by omega)]; exact ca
      rw [if_neg na, Option.bind_some]
      by_cases cb : K t = kb
      · rw [if_pos (show nI (K t) = nI kb by rw [cb]), Option.bind_some, if_neg na, Option.bind_some, Option.bind_some]
        exact both wb (Or.inr cb) (by rw [if_neg ca]; exact hwb)
      · rw [if_neg (show ¬ nI (K t) = nI kb by rw [y_eq (by omega) (by omega)]; exact cb)]
        have hl : x_lp K ka kb ia su (n + 1) t l = (0, t, l) := by rw [x_lp, if_neg (fun q => q.elim ca cb)]
        rw [hl]
        exact zw_some.mpr ⟨zk_r m, h4, fun _ => ⟨rfl, h7, h9, hcs, fun _ _ => rfl⟩, fun q => absurd rfl q⟩
theorem p4_seq {wa wb : Int32} (hK : ∀ j, K j < 149) (hka : ka < 149) (hkb : kb < 149) (hne : kb ≠ ka) (hwa : wa = q_wd (ia, 0)) (hwb : wb = q_wd (ia + 1, 0)) (hu : c4_ok K V o u su) (hg : ∀ t, t ≤ 400 → x_g 15 t (su t)) : c4_ok K V o (g4_seq (nI ka) (nI kb) wa wb u) (x_seq K ka kb ia su) := by
  intro t N m h
  unfold g4_seq x_seq
  have hz := hu t N m h
  have hgd := hg t h.1
  rcases hq : su t with ⟨F, t1, l1⟩
  rw [hq] at hz hgd
  refine zw_b hz ?_
  rintro ⟨q, m1⟩ ⟨f1, p2, p3, p4⟩
  have f1' : zk (sX o) m m1 := f1
  rw [z_u2_ap]
  by_cases cF : F = 0
  · subst cF
    obtain ⟨a1, a2, a3, a4, a5⟩ := p3 rfl
    have a1' : q = 1 := a1
    subst a1'
    obtain ⟨g1, g2, g3, _⟩ := hgd.1 rfl
    have g3' : t + l1.length ≤ t1 := g3
    have hN := h.2.1
    rw [if_neg n01, x_bd_0]
    refine zw_b (p4_lp hK hka hkb hne hwa hwb hu hg 400 0 t1 N z_fu l1 m1 (by omega) (by show 400 < 5000; omega) (h.fr f1' g2 (by omega) p2 a2 a3) a4) ?_
    rintro r hp
    have fin : c4_post o N m (x_lp K ka kb ia su 400 t1 l1) (Sum.elim (fun e => ((1 : Int32), e)) id r) := by
      obtain ⟨r1, r2, r3, r4⟩ := hp
      refine ⟨zk_t f1' r1, r2, fun q => ?_, r4⟩
      obtain ⟨s1, s2, s3, s4, s5⟩ := r3 q
      exact ⟨s1, s2, s3, s4, fun a ha => by rw [s5 a ha, a5 a ha]⟩
    cases r with
    | inl e => exact zw_some.mpr fin
    | inr e =>
      obtain ⟨x, y⟩ := e
      exact zw_some.mpr fin
  · obtain ⟨b1, b2⟩ := p4 cF
    have b1' : q = 0 := b1
    subst b1'
    rw [if_pos rfl, x_bd_F cF]
    exact zw_some.mpr (c4_post_F (m2 := m) (hgd.2 cF).1 f1' p2 b2)
theorem p4_sum (hK : ∀ j, K j < 149) (hV : ∀ j, K j = 3 → V j < 10000) : ∀ (n d : Nat), n + d = 9 → d ≤ 6 → c4_ok K V o (f4_rs n (nI d)) (x_sum K V n d)
  | 0, d, h, hd => by omega
  | n + 1, d, h, hd => by
    have hs : d < 6 → ∀ t, t ≤ 400 → x_g 15 t (x_sum K V n (d + 1) t) := fun cd t ht => x_g_m (x_sum_g hV n (d + 1) (by omega) (by omega) t ht) (by omega)
    have hs' : d < 6 → ∀ t, t ≤ 400 → x_g (13 - 2 * d) t (x_sum K V n (d + 1) t) := fun cd t ht => x_g_m (x_sum_g hV n (d + 1) (by omega) (by omega) t ht) (by omega)
    have hug : ∀ t, t ≤ 400 → x_g (13 - 2 * d) t (x_unit K V (x_sum K V n) d t) := fun t ht => x_unit_g hV (by omega) hs' ht
    have hu : c4_ok K V o (f4_readUnit (f4_rs n) (nI d)) (x_unit K V (x_sum K V n) d) := p4_unit hK hd (fun cd => p4_sum hK hV n (d + 1) (by omega) (by omega)) hs
    have hp : c4_ok K V o (f4_readProduct (f4_rs n) (nI d)) (x_prod K V (x_sum K V n) d) := p4_seq (ka := 42) (kb := 47) (ia := 4) hK (by omega) (by omega) (by omega) rfl rfl hu fun t ht => x_g_m (hug t ht) (by omega)
    have hpg : ∀ t, t ≤ 400 → x_g 15 t (x_prod K V (x_sum K V n) d t) := fun t ht => x_g_m (x_seq_g (by omega) (by omega) hug ht) (by omega)
    exact p4_seq (ka := 43) (kb := 45) (ia := 2) hK (by omega) (by omega) (by omega) rfl rfl hp hpg
end
