/-! READ XIX: the reference reads terms: behind a unit -/
section
variable {K V S : Nat → Nat} {e t k d F C c0 : Nat} {m m' m1 m2 m3 : zMem} {l l' : List qI} {w pp : List Nat} {a : Int32}
theorem r9_cd_t {l1 : List qI} (h : r9_cd C l m m2) (h' : r9_cd (C + l.length) l1 m2 m3) : r9_cd C (l ++ l1) m m3 := ⟨q_ms_app (q_ms_cong (fun i h1 h2 => h'.2 i h2) h.1) h'.1, fun j hj => by
    obtain ⟨a1, a2⟩ := h'.2 j (by omega)
    obtain ⟨b1, b2⟩ := h.2 j hj
    exact ⟨by rw [a1, b1], by rw [a2, b2]⟩⟩
theorem r9_cd_0 (h1 : m2.1 141 0 = m.1 141 0) (h2 : m2.1 142 0 = m.1 142 0) (h : r9_cd C l m2 m3) : r9_cd C l m m3 := ⟨h.1, fun j hj => by rw [← h1, ← h2]; exact h.2 j hj⟩
theorem r9_cd_f (h1 : m3.1 141 0 = m2.1 141 0) (h2 : m3.1 142 0 = m2.1 142 0) (h : r9_cd C l m m2) : r9_cd C l m m3 := ⟨by rw [h1, h2]; exact h.1, fun j hj => by rw [h1, h2]; exact h.2 j hj⟩
def r9_X (f : Nat) (m : zMem) : Option ((Int32 × zMem) ⊕ ((zMem) ⊕ (zMem))) := (f9_comesOut (nI f) m).bind (fun qm82 => if z_in (qm82.1 9 0 11) 403 = true then if z_in (qm82.1 9 0 44) 64 = true then z_let (z_sI qm82 143 0 (qm82.1 9 0 44).toNatClampNeg (qm82.1 105 0 (qm82.1 9 0 11).toNatClampNeg)) fun m85 => z_let (z_sI m85 9 0 44 ((m85.1 9 0 44) + (1 : Int32))) fun m88 => (f9_goesOn m88).bind (fun qm90 => some (.inl ((1 : Int32), qm90))) else none else none)
theorem r9_T_op (hk : r9_kk K e) (ht : t ≤ e) (htk : r9_tk K V S e m) (h11 : m.1 9 0 11 = nI t) (h13 : m.1 9 0 13 = 0) (ho : (K t = 43 ∨ K t = 45) ∧ k = 0 ∨ (K t = 42 ∨ K t = 47) ∧ k = 1) : r9_T m1 m = r9_X k m := by
  have i8 := p9_is (a := 8) (c := 43) hk ht htk h11 h13 (by decide) rfl
  have i9 := p9_is (a := 9) (c := 45) hk ht htk h11 h13 (by decide) rfl
  have i10 := p9_is (a := 10) (c := 42) hk ht htk h11 h13 (by decide) rfl
  have i15 := p9_is (a := 15) (c := 47) hk ht htk h11 h13 (by decide) rfl
  unfold r9_T r9_X
  rw [i8, i9, i10, i15]
  rcases ho with ⟨c | c, rfl⟩ | ⟨c | c, rfl⟩ <;> rw [c] <;> rfl
def r9_Y (m1 m : zMem) : Option ((Int32 × zMem) ⊕ ((zMem) ⊕ (zMem))) := ((if (m1.1 9 0 12) < (m.1 9 0 12) then (f9_fail (1 : Int32) m).bind (fun qm68 => some qm68) else some m) : Option (zMem)).bind (fun jm70 => (f9_comesOut (0 : Int32) jm70).bind (fun qm71 => some (.inr (.inr qm71))))
theorem r9_T_no (hk : r9_kk K e) (ht : t ≤ e) (htk : r9_tk K V S e m) (h11 : m.1 9 0 11 = nI t) (h13 : m.1 9 0 13 = 0) (n1 : K t ≠ 43) (n2 : K t ≠ 45) (n3 : K t ≠ 42) (n4 : K t ≠ 47) : r9_T m1 m = r9_Y m1 m := by
  have i8 := p9_is (a := 8) (c := 43) hk ht htk h11 h13 (by decide) rfl
  have i9 := p9_is (a := 9) (c := 45) hk ht htk h11 h13 (by decide) rfl
  have i10 := p9_is (a := 10) (c := 42) hk ht htk h11 h13 (by decide) rfl
  have i15 := p9_is (a := 15) (c := 47) hk ht htk h11 h13 (by decide) rfl
  unfold r9_T r9_Y
  rw [i8, i9, i10, i15, if_neg n1, if_neg n2, if_neg n3, if_neg n4]
  rfl
theorem r9_T_F (h : ¬ m.1 9 0 13 = 0) : r9_T m1 m = r9_Y m1 m := by
  unfold r9_T r9_Y
  rw [p9_isF h, p9_isF h, p9_isF h, p9_isF h]
  rfl
/-- an operator: what is stronger comes out, it waits -/
theorem r9_Top {f : Nat} (hk : r9_kk K e) (h : r9_in K V S e c0 t d (pp ++ w) C m) (ho : (K t = 43 ∨ K t = 45) ∧ f = 0 ∨ (K t = 42 ∨ K t = 47) ∧ f = 1) (hp : ∀ k, k ∈ pp → r9_pp f k) (hb : r9_bl f w) (hw' : w.length + 1 ≤ 3 * d + 2) : zw (r9_T m1 m) fun r => ∃ m2, r = .inl (1, m2) ∧ zk (sR c0) m m2 ∧ r9_cd C (pp.map r9_oi) m m2 ∧ (t < 400 → r9_in K V S e c0 (t + 1) d (qk_G (K t) :: w) (C + pp.length) m2) ∧ (¬ t < 400 → m2.1 9 0 13 = nI 2 ∧ m2.1 9 0 14 = nI (S t)) := by
  obtain ⟨ht, hd, hw, hv, hC, hc0, h11, h12, h13, h44, hwt, h40, htk⟩ := id h
  have he := hk.1
  have hlen : (pp ++ w).length = pp.length + w.length := List.length_append
  rw [r9_T_op hk ht htk h11 h13 ho]
  unfold r9_X
  refine zw_b (p9_comesOut (f := f) hc0 (by omega) hp hb (by omega) (by omega) h44 hwt h40) ?_
  rintro m2 ⟨f2, g44, g40, gms, glow⟩
  have g11 : m2.1 9 0 11 = nI t := by rw [f2.1 _ _ _ (by omega)]; exact h11
  rw [g11, if_pos (y_in (by omega) (by omega)), y_cl (by omega), g44, if_pos (y_in (by omega) (by omega)), y_cl (by omega)]
  have htk2 : r9_tk K V S e m2 := htk.fr f2 (fun c k e => by omega)
  rw [(htk2 t ht).1]
  simp only [z_let]
  rw [show (z_sI m2 143 0 w.length (nI (qk_G (K t)))).1 9 0 44 = nI w.length by rw [z_sI_1, if_neg (by omega)]; exact g44, y_s1]
  obtain ⟨M, hM⟩ : ∃ M, M = z_sI (z_sI m2 143 0 w.length (nI (qk_G (K t)))) 9 0 44 (nI (w.length + 1)) := ⟨_, rfl⟩
  rw [← hM]
  have fM : zk (fun c i k => (c = 9 ∧ i = 0 ∧ k = 44) ∨ (c = 143 ∧ k = w.length)) m2 M := by rw [hM]; exact zk_s (zk_s (zk_r m2) (by omega)) (by omega)
  have a1 : M.1 9 0 44 = nI (w.length + 1) := by rw [hM, z_sI_1, if_pos ⟨rfl, rfl, rfl⟩]
  have a2 : M.1 143 0 w.length = nI (qk_G (K t)) := by rw [hM, z_sI_1, if_neg (by omega), z_sI_1, if_pos ⟨rfl, rfl, rfl⟩]
  clear hM
  refine zw_b (p9_goesOn he ht (htk2.fr fM (fun c k e => by omega)) (by rw [fM.1 _ _ _ (by omega)]; exact g11) (by rw [fM.1 _ _ _ (by omega), f2.1 _ _ _ (by omega)]; exact h13)) ?_
  rintro m3 ⟨f3, g1, g2⟩
  have fall : zk (sR c0) m m3 := zk_t (zk_OR f2) (zk_t (zk_m fM (fun c i k e => by omega)) (zk_GR f3))
  have e141 : m3.1 141 0 = m2.1 141 0 := by funext i; rw [f3.1 _ _ _ (by omega), fM.1 _ _ _ (by omega)]
  have e142 : m3.1 142 0 = m2.1 142 0 := by funext i; rw [f3.1 _ _ _ (by omega), fM.1 _ _ _ (by omega)]
  refine zw_some.mpr ⟨m3, rfl, fall, r9_cd_f e141 e142 ⟨gms, glow⟩, fun c4 => ⟨?_, hd, hw', fun k hk' => ?_, ?_, hc0, (g1 c4).1, ?_, (g1 c4).2, ?_, ⟨?_, ?_⟩, ?_, htk.R fall⟩, g2⟩
  · exact hk.2.2 t ht (by omega) c4
  · rcases List.mem_cons.mp hk' with q | q
    · refine Or.inr ?_
      rw [q]
      unfold r9_op
      rcases ho with ⟨c | c, _⟩ | ⟨c | c, _⟩ <;> rw [c] <;> decide
    · exact hv k (List.mem_append_right _ q)
  · show c0 ≤ C + pp.length ∧ C + pp.length + (w.length + 1) ≤ c0 + (t + 1)
    omega
  · rw [f3.1 _ _ _ (by omega), fM.1 _ _ _ (by omega), f2.1 _ _ _ (by omega)]; exact h12
  · rw [f3.1 _ _ _ (by omega)]; exact a1
  · rw [f3.1 _ _ _ (by omega)]; exact a2
  · refine qk_wt_u (fun i hi => ?_) (qk_wt_tl hwt)
    rw [f3.1 _ _ _ (by omega), fM.1 _ _ _ (by omega), f2.1 _ _ _ (by omega)]
  · rw [f3.1 _ _ _ (by omega), fM.1 _ _ _ (by omega)]; exact g40
/-- no operator: the term's end, or a ) is wanting -/
theorem r9_Tno (hk : r9_kk K e) (hm1 : m1.1 9 0 12 = nI 0) (h : r9_in K V S e c0 t d (pp ++ w) C m) (n1 : K t ≠ 43) (n2 : K t ≠ 45) (n3 : K t ≠ 42) (n4 : K t ≠ 47) (hp : ∀ k, k ∈ pp → r9_pp 0 k) (hb : r9_bl 0 w) : zw (r9_T m1 m) fun r => ∃ m2, r = .inr (.inr m2) ∧ zk (sR c0) m m2 ∧ (d = 0 → r9_in K V S e c0 t 0 w (C + pp.length) m2 ∧ r9_cd C (pp.map r9_oi) m m2) ∧ (d ≠ 0 → m2.1 9 0 13 = nI 1 ∧ m2.1 9 0 14 = nI (S t)) := by
  obtain ⟨ht, hd, hw, hv, hC, hc0, h11, h12, h13, h44, hwt, h40, htk⟩ := id h
  have he := hk.1
  have hlen : (pp ++ w).length = pp.length + w.length := List.length_append
  rw [r9_T_no hk ht htk h11 h13 n1 n2 n3 n4]
  unfold r9_Y
  rw [hm1, h12]
  by_cases c : d = 0
  · subst c
    rw [if_neg (show ¬ nI 0 < nI 0 by decide), Option.bind_some]
    refine zw_b (p9_comesOut (f := 0) hc0 (by omega) hp hb (by omega) (by omega) h44 hwt h40) ?_
    rintro m2 ⟨f2, g44, g40, gms, glow⟩
    refine zw_some.mpr ⟨m2, rfl, zk_OR f2, fun _ => ⟨⟨ht, hd, by omega, fun k hk' => hv k (List.mem_append_right _ hk'), by omega, hc0, ?_, ?_, ?_, g44, ?_, g40, htk.fr f2 (fun c k e => by omega)⟩, gms, glow⟩, fun q => absurd rfl q⟩
    · rw [f2.1 _ _ _ (by omega)]; exact h11
    · rw [f2.1 _ _ _ (by omega)]; exact h12
    · rw [f2.1 _ _ _ (by omega)]; exact h13
    · exact qk_wt_u (fun i hi => by rw [f2.1 _ _ _ (by omega)]) (qk_wt_tl hwt)
  · rw [if_pos (nI_lt (by omega) (by omega))]
    obtain ⟨m2, hm2, f2, g1, g2⟩ := p9_fail (F := 1) (Or.inl rfl) he ht htk h11 h13
    rw [show (1 : Int32) = nI 1 from rfl, hm2, Option.bind_some, Option.bind_some]
    refine zw_b (p9_comesOut (f := 0) (pp := pp) (w := w) (C := C) hc0 (by omega) hp hb (by omega) (by omega) (by rw [f2.1 _ _ _ (by omega)]; exact h44) (qk_wt_u (fun i hi => by rw [f2.1 _ _ _ (by omega)]) hwt) (by rw [f2.1 _ _ _ (by omega)]; exact h40)) ?_
    rintro m3 ⟨f3, _⟩
    exact zw_some.mpr ⟨m3, rfl, zk_t (zk_FR f2) (zk_OR f3), fun q => absurd q c, fun _ => ⟨by rw [f3.1 _ _ _ (by omega)]; exact g1, by rw [f3.1 _ _ _ (by omega)]; exact g2⟩⟩
/-- with a FAULT -/
theorem r9_TF (hF : F = 1 ∨ F = 2) (h13 : m.1 9 0 13 = nI F) (hw : w.length ≤ 30) (hv : ∀ k, k ∈ w → k = 6 ∨ r9_op k) (hc0 : c0 ≤ 420) (hC : c0 ≤ C ∧ C + w.length ≤ c0 + 420) (h44 : m.1 9 0 44 = nI w.length) (hwt : qk_wt (m.1 143 0) w) (h40 : m.1 9 0 40 = nI C) : zw (r9_T m1 m) fun r => ∃ m2, r = .inr (.inr m2) ∧ zk (sO c0) m m2 := by
  obtain ⟨y1, y2⟩ := y_F hF
  rw [r9_T_F (by rw [h13]; exact y2)]
  unfold r9_Y
  rw [p9_failF (by rw [h13]; exact y1), Option.bind_some, ite_self, Option.bind_some]
  obtain ⟨pp, w', rfl, hp, hb⟩ := r9_split w hv
  have hlen : (pp ++ w').length = pp.length + w'.length := List.length_append
  refine zw_b (p9_comesOut (f := 0) hc0 (by omega) hp hb (by omega) (by omega) h44 hwt h40) ?_
  rintro m2 ⟨f2, _⟩
  exact zw_some.mpr ⟨m2, rfl, f2⟩
theorem r9_L33n {n33 : Nat} (hk : r9_kk K e) (hm1 : m1.1 9 0 12 = nI 0) (h : r9_in K V S e c0 t d w C m) (c : K t ≠ 41 ∨ d = 0) : z_it (f9_expression_L33 m1) (n33 + 1) m = some m := by
  obtain ⟨ht, hd, hw, hv, hC, hc0, h11, h12, h13, h44, hwt, h40, htk⟩ := id h
  refine z_it_d ?_
  unfold f9_expression_L33
  rw [p9_is (a := 7) (c := 41) hk ht htk h11 h13 (by decide) rfl, Option.bind_some]
  by_cases c1 : K t = 41
  · have c0 : d = 0 := c.resolve_left (fun q => q c1)
    subst c0
    rw [if_pos c1, if_neg n01, hm1, h12, if_neg (show ¬ nI 0 < nI 0 by decide)]
  · rw [if_neg c1, if_pos rfl]
/-- one ) -/
theorem r9_L33s (hk : r9_kk K e) (hm1 : m1.1 9 0 12 = nI 0) (h : r9_in K V S e c0 t (d + 1) (pp ++ 6 :: w) C m) (c : K t = 41) (hp : ∀ k, k ∈ pp → r9_pp 0 k) (hw' : w.length ≤ 3 * d + 2) : zw (f9_expression_L33 m1 m) fun r => ∃ m2, r = .inl m2 ∧ zk (sR c0) m m2 ∧ r9_cd C (pp.map r9_oi) m m2 ∧ (t < 400 → r9_in K V S e c0 (t + 1) d w (C + pp.length) m2) ∧ (¬ t < 400 → m2.1 9 0 13 = nI 2 ∧ m2.1 9 0 14 = nI (S t) ∧ m2.1 9 0 44 = nI w.length ∧ qk_wt (m2.1 143 0) w ∧ m2.1 9 0 40 = nI (C + pp.length) ∧ (c0 ≤ C + pp.length ∧ C + pp.length + w.length ≤ c0 + 420) ∧ (∀ k, k ∈ w → k = 6 ∨ r9_op k)) := by
  obtain ⟨ht, hd, hw, hv, hC, hc0, h11, h12, h13, h44, hwt, h40, htk⟩ := id h
  have he := hk.1
  have hlen : (pp ++ 6 :: w).length = pp.length + (w.length + 1) := List.length_append
  unfold f9_expression_L33
  rw [p9_is (a := 7) (c := 41) hk ht htk h11 h13 (by decide) rfl, Option.bind_some, if_pos c, if_neg n01, hm1, h12, if_pos (nI_lt (by omega) (by omega))]
  refine zw_b (p9_comesOut (f := 0) hc0 (by omega) hp (Or.inr ⟨6, w, rfl, Or.inl rfl⟩) (by omega) (by omega) h44 hwt h40) ?_
  rintro m2 ⟨f2, g44, g40, gms, glow⟩
  have g44' : m2.1 9 0 44 = nI (w.length + 1) := g44
  have g12 : m2.1 9 0 12 = nI (d + 1) := by rw [f2.1 _ _ _ (by omega)]; exact h12
  simp only [z_let]
  rw [g44', nI_pred, show (z_sI m2 9 0 44 (nI w.length)).1 9 0 12 = nI (d + 1) by rw [z_sI_1, if_neg (by omega)]; exact g12, nI_pred]
  obtain ⟨M, hM⟩ : ∃ M, M = z_sI (z_sI m2 9 0 44 (nI w.length)) 9 0 12 (nI d) := ⟨_, rfl⟩
  rw [← hM]
  have fM : zk (fun c i k => c = 9 ∧ i = 0 ∧ (k = 44 ∨ k = 12)) m2 M := by rw [hM]; exact zk_s (zk_s (zk_r m2) (by omega)) (by omega)
  have a1 : M.1 9 0 44 = nI w.length := by rw [hM, z_sI_1, if_neg (by omega), z_sI_1, if_pos ⟨rfl, rfl, rfl⟩]
  have a2 : M.1 9 0 12 = nI d := by rw [hM, z_sI_1, if_pos ⟨rfl, rfl, rfl⟩]
  clear hM
  have htk2 : r9_tk K V S e m2 := htk.fr f2 (fun c k e => by omega)
  refine zw_b (p9_goesOn he ht (htk2.fr fM (fun c k e => by omega)) (by rw [fM.1 _ _ _ (by omega), f2.1 _ _ _ (by omega)]; exact h11) (by rw [fM.1 _ _ _ (by omega), f2.1 _ _ _ (by omega)]; exact h13)) ?_
  rintro m3 ⟨f3, g1, g2⟩
  have fall : zk (sR c0) m m3 := zk_t (zk_OR f2) (zk_t (zk_m fM (fun c i k e => by omega)) (zk_GR f3))
  have e141 : m3.1 141 0 = m2.1 141 0 := by funext i; rw [f3.1 _ _ _ (by omega), fM.1 _ _ _ (by omega)]
  have e142 : m3.1 142 0 = m2.1 142 0 := by funext i; rw [f3.1 _ _ _ (by omega), fM.1 _ _ _ (by omega)]
  have b44 : m3.1 9 0 44 = nI w.length := by rw [f3.1 _ _ _ (by omega)]; exact a1
  have bwt : qk_wt (m3.1 143 0) w := by
    have hwt' : qk_wt (m.1 143 0) (6 :: w) := qk_wt_tl hwt
    refine qk_wt_u (fun i hi => ?_) hwt'.2
    rw [f3.1 _ _ _ (by omega), fM.1 _ _ _ (by omega), f2.1 _ _ _ (by omega)]
  have b40 : m3.1 9 0 40 = nI (C + pp.length) := by rw [f3.1 _ _ _ (by omega), fM.1 _ _ _ (by omega)]; exact g40
  have bv : ∀ k, k ∈ w → k = 6 ∨ r9_op k := fun k hk' => hv k (List.mem_append_right _ (List.mem_cons_of_mem _ hk'))
  refine zw_some.mpr ⟨m3, rfl, fall, r9_cd_f e141 e142 ⟨gms, glow⟩, fun c4 => ⟨hk.2.2 t ht (by omega) c4, by omega, hw', bv, by omega, hc0, (g1 c4).1, ?_, (g1 c4).2, b44, bwt, b40, htk.R fall⟩, fun c4 => ⟨(g2 c4).1, (g2 c4).2, b44, bwt, b40, by omega, bv⟩⟩
  rw [f3.1 _ _ _ (by omega)]; exact a2
/-! where a term ends -/
theorem x_lp_e {P : Nat → Prop} {ka kb ia : Nat} {u : Nat → qX} (hg : ∀ t, t ≤ 400 → x_g 15 t (u t)) (hu : ∀ t t' l, t ≤ 400 → u t = (0, t', l) → P (K t')) : ∀ (n t : Nat) (l : List qI) (t' : Nat) (l' : List qI), 401 ≤ n + t → t ≤ 400 → P (K t) → x_lp K ka kb ia u n t l = (0, t', l') → P (K t') ∧ K t' ≠ ka ∧ K t' ≠ kb
  | 0, t, l, t', l', h1, h2, _, _ => by omega
  | n + 1, t, l, t', l', h1, h2, hP, hq => by
    rw [x_lp] at hq
    by_cases c : K t = ka ∨ K t = kb
    · rw [if_pos c] at hq
      by_cases c4 : t < 400
      · rw [x_t_ok rfl c4, x_bd_0] at hq
        rcases h : u (t + 1) with ⟨F, t2, l2⟩
        rw [h] at hq
        by_cases cF : F = 0
        · subst cF
          rw [x_bd_0] at hq
          have hgd := hg (t + 1) (by omega)
          rw [h] at hgd
          have g1 : t + 1 < t2 := (hgd.1 rfl).1
          have g2 : t2 ≤ 400 := (hgd.1 rfl).2.1
          exact x_lp_e hg hu n t2 _ t' l' (by omega) g2 (hu _ _ _ (by omega) h) hq
        · rw [x_bd_F cF] at hq
          exact absurd (congrArg Prod.fst hq) cF
      · rw [x_t_2 rfl c4, x_bd_F (by omega)] at hq
        exact absurd (congrArg Prod.fst hq) (show ¬ 2 = 0 by omega)
    · rw [if_neg c] at hq
      have e : t = t' := congrArg (fun r => r.2.1) hq
      subst e
      exact ⟨hP, fun q => c (Or.inl q), fun q => c (Or.inr q)⟩
theorem x_seq_e {P : Nat → Prop} {ka kb ia : Nat} {u : Nat → qX} (hg : ∀ t, t ≤ 400 → x_g 15 t (u t)) (hu : ∀ t t' l, t ≤ 400 → u t = (0, t', l) → P (K t')) {t' : Nat} (ht : t ≤ 400) (hq : x_seq K ka kb ia u t = (0, t', l)) : P (K t') ∧ K t' ≠ ka ∧ K t' ≠ kb := by
  unfold x_seq at hq
  rcases h : u t with ⟨F, t1, l1⟩
  rw [h] at hq
  by_cases cF : F = 0
  · subst cF
    rw [x_bd_0] at hq
    have hgd := hg t ht
    rw [h] at hgd
    have g1 : t < t1 := (hgd.1 rfl).1
    have g2 : t1 ≤ 400 := (hgd.1 rfl).2.1
    exact x_lp_e hg hu 400 t1 l1 t' l (by omega) g2 (hu _ _ _ ht h) hq
  · rw [x_bd_F cF] at hq
    exact absurd (congrArg Prod.fst hq) cF
end
