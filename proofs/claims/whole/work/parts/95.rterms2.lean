/-! READ XVIII: the reference reads terms: where a unit is wanted (r9_KU), behind a unit (r9_KB) -/
def r9_T (m1 : zMem) (e47 : zMem) : Option ((Int32 × zMem) ⊕ ((zMem) ⊕ (zMem))) := (f9_is (8 : Int32) e47).bind (fun q49 => ((if q49 = 0 then (f9_is (9 : Int32) e47).bind (fun q54 => (if q54 = 0 then (f9_is (10 : Int32) e47).bind (fun q57 => (if q57 = 0 then (f9_is (15 : Int32) e47).bind (fun q60 => (if q60 = 0 then some (0 : Int32) else some (1 : Int32))) else some (1 : Int32))) else some (1 : Int32))) else some (1 : Int32)) : Option (Int32)).bind (fun j63 => (if j63 = 0 then ((if (m1.1 9 0 12) < (e47.1 9 0 12) then (f9_fail (1 : Int32) e47).bind (fun qm68 => some qm68) else some e47) : Option (zMem)).bind (fun jm70 => (f9_comesOut (0 : Int32) jm70).bind (fun qm71 => some (.inr (.inr qm71)))) else (f9_is (10 : Int32) e47).bind (fun q73 => ((if q73 = 0 then (f9_is (15 : Int32) e47).bind (fun q78 => (if q78 = 0 then some (0 : Int32) else some (1 : Int32))) else some (1 : Int32)) : Option (Int32)).bind (fun j81 => (f9_comesOut j81 e47).bind (fun qm82 => if z_in (qm82.1 9 0 11) 403 = true then if z_in (qm82.1 9 0 44) 64 = true then z_let (z_sI qm82 143 0 (qm82.1 9 0 44).toNatClampNeg (qm82.1 105 0 (qm82.1 9 0 11).toNatClampNeg)) fun m85 => z_let (z_sI m85 9 0 44 ((m85.1 9 0 44) + (1 : Int32))) fun m88 => (f9_goesOn m88).bind (fun qm90 => some (.inl (j63, qm90))) else none else none))))))
def r9_U (m1 : zMem) (e28 : zMem) : Option ((Int32 × zMem) ⊕ ((zMem) ⊕ (zMem))) := (f9_unit e28).bind (fun qm30 => (if 0 < (qm30.1 9 0 13) then some (.inr (.inr qm30)) else (z_it (f9_expression_L33 m1) z_fu qm30).bind (r9_T m1)))
theorem r9_L3 (m1 m : zMem) : f9_expression_L3 m1 (1, m) = (if (m.1 9 0 13) = 0 then (z_it (f9_expression_L8) z_fu m).bind (r9_U m1) else some (.inr (.inl m))) := rfl
def r9_go (m1 : zMem) (n : Nat) (x : Option ((Int32 × zMem) ⊕ ((zMem) ⊕ (zMem)))) : Option (zMem ⊕ zMem) := x.bind (Sum.elim (fun s => z_it (f9_expression_L3 m1) n s) some)
def r9_KU (m1 : zMem) (n n8 : Nat) (m : zMem) : Option (zMem ⊕ zMem) := r9_go m1 n ((z_it f9_expression_L8 n8 m).bind (r9_U m1))
def r9_KB (m1 : zMem) (n n33 : Nat) (m : zMem) : Option (zMem ⊕ zMem) := r9_go m1 n ((z_it (f9_expression_L33 m1) n33 m).bind (r9_T m1))
theorem r9_step (m1 : zMem) (n : Nat) (m : zMem) (h : m.1 9 0 13 = 0) : z_it (f9_expression_L3 m1) (n + 1) (1, m) = r9_KU m1 n z_fu m := by
  unfold r9_KU r9_go
  conv => lhs; unfold z_it
  rw [r9_L3, if_pos h]
  generalize (z_it f9_expression_L8 z_fu m).bind (r9_U m1) = y
  cases y with
  | none => rfl
  | some s => cases s <;> rfl
theorem r9_stepF (m1 : zMem) (n : Nat) (m : zMem) (h : ¬ m.1 9 0 13 = 0) : z_it (f9_expression_L3 m1) (n + 1) (1, m) = some (.inl m) := by
  refine z_it_d ?_
  rw [r9_L3, if_neg h]
section
variable {K V S : Nat → Nat} {e t k d F C c0 : Nat} {m m' m1 : zMem} {l l' : List qI} {w pp : List Nat} {a : Int32}
/-- t TOKENS behind, d ( waiting, w waits, C codes -/
def r9_in (K V S : Nat → Nat) (e c0 t d : Nat) (w : List Nat) (C : Nat) (m : zMem) : Prop := t ≤ e ∧ d ≤ 6 ∧ w.length ≤ 3 * d + 2 ∧ (∀ k, k ∈ w → k = 6 ∨ r9_op k) ∧ (c0 ≤ C ∧ C + w.length ≤ c0 + t) ∧ c0 ≤ 420 ∧ m.1 9 0 11 = nI t ∧ m.1 9 0 12 = nI d ∧ m.1 9 0 13 = 0 ∧ m.1 9 0 44 = nI w.length ∧ qk_wt (m.1 143 0) w ∧ m.1 9 0 40 = nI C ∧ r9_tk K V S e m
/-- what is left of the codes -/
def r9_cd (C : Nat) (l : List qI) (m m' : zMem) : Prop := q_ms (m'.1 141 0) (m'.1 142 0) C l ∧ ∀ j, j < C → m'.1 141 0 j = m.1 141 0 j ∧ m'.1 142 0 j = m.1 142 0 j
def r9_ft (S : Nat → Nat) (c0 F t : Nat) (m m' : zMem) : Prop := zk (sR c0) m m' ∧ m'.1 9 0 13 = nI F ∧ m'.1 9 0 14 = nI (S t)
theorem zk_GR (h : zk sG m m') : zk (sR c0) m m' := zk_m h (fun c i k e => by omega)
theorem zk_OR (h : zk (sO c0) m m') : zk (sR c0) m m' := zk_m h (fun c i k e => by omega)
theorem zk_MR (h : zk (sM c0) m m') : zk (sR c0) m m' := zk_m h (fun c i k e => by omega)
theorem zk_FR (h : zk sF m m') : zk (sR c0) m m' := zk_m h (fun c i k e => by omega)
theorem r9_tk.R (h : r9_tk K V S e m) (hf : zk (sR c0) m m') : r9_tk K V S e m' := h.fr hf (fun c k e => by omega)
/-- with a FAULT the unit is nothing -/
theorem r9_UF (hF : F = 1 ∨ F = 2) (h : m.1 9 0 13 = nI F) : r9_U m1 m = some (.inr (.inr m)) := by
  obtain ⟨y1, y2⟩ := y_F hF
  unfold r9_U f9_unit
  rw [p9_isF (by rw [h]; exact y2), Option.bind_some, if_pos rfl, h, if_neg y2, p9_failF (by rw [h]; exact y1)]
  show (if 0 < m.1 9 0 13 then _ else _) = _
  rw [h, if_pos y1]
theorem r9_L8F {n8 : Nat} (hF : ¬ m.1 9 0 13 = 0) : z_it f9_expression_L8 (n8 + 1) m = some m := by
  refine z_it_d ?_
  unfold f9_expression_L8
  rw [p9_isF hF, Option.bind_some, if_pos rfl]
theorem r9_L33F {n33 : Nat} (hF : ¬ m.1 9 0 13 = 0) : z_it (f9_expression_L33 m1) (n33 + 1) m = some m := by
  refine z_it_d ?_
  unfold f9_expression_L33
  rw [p9_isF hF, Option.bind_some, if_pos rfl]
/-- not ( : none are taken -/
theorem r9_L8n {n8 : Nat} (hk : r9_kk K e) (h : r9_in K V S e c0 t d w C m) (c : ¬ K t = 40) : z_it f9_expression_L8 (n8 + 1) m = some m := by
  obtain ⟨ht, hd, hw, hv, hC, hc0, h11, h12, h13, h44, hwt, h40, htk⟩ := h
  refine z_it_d ?_
  unfold f9_expression_L8
  rw [p9_is (a := 6) (c := 40) hk ht htk h11 h13 (by decide) rfl, Option.bind_some, if_neg c, if_pos rfl]
/-- one ( -/
theorem r9_L8s {n8 : Nat} (hk : r9_kk K e) (h : r9_in K V S e c0 t d w C m) (c : K t = 40) : zw (f9_expression_L8 m) fun r => ∃ m2, r = .inl m2 ∧ zk (sR c0) m m2 ∧ (d < 6 → t < 400 → r9_in K V S e c0 (t + 1) (d + 1) (6 :: w) C m2 ∧ m2.1 141 0 = m.1 141 0 ∧ m2.1 142 0 = m.1 142 0) ∧ (¬ (d < 6 ∧ t < 400) → m2.1 9 0 13 = nI 2 ∧ m2.1 9 0 14 = nI (S t)) := by
  obtain ⟨ht, hd, hw, hv, hC, hc0, h11, h12, h13, h44, hwt, h40, htk⟩ := h
  have he := hk.1
  unfold f9_expression_L8
  rw [p9_is (a := 6) (c := 40) hk ht htk h11 h13 (by decide) rfl, Option.bind_some, if_pos c, if_neg n01, h12, y_6]
  by_cases cd : d < 6
  · rw [if_neg (show ¬ nI d = nI 6 by rw [y_eq (by omega) (by omega)]; omega), Option.bind_some]
    simp only [z_let]
    rw [h12, y_s1]
    obtain ⟨M, hM⟩ : ∃ M, M = z_sI m 9 0 12 (nI (d + 1)) := ⟨_, rfl⟩
    rw [← hM]
    have fM : zk (fun c i k => c = 9 ∧ i = 0 ∧ k = 12) m M := by rw [hM]; exact zk_s (zk_r m) ⟨rfl, rfl, rfl⟩
    have M12 : M.1 9 0 12 = nI (d + 1) := by rw [hM, z_sI_1, if_pos ⟨rfl, rfl, rfl⟩]
    clear hM
    refine zw_b (p9_goesOn he ht (htk.fr fM (fun c k e => by omega)) (by rw [fM.1 _ _ _ (by omega)]; exact h11) (by rw [fM.1 _ _ _ (by omega)]; exact h13)) ?_
    rintro m2 ⟨f2, g1, g2⟩
    have e44 : m2.1 9 0 44 = nI w.length := by rw [f2.1 _ _ _ (by omega), fM.1 _ _ _ (by omega)]; exact h44
    rw [e44, if_pos (y_in (by omega) (by omega)), y_cl (by omega)]
    rw [show (z_sI m2 143 0 w.length (nI 6)).1 9 0 44 = nI w.length by rw [z_sI_1, if_neg (by omega)]; exact e44, y_s1]
    obtain ⟨M3, hM3⟩ : ∃ M3, M3 = z_sI (z_sI m2 143 0 w.length (nI 6)) 9 0 44 (nI (w.length + 1)) := ⟨_, rfl⟩
    rw [← hM3]
    have f3 : zk (fun c i k => (c = 9 ∧ i = 0 ∧ k = 44) ∨ (c = 143 ∧ k = w.length)) m2 M3 := by rw [hM3]; exact zk_s (zk_s (zk_r m2) (by omega)) (by omega)
    have a1 : M3.1 9 0 44 = nI (w.length + 1) := by rw [hM3, z_sI_1, if_pos ⟨rfl, rfl, rfl⟩]
    have a2 : M3.1 143 0 w.length = nI 6 := by rw [hM3, z_sI_1, if_neg (by omega), z_sI_1, if_pos ⟨rfl, rfl, rfl⟩]
    clear hM3
    have fall : zk (sR c0) m M3 := zk_t (zk_m fM (fun c i k e => by omega)) (zk_t (zk_GR f2) (zk_m f3 (fun c i k e => by omega)))
    refine zw_some.mpr ⟨M3, rfl, fall, fun _ c4 => ⟨⟨?_, by omega, by show w.length + 1 ≤ _; omega, fun k hk' => ?_, by show c0 ≤ C ∧ C + (w.length + 1) ≤ c0 + (t + 1); omega, hc0, ?_, ?_, ?_, a1, ⟨a2, ?_⟩, ?_, htk.R fall⟩, ?_, ?_⟩, fun q => ?_⟩
    · exact hk.2.2 t ht (by rw [c]; decide) c4
    · rcases List.mem_cons.mp hk' with q | q
      · exact Or.inl q
      · exact hv k q
    · rw [f3.1 _ _ _ (by omega)]; exact (g1 c4).1
    · rw [f3.1 _ _ _ (by omega), f2.1 _ _ _ (by omega)]; exact M12
    · rw [f3.1 _ _ _ (by omega)]; exact (g1 c4).2
    · exact qk_wt_u (fun i hi => by rw [f3.1 _ _ _ (by omega), f2.1 _ _ _ (by omega), fM.1 _ _ _ (by omega)]) hwt
    · rw [f3.1 _ _ _ (by omega), f2.1 _ _ _ (by omega), fM.1 _ _ _ (by omega)]; exact h40
    · funext i; rw [f3.1 _ _ _ (by omega), f2.1 _ _ _ (by omega), fM.1 _ _ _ (by omega)]
    · funext i; rw [f3.1 _ _ _ (by omega), f2.1 _ _ _ (by omega), fM.1 _ _ _ (by omega)]
    · have c4 : ¬ t < 400 := fun c4 => q ⟨cd, c4⟩
      exact ⟨by rw [f3.1 _ _ _ (by omega)]; exact (g2 c4).1, by rw [f3.1 _ _ _ (by omega)]; exact (g2 c4).2⟩
  · rw [if_pos (show nI d = nI 6 by congr 1; omega)]
    obtain ⟨m2, hm2, f2, g1, g2⟩ := p9_fail (F := 2) (Or.inr rfl) he ht htk h11 h13
    rw [show (2 : Int32) = nI 2 from rfl, hm2]
    simp only [Option.bind_some, z_let]
    obtain ⟨M, hM⟩ : ∃ M, M = z_sI m2 9 0 12 (m2.1 9 0 12 + 1) := ⟨_, rfl⟩
    rw [← hM]
    have fM : zk (fun c i k => c = 9 ∧ i = 0 ∧ k = 12) m2 M := by rw [hM]; exact zk_s (zk_r m2) ⟨rfl, rfl, rfl⟩
    clear hM
    have M13 : M.1 9 0 13 = nI 2 := by rw [fM.1 _ _ _ (by omega)]; exact g1
    refine zw_b (p9_goesOnF (m := M) (by rw [M13]; decide)) ?_
    rintro m3 f3
    have e44 : m3.1 9 0 44 = nI w.length := by rw [f3.1 _ _ _ (by omega), fM.1 _ _ _ (by omega), f2.1 _ _ _ (by omega)]; exact h44
    rw [e44, if_pos (y_in (by omega) (by omega)), y_cl (by omega)]
    refine zw_some.mpr ⟨_, rfl, zk_t (zk_FR f2) (zk_t (zk_m fM (fun c i k e => by omega)) (zk_t (zk_m f3 (fun c i k e => by omega)) (zk_s (zk_s (zk_r m3) (by omega)) (by omega)))), fun q => absurd q cd, fun _ => ⟨?_, ?_⟩⟩
    · rw [z_sI_1, if_neg (by omega), z_sI_1, if_neg (by omega), f3.1 _ _ _ (by omega)]; exact M13
    · rw [z_sI_1, if_neg (by omega), z_sI_1, if_neg (by omega), f3.1 _ _ _ (by omega), fM.1 _ _ _ (by omega)]; exact g2
/-- an INT or a VAR, or a FAULT: the unit itself -/
theorem r9_unit (hk : r9_kk K e) (h : r9_in K V S e c0 t d w C m) (c : ¬ K t = 40) : zw (f9_unit m) fun m2 => ∃ r, x_unit K V (fun _ _ => (0, 0, [])) d t = r ∧ zk (sR c0) m m2 ∧ (r.1 = 0 → r9_in K V S e c0 r.2.1 d w (C + r.2.2.length) m2 ∧ r9_cd C r.2.2 m m2 ∧ t < r.2.1) ∧ (r.1 ≠ 0 → (r.1 = 1 ∨ r.1 = 2) ∧ m2.1 9 0 13 = nI r.1 ∧ m2.1 9 0 14 = nI (S r.2.1)) := by
  obtain ⟨ht, hd, hw, hv, hC, hc0, h11, h12, h13, h44, hwt, h40, htk⟩ := id h
  have he := hk.1
  have hok := hk.2.1 t
  have hlt := qk_ok_lt hok
  have hC' : C < 840 := by omega
  unfold f9_unit x_unit
  rw [p9_is (a := 2) (c := 3) hk ht htk h11 h13 (by decide) rfl, Option.bind_some, if_neg c]
  -- emitted, then the TOKEN goes
  have em : ∀ (it : qI) (x : Int32), x = nI it.2 → it.1 < 2 → K t ≠ 0 → ∀ Q : zMem → Prop, (∀ m2, zk (sR c0) m m2 → (t < 400 → r9_in K V S e c0 (t + 1) d w (C + 1) m2 ∧ r9_cd C [it] m m2) → (¬ t < 400 → m2.1 9 0 13 = nI 2 ∧ m2.1 9 0 14 = nI (S t)) → Q m2) → zw ((f9_emit (nI it.1) x m).bind fun qm => (f9_goesOn qm).bind fun qm2 => some qm2) Q := by
    intro it x hx hi hK0 Q hQ
    refine zw_b (p9_emit hc0 (show c0 ≤ C ∧ C < c0 + 420 by omega) h40) ?_
    rintro m2 ⟨f2, g40, g141, g142, glow⟩
    refine zw_b (p9_goesOn he ht (htk.fr f2 (fun c k e => by omega)) (by rw [f2.1 _ _ _ (by omega)]; exact h11) (by rw [f2.1 _ _ _ (by omega)]; exact h13)) ?_
    rintro m3 ⟨f3, g1, g2⟩
    have fall : zk (sR c0) m m3 := zk_t (zk_MR f2) (zk_GR f3)
    refine zw_some.mpr (hQ m3 fall (fun c4 => ⟨⟨hk.2.2 t ht hK0 c4, hd, hw, hv, by omega, hc0, (g1 c4).1, ?_, (g1 c4).2, ?_, ?_, ?_, htk.R fall⟩, ⟨⟨?_, fun _ => ?_⟩, trivial⟩, fun j hj => ⟨?_, ?_⟩⟩) g2)
    · rw [f3.1 _ _ _ (by omega), f2.1 _ _ _ (by omega)]; exact h12
    · rw [f3.1 _ _ _ (by omega), f2.1 _ _ _ (by omega)]; exact h44
    · exact qk_wt_u (fun i _ => by rw [f3.1 _ _ _ (by omega), f2.1 _ _ _ (by omega)]) hwt
    · rw [f3.1 _ _ _ (by omega)]; exact g40
    · rw [f3.1 _ _ _ (by omega)]; exact g141
    · rw [f3.1 _ _ _ (by omega), g142]; exact hx
    · rw [f3.1 _ _ _ (by omega)]; exact (glow j (by omega)).1
    · rw [f3.1 _ _ _ (by omega)]; exact (glow j (by omega)).2
  by_cases c3 : K t = 3
  · rw [if_pos c3, if_neg n01, h11, if_pos (y_in (by omega) (by omega)), y_cl (by omega), (htk t ht).2.2 c3, if_neg (show ¬ (140 ≤ K t ∧ K t < 149) by omega)]
    refine em (0, V t) _ rfl (show 0 < 2 by omega) (by omega) _ fun m2 f2 g1 g2 => ⟨_, rfl, f2, fun q => ?_, fun q => ?_⟩
    · by_cases c4 : t < 400
      · rw [x_t_ok c3 c4, x_bd_0]
        exact ⟨(g1 c4).1, (g1 c4).2, Nat.lt_succ_self t⟩
      · rw [x_t_2 c3 c4, x_bd_F (by omega)] at q; exact absurd q (show ¬ 2 = 0 by omega)
    · by_cases c4 : t < 400
      · rw [x_t_ok c3 c4] at q; exact absurd rfl q
      · rw [x_t_2 c3 c4]
        exact ⟨Or.inr rfl, g2 c4⟩
  · rw [if_neg c3, if_pos rfl, h13, if_pos rfl, h11, if_pos (y_in (by omega) (by omega)), y_cl (by omega), (htk t ht).1]
    have hG := qk_G_lt hok
    have bad : ∀ Q : zMem → Prop, (∀ m2, zk (sR c0) m m2 → m2.1 9 0 13 = nI 1 → m2.1 9 0 14 = nI (S t) → Q m2) → zw ((f9_fail (1 : Int32) m).bind fun qm => some qm) Q := by
      intro Q hQ
      refine zw_b (p9_fail (F := 1) (Or.inl rfl) he ht htk h11 h13) ?_
      rintro m2 ⟨f2, g1, g2⟩
      exact zw_some.mpr (hQ m2 (zk_FR f2) g1 g2)
    obtain ⟨v1, v2⟩ := (by decide +kernel : ∀ k, k < 149 → qk_ok k = true → (qk_G k < 32 ↔ k < 140) ∧ (140 ≤ k → qk_G k = k - 108)) (K t) hlt hok
    by_cases cv : 140 ≤ K t
    · have e1 := v2 cv
      rw [if_pos (show 140 ≤ K t ∧ K t < 149 from ⟨cv, hlt⟩), e1, show (32 : Int32) = nI 32 from rfl, if_neg (nI_nlt (by omega) (by omega)), show (40 : Int32) = nI 40 from rfl, if_neg (nI_nlt (by omega) (by omega)), pk_sub (by omega)]
      refine em (1, K t - 140) _ (show nI (K t - 108 - 32) = nI (K t - 140) by rw [show K t - 108 - 32 = K t - 140 by omega]) (show 1 < 2 by omega) (by omega) _ fun m2 f2 g1 g2 => ⟨_, rfl, f2, fun q => ?_, fun q => ?_⟩
      · by_cases c4 : t < 400
        · rw [x_t_ok rfl c4, x_bd_0]
          exact ⟨(g1 c4).1, (g1 c4).2, Nat.lt_succ_self t⟩
        · rw [x_t_2 rfl c4, x_bd_F (by omega)] at q; exact absurd q (show ¬ 2 = 0 by omega)
      · by_cases c4 : t < 400
        · rw [x_t_ok rfl c4] at q; exact absurd rfl q
        · rw [x_t_2 rfl c4]
          exact ⟨Or.inr rfl, g2 c4⟩
    · rw [if_neg (show ¬ (140 ≤ K t ∧ K t < 149) by omega), show (32 : Int32) = nI 32 from rfl, if_pos (nI_lt (v1.mpr (by omega)) (by omega))]
      refine bad _ fun m2 f2 g1 g2 => ⟨_, rfl, f2, fun q => ?_, fun _ => ?_⟩
      · rw [x_t_1 c3, x_bd_F (by omega)] at q; exact absurd q (show ¬ 1 = 0 by omega)
      · rw [x_t_1 c3]
        exact ⟨Or.inl rfl, g1, g2⟩
theorem x_unit_n {fs fs' : Nat → Nat → qX} (c : ¬ K t = 40) : x_unit K V fs d t = x_unit K V fs' d t := by
  unfold x_unit
  rw [if_neg c, if_neg c]
end
