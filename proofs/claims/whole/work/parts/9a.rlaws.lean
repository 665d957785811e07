/-! READ XXIII: the reference reads a LAW -/
abbrev sRF (b0 : Nat) : Nat → Nat → Nat → Prop := fun c i k => (c = 9 ∧ i = 0 ∧ (k = 34 ∨ k = 44)) ∨ (135 ≤ c ∧ c ≤ 139 ∧ b0 ≤ k ∧ k < b0 + 130)
abbrev sRL (c0 b0 : Nat) : Nat → Nat → Nat → Prop := fun c i k => (c = 9 ∧ i = 0 ∧ (k = 11 ∨ k = 12 ∨ k = 13 ∨ k = 14 ∨ k = 34 ∨ k = 40 ∨ k = 44)) ∨ (135 ≤ c ∧ c ≤ 139 ∧ b0 ≤ k ∧ k < b0 + 130) ∨ ((c = 141 ∨ c = 142) ∧ c0 ≤ k ∧ k < c0 + 420) ∨ c = 143
section
variable {K V S : Nat → Nat} {e t k d F C c0 b b0 : Nat} {m m' m1 m2 m3 : zMem} {l l' : List qI} {a : Int32}
theorem zk_RL (h : zk (sR c0) m m') : zk (sRL c0 b0) m m' := zk_m h (fun c i k e => by omega)
theorem zk_FL (h : zk (sRF b0) m m') : zk (sRL c0 b0) m m' := zk_m h (fun c i k e => by omega)
theorem zk_GL (h : zk sG m m') : zk (sRL c0 b0) m m' := zk_m h (fun c i k e => by omega)
def r9_q (K V S : Nat → Nat) (e c0 t C : Nat) (m : zMem) : Prop := t ≤ e ∧ (c0 ≤ C ∧ C ≤ c0 + t) ∧ c0 ≤ 420 ∧ m.1 9 0 11 = nI t ∧ m.1 9 0 12 = nI 0 ∧ m.1 9 0 13 = 0 ∧ m.1 9 0 40 = nI C ∧ r9_tk K V S e m
theorem r9_q.fr {T : Nat → Nat → Nat → Prop} (h : r9_q K V S e c0 t C m) (hf : zk T m m') (hs : ∀ c k, (c = 105 ∨ c = 106 ∨ c = 107 ∨ (c = 9 ∧ (k = 11 ∨ k = 12 ∨ k = 13 ∨ k = 40))) → ¬ T c 0 k) : r9_q K V S e c0 t C m' := by
  obtain ⟨h1, h2, h3, h4, h5, h6, h7, h8⟩ := h
  refine ⟨h1, h2, h3, ?_, ?_, ?_, ?_, h8.fr hf (fun c k e => hs c k (by omega))⟩
  · rw [hf.1 _ _ _ (hs _ _ (by omega))]; exact h4
  · rw [hf.1 _ _ _ (hs _ _ (by omega))]; exact h5
  · rw [hf.1 _ _ _ (hs _ _ (by omega))]; exact h6
  · rw [hf.1 _ _ _ (hs _ _ (by omega))]; exact h7
theorem p9_mustF (hF : F = 1 ∨ F = 2) (h : m.1 9 0 13 = nI F) : f9_must a m = some m := by
  obtain ⟨y1, y2⟩ := y_F hF
  unfold f9_must
  rw [p9_isF (by rw [h]; exact y2), Option.bind_some, if_pos rfl, p9_failF (by rw [h]; exact y1)]
  rfl
/-- a TOKEN that must be there -/
theorem r9_mu {β : Type} {f : zMem → Option β} {Q : β → Prop} (hk : r9_kk K e) (hc : qk_ok k = true) (ha : a = nI (qk_G k)) (ht : t ≤ e) (htk : r9_tk K V S e m) (h11 : m.1 9 0 11 = nI t) (h13 : m.1 9 0 13 = 0)
    (hok : e_t K k t = .inr (t + 1, ()) → K t = k → t < 400 → ∀ m', zk sG m m' → m'.1 9 0 11 = nI (t + 1) → m'.1 9 0 13 = 0 → zw (f m') Q)
    (hbad : ∀ F m', e_t K k t = .inl (F, t) → (F = 1 ∨ F = 2) → zk sG m m' → m'.1 9 0 13 = nI F → m'.1 9 0 14 = nI (S t) → zw (f m') Q) : zw ((f9_must a m).bind f) Q := by
  have he := hk.1
  unfold f9_must
  rw [p9_is hk ht htk h11 h13 hc ha, Option.bind_some]
  by_cases c : K t = k
  · rw [if_pos c, if_neg n01]
    obtain ⟨m', hm', f1, g1, g2⟩ := p9_goesOn he ht htk h11 h13
    rw [hm', Option.bind_some, Option.bind_some]
    by_cases c4 : t < 400
    · exact hok (e_t_ok c c4) c c4 m' f1 (g1 c4).1 (g1 c4).2
    · exact hbad 2 m' (by unfold e_t; rw [if_pos c, if_neg c4]) (Or.inr rfl) f1 (g2 c4).1 (g2 c4).2
  · rw [if_neg c, if_pos rfl]
    obtain ⟨m', hm', f1, g1, g2⟩ := p9_fail (F := 1) (Or.inl rfl) he ht htk h11 h13
    rw [show (1 : Int32) = nI 1 from rfl, hm', Option.bind_some, Option.bind_some]
    exact hbad 1 m' (by unfold e_t; rw [if_neg c]) (Or.inl rfl) (zk_m f1 (fun c i k e => by omega)) g1 g2
theorem r9_muQ {β : Type} {f : zMem → Option β} {Q : β → Prop} (hk : r9_kk K e) (hc : qk_ok k = true) (hk0 : k ≠ 0) (ha : a = nI (qk_G k)) (h : r9_q K V S e c0 t C m)
    (hok : e_t K k t = .inr (t + 1, ()) → t < 400 → ∀ m', zk sG m m' → r9_q K V S e c0 (t + 1) C m' → zw (f m') Q)
    (hbad : ∀ F m', e_t K k t = .inl (F, t) → (F = 1 ∨ F = 2) → zk sG m m' → m'.1 9 0 13 = nI F → m'.1 9 0 14 = nI (S t) → zw (f m') Q) : zw ((f9_must a m).bind f) Q := by
  obtain ⟨ht, hC, hc0, h11, h12, h13, h40, htk⟩ := h
  refine r9_mu hk hc ha ht htk h11 h13 (fun e1 c c4 m' f1 g1 g2 => hok e1 c4 m' f1 ⟨hk.2.2 t ht (by rw [c]; exact hk0) c4, by omega, hc0, g1, ?_, g2, ?_, htk.fr f1 (fun c k e => by omega)⟩) hbad
  · rw [f1.1 _ _ _ (by omega)]; exact h12
  · rw [f1.1 _ _ _ (by omega)]; exact h40
/-- a sum -/
theorem r9_ex {β : Type} {f : zMem → Option β} {Q : β → Prop} (hk : r9_kk K e) (hV : ∀ j, K j = 3 → V j < 10000) (h : r9_q K V S e c0 t C m)
    (hok : ∀ t' l m', e_s K V t = .inr (t', l) → t < t' → t + l.length ≤ t' → zk (sR c0) m m' → r9_q K V S e c0 t' (C + l.length) m' → r9_cd C l m m' → zw (f m') Q)
    (hbad : ∀ F t' m', e_s K V t = .inl (F, t') → (F = 1 ∨ F = 2) → zk (sR c0) m m' → m'.1 9 0 13 = nI F → m'.1 9 0 14 = nI (S t') → zw (f m') Q) : zw ((f9_expression m).bind f) Q := by
  obtain ⟨ht, hC, hc0, h11, h12, h13, h40, htk⟩ := h
  have he := hk.1
  have hg := x_sum_g hV 9 0 rfl (by omega) t (by omega)
  have f0 : zk (fun c i k => c = 9 ∧ i = 0 ∧ k = 44) m (z_sI m 9 0 44 0) := zk_s (zk_r m) ⟨rfl, rfl, rfl⟩
  have i0 : r9_in K V S e c0 t 0 [] C (z_sI m 9 0 44 0) := ⟨ht, by omega, by show 0 ≤ 2; omega, fun k hk' => absurd hk' (by simp), hC, hc0, by rw [f0.1 _ _ _ (by omega)]; exact h11, by rw [f0.1 _ _ _ (by omega)]; exact h12, by rw [f0.1 _ _ _ (by omega)]; exact h13, by rw [z_sI_1, if_pos ⟨rfl, rfl, rfl⟩]; rfl, trivial, by rw [f0.1 _ _ _ (by omega)]; exact h40, htk.fr f0 (fun c k e => by omega)⟩
  refine zw_b (p9_expression hk hV i0) ?_
  rintro m' ⟨f1, g1, g2⟩
  unfold e_s at hok hbad
  rcases hq : x_sum K V 9 0 t with ⟨F, t', l⟩
  rw [hq] at hg hok hbad
  by_cases cF : F = 0
  · subst cF
    obtain ⟨v1, v2, v3, _⟩ := hg.1 rfl
    obtain ⟨i1, cd1⟩ := g1 t' l hq
    exact hok t' l m' (by rw [if_pos rfl]) v1 v3 f1 ⟨i1.1, i1.2.2.2.2.1, hc0, i1.2.2.2.2.2.2.1, i1.2.2.2.2.2.2.2.1, i1.2.2.2.2.2.2.2.2.1, i1.2.2.2.2.2.2.2.2.2.2.2.1, i1.2.2.2.2.2.2.2.2.2.2.2.2⟩ cd1
  · obtain ⟨v1, v2⟩ := g2 F t' l hq cF
    exact hbad F t' m' (by rw [if_neg (show ¬ (F, t', l).1 = 0 from cF)]) (hg.2 cF).1 f1 v1 v2
/-! branches -/
def r9_mb (m : zMem) (c0 C b : Nat) (x : qB) : Prop := b < 260 ∧ m.1 135 0 b ≠ 0 ∧ ∃ i, m.1 136 0 b = nI i ∧ m.1 137 0 b = nI (i + x.1.length) ∧ m.1 138 0 b = nI (i + x.1.length + x.2.1.length) ∧ m.1 139 0 b = nI (i + x.1.length + x.2.1.length + x.2.2.length) ∧ q_ms (m.1 141 0) (m.1 142 0) i x.1 ∧ q_ms (m.1 141 0) (m.1 142 0) (i + x.1.length) x.2.1 ∧ q_ms (m.1 141 0) (m.1 142 0) (i + x.1.length + x.2.1.length) x.2.2 ∧ c0 ≤ i ∧ i + x.1.length + x.2.1.length + x.2.2.length ≤ C
def r9_mp (m : zMem) (c0 C : Nat) : Nat → List qB → Nat → Prop
  | b, [], b' => b = b'
  | b, x :: bs, b' => r9_mb m c0 C b x ∧ r9_mp m c0 C (b + 1) bs b'
def r9_ml (m : zMem) (c0 C b : Nat) (bs : List qB) (f : List qI) : Prop := ∃ b', r9_mp m c0 C b bs b' ∧ b' < 260 ∧ m.1 135 0 b' = 0 ∧ ∃ i, m.1 138 0 b' = nI i ∧ m.1 139 0 b' = nI (i + f.length) ∧ q_ms (m.1 141 0) (m.1 142 0) i f ∧ c0 ≤ i ∧ i + f.length ≤ C
def r9_ag (b C : Nat) (m m' : zMem) : Prop := (∀ c j, 135 ≤ c → c ≤ 139 → j < b → m'.1 c 0 j = m.1 c 0 j) ∧ ∀ j, j < C → m'.1 141 0 j = m.1 141 0 j ∧ m'.1 142 0 j = m.1 142 0 j
theorem r9_ag_r : r9_ag b C m m := ⟨fun _ _ _ _ _ => rfl, fun _ _ => ⟨rfl, rfl⟩⟩
theorem r9_ag_t {b' C' : Nat} (h : r9_ag b C m m2) (h' : r9_ag b' C' m2 m3) (hb : b ≤ b') (hC : C ≤ C') : r9_ag b C m m3 := ⟨fun c j h1 h2 h3 => by rw [h'.1 c j h1 h2 (by omega), h.1 c j h1 h2 h3], fun j hj => by rw [(h'.2 j (by omega)).1, (h'.2 j (by omega)).2]; exact h.2 j hj⟩
theorem r9_ag_k {T : Nat → Nat → Nat → Prop} (hf : zk T m m') (hs : ∀ c j, (135 ≤ c ∧ c ≤ 139 ∧ j < b) ∨ ((c = 141 ∨ c = 142) ∧ j < C) → ¬ T c 0 j) : r9_ag b C m m' := ⟨fun c j h1 h2 h3 => hf.1 _ _ _ (hs c j (by omega)), fun j hj => ⟨hf.1 _ _ _ (hs _ j (by omega)), hf.1 _ _ _ (hs _ j (by omega))⟩⟩
theorem r9_ag_c (hf : zk (sR c0) m m') (hc : r9_cd C l m m') : r9_ag b C m m' := ⟨fun c j h1 h2 h3 => hf.1 _ _ _ (by omega), hc.2⟩
theorem r9_mb_cong {C' : Nat} {x : qB} (h : r9_ag (b + 1) C m m') (hC : C ≤ C') (hb : r9_mb m c0 C b x) : r9_mb m' c0 C' b x := by
  obtain ⟨h1, h2, i, h3, h4, h5, h6, h7, h8, h9, h10⟩ := hb
  refine ⟨h1, ?_, i, ?_, ?_, ?_, ?_, q_ms_cong (fun j _ hj => h.2 j (by omega)) h7, q_ms_cong (fun j _ hj => h.2 j (by omega)) h8, q_ms_cong (fun j _ hj => h.2 j (by omega)) h9, by omega⟩
  · rw [h.1 _ _ (by omega) (by omega) (by omega)]; exact h2
  · rw [h.1 _ _ (by omega) (by omega) (by omega)]; exact h3
  · rw [h.1 _ _ (by omega) (by omega) (by omega)]; exact h4
  · rw [h.1 _ _ (by omega) (by omega) (by omega)]; exact h5
  · rw [h.1 _ _ (by omega) (by omega) (by omega)]; exact h6
theorem r9_ag_m {b' C' : Nat} (h : r9_ag b' C' m m') (hb : b ≤ b') (hC : C ≤ C') : r9_ag b C m m' := ⟨fun c j h1 h2 h3 => h.1 c j h1 h2 (by omega), fun j hj => h.2 j (by omega)⟩
theorem r9_mp_le : ∀ {bs : List qB} {b b' : Nat}, r9_mp m c0 C b bs b' → b' = b + bs.length
  | [], b, b', h => by
    have : b = b' := h
    rw [this]; rfl
  | x :: bs, b, b', h => by
    have := r9_mp_le h.2
    show b' = b + (bs.length + 1)
    omega
theorem r9_mp_cong {C' : Nat} (hC : C ≤ C') : ∀ {bs : List qB} {b b' : Nat}, r9_ag b' C m m' → r9_mp m c0 C b bs b' → r9_mp m' c0 C' b bs b'
  | [], _, _, _, h => h
  | x :: bs, b, b', h, hp => by
    have := r9_mp_le hp.2
    exact ⟨r9_mb_cong (r9_ag_m h (by omega) (Nat.le_refl _)) hC hp.1, r9_mp_cong hC h hp.2⟩
theorem r9_mp_app {x : qB} : ∀ {bs : List qB} {b b' : Nat}, r9_mp m c0 C b bs b' → r9_mb m c0 C b' x → r9_mp m c0 C b (bs ++ [x]) (b' + 1)
  | [], b, b', h, hx => by
    have e : b = b' := h
    subst e
    exact ⟨hx, rfl⟩
  | y :: bs, b, b', h, hx => ⟨h.1, r9_mp_app h.2 hx⟩
theorem r9_ml_cong {C' b' : Nat} {bs : List qB} {f : List qI} (h : r9_ag b' C m m') (hb : b + bs.length + 1 ≤ b') (hC : C ≤ C') (hl : r9_ml m c0 C b bs f) : r9_ml m' c0 C' b bs f := by
  obtain ⟨b1, hp, h1, h2, i, h3, h4, h5, h6⟩ := hl
  have e := r9_mp_le hp
  refine ⟨b1, r9_mp_cong hC (r9_ag_m h (by omega) (Nat.le_refl _)) hp, h1, ?_, i, ?_, ?_, q_ms_cong (fun j _ hj => h.2 j (by omega)) h5, by omega⟩
  · rw [h.1 _ _ (by omega) (by omega) (by omega)]; exact h2
  · rw [h.1 _ _ (by omega) (by omega) (by omega)]; exact h3
  · rw [h.1 _ _ (by omega) (by omega) (by omega)]; exact h4
theorem r9_ml_q (hC : C ≤ 840) {f : List qI} : ∀ {bs : List qB} {b : Nat}, r9_ml m c0 C b bs f → q_ml m b bs f
  | [], b, ⟨b', hp, h1, h2, i, h3, h4, h5, h6⟩ => by
    have e : b = b' := hp
    subst e
    exact ⟨h1, h2, i, h3, h4, h5, by omega⟩
  | (u, v, w) :: bs, b, ⟨b', hp, h1, h2, i, h3, h4, h5, h6⟩ => by
    obtain ⟨g1, g2, j, g3, g4, g5, g6, g7, g8, g9, g10⟩ := hp.1
    have g10' : j + u.length + v.length + w.length ≤ C := g10.2
    exact ⟨g1, g2, ⟨j, g3, g4, g5, g6, g7, g8, g9, by omega⟩, r9_ml_q hC ⟨b', hp.2, h1, h2, i, h3, h4, h5, h6⟩⟩
/-! one if -/
def g9_B5 (x4 : Int32) (qm40 : zMem) : Option ((Int32 × zMem) ⊕ ((zMem) ⊕ (zMem))) := (f9_must (31 : Int32) qm40).bind (fun qm42 => some (.inl ((x4 + (1 : Int32)), qm42)))
def g9_B4 (x4 : Int32) (qm38 : zMem) : Option ((Int32 × zMem) ⊕ ((zMem) ⊕ (zMem))) := (f9_term qm38).bind (g9_B5 x4)
def g9_B3 (x4 : Int32) (jm37 : zMem) : Option ((Int32 × zMem) ⊕ ((zMem) ⊕ (zMem))) := (f9_must (30 : Int32) jm37).bind (g9_B4 x4)
def g9_B2 (x4 : Int32) (qm27 : zMem) : Option ((Int32 × zMem) ⊕ ((zMem) ⊕ (zMem))) := if z_in (qm27.1 9 0 34) 260 = true then z_let (z_sI qm27 137 0 (qm27.1 9 0 34).toNatClampNeg (qm27.1 9 0 40)) fun m29 => ((if (m29.1 9 0 13) = 0 then (f9_expression m29).bind (fun qm35 => some qm35) else some m29) : Option (zMem)).bind (g9_B3 x4) else none
def g9_B1 (x4 : Int32) (qm25 : zMem) : Option ((Int32 × zMem) ⊕ ((zMem) ⊕ (zMem))) := (f9_must (13 : Int32) qm25).bind (g9_B2 x4)
def g9_B0 (x4 : Int32) (qm17 : zMem) : Option ((Int32 × zMem) ⊕ ((zMem) ⊕ (zMem))) := if z_in (qm17.1 9 0 34) 260 = true then z_let (z_sI qm17 135 0 (qm17.1 9 0 34).toNatClampNeg (vp_nar .boolean (1 : Int32))) fun m19 => if z_in (m19.1 9 0 34) 260 = true then z_let (z_sI m19 136 0 (m19.1 9 0 34).toNatClampNeg (m19.1 9 0 40)) fun m22 => (f9_expression m22).bind (g9_B1 x4) else none else none
theorem g9_L3 (x4 : Int32) (m : zMem) : f9_tellLaw_L3 (x4, m) = (if (m.1 9 0 13) = 0 then (f9_is (29 : Int32) m).bind (fun q7 => (if q7 = 0 then some (.inr (.inl m)) else ((if x4 = (4 : Int32) then (f9_fail (2 : Int32) m).bind (fun qm13 => some qm13) else some m) : Option (zMem)).bind (fun jm15 => (if 0 < (jm15.1 9 0 13) then some (.inr (.inr jm15)) else (f9_goesOn jm15).bind (g9_B0 x4))))) else some (.inr (.inl m))) := rfl
/-- behind a FAULT: nothing but branches -/
def g9_F (b0 b : Nat) (m : zMem) (x4 : Int32) (r : (Int32 × zMem) ⊕ ((zMem) ⊕ (zMem))) : Prop := ∃ m', r = .inl (x4 + 1, m') ∧ zk (sRF b0) m m' ∧ ∃ b', m'.1 9 0 34 = nI b' ∧ b ≤ b' ∧ b' ≤ b + 1
theorem p9_termF (hF : F = 1 ∨ F = 2) (h13 : m.1 9 0 13 = nI F) (hb0 : b0 ≤ 130) (hb : b0 ≤ b ∧ b < b0 + 130) (h34 : m.1 9 0 34 = nI b) : zw (f9_term m) fun m' => zk (sRF b0) m m' ∧ m'.1 9 0 34 = nI (b + 1) := by
  obtain ⟨y1, y2⟩ := y_F hF
  unfold f9_term
  simp only [z_let]
  rw [h34, if_pos (y_in (show b < 260 by omega) (by omega)), y_cl (by omega)]
  obtain ⟨M, hM⟩ : ∃ M, M = z_sI m 138 0 b (m.1 9 0 40) := ⟨_, rfl⟩
  rw [← hM]
  have fM : zk (sRF b0) m M := by rw [hM]; exact zk_s (zk_r m) (by omega)
  have M34 : M.1 9 0 34 = nI b := by rw [hM, z_sI_1, if_neg (by omega)]; exact h34
  have M13 : M.1 9 0 13 = nI F := by rw [hM, z_sI_1, if_neg (by omega)]; exact h13
  clear hM
  rw [M13, if_neg y2, Option.bind_some, M34, if_pos (y_in (show b < 260 by omega) (by omega)), y_cl (by omega)]
  rw [show (z_sI M 139 0 b (M.1 9 0 40)).1 9 0 34 = nI b by rw [z_sI_1, if_neg (by omega)]; exact M34, y_s1]
  exact zw_some.mpr ⟨zk_s (zk_s fM (by omega)) (by omega), by rw [z_sI_1, if_pos ⟨rfl, rfl, rfl⟩]⟩
variable {x4 : Int32}
theorem g9_B5F (hF : F = 1 ∨ F = 2) (h13 : m.1 9 0 13 = nI F) (h34 : m.1 9 0 34 = nI b) : zw (g9_B5 x4 m) fun r => ∃ m', r = .inl (x4 + 1, m') ∧ zk (sRF b0) m m' ∧ m'.1 9 0 34 = nI b := by
  unfold g9_B5
  rw [p9_mustF hF h13]
  exact zw_some.mpr ⟨m, rfl, zk_r m, h34⟩
theorem g9_B4F (hF : F = 1 ∨ F = 2) (h13 : m.1 9 0 13 = nI F) (hb0 : b0 ≤ 130) (hb : b0 ≤ b ∧ b < b0 + 130) (h34 : m.1 9 0 34 = nI b) : zw (g9_B4 x4 m) (g9_F b0 b m x4) := by
  unfold g9_B4
  refine zw_b (p9_termF hF h13 hb0 hb h34) ?_
  rintro m1 ⟨f1, g1⟩
  refine zw_mono (g9_B5F (b0 := b0) (b := b + 1) hF (by rw [f1.1 _ _ _ (by omega)]; exact h13) g1) ?_
  rintro r ⟨m', e, f2, g2⟩
  exact ⟨m', e, zk_t f1 f2, b + 1, g2, by omega, by omega⟩
theorem g9_B3F (hF : F = 1 ∨ F = 2) (h13 : m.1 9 0 13 = nI F) (hb0 : b0 ≤ 130) (hb : b0 ≤ b ∧ b < b0 + 130) (h34 : m.1 9 0 34 = nI b) : zw (g9_B3 x4 m) (g9_F b0 b m x4) := by
  unfold g9_B3
  rw [p9_mustF hF h13]
  exact g9_B4F hF h13 hb0 hb h34
theorem g9_B2F (hF : F = 1 ∨ F = 2) (h13 : m.1 9 0 13 = nI F) (hb0 : b0 ≤ 130) (hb : b0 ≤ b ∧ b < b0 + 130) (h34 : m.1 9 0 34 = nI b) : zw (g9_B2 x4 m) (g9_F b0 b m x4) := by
  obtain ⟨y1, y2⟩ := y_F hF
  unfold g9_B2
  simp only [z_let]
  rw [h34, if_pos (y_in (show b < 260 by omega) (by omega)), y_cl (by omega)]
  have e13 : (z_sI m 137 0 b (m.1 9 0 40)).1 9 0 13 = nI F := by rw [z_sI_1, if_neg (by omega)]; exact h13
  rw [e13, if_neg y2, Option.bind_some]
  refine zw_mono (g9_B3F hF e13 hb0 hb (by rw [z_sI_1, if_neg (by omega)]; exact h34)) ?_
  rintro r ⟨m', e, f2, g2⟩
  exact ⟨m', e, zk_t (zk_s (zk_r m) (by omega)) f2, g2⟩
theorem g9_B1F (hF : F = 1 ∨ F = 2) (h13 : m.1 9 0 13 = nI F) (hb0 : b0 ≤ 130) (hb : b0 ≤ b ∧ b < b0 + 130) (h34 : m.1 9 0 34 = nI b) : zw (g9_B1 x4 m) (g9_F b0 b m x4) := by
  unfold g9_B1
  rw [p9_mustF hF h13]
  exact g9_B2F hF h13 hb0 hb h34
theorem g9_B0F (hF : F = 1 ∨ F = 2) (h13 : m.1 9 0 13 = nI F) (hb0 : b0 ≤ 130) (hb : b0 ≤ b ∧ b < b0 + 130) (h34 : m.1 9 0 34 = nI b) : zw (g9_B0 x4 m) (g9_F b0 b m x4) := by
  obtain ⟨y1, y2⟩ := y_F hF
  unfold g9_B0
  simp only [z_let]
  rw [h34, if_pos (y_in (show b < 260 by omega) (by omega)), y_cl (by omega)]
  obtain ⟨M, hM⟩ : ∃ M, M = z_sI m 135 0 b (vp_nar .boolean (1 : Int32)) := ⟨_, rfl⟩
  rw [← hM]
  have fM : zk (sRF b0) m M := by rw [hM]; exact zk_s (zk_r m) (by omega)
  have M34 : M.1 9 0 34 = nI b := by rw [hM, z_sI_1, if_neg (by omega)]; exact h34
  have M13 : M.1 9 0 13 = nI F := by rw [hM, z_sI_1, if_neg (by omega)]; exact h13
  clear hM
  rw [M34, if_pos (y_in (show b < 260 by omega) (by omega)), y_cl (by omega)]
  have e13 : (z_sI M 136 0 b (M.1 9 0 40)).1 9 0 13 = nI F := by rw [z_sI_1, if_neg (by omega)]; exact M13
  rw [p9_expressionF (by rw [e13]; exact y2), Option.bind_some]
  refine zw_mono (g9_B1F (m := z_sI (z_sI M 136 0 b (M.1 9 0 40)) 9 0 44 0) hF (by rw [z_sI_1, if_neg (by omega)]; exact e13) hb0 hb (by rw [z_sI_1, if_neg (by omega), z_sI_1, if_neg (by omega)]; exact M34)) ?_
  rintro r ⟨m', e, f2, g2⟩
  exact ⟨m', e, zk_t fM (zk_t (zk_s (zk_s (zk_r M) (by omega)) (by omega)) f2), g2⟩
end
