/-! READ XXIV: the reference reads a LAW: its ifs, its end -/
section
variable {K V S : Nat → Nat} {e t k d F C c0 b b0 : Nat} {m m' m1 m2 m3 : zMem} {l l' : List qI} {a x4 : Int32}
theorem zw_bs {α : Type} (x : Option α) : (x.bind fun q => some q) = x := by cases x <;> rfl
/-- a term, into the branch b -/
theorem p9_term {β : Type} {f : zMem → Option β} {Q : β → Prop} (hk : r9_kk K e) (hV : ∀ j, K j = 3 → V j < 10000) (h : r9_q K V S e c0 t C m) (hb0 : b0 ≤ 130) (hb : b0 ≤ b ∧ b < b0 + 130) (h34 : m.1 9 0 34 = nI b)
    (hok : ∀ t' l m', e_s K V t = .inr (t', l) → t < t' → t + l.length ≤ t' → zk (sRL c0 b0) m m' → r9_q K V S e c0 t' (C + l.length) m' → m'.1 9 0 34 = nI (b + 1) → m'.1 138 0 b = nI C → m'.1 139 0 b = nI (C + l.length) → q_ms (m'.1 141 0) (m'.1 142 0) C l → r9_ag b C m m' → (∀ c, 135 ≤ c → c ≤ 137 → m'.1 c 0 b = m.1 c 0 b) → zw (f m') Q)
    (hbad : ∀ F t' m', e_s K V t = .inl (F, t') → (F = 1 ∨ F = 2) → zk (sRL c0 b0) m m' → m'.1 9 0 13 = nI F → m'.1 9 0 14 = nI (S t') → m'.1 9 0 34 = nI (b + 1) → zw (f m') Q) : zw ((f9_term m).bind f) Q := by
  have h40 : m.1 9 0 40 = nI C := h.2.2.2.2.2.2.1
  unfold f9_term
  simp only [z_let]
  rw [h34, if_pos (y_in (show b < 260 by omega) (by omega)), y_cl (by omega), h40]
  obtain ⟨M, hM⟩ : ∃ M, M = z_sI m 138 0 b (nI C) := ⟨_, rfl⟩
  rw [← hM]
  have fM : zk (fun c i k => c = 138 ∧ i = 0 ∧ k = b) m M := by rw [hM]; exact zk_s (zk_r m) ⟨rfl, rfl, rfl⟩
  have M138 : M.1 138 0 b = nI C := by rw [hM, z_sI_1, if_pos ⟨rfl, rfl, rfl⟩]
  clear hM
  have qM : r9_q K V S e c0 t C M := h.fr fM (fun c k e => by omega)
  rw [qM.2.2.2.2.2.1, if_pos rfl, zw_bs]
  have M34 : M.1 9 0 34 = nI b := by rw [fM.1 _ _ _ (by omega)]; exact h34
  -- the end of it
  have fin : ∀ (X : Int32) (m2 : zMem), zk (sR c0) M m2 → m2.1 9 0 40 = X → ∃ M2, (if z_in (m2.1 9 0 34) 260 = true then some (z_sI (z_sI m2 139 0 (m2.1 9 0 34).toNatClampNeg (m2.1 9 0 40)) 9 0 34 ((z_sI m2 139 0 (m2.1 9 0 34).toNatClampNeg (m2.1 9 0 40)).1 9 0 34 + 1)) else none) = some M2 ∧ zk (fun c i k => (c = 139 ∧ i = 0 ∧ k = b) ∨ (c = 9 ∧ i = 0 ∧ k = 34)) m2 M2 ∧ M2.1 139 0 b = X ∧ M2.1 9 0 34 = nI (b + 1) := by
    intro X m2 f2 hX
    have e34 : m2.1 9 0 34 = nI b := by rw [f2.1 _ _ _ (by omega)]; exact M34
    rw [e34, if_pos (y_in (show b < 260 by omega) (by omega)), y_cl (by omega), hX, show (z_sI m2 139 0 b X).1 9 0 34 = nI b by rw [z_sI_1, if_neg (by omega)]; exact e34, y_s1]
    exact ⟨_, rfl, zk_s (zk_s (zk_r m2) (by omega)) (by omega), by rw [z_sI_1, if_neg (by omega), z_sI_1, if_pos ⟨rfl, rfl, rfl⟩], by rw [z_sI_1, if_pos ⟨rfl, rfl, rfl⟩]⟩
  rw [Option.bind_assoc]
  refine r9_ex hk hV qM ?_ ?_
  · intro t' l m2 e2 l2 g2 f2 q2 c2
    obtain ⟨M2, hM2, f3, a1, a2⟩ := fin _ m2 f2 q2.2.2.2.2.2.2.1
    rw [hM2, Option.bind_some]
    refine hok t' l M2 e2 l2 g2 (zk_t (zk_m fM (fun c i k e => by omega)) (zk_t (zk_RL f2) (zk_m f3 (fun c i k e => by omega)))) (q2.fr f3 (fun c k e => by omega)) a2 ?_ a1 (q_ms_cong (fun j _ _ => ⟨f3.1 _ _ _ (by omega), f3.1 _ _ _ (by omega)⟩) c2.1) ?_ (fun c h1 h2 => ?_)
    · rw [f3.1 _ _ _ (by omega), f2.1 _ _ _ (by omega)]; exact M138
    · exact r9_ag_t (r9_ag_k fM (fun c j e => by omega)) (r9_ag_t (r9_ag_c (b := b) f2 c2) (r9_ag_k (b := b) (C := C) f3 (fun c j e => by omega)) (Nat.le_refl _) (Nat.le_refl _)) (Nat.le_refl _) (Nat.le_refl _)
    · rw [f3.1 _ _ _ (by omega), f2.1 _ _ _ (by omega), fM.1 _ _ _ (by omega)]
  · intro F t' m2 e2 hF f2 g13 g14
    obtain ⟨M2, hM2, f3, a1, a2⟩ := fin _ m2 f2 rfl
    rw [hM2, Option.bind_some]
    exact hbad F t' M2 e2 hF (zk_t (zk_m fM (fun c i k e => by omega)) (zk_t (zk_RL f2) (zk_m f3 (fun c i k e => by omega)))) (by rw [f3.1 _ _ _ (by omega)]; exact g13) (by rw [f3.1 _ _ _ (by omega)]; exact g14) a2
def x_ifR (K V : Nat → Nat) (t1 : Nat) : qE qB := e_bd (e_s K V t1) fun t2 u => e_bd (e_t K 60 t2) fun t3 _ => e_bd (e_s K V t3) fun t4 v => e_bd (e_t K 138 t4) fun t5 _ => e_bd (e_s K V t5) fun t6 w => e_bd (e_t K 139 t6) fun t7 _ => .inr (t7, (u, v, w))
theorem x_if_R : x_if K V t = e_bd (e_t K 137 t) fun t1 _ => x_ifR K V t1 := rfl
def g9_P (K V S : Nat → Nat) (e c0 b0 t C b : Nat) (m : zMem) (x4 : Int32) (res : qE qB) (r : (Int32 × zMem) ⊕ ((zMem) ⊕ (zMem))) : Prop := ∃ m', r = .inl (x4 + 1, m') ∧ zk (sRL c0 b0) m m' ∧ (∀ F t', res = .inl (F, t') → (F = 1 ∨ F = 2) ∧ m'.1 9 0 13 = nI F ∧ m'.1 9 0 14 = nI (S t') ∧ ∃ b', m'.1 9 0 34 = nI b' ∧ b ≤ b' ∧ b' ≤ b + 1) ∧ (∀ t' x, res = .inr (t', x) → r9_q K V S e c0 t' (C + x.1.length + x.2.1.length + x.2.2.length) m' ∧ m'.1 9 0 34 = nI (b + 1) ∧ r9_mb m' c0 (C + x.1.length + x.2.1.length + x.2.2.length) b x ∧ r9_ag b C m m' ∧ t + 6 ≤ t')
theorem g9_P_F {res : qE qB} {r : (Int32 × zMem) ⊕ ((zMem) ⊕ (zMem))} {t' : Nat} (hr : res = .inl (F, t')) (hF : F = 1 ∨ F = 2) (f1 : zk (sRL c0 b0) m m2) (h13 : m2.1 9 0 13 = nI F) (h14 : m2.1 9 0 14 = nI (S t')) (h : g9_F b0 b m2 x4 r) : g9_P K V S e c0 b0 t C b m x4 res r := by
  obtain ⟨m', e1, f2, b', g1, g2⟩ := h
  refine ⟨m', e1, zk_t f1 (zk_FL f2), fun F2 t2 e => ?_, fun t2 x e => ?_⟩
  · rw [hr] at e
    cases e
    exact ⟨hF, by rw [f2.1 _ _ _ (by omega)]; exact h13, by rw [f2.1 _ _ _ (by omega)]; exact h14, b', g1, g2⟩
  · rw [hr] at e
    cases e
theorem p9_ifR (hk : r9_kk K e) (hV : ∀ j, K j = 3 → V j < 10000) (h : r9_q K V S e c0 t C m) (hb0 : b0 ≤ 130) (hb : b0 ≤ b ∧ b < b0 + 130) (h34 : m.1 9 0 34 = nI b) : zw (g9_B0 x4 m) (g9_P K V S e c0 b0 t C b m x4 (x_ifR K V t)) := by
  have h40 : m.1 9 0 40 = nI C := h.2.2.2.2.2.2.1
  unfold g9_B0 x_ifR
  simp only [z_let]
  rw [h34, if_pos (y_in (show b < 260 by omega) (by omega)), y_cl (by omega)]
  rw [show (z_sI m 135 0 b (vp_nar .boolean (1 : Int32))).1 9 0 34 = nI b by rw [z_sI_1, if_neg (by omega)]; exact h34, if_pos (y_in (show b < 260 by omega) (by omega)), y_cl (by omega)]
  rw [show (z_sI m 135 0 b (vp_nar .boolean (1 : Int32))).1 9 0 40 = nI C by rw [z_sI_1, if_neg (by omega)]; exact h40]
  obtain ⟨M, hM⟩ : ∃ M, M = z_sI (z_sI m 135 0 b (vp_nar .boolean (1 : Int32))) 136 0 b (nI C) := ⟨_, rfl⟩
  rw [← hM]
  have fM : zk (fun c i k => (c = 135 ∨ c = 136) ∧ i = 0 ∧ k = b) m M := by rw [hM]; exact zk_s (zk_s (zk_r m) (by omega)) (by omega)
  have M135 : M.1 135 0 b ≠ 0 := by
    rw [hM, z_sI_1, if_neg (by omega), z_sI_1, if_pos ⟨rfl, rfl, rfl⟩]
    decide
  have M136 : M.1 136 0 b = nI C := by rw [hM, z_sI_1, if_pos ⟨rfl, rfl, rfl⟩]
  clear hM
  have fML : zk (sRL c0 b0) m M := zk_m fM (fun c i k e => by omega)
  have M34 : M.1 9 0 34 = nI b := by rw [fM.1 _ _ _ (by omega)]; exact h34
  refine r9_ex hk hV (h.fr fM (fun c k e => by omega)) ?_ ?_
  · intro t2 u m2 e2 l2 g2 f2 q2 c2
    have e234 : m2.1 9 0 34 = nI b := by rw [f2.1 _ _ _ (by omega)]; exact M34
    rw [e2]
    unfold g9_B1
    refine r9_muQ (k := 60) hk (by decide) (by omega) rfl q2 ?_ ?_
    · intro e3 c3 m3 f3 q3
      have e334 : m3.1 9 0 34 = nI b := by rw [f3.1 _ _ _ (by omega)]; exact e234
      unfold g9_B2
      simp only [z_let]
      rw [e334, if_pos (y_in (show b < 260 by omega) (by omega)), y_cl (by omega), q3.2.2.2.2.2.2.1]
      obtain ⟨M4, hM4⟩ : ∃ M4, M4 = z_sI m3 137 0 b (nI (C + u.length)) := ⟨_, rfl⟩
      rw [← hM4]
      have f4 : zk (fun c i k => c = 137 ∧ i = 0 ∧ k = b) m3 M4 := by rw [hM4]; exact zk_s (zk_r m3) ⟨rfl, rfl, rfl⟩
      have M4137 : M4.1 137 0 b = nI (C + u.length) := by rw [hM4, z_sI_1, if_pos ⟨rfl, rfl, rfl⟩]
      clear hM4
      have q4 : r9_q K V S e c0 (t2 + 1) (C + u.length) M4 := q3.fr f4 (fun c k e => by omega)
      have e434 : M4.1 9 0 34 = nI b := by rw [f4.1 _ _ _ (by omega)]; exact e334
      have F4 : zk (sRL c0 b0) m M4 := zk_t fML (zk_t (zk_RL f2) (zk_t (zk_GL f3) (zk_m f4 (fun c i k e => by omega))))
      rw [q4.2.2.2.2.2.1, if_pos rfl, zw_bs]
      refine r9_ex hk hV q4 ?_ ?_
      · intro t5 v m5 e5 l5 g5 f5 q5 c5
        have e534 : m5.1 9 0 34 = nI b := by rw [f5.1 _ _ _ (by omega)]; exact e434
        unfold g9_B3
        refine r9_muQ (k := 138) hk (by decide) (by omega) rfl q5 ?_ ?_
        · intro e6 c6 m6 f6 q6
          have e634 : m6.1 9 0 34 = nI b := by rw [f6.1 _ _ _ (by omega)]; exact e534
          unfold g9_B4
          refine p9_term hk hV q6 hb0 hb e634 ?_ ?_
          · intro t7 w m7 e7 l7 g7 f7 q7 v34 v138 v139 vms vag v13x
            unfold g9_B5
            refine r9_muQ (k := 139) hk (by decide) (by omega) rfl q7 ?_ ?_
            · intro e8 c8 m8 f8 q8
              refine zw_some.mpr ⟨m8, rfl, zk_t F4 (zk_t (zk_RL f5) (zk_t (zk_GL f6) (zk_t f7 (zk_GL f8)))), fun F t' q => ?_, fun t' x q => ?_⟩
              · rw [e_bd, Sum.elim_inr, e3, e_bd, Sum.elim_inr, e5, e_bd, Sum.elim_inr, e6, e_bd, Sum.elim_inr, e7, e_bd, Sum.elim_inr, e8] at q
                cases q
              · rw [e_bd, Sum.elim_inr, e3, e_bd, Sum.elim_inr, e5, e_bd, Sum.elim_inr, e6, e_bd, Sum.elim_inr, e7, e_bd, Sum.elim_inr, e8, e_bd, Sum.elim_inr] at q
                have q' : (Sum.inr (t7 + 1, (u, v, w)) : qE qB) = .inr (t', x) := q
                cases q'
                have ag58 : r9_ag b (C + u.length + v.length) m5 m8 := r9_ag_t (r9_ag_k f6 (fun c j e => by omega)) (r9_ag_t vag (r9_ag_k (b := b) (C := C + u.length + v.length) f8 (fun c j e => by omega)) (Nat.le_refl _) (Nat.le_refl _)) (Nat.le_refl _) (Nat.le_refl _)
                have ag28 : r9_ag b (C + u.length) m2 m8 := r9_ag_t (r9_ag_k f3 (fun c j e => by omega)) (r9_ag_t (r9_ag_k (b := b) (C := C + u.length) f4 (fun c j e => by omega)) (r9_ag_t (r9_ag_c (b := b) f5 c5) ag58 (Nat.le_refl _) (by omega)) (Nat.le_refl _) (Nat.le_refl _)) (Nat.le_refl _) (Nat.le_refl _)
                have ag8 : r9_ag b C m m8 := r9_ag_t (r9_ag_k fM (fun c j e => by omega)) (r9_ag_t (r9_ag_c (b := b) f2 c2) ag28 (Nat.le_refl _) (by omega)) (Nat.le_refl _) (Nat.le_refl _)
                have w135 : m8.1 135 0 b ≠ 0 := by rw [f8.1 _ _ _ (by omega), v13x _ (by omega) (by omega), f6.1 _ _ _ (by omega), f5.1 _ _ _ (by omega), f4.1 _ _ _ (by omega), f3.1 _ _ _ (by omega), f2.1 _ _ _ (by omega)]; exact M135
                have w136 : m8.1 136 0 b = nI C := by rw [f8.1 _ _ _ (by omega), v13x _ (by omega) (by omega), f6.1 _ _ _ (by omega), f5.1 _ _ _ (by omega), f4.1 _ _ _ (by omega), f3.1 _ _ _ (by omega), f2.1 _ _ _ (by omega)]; exact M136
                have w137 : m8.1 137 0 b = nI (C + u.length) := by rw [f8.1 _ _ _ (by omega), v13x _ (by omega) (by omega), f6.1 _ _ _ (by omega), f5.1 _ _ _ (by omega)]; exact M4137
                have w138 : m8.1 138 0 b = nI (C + u.length + v.length) := by rw [f8.1 _ _ _ (by omega)]; exact v138
                have w139 : m8.1 139 0 b = nI (C + u.length + v.length + w.length) := by rw [f8.1 _ _ _ (by omega)]; exact v139
                have s1 : q_ms (m8.1 141 0) (m8.1 142 0) C u := q_ms_cong (fun j _ hj => ag28.2 j hj) c2.1
                have s2 : q_ms (m8.1 141 0) (m8.1 142 0) (C + u.length) v := q_ms_cong (fun j _ hj => ag58.2 j hj) c5.1
                have s3 : q_ms (m8.1 141 0) (m8.1 142 0) (C + u.length + v.length) w := q_ms_cong (fun j _ _ => ⟨f8.1 _ _ _ (by omega), f8.1 _ _ _ (by omega)⟩) vms
                exact ⟨q8, by rw [f8.1 _ _ _ (by omega)]; exact v34, ⟨by omega, w135, C, w136, w137, w138, w139, s1, s2, s3, h.2.1.1, Nat.le_refl _⟩, ag8, by omega⟩
            · intro F m8 e8 hF f8 g13 g14
              refine zw_mono (zw_some.mpr rfl) ?_
              rintro r rfl
              refine ⟨m8, rfl, zk_t F4 (zk_t (zk_RL f5) (zk_t (zk_GL f6) (zk_t f7 (zk_GL f8)))), fun F2 t2 q => ?_, fun t2 x q => ?_⟩
              · rw [e_bd, Sum.elim_inr, e3, e_bd, Sum.elim_inr, e5, e_bd, Sum.elim_inr, e6, e_bd, Sum.elim_inr, e7, e_bd, Sum.elim_inr, e8] at q
                have q' : (Sum.inl (F, t7) : qE qB) = .inl (F2, t2) := q
                cases q'
                exact ⟨hF, g13, g14, b + 1, by rw [f8.1 _ _ _ (by omega)]; exact v34, by omega, by omega⟩
              · rw [e_bd, Sum.elim_inr, e3, e_bd, Sum.elim_inr, e5, e_bd, Sum.elim_inr, e6, e_bd, Sum.elim_inr, e7, e_bd, Sum.elim_inr, e8] at q
                cases q
          · intro F t' m7 e7 hF f7 g13 g14 v34
            refine zw_mono (g9_B5F (b0 := b0) hF g13 v34) ?_
            rintro r ⟨m', r1, r2, r3⟩
            refine ⟨m', r1, zk_t F4 (zk_t (zk_RL f5) (zk_t (zk_GL f6) (zk_t f7 (zk_FL r2)))), fun F2 t2 q => ?_, fun t2 x q => ?_⟩
            · rw [e_bd, Sum.elim_inr, e3, e_bd, Sum.elim_inr, e5, e_bd, Sum.elim_inr, e6, e_bd, Sum.elim_inr, e7] at q
              have q' : (Sum.inl (F, t') : qE qB) = .inl (F2, t2) := q
              cases q'
              exact ⟨hF, by rw [r2.1 _ _ _ (by omega)]; exact g13, by rw [r2.1 _ _ _ (by omega)]; exact g14, b + 1, r3, by omega, by omega⟩
            · rw [e_bd, Sum.elim_inr, e3, e_bd, Sum.elim_inr, e5, e_bd, Sum.elim_inr, e6, e_bd, Sum.elim_inr, e7] at q
              cases q
        · intro F m6 e6 hF f6 g13 g14
          refine zw_mono (g9_B4F hF g13 hb0 hb (by rw [f6.1 _ _ _ (by omega)]; exact e534)) fun r hr => g9_P_F ?_ hF (zk_t F4 (zk_t (zk_RL f5) (zk_GL f6))) g13 g14 hr
          rw [e_bd, Sum.elim_inr, e3, e_bd, Sum.elim_inr, e5, e_bd, Sum.elim_inr, e6]; rfl
      · intro F t' m5 e5 hF f5 g13 g14
        refine zw_mono (g9_B3F hF g13 hb0 hb (by rw [f5.1 _ _ _ (by omega)]; exact e434)) fun r hr => g9_P_F ?_ hF (zk_t F4 (zk_RL f5)) g13 g14 hr
        rw [e_bd, Sum.elim_inr, e3, e_bd, Sum.elim_inr, e5]; rfl
    · intro F m3 e3 hF f3 g13 g14
      refine zw_mono (g9_B2F hF g13 hb0 hb (by rw [f3.1 _ _ _ (by omega)]; exact e234)) fun r hr => g9_P_F ?_ hF (zk_t fML (zk_t (zk_RL f2) (zk_GL f3))) g13 g14 hr
      rw [e_bd, Sum.elim_inr, e3]; rfl
  · intro F t' m2 e2 hF f2 g13 g14
    refine zw_mono (g9_B1F hF g13 hb0 hb (by rw [f2.1 _ _ _ (by omega)]; exact M34)) fun r hr => g9_P_F ?_ hF (zk_t fML (zk_RL f2)) g13 g14 hr
    rw [e2]; rfl
end
