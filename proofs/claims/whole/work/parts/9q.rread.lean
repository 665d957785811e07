/-! READ XXXIX: the reference's read -/
abbrev sRR (v : Nat) : Nat → Nat → Nat → Prop := fun c i k => sPR (420 * v) (130 * v) v c i k ∨ (c = 9 ∧ i = 0 ∧ (k = 2 ∨ k = 4 ∨ k = 10 ∨ k = 17 ∨ k = 19)) ∨ c = 103 ∨ c = 105 ∨ c = 106 ∨ c = 107
abbrev lRR : Nat → Prop := fun c => c = 108 ∨ c = 121
def g9_i1 (q : zMem) : zMem := z_sI (z_sI (z_sI (z_sI q 9 0 11 (0 : Int32)) 9 0 12 (0 : Int32)) 9 0 13 (0 : Int32)) 9 0 15 (0 : Int32)
def g9_i2 (q : zMem) : zMem := z_sI (z_sI (g9_i1 q) 9 0 19 ((1 : Int32) - ((g9_i1 q).1 9 0 18))) 9 0 20 (0 : Int32)
def g9_i3 (q : zMem) : zMem := z_sI (z_sI q 9 0 34 ((130 : Int32) * (q.1 9 0 19))) 9 0 40 ((420 : Int32) * ((z_sI q 9 0 34 ((130 : Int32) * (q.1 9 0 19))).1 9 0 19))
theorem f9_read_eq (m : zMem) : f9_read m = (z_it f9_read_L3 z_fu ((0 : Int32), z_sI m 9 0 4 (m.1 9 0 2))).bind (fun e10 => (f9_cut (z_sI e10 9 0 2 (0 : Int32))).bind (fun q14 => (f9_plain ((g9_i2 q14).1 9 0 19) (g9_i2 q14)).bind (fun q28 => (z_it f9_read_L34 z_fu (g9_i3 q28)).bind (fun e42 => ((if 0 < (e42.1 9 0 13) then some (e42.1 9 0 14) else (if 0 < (e42.1 9 0 15) then some (e42.1 9 0 16) else some (-1 : Int32))) : Option (Int32)).bind (fun j48 => if 0 < ((z_sI e42 9 0 17 j48).1 9 0 13) then some (((z_sI e42 9 0 17 j48).1 9 0 13), z_sI e42 9 0 17 j48) else (if 0 < ((z_sI e42 9 0 17 j48).1 9 0 15) then some (((z_sI e42 9 0 17 j48).1 9 0 15), z_sI e42 9 0 17 j48) else f9_rend (z_sI e42 9 0 17 j48))))))) := rfl
section
variable {live v n e : Nat} {m m' : zMem} {b : Nat → Int32} {c i k : Nat}
theorem i_R9 (h : c = 9 ∧ i = 0 ∧ (k = 2 ∨ k = 4 ∨ k = 10 ∨ k = 17 ∨ k = 19)) : sRR v c i k := Or.inr (Or.inl h)
theorem i_RP (h : sPR (420 * v) (130 * v) v c i k) : sRR v c i k := Or.inl h
theorem i_RPl (h : sPl v c i k) : sRR v c i k := by
  rcases h with h | h | h | h
  · exact Or.inl (Or.inr (Or.inr (Or.inl h)))
  · exact Or.inl (Or.inr (Or.inr (Or.inr (Or.inl ⟨Or.inr h.1, h.2⟩))))
  · exact Or.inl (Or.inr (Or.inr (Or.inr (Or.inr (Or.inl ⟨Or.inr h.1, h.2⟩)))))
  · exact Or.inl (Or.inr (Or.inr (Or.inr (Or.inr (Or.inr (Or.inl h))))))
theorem i_RC (hi : c = 9 → i = 0) (h : sCut c i k) : sRR v c i k := by
  rcases h with h | h | h | h
  · exact Or.inr (Or.inr (Or.inr (Or.inl h)))
  · exact Or.inr (Or.inr (Or.inr (Or.inr (Or.inl h))))
  · exact Or.inr (Or.inr (Or.inr (Or.inr (Or.inr h))))
  · exact i_R9 ⟨h.1, hi h.1, by omega⟩
theorem qk_kk (he : e ≤ 400) (h : qk_K b n e = 0 ∨ e = 400) : r9_kk (qk_K b n) e := ⟨he, fun j => qk_K_ok b n j, fun j hj h0 h4 => by
    rcases Nat.lt_or_ge j e with q | q
    · omega
    · have e' : j = e := by omega
      subst e'
      rcases h with h | h
      · exact absurd h h0
      · omega⟩
theorem qk_pl (hn : n ≤ 2000) (h : ∀ j, j < e → qk_K b n j ≠ 0) : r9_pl (qk_S b n) e := by
  refine ⟨fun j => Nat.le_trans (qk_S_le j) hn, fun i j => ?_⟩
  induction j with
  | zero => intro h1; omega
  | succ j ih =>
    intro h1 h2
    have hS : qk_S b n j < qk_S b n (j + 1) := qk_S_lt (by
      have := h j (by omega)
      rcases Nat.lt_or_ge (qk_S b n j) n with q | q
      · exact q
      · exact absurd (qk_kd_0.mpr (show ¬ qk_S b n j < n by omega)) this)
    rcases Nat.lt_or_ge i j with q | q
    · have := ih q (by omega)
      omega
    · have e' : i = j := by omega
      subst e'
      exact hS
theorem p9_read (hl : live < 2) (h18 : m.1 9 0 18 = nI live) (hn : n ≤ 2000) (h2 : m.1 9 0 2 = nI n) (hb : ∀ k, k < n → m.1 101 0 k = b k ∧ q_by (b k)) (hk : ∀ k, k < 21 → m.2.1 109 0 k = q_key k) : zw (f9_read m) fun q => (∀ c, ¬ lRR c → q.2.2.1 c = m.2.1 c) ∧ q.2.2.2 = m.2.2 ∧ q.2.1 9 0 2 = 0 ∧ (∀ F t', q_res b n = .inl (F, t') → q.1 = nI F ∧ q.2.1 9 0 17 = nI (qk_S b n t') ∧ ∀ c i k, ¬ (c = 9 ∧ i ≠ 0) → ¬ sRR (1 - live) c i k → q.2.1 c i k = m.1 c i k) ∧ (∀ t T W G c hn pn d, q_res b n = .inr (t, T, W, G, c, hn, pn, d) → (d.1 ≠ 0 → q.1 = nI d.1 ∧ q.2.1 9 0 17 = nI d.2 ∧ ∀ c i k, ¬ (c = 9 ∧ i ≠ 0) → ¬ sRR (1 - live) c i k → q.2.1 c i k = m.1 c i k) ∧ (d.1 = 0 → q.1 = 0 ∧ q.2.1 9 0 17 = -1 ∧ (∀ c i k, ¬ (c = 9 ∧ i ≠ 0) → ¬ (sRR (1 - live) c i k ∨ sE9 c i k) → q.2.1 c i k = m.1 c i k) ∧ qMx q.2 T (1 - live) ∧ qMl q.2 (1 - live) T ∧ qMn q.2 (q_bx W G (tP T) (tH T)) ∧ q.2.1 9 0 55 = 0 ∧ q.2.1 9 0 58 = 0 ∧ ∀ s, s < 3 → q.2.1 164 0 s = 0)) := by
  have hv : 1 - live < 2 := by omega
  obtain ⟨v, hv'⟩ : ∃ v, v = 1 - live := ⟨_, rfl⟩
  rw [← hv'] at hv ⊢
  rw [f9_read_eq, h2]
  obtain ⟨m1, e1⟩ : ∃ m1, m1 = z_sI m 9 0 4 (nI n) := ⟨_, rfl⟩
  rw [← e1]
  have f1 : zk (fun c i k => c = 9 ∧ i = 0 ∧ k = 4) m m1 := by rw [e1]; exact zk_s (zk_r m) ⟨rfl, rfl, rfl⟩
  have g14 : m1.1 9 0 4 = nI n := by rw [e1, z_sI_1, if_pos ⟨rfl, rfl, rfl⟩]
  clear e1
  refine zw_b (p9_copy (b := b) hn g14 (fun k hk' => by rw [f1.1 _ _ _ (by omega)]; exact hb k hk')) ?_
  rintro m2 ⟨f2, g2⟩
  obtain ⟨m3, e3⟩ : ∃ m3, m3 = z_sI m2 9 0 2 0 := ⟨_, rfl⟩
  rw [← e3]
  have f3 : zk (fun c i k => c = 9 ∧ i = 0 ∧ k = 2) m2 m3 := by rw [e3]; exact zk_s (zk_r m2) ⟨rfl, rfl, rfl⟩
  have g32 : m3.1 9 0 2 = 0 := by rw [e3, z_sI_1, if_pos ⟨rfl, rfl, rfl⟩]
  clear e3
  have E3 : m3.2 = m.2 := by rw [f3.2, f2.2, f1.2]
  have t9 : q_tp9 n b m3 := ⟨hn, by rw [f3.1 _ _ _ (by omega), f2.1 _ _ _ (by omega)]; exact g14, fun k hk' => ⟨by rw [f3.1 _ _ _ (by omega)]; exact g2 k hk', (hb k hk').2⟩⟩
  refine zw_b (p9_cut hn t9 (fun k hk' => by rw [E3]; exact hk k hk')) ?_
  rintro m4 ⟨f4, e, he, htm, hK0, hKe⟩
  obtain ⟨m5, e5⟩ : ∃ m5, m5 = g9_i2 m4 := ⟨_, rfl⟩
  rw [← e5]
  have f5 : zk (fun c i k => c = 9 ∧ i = 0 ∧ (k = 11 ∨ k = 12 ∨ k = 13 ∨ k = 15 ∨ k = 19 ∨ k = 20)) m4 m5 := by
    rw [e5]
    exact zk_s (zk_s (zk_s (zk_s (zk_s (zk_s (zk_r m4) (by omega)) (by omega)) (by omega)) (by omega)) (by omega)) (by omega)
  have i18 : (g9_i1 m4).1 9 0 18 = nI live := by
    unfold g9_i1
    rw [z_sI_1, if_neg (by omega), z_sI_1, if_neg (by omega), z_sI_1, if_neg (by omega), z_sI_1, if_neg (by omega), f4.1 _ _ _ (by omega), f3.1 _ _ _ (by omega), f2.1 _ _ _ (by omega), f1.1 _ _ _ (by omega)]
    exact h18
  have g5 : m5.1 9 0 11 = 0 ∧ m5.1 9 0 12 = 0 ∧ m5.1 9 0 13 = 0 ∧ m5.1 9 0 15 = 0 ∧ m5.1 9 0 19 = nI v ∧ m5.1 9 0 20 = 0 := by
    have e19 : (1 : Int32) - nI live = nI v := by rw [y_1, pk_sub (by omega), hv']
    rw [e5]
    unfold g9_i2
    rw [i18, e19]
    unfold g9_i1
    simp only [z_sI_1]
    refine ⟨?_, ?_, ?_, ?_, ?_, ?_⟩ <;> simp
  clear e5 i18
  obtain ⟨g511, g512, g513, g515, g519, g520⟩ := g5
  rw [g519]
  refine zw_b (p9_plain hv m5) ?_
  rintro m6 ⟨f6, pl⟩
  have g619 : m6.1 9 0 19 = nI v := by rw [f6.1 _ _ _ (by omega)]; exact g519
  obtain ⟨m7, e7⟩ : ∃ m7, m7 = g9_i3 m6 := ⟨_, rfl⟩
  rw [← e7]
  have f7 : zk (fun c i k => c = 9 ∧ i = 0 ∧ (k = 34 ∨ k = 40)) m6 m7 := by
    rw [e7]
    exact zk_s (zk_s (zk_r m6) (by omega)) (by omega)
  have g7 : m7.1 9 0 34 = nI (130 * v) ∧ m7.1 9 0 40 = nI (420 * v) := by
    have e2 : (z_sI m6 9 0 34 ((130 : Int32) * (m6.1 9 0 19))).1 9 0 19 = nI v := by rw [z_sI_1, if_neg (by omega)]; exact g619
    rw [e7]
    unfold g9_i3
    rw [e2, g619, show (130 : Int32) = nI 130 from rfl, show (420 : Int32) = nI 420 from rfl, pk_mul, pk_mul]
    refine ⟨?_, ?_⟩
    · rw [z_sI_1, if_neg (by omega), z_sI_1, if_pos ⟨rfl, rfl, rfl⟩]
    · rw [z_sI_1, if_pos ⟨rfl, rfl, rfl⟩]
  clear e7
  obtain ⟨⟨p1, p2, p3, p4, p5⟩, p6, p7, p8⟩ := pl
  -- the first state
  have F46 : ∀ c k, ((105 ≤ c ∧ c ≤ 108) ∨ c = 103) → m7.1 c 0 k = m4.1 c 0 k := fun c k h => by rw [f7.1 _ _ _ (by omega), f6.1 _ _ _ (by omega), f5.1 _ _ _ (by omega)]
  have E7 : m7.2 = m4.2 := by rw [f7.2, f6.2, f5.2]
  have tk7 : r9_tk (qk_K b n) (qk_V b n) (qk_S b n) e m7 := fun j hj => by
    obtain ⟨a1, a2, a3, a4⟩ := htm j (by omega)
    exact ⟨by rw [F46 _ _ (by omega)]; exact a1, by rw [F46 _ _ (by omega)]; exact a2, fun q => by rw [F46 _ _ (by omega)]; exact a4 q⟩
  have st7 : r9_st (qk_K b n) (qk_V b n) (qk_S b n) (qk_B b n) e (420 * v) (130 * v) v q_z0 m7 := by
    refine ⟨420 * v, 130 * v, ⟨⟨Nat.zero_le _, by omega, by omega, ?_, ?_, ?_, g7.2, tk7⟩, hv, ?_, ?_, ?_, ⟨by decide, ?_, fun q => absurd rfl q⟩, fun j hj q => ?_⟩, ⟨?_, ?_, ?_, fun h hh => absurd hh (Nat.not_lt_zero _), fun h hh => absurd hh (Nat.not_lt_zero _)⟩, ⟨fun h hh => ?_, fun p hp => ?_⟩, ⟨?_, fun _ => 0, fun k hk' => absurd hk' (Nat.not_lt_zero _), fun h hh => absurd hh (Nat.not_lt_zero _), fun h hh => absurd hh (Nat.not_lt_zero _), fun k k' _ hk' => absurd hk' (Nat.not_lt_zero _)⟩, g7.1, by omega, by omega, fun k hk' => Or.inl ⟨?_, rfl⟩⟩
    · rw [f7.1 _ _ _ (by omega), f6.1 _ _ _ (by omega)]; exact g511
    · rw [f7.1 _ _ _ (by omega), f6.1 _ _ _ (by omega)]; exact g512
    · rw [f7.1 _ _ _ (by omega), f6.1 _ _ _ (by omega)]; exact g513
    · rw [f7.1 _ _ _ (by omega)]; exact g619
    · rw [f7.1 _ _ _ (by omega)]; exact p3
    · rw [f7.1 _ _ _ (by omega)]; exact p4
    · rw [f7.1 _ _ _ (by omega), f6.1 _ _ _ (by omega)]; exact g515
    · rw [E7]; exact (htm j (by omega)).2.2.1 q
    · rw [f7.1 _ _ _ (by omega)]; exact p1
    · rw [f7.1 _ _ _ (by omega)]; exact p2
    · rw [f7.1 _ _ _ (by omega)]; exact p5
    · rw [f7.1 _ _ _ (by omega)]; exact p6 h hh
    · rw [f7.1 _ _ _ (by omega)]; exact p7 p hp
    · rw [f7.1 _ _ _ (by omega), f6.1 _ _ _ (by omega)]; exact g520
    · rw [f7.1 _ _ _ (by omega), f7.1 _ _ _ (by omega), (p8 k hk').1, (p8 k hk').2]
  have hV : ∀ j, qk_K b n j = 3 → qk_V b n j < 10000 := fun j h => qk_V_lt h
  refine zw_b (p9_text (A := qk_A b n) (qk_kk he hKe) hV (qk_pl hn hK0) (fun i j hi hj => qk_AB hi hj) 401 z_fu q_z0 m7 (by show 401 ≤ 401 + 0; omega) (by show 401 < 5000; omega) qz_0 st7) ?_
  rintro m8 ⟨j8, r1, r2⟩
  have r1' : ∀ F t', q_res b n = .inl (F, t') → r9_fl (qk_S b n) F t' m8 := r1
  have r2' : ∀ z', q_res b n = .inr z' → qz_ok (qk_K b n) (qk_S b n) z' ∧ r9_st (qk_K b n) (qk_V b n) (qk_S b n) (qk_B b n) e (420 * v) (130 * v) v z' m8 := r2
  clear r1 r2
  have L8 : ∀ c, ¬ lRR c → m8.2.1 c = m.2.1 c := fun c h => by rw [j8.2.1 c (fun q => h (Or.inr q)), E7, f4.2.1 c (fun q => h (Or.inl q)), E3]
  have R8 : m8.2.2 = m.2.2 := by rw [j8.2.2, E7, f4.2.2, E3]
  have F8 : ∀ c i k, ¬ (c = 9 ∧ i ≠ 0) → ¬ sRR v c i k → m8.1 c i k = m.1 c i k := fun c i k h0 h => by
    rw [j8.1 c i k (fun q => h (i_RP q)), f7.1 c i k (fun q => h (i_RP (Or.inl ⟨q.1, q.2.1, by omega⟩))), f6.1 c i k (fun q => h (i_RPl q)), f5.1 c i k (fun q => h (by
      by_cases c19 : k = 19
      · exact i_R9 ⟨q.1, q.2.1, by omega⟩
      · exact i_RP (Or.inl ⟨q.1, q.2.1, by omega⟩))), f4.1 c i k (fun q => h (i_RC (fun c9 => by
        rcases Nat.eq_zero_or_pos i with z | z
        · exact z
        · exact absurd ⟨c9, by omega⟩ h0) q)), f3.1 c i k (fun q => h (i_R9 ⟨q.1, q.2.1, by omega⟩)), f2.1 c i k (fun q => h (Or.inr (Or.inr (Or.inl q)))), f1.1 c i k (fun q => h (i_R9 ⟨q.1, q.2.1, by omega⟩))]
  have n92 : ¬ sPR (420 * v) (130 * v) v 9 0 2 := by omega
  have g82 : m8.1 9 0 2 = 0 := by rw [j8.1 _ _ _ n92, f7.1 _ _ _ (by omega), f6.1 _ _ _ (by omega), f5.1 _ _ _ (by omega), f4.1 _ _ _ (by omega)]; exact g32
  have fin : ∀ x : Int32, (∀ c i k, ¬ (c = 9 ∧ i ≠ 0) → ¬ sRR v c i k → (z_sI m8 9 0 17 x).1 c i k = m.1 c i k) ∧ (z_sI m8 9 0 17 x).1 9 0 2 = 0 ∧ (z_sI m8 9 0 17 x).1 9 0 17 = x := fun x => ⟨fun c i k h0 h => by rw [z_sI_1, if_neg (fun q => h (i_R9 ⟨q.1, q.2.1, by omega⟩))]; exact F8 c i k h0 h, by rw [z_sI_1, if_neg (by omega)]; exact g82, by rw [z_sI_1, if_pos ⟨rfl, rfl, rfl⟩]⟩
  rcases hr : q_res b n with ⟨F, t'⟩ | ⟨t, T, W, G, c, hn', pn, d⟩
  · obtain ⟨hF, g13, g14'⟩ := r1' F t' hr
    rw [g13, if_pos (y_F hF).1, Option.bind_some, show (z_sI m8 9 0 17 (m8.1 9 0 14)).1 9 0 13 = nI F by rw [z_sI_1, if_neg (by omega)]; exact g13, if_pos (y_F hF).1]
    refine zw_some.mpr ⟨L8, R8, (fin _).2.1, fun F2 t2 q => ?_, (fun t T W G c hn pn d q => by cases q)⟩
    cases q
    exact ⟨rfl, (fin _).2.2.trans g14', (fin _).1⟩
  · obtain ⟨hz, C, b1, ⟨hq, _, h19, _, _, ⟨d5, d15, d16⟩, _⟩, htx, hgw, _, hlw⟩ := r2' _ hr
    have g13 : m8.1 9 0 13 = 0 := hq.2.2.2.2.2.1
    rw [g13, if_neg (show ¬ (0 : Int32) < 0 by decide), d15]
    have e13 : ∀ x, (z_sI m8 9 0 17 x).1 9 0 13 = 0 := fun x => by rw [z_sI_1, if_neg (by omega)]; exact g13
    have e15 : ∀ x, (z_sI m8 9 0 17 x).1 9 0 15 = nI d.1 := fun x => by rw [z_sI_1, if_neg (by omega)]; exact d15
    by_cases cd : d.1 = 0
    · rw [if_neg (show ¬ (0 : Int32) < nI d.1 by rw [cd]; decide), Option.bind_some, e13, if_neg (show ¬ (0 : Int32) < 0 by decide), e15, if_neg (show ¬ (0 : Int32) < nI d.1 by rw [cd]; decide)]
      obtain ⟨M, hM⟩ : ∃ M, M = z_sI m8 9 0 17 (-1) := ⟨_, rfl⟩
      have fM : zk (fun c i k => c = 9 ∧ i = 0 ∧ k = 17) m8 M := by rw [hM]; exact zk_s (zk_r m8) ⟨rfl, rfl, rfl⟩
      obtain ⟨x1, x2, x3⟩ := fin (-1)
      rw [← hM] at x1 x2 x3 ⊢
      clear hM
      obtain ⟨z1, z2, z3, z4, z5, z6, z7, z8, z9, z10, z11, z12⟩ := hz
      have hML : qMl M v T := (r9_lw_q hv z1 hq.2.1.2 hlw).zk fM (fun c k e => by omega)
      refine zw_mono (p9_rend (W := W) (G := G) (T := T) hv (by rw [fM.1 _ _ _ (by omega)]; exact h19) z2 (by rw [fM.1 _ _ _ (by omega)]; exact htx.1) (by rw [fM.1 _ _ _ (by omega)]; exact htx.2.1) (by rw [fM.1 _ _ _ (by omega)]; exact htx.2.2.1) (fun h hh => by rw [fM.1 _ _ _ (by omega)]; exact htx.2.2.2.1 h hh) (fun k hk' => by rw [fM.1 _ _ _ (by omega)]; exact htx.2.2.2.2 k hk') (fun k hk' => by rw [fM.1 _ _ _ (by omega)]; exact hgw.2 k (Nat.lt_of_lt_of_le hk' z2.2)) (fun h hh => by rw [fM.1 _ _ _ (by omega)]; exact hgw.1 h (Nat.lt_of_lt_of_le hh z2.1))) ?_
      rintro ⟨q, m9⟩ ⟨y1, y2, y3, y4, y5, y6, y7⟩
      have y2' : zk sE9 M m9 := y2
      refine ⟨fun c h => ?_, ?_, ?_, (fun F t' q => by cases q), fun t2 T2 W2 G2 c2 hn2 pn2 d2 q => ?_⟩
      · show m9.2.1 c = _
        rw [y2'.2, fM.2]; exact L8 c h
      · show m9.2.2 = _
        rw [y2'.2, fM.2]; exact R8
      · show m9.1 9 0 2 = 0
        rw [y2'.1 _ _ _ (by omega)]; exact x2
      · cases q
        refine ⟨fun q => absurd cd q, fun _ => ⟨y1, ?_, fun c i k h0 h => ?_, y3, hML.zk y2' (fun c k e => by omega), y4, y5, y6, y7⟩⟩
        · show m9.1 9 0 17 = -1
          rw [y2'.1 _ _ _ (by omega)]; exact x3
        · show m9.1 c i k = _
          rw [y2'.1 c i k (fun q => h (Or.inr q))]
          exact x1 c i k h0 (fun q => h (Or.inl q))
    · have hpos : (0 : Int32) < nI d.1 := nI_lt (a := 0) (by omega) (by omega)
      rw [if_pos hpos, Option.bind_some, e13, if_neg (show ¬ (0 : Int32) < 0 by decide), e15, if_pos hpos]
      refine zw_some.mpr ⟨L8, R8, (fin _).2.1, (fun F t' q => by cases q), fun t2 T2 W2 G2 c2 hn2 pn2 d2 q => ?_⟩
      cases q
      exact ⟨fun _ => ⟨rfl, (fin _).2.2.trans (d16 cd).2, (fin _).1⟩, fun q => absurd q cd⟩
end
