/-! READ XII: the class cuts its TOKENS -/
section
variable {m m' : zMem} {n p i : Nat} {b : Nat → Int32}
abbrev l33 : Nat → Prop := fun c => c = 33
/-- behind one TOKEN at p: the place, the long -/
def qk_st (b : Nat → Int32) (n p i : Nat) (m m' : zMem) : Prop := zj s75 l33 m m' ∧ m'.1 7 0 5 = nI (qk_end b n p) ∧ (qk_kd b n p = 2 → m'.2.1 33 0 i = q_va q_f32 b p (qk_end b n p - p)) ∧ (qk_kd b n p = 3 → m'.2.1 33 0 i = q_va q_f10 b p (qk_end b n p - p)) ∧ ∀ j, j ≠ i → m'.2.1 33 0 j = m.2.1 33 0 j
theorem p7_scanLetters (hi : i < 401) (h : q_tp n b p m) (hp : p < n) (hl : q_let (b p) = true) : zw (f7_scanLetters (nI i) m) fun q => q.1 = nI (qk_kd b n p) ∧ qk_st b n p i m q.2 := by
  obtain ⟨hn, hp', h5, h4, h3, hb⟩ := id h
  have he : qk_end b n p = q_ru (fun k => q_let (b k)) p (n - p) := by unfold qk_end; rw [if_pos hp, hl, if_pos rfl]
  have hk : qk_kd b n p = (if 8 < qk_end b n p - p then 1 else match q_se (fun j => q_isw b j p (qk_end b n p - p)) 21 with | some j => 128 + j | none => 2) := by unfold qk_kd; rw [if_pos hp, hl, if_pos rfl]; rfl
  obtain ⟨g1, g2, g3⟩ := qk_end_sp (b := b) (Nat.le_of_lt hp)
  have g4 := g3 hp
  have k3 : qk_kd b n p ≠ 3 := fun q => by
    have := (qk_kd_3 q).2.1
    rw [hl] at this; exact absurd this (by decide)
  unfold f7_scanLetters
  refine zw_b (p7_lettersL h) ?_
  rintro ⟨e12, e13⟩ ⟨a1, a2, a3⟩
  have a1' : e12 = q_va q_f32 b p (q_ru (fun k => q_let (b k)) p (n - p) - p) := a1
  have a2' : zk s75 m e13 := a2
  have a3' : e13.1 7 0 5 = nI (q_ru (fun k => q_let (b k)) p (n - p)) := a3
  rw [← he] at a1' a3'
  rw [z_u2_ap, if_pos (y_in hi (by omega)), y_cl (by omega)]
  simp only [z_let]
  obtain ⟨M, hM⟩ : ∃ M, M = z_sL e13 33 0 i e12 := ⟨_, rfl⟩
  rw [← hM]
  have b1 : M.1 = e13.1 := by rw [hM]; rfl
  have b2 : M.2.2 = e13.2.2 := by rw [hM]; rfl
  have b3 : M.2.1 33 0 i = e12 := by rw [hM, z_sL_j, if_pos ⟨rfl, rfl, rfl⟩]
  have b4 : ∀ j, j ≠ i → M.2.1 33 0 j = m.2.1 33 0 j := fun j hj => by rw [hM, z_sL_j, if_neg (fun q => hj q.2.2), a2'.2]
  have b5 : zj s75 l33 m M := by rw [hM]; exact zj_l (zj_k a2') rfl
  clear hM
  have st : qk_st b n p i m M := ⟨b5, by rw [b1]; exact a3', fun _ => by rw [b3]; exact a1', fun q => absurd q k3, b4⟩
  rw [b1, a3', h5, pk_sub g1, y_8]
  by_cases c : 8 < qk_end b n p - p
  · rw [if_pos (nI_lt c (by omega))]
    exact zw_some.mpr ⟨by rw [hk, if_pos c]; rfl, st⟩
  · rw [if_neg (nI_nlt (by omega) (by omega))]
    have w : f7_wordOrName (nI p) M = some (q_won b p (qk_end b n p - p)) := p7_wordOrName hn (by rw [b1, a3']; congr 1; omega) (by rw [b5.2.2]; exact h3) (fun k hk => by rw [b5.1 _ _ _ (by omega)]; exact hb k hk) (by omega)
    rw [w, Option.bind_some]
    refine zw_some.mpr ⟨?_, st⟩
    rw [hk, if_neg c]
    unfold q_won
    rcases q_se_sp (fun j => q_isw b j p (qk_end b n p - p)) 21 with ⟨q1, _⟩ | ⟨k, hk', q1, _⟩
    · rw [q1]; rfl
    · rw [q1]; exact w_7j k hk'
theorem p7_scanDigits (hi : i < 401) (h : q_tp n b p m) (hp : p < n) (hl : q_let (b p) = false) (hd : q_dig (b p) = true) : zw (f7_scanDigits (nI i) m) fun q => q.1 = nI (qk_kd b n p) ∧ qk_st b n p i m q.2 := by
  obtain ⟨hn, hp', h5, h4, h3, hb⟩ := id h
  have he : qk_end b n p = q_ru (fun k => q_dig (b k)) p (n - p) := by unfold qk_end; rw [if_pos hp, hl, y_ff, hd, if_pos rfl]
  have hk : qk_kd b n p = (if 4 < qk_end b n p - p then 1 else 3) := by unfold qk_kd; rw [if_pos hp, hl, y_ff, hd, if_pos rfl]
  obtain ⟨g1, g2, g3⟩ := qk_end_sp (b := b) (Nat.le_of_lt hp)
  have g4 := g3 hp
  have k3 : qk_kd b n p ≠ 2 := fun q => by
    have := (qk_kd_2 q).2.1
    rw [hl] at this; exact absurd this (by decide)
  unfold f7_scanDigits
  refine zw_b (p7_digitsL h) ?_
  rintro ⟨e12, e13⟩ ⟨a1, a2, a3⟩
  have a1' : e12 = q_va q_f10 b p (q_ru (fun k => q_dig (b k)) p (n - p) - p) := a1
  have a2' : zk s75 m e13 := a2
  have a3' : e13.1 7 0 5 = nI (q_ru (fun k => q_dig (b k)) p (n - p)) := a3
  rw [← he] at a1' a3'
  rw [z_u2_ap, if_pos (y_in hi (by omega)), y_cl (by omega)]
  simp only [z_let]
  obtain ⟨M, hM⟩ : ∃ M, M = z_sL e13 33 0 i e12 := ⟨_, rfl⟩
  rw [← hM]
  have b1 : M.1 = e13.1 := by rw [hM]; rfl
  have b3 : M.2.1 33 0 i = e12 := by rw [hM, z_sL_j, if_pos ⟨rfl, rfl, rfl⟩]
  have b4 : ∀ j, j ≠ i → M.2.1 33 0 j = m.2.1 33 0 j := fun j hj => by rw [hM, z_sL_j, if_neg (fun q => hj q.2.2), a2'.2]
  have b5 : zj s75 l33 m M := by rw [hM]; exact zj_l (zj_k a2') rfl
  clear hM
  have st : qk_st b n p i m M := ⟨b5, by rw [b1]; exact a3', fun q => absurd q k3, fun _ => by rw [b3]; exact a1', b4⟩
  rw [b1, a3', h5, pk_sub g1, y_4]
  by_cases c : 4 < qk_end b n p - p
  · rw [if_pos (nI_lt c (by omega))]
    exact zw_some.mpr ⟨by rw [hk, if_pos c]; rfl, st⟩
  · rw [if_neg (nI_nlt (by omega) (by omega))]
    exact zw_some.mpr ⟨by rw [hk, if_neg c]; rfl, st⟩
theorem p7_scanToken (hi : i < 401) (h : q_tp n b p m) (hp : p < n) (hy : q_by (b p)) : zw (f7_scanToken (nI i) m) fun q => q.1 = nI (qk_kd b n p) ∧ qk_st b n p i m q.2 := by
  obtain ⟨hn, hp', h5, h4, h3, hb⟩ := id h
  have hl34 : z_len 34 0 = 2000 := rfl
  unfold f7_scanToken
  rw [h5, h3, hl34, if_pos (y_in (by omega) (by omega)), y_cl (by omega), hb p hp]
  simp only [z_let]
  rw [p7_isLetter, p7_isDigit]
  cases hl : q_let (b p)
  · rw [y_ff, if_pos rfl]
    cases hd : q_dig (b p)
    · rw [y_ff, if_pos rfl]
      have he : qk_end b n p = p + 1 := by unfold qk_end; rw [if_pos hp, hl, y_ff, hd, y_ff]
      have hk : qk_kd b n p = (if q_sg (b p) then (b p).toNatClampNeg else 1) := by unfold qk_kd; rw [if_pos hp, hl, y_ff, hd, y_ff]
      have k2 : qk_kd b n p ≠ 2 := fun q => by
        have := (qk_kd_2 q).2.1
        rw [hl] at this; exact absurd this (by decide)
      have k3 : qk_kd b n p ≠ 3 := fun q => by
        have := (qk_kd_3 q).2.2.1
        rw [hd] at this; exact absurd this (by decide)
      obtain ⟨M, hM⟩ : ∃ M, M = z_sI m 7 0 5 (nI p + 1) := ⟨_, rfl⟩
      rw [← hM]
      have st : qk_st b n p i m M := ⟨by rw [hM]; exact zj_s (zj_r m) ⟨rfl, rfl, rfl⟩, by rw [hM, z_sI_1, if_pos ⟨rfl, rfl, rfl⟩, he, y_s1], fun q => absurd q k2, fun q => absurd q k3, fun j _ => by rw [hM]; rfl⟩
      refine zw_b (p7_signs hy M) ?_
      intro y e
      cases hs : q_sg (b p)
      · rw [hs] at e
        have : y < 0 := of_decide_eq_true e
        rw [if_pos this]
        exact zw_some.mpr ⟨by rw [hk, hs, y_ff]; rfl, st⟩
      · rw [hs] at e
        have : ¬ y < 0 := of_decide_eq_false e
        rw [if_neg this]
        exact zw_some.mpr ⟨by rw [hk, hs, if_pos rfl]; exact (q_sg_i hs).symm, st⟩
    · rw [if_pos rfl, if_neg n01]
      refine zw_b (p7_scanDigits hi h hp hl hd) ?_
      rintro ⟨x, m1⟩ hq
      exact zw_some.mpr hq
  · rw [if_pos rfl, if_neg n01]
    refine zw_b (p7_scanLetters hi h hp hl) ?_
    rintro ⟨x, m1⟩ hq
    exact zw_some.mpr hq
/-- the class's TOKENS up to i -/
def qk_tc (b : Nat → Int32) (n i : Nat) (m : zMem) : Prop := ∀ j, j < i → m.1 31 0 j = nI (qk_K b n j) ∧ m.1 32 0 j = nI (qk_S b n j) ∧ (qk_K b n j = 2 → m.2.1 33 0 j = qk_A b n j) ∧ (qk_K b n j = 3 → m.2.1 33 0 j = lN (qk_V b n j))
abbrev sSc : Nat → Nat → Nat → Prop := fun c i k => (c = 7 ∧ i = 0 ∧ k = 5) ∨ c = 31 ∨ c = 32
theorem p7_scanL (h : q_tp n b 0 m) (hy : ∀ k, k < n → q_by (b k)) : zw (z_it f7_scan_L8 z_fu (0, m)) fun m' => zj sSc l33 m m' ∧ qk_tc b n 401 m' := by
  refine zw_for 401 (fun i m' => zj sSc l33 m m' ∧ q_tp n b (qk_p b n i) m' ∧ qk_tc b n i m') (by omega) ⟨zj_r m, h, fun j hj => absurd hj (by omega)⟩ ?_ ?_
  · rintro i m1 hi ⟨hf, ht, hc⟩
    unfold f7_scan_L8
    rw [z_u2_ap, show (400 : Int32) = nI 400 from rfl, if_neg (nI_nlt (by omega) (by omega))]
    refine zw_b (p7_skip ht) ?_
    rintro m2 ⟨hf2, ht2⟩
    have ht2' : q_tp n b (qk_S b n i) m2 := ht2
    rw [if_pos (y_in hi (by omega)), y_cl (by omega)]
    simp only [z_let]
    obtain ⟨M, hM⟩ : ∃ M, M = z_sI m2 32 0 i (m2.1 7 0 5) := ⟨_, rfl⟩
    rw [← hM]
    obtain ⟨hn, hp, h5, h4, h3, hb⟩ := id ht2'
    have fM : zk (fun c _ _ => c = 32) m2 M := by rw [hM]; exact zk_s (zk_r m2) rfl
    have M32 : M.1 32 0 i = nI (qk_S b n i) := by rw [hM, z_sI_1, if_pos ⟨rfl, rfl, rfl⟩, h5]
    have M32' : ∀ j, j ≠ i → M.1 32 0 j = m2.1 32 0 j := fun j hj => by rw [hM, z_sI_1, if_neg (fun q => hj q.2.2)]
    clear hM
    have tM : q_tp n b (qk_S b n i) M := ⟨hn, hp, by rw [fM.1 _ _ _ (by omega)]; exact h5, by rw [fM.1 _ _ _ (by omega)]; exact h4, by rw [fM.2]; exact h3, fun k hk => by rw [fM.1 _ _ _ (by omega)]; exact hb k hk⟩
    rw [tM.2.2.1, tM.2.2.2.1]
    have key : zw ((if nI (qk_S b n i) < nI n then (f7_scanToken (nI i) M).bind (z_u2 fun q20 qm21 => some (q20, qm21)) else some ((0 : Int32), M)) : Option (Int32 × zMem)) fun q => q.1 = nI (qk_K b n i) ∧ qk_st b n (qk_S b n i) i M q.2 := by
      by_cases c : qk_S b n i < n
      · rw [if_pos (nI_lt c (by omega))]
        refine zw_b (p7_scanToken hi tM c (hy _ c)) ?_
        rintro ⟨x, m3⟩ hq
        exact zw_some.mpr hq
      · rw [if_neg (nI_nlt (by omega) (by omega))]
        have k0 : qk_kd b n (qk_S b n i) = 0 := qk_kd_0.mpr c
        have he : qk_end b n (qk_S b n i) = qk_S b n i := by unfold qk_end; rw [if_neg c]
        refine zw_some.mpr ⟨?_, zj_r M, ?_, fun q => ?_, fun q => ?_, fun _ _ => rfl⟩
        · show _ = nI (qk_kd b n (qk_S b n i))
          rw [k0]; rfl
        · rw [he]; exact tM.2.2.1
        · rw [k0] at q; exact absurd q (by decide)
        · rw [k0] at q; exact absurd q (by decide)
    refine zw_b key ?_
    rintro ⟨x, m3⟩ ⟨ex, s1, s2, s3, s4, s5⟩
    have ex' : x = nI (qk_K b n i) := ex
    have s1' : zj s75 l33 M m3 := s1
    have s2' : m3.1 7 0 5 = nI (qk_p b n (i + 1)) := s2
    rw [z_u2_ap]
    have fAll : zj sSc l33 m (z_sI m3 31 0 i x) := zj_s (zj_t hf (zj_t (zj_k (zk_m hf2 (fun c i k e => by omega))) (zj_t (zj_k (zk_m fM (fun c i k e => by omega))) (zj_m s1' (fun c i k e => by omega) (fun c e => e))))) (by omega)
    have hle := qk_p_le (b := b) (n := n) (i + 1)
    refine zw_some.mpr ⟨y_s1 i, fAll, ⟨hn, hle, ?_, ?_, ?_, fun k hk => ?_⟩, fun j hj => ?_⟩
    · rw [z_sI_1, if_neg (by omega)]; exact s2'
    · rw [z_sI_1, if_neg (by omega), s1'.1 _ _ _ (by omega)]; exact tM.2.2.2.1
    · show m3.2.2 7 0 3 = 0
      rw [s1'.2.2]; exact tM.2.2.2.2.1
    · rw [z_sI_1, if_neg (by omega), s1'.1 _ _ _ (by omega)]; exact tM.2.2.2.2.2 k hk
    · by_cases c : j = i
      · subst c
        refine ⟨?_, ?_, fun q => ?_, fun q => ?_⟩
        · rw [z_sI_1, if_pos ⟨rfl, rfl, rfl⟩]; exact ex'
        · rw [z_sI_1, if_neg (by omega), s1'.1 _ _ _ (by omega)]; exact M32
        · exact s3 q
        · show m3.2.1 33 0 j = _
          rw [s4 q, show qk_V b n j = qk_nd b (qk_S b n j) (qk_L b n j) from rfl, ← qk_nd_v (qk_run3 q).2]
          rfl
      · obtain ⟨c1, c2, c3, c4⟩ := hc j (by omega)
        have e33 : m3.2.1 33 0 j = m1.2.1 33 0 j := by rw [s5 j c, fM.2, hf2.2]
        refine ⟨?_, ?_, fun q => ?_, fun q => ?_⟩
        · rw [z_sI_1, if_neg (by omega), s1'.1 _ _ _ (by omega), fM.1 _ _ _ (by omega), hf2.1 _ _ _ (by omega)]; exact c1
        · rw [z_sI_1, if_neg (by omega), s1'.1 _ _ _ (by omega), M32' j c, hf2.1 _ _ _ (by omega)]; exact c2
        · show m3.2.1 33 0 j = _
          rw [e33]; exact c3 q
        · show m3.2.1 33 0 j = _
          rw [e33]; exact c4 q
  · rintro m1 ⟨hf, ht, hc⟩
    unfold f7_scan_L8
    rw [z_u2_ap, if_pos (show (400 : Int32) < nI 401 by decide)]
    exact zw_some.mpr ⟨hf, hc⟩
theorem w_min : ∀ n, n ≤ 2000 → fj9_min_7cf53 (nI n) (Int32.ofNat 2000) = nI n := by
  intro n hn
  unfold fj9_min_7cf53
  exact if_neg (show ¬ nI 2000 < nI n from nI_nlt hn (by omega))
/-- the class's scan -/
theorem p7_scan (hn : n ≤ 2000) (hb : ∀ k, k < n → m.1 34 0 k = b k ∧ q_by (b k)) : zw (f7_scan 0 (nI n) m) fun m' => (∀ c i k, ¬ ((c = 7 ∧ i = 0) ∨ c = 31 ∨ c = 32) → m'.1 c i k = m.1 c i k) ∧ (∀ c, ¬ c = 33 → m'.2.1 c = m.2.1 c) ∧ (∀ c, ¬ c = 7 → m'.2.2 c = m.2.2 c) ∧ qk_tc b n 401 m' := by
  unfold f7_scan
  simp only [z_let]
  have e0 : (z_sR m 7 0 3 0).2.2 7 0 3 = 0 := rfl
  have hl34 : z_len 34 0 = 2000 := rfl
  rw [e0, hl34, w_min n hn]
  obtain ⟨M, hM⟩ : ∃ M, M = z_sI (z_sI (z_sR m 7 0 3 0) 7 0 4 (nI n)) 7 0 5 0 := ⟨_, rfl⟩
  rw [← hM]
  have f1 : ∀ c i k, ¬ (c = 7 ∧ i = 0) → M.1 c i k = m.1 c i k := fun c i k h => by rw [hM, z_sI_1, if_neg (by omega), z_sI_1, if_neg (by omega)]; rfl
  have f2 : M.2.1 = m.2.1 := by rw [hM]; rfl
  have f3 : ∀ c, ¬ c = 7 → M.2.2 c = m.2.2 c := fun c h => by
    rw [hM]
    funext i
    show (if c = 7 ∧ i = 0 then _ else m.2.2 c i) = m.2.2 c i
    rw [if_neg (by omega)]
  have g5 : M.1 7 0 5 = nI 0 := by rw [hM, z_sI_1, if_pos ⟨rfl, rfl, rfl⟩]; rfl
  have g4 : M.1 7 0 4 = nI n := by rw [hM, z_sI_1, if_neg (by omega), z_sI_1, if_pos ⟨rfl, rfl, rfl⟩]
  have g3 : M.2.2 7 0 3 = 0 := by rw [hM]; rfl
  clear hM
  refine zw_b (p7_scanL (b := b) (n := n) ⟨hn, Nat.zero_le _, g5, g4, g3, fun k hk => by rw [f1 _ _ _ (by omega)]; exact (hb k hk).1⟩ (fun k hk => (hb k hk).2)) ?_
  rintro m1 ⟨hf, hc⟩
  exact zw_some.mpr ⟨fun c i k h => by rw [hf.1 _ _ _ (by omega), f1 _ _ _ (by omega)], fun c h => by rw [hf.2.1 c h, f2], fun c h => by rw [hf.2.2, f3 c h], hc⟩
end
