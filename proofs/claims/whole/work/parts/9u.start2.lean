/-! piece by piece: the constructors' cells are the list's cells -/
theorem w_en {Q : zP} {m m' : zMem} (h : w_fr m m') {c i : Nat} (hc : c < 100) (h9 : c ≠ 9) : z_enc Q m' c i = z_enc Q m c i := by
  have e1 : m'.1 c i = m.1 c i := funext fun k => h.1 c i k hc h9
  have e2 : m'.2.1 c i = m.2.1 c i := by rw [h.2.1 c hc]
  have e3 : m'.2.2 = m.2.2 := h.2.2
  unfold z_enc z_arr z_fv
  rw [e1, e2, e3]
theorem w_a {P : zP} {b c i n : Nat} (hc : c < 90) (h : w_Ls.idxOf (c, i) = n) : z_ad (zl_P P b w_Ls) c i = b + n := by
  show (if 90 ≤ c ∧ c < 100 then z_ad P c i else b + w_Ls.idxOf (c, i)) = b + n
  rw [if_neg (by omega), h]
section WP
variable {P : zP} {b : Nat}
abbrev w_e (P : zP) (b : Nat) : Nat × Nat → va_E := fun q => z_enc (zl_P P b w_Ls) w_m q.1 q.2
theorem w_pz5 {i a : Nat} (hi : i < 46) (ha : a = b + w_sb i) : (w_st i).map (w_e P b) = zk_c5 P a := by
  have e5 : w_e P b (5, i) = .inr (5, [.int 0, .int 0, .int 0, .ref (z_ad (zl_P P b w_Ls) 22 i), .ref (z_ad (zl_P P b w_Ls) 23 i), .ref (z_ad (zl_P P b w_Ls) 24 i), .ref (z_ad (zl_P P b w_Ls) 25 i)]) := rfl
  obtain ⟨-, h1, h2, h3, h4⟩ := w_i5 i hi
  subst ha
  show [w_e P b (5, i), zk_z P 0 7, zk_z P 0 7, zk_z P 0 7, zk_z P 0 5] = _
  rw [e5, w_a (by omega) h1, w_a (by omega) h2, w_a (by omega) h3, w_a (by omega) h4]
  rfl
theorem w_pz6 {o a : Nat} (hi : o < 2) (ha : a = b + (10 + 7 * o)) : (w_tx o).map (w_e P b) = zk_c6 P a := by
  have e6 : w_e P b (6, o) = .inr (6, [.int ((z_em 0 z_M0).1 6 0 0), .int ((z_em 0 z_M0).1 6 0 1), .int ((z_em 0 z_M0).1 6 0 2), .ref (z_ad (zl_P P b w_Ls) 26 (2 * o)), .ref (z_ad (zl_P P b w_Ls) 27 o), .ref (z_ad (zl_P P b w_Ls) 26 (2 * o + 1)), .ref (z_ad (zl_P P b w_Ls) 28 o), .ref (z_ad (zl_P P b w_Ls) 29 o), .ref (z_ad (zl_P P b w_Ls) 30 o), .int ((z_em 0 z_M0).1 6 0 9)]) := rfl
  have e26 : w_e P b (26, 2 * o) = zk_z P 0 5 := by
    show Sum.inl (z_cA P 0, (if 2 * o % 2 = 0 then 5 else 7), _) = _
    rw [if_pos (by omega)]
    rfl
  have e26' : w_e P b (26, 2 * o + 1) = zk_z P 0 7 := by
    show Sum.inl (z_cA P 0, (if (2 * o + 1) % 2 = 0 then 5 else 7), _) = _
    rw [if_neg (by omega)]
    rfl
  obtain ⟨-, h1, h2, h3, h4, h5, h6⟩ := w_i6 o hi
  subst ha
  show [w_e P b (6, o), w_e P b (26, 2 * o), w_e P b (27, o), w_e P b (26, 2 * o + 1), w_e P b (28, o), w_e P b (29, o), w_e P b (30, o)] = _
  rw [e6, e26, e26', w_a (by omega) h1, w_a (by omega) h2, w_a (by omega) h3, w_a (by omega) h4, w_a (by omega) h5, w_a (by omega) h6]
  rfl
theorem w_i7 : w_Ls.idxOf (31, 0) = 4 ∧ w_Ls.idxOf (32, 0) = 5 ∧ w_Ls.idxOf (33, 0) = 6 ∧ w_Ls.idxOf (34, 1) = 7 := by decide +kernel
theorem w_pz7 : w_L7.map (w_e P b) = zk_c7 P (b + 2 + 1) := by
  have e7 : w_e P b (7, 0) = .inr (7, [.ref (z_ad (zl_P P b w_Ls) 31 0), .ref (z_ad (zl_P P b w_Ls) 32 0), .ref (z_ad (zl_P P b w_Ls) 33 0), .ref (z_ad (zl_P P b w_Ls) 34 1), .int 0, .int 0]) := rfl
  obtain ⟨h1, h2, h3, h4⟩ := w_i7
  show [w_e P b (7, 0), zk_z P 0 401, zk_z P 0 401, zk_z P 3 401, zk_z P 1 0] = _
  rw [e7, w_a (by omega) h1, w_a (by omega) h2, w_a (by omega) h3, w_a (by omega) h4]
  rfl
theorem w_i4 : w_Ls.idxOf (7, 0) = 3 ∧ w_Ls.idxOf (21, 0) = 8 ∧ w_Ls.idxOf (21, 1) = 9 ∧ w_Ls.idxOf (6, 0) = 10 := by decide +kernel
theorem w_pz4 : w_L4.map (w_e P b) = zk_c4 P (b + 2) := by
  have e4 : w_e P b (4, 0) = .inr (4, [.ref (z_ad (zl_P P b w_Ls) 7 0), .ref (z_ad (zl_P P b w_Ls) 21 0), .ref (z_ad (zl_P P b w_Ls) 21 1), .ref (z_ad (zl_P P b w_Ls) 6 0), .int 0, .int 0, .int 0, .int 0, .int (-1), .int 0, .int (-1)]) := rfl
  obtain ⟨h1, h2, h3, h4⟩ := w_i4
  rw [List.map_cons, List.map_append, List.map_append, List.map_append, List.map_append, w_pz7, w_pz6 (o := 0) (a := b + 2 + 8) (by omega) (by omega), e4, w_a (by omega) h1, w_a (by omega) h2, w_a (by omega) h3, w_a (by omega) h4]
  rfl
theorem w_ps_s (i : Nat) : w_ps (i + 1) = w_ps i ++ w_st (3 + i) := by
  unfold w_ps
  rw [List.range_succ, List.flatMap_append]
  simp
theorem w_pp : ∀ i, i ≤ 40 → (w_ps i).map (w_e P b) = zk_pf P (b + 41) i
  | 0, _ => rfl
  | i + 1, h => by
    rw [w_ps_s, zk_pf_s, List.map_append, w_pp i (by omega), w_pz5 (i := 3 + i) (a := b + 41 + (2 + 5 * i)) (by omega) (by unfold w_sb; rw [if_neg (by omega), if_pos (by omega)]; omega)]
theorem w_i3 : w_Ls.idxOf (20, 0) = 42 := by decide +kernel
theorem w_pz3 : zE (zk_c3 P (b + 41)) (w_L3.map (w_e P b)) := by
  have e3 : w_e P b (3, 0) = .inr (3, [.ref (z_ad (zl_P P b w_Ls) 20 0), .int 0, .int 0]) := rfl
  rw [List.map_cons, List.map_cons, w_pp 40 (by omega), e3, w_a (by omega) w_i3]
  refine zE.cons rfl (zE.app (a := [_]) (a' := [_]) (zE.refs fun k hk => ?_) (zE.rf rfl))
  show zk_pr (b + 41) 40 k = some (z_ad (zl_P P b w_Ls) 5 (3 + k))
  rw [w_a (by omega) (w_i5 (3 + k) (by omega)).1]
  unfold zk_pr w_sb
  rw [if_pos hk, if_neg (by omega), if_pos (by omega)]
  congr 1
  omega
theorem w_i1 : ∀ i, i < 2 → w_Ls.idxOf (10, i) = 244 + 6 * i + 1 ∧ w_Ls.idxOf (11, i) = 244 + 6 * i + 2 ∧ w_Ls.idxOf (12, i) = 244 + 6 * i + 3 ∧ w_Ls.idxOf (13, i) = 244 + 6 * i + 4 := by decide +kernel
theorem w_pz1 {i a : Nat} (hi : i < 2) (ha : a = b + (244 + 6 * i)) : (w_ct i).map (w_e P b) = zk_c1 P a := by
  have e1 : w_e P b (1, i) = .inr (1, [.ref (z_ad (zl_P P b w_Ls) 10 i), .ref (z_ad (zl_P P b w_Ls) 11 i), .ref (z_ad (zl_P P b w_Ls) 12 i), .ref (z_ad (zl_P P b w_Ls) 13 i)]) := rfl
  obtain ⟨h1, h2, h3, h4⟩ := w_i1 i hi
  subst ha
  show [w_e P b (1, i), zk_z P 0 5, zk_z P 0 7, zk_z P 0 7, zk_z P 0 16] = _
  rw [e1, w_a (by omega) h1, w_a (by omega) h2, w_a (by omega) h3, w_a (by omega) h4]
  rfl
theorem w_i0 : w_Ls.idxOf (1, 1) = 250 ∧ w_Ls.idxOf (14, 0) = 255 := by decide +kernel
theorem w_pz0 : w_L0.map (w_e P b) = zk_c0 P (b + 249) := by
  have e0 : w_e P b (0, 0) = .inr (0, [.ref (z_ad (zl_P P b w_Ls) 1 1), .ref (z_ad (zl_P P b w_Ls) 14 0)]) := rfl
  rw [List.map_cons, List.map_append, List.map_append, w_pz1 (i := 1) (a := b + 249 + 1) (by omega) (by omega), e0, w_a (by omega) w_i0.1, w_a (by omega) w_i0.2]
  rfl
theorem w_i2 : w_Ls.idxOf (15, 0) = 257 ∧ w_Ls.idxOf (16, 0) = 258 ∧ w_Ls.idxOf (17, 0) = 259 ∧ w_Ls.idxOf (18, 0) = 260 ∧ w_Ls.idxOf (19, 0) = 261 := by decide +kernel
theorem w_pz2 : w_L2.map (w_e P b) = zk_c2 P (b + 256) := by
  have e2 : w_e P b (2, 0) = .inr (2, [.ref (z_ad (zl_P P b w_Ls) 15 0), .ref (z_ad (zl_P P b w_Ls) 16 0), .int 0, .int 0, .ref (z_ad (zl_P P b w_Ls) 17 0), .ref (z_ad (zl_P P b w_Ls) 18 0), .ref (z_ad (zl_P P b w_Ls) 19 0)]) := rfl
  obtain ⟨h1, h2, h3, h4, h5⟩ := w_i2
  show [w_e P b (2, 0), zk_z P 0 20, zk_z P 0 20, zk_z P 0 7, zk_z P 0 128, zk_z P 0 128] = _
  rw [e2, w_a (by omega) h1, w_a (by omega) h2, w_a (by omega) h3, w_a (by omega) h4, w_a (by omega) h5]
  rfl
theorem w_i8 : w_Ls.idxOf (34, 0) = 1 ∧ w_Ls.idxOf (4, 0) = 2 ∧ w_Ls.idxOf (6, 1) = 17 ∧ w_Ls.idxOf (5, 0) = 24 ∧ w_Ls.idxOf (5, 1) = 29 ∧ w_Ls.idxOf (5, 2) = 34 ∧ w_Ls.idxOf (35, 0) = 39 ∧ w_Ls.idxOf (36, 0) = 40 ∧ w_Ls.idxOf (3, 0) = 41 ∧ w_Ls.idxOf (37, 0) = 243 ∧ w_Ls.idxOf (1, 0) = 244 ∧ w_Ls.idxOf (0, 0) = 249 ∧ w_Ls.idxOf (2, 0) = 256 := by decide +kernel
theorem w_pz8 : zE (zk_c8 P b) (w_L8.map (w_e P b)) := by
  have e8 : w_e P b (8, 0) = .inr (8, [.ref (z_ad (zl_P P b w_Ls) 34 0), .int 0, .ref (z_ad (zl_P P b w_Ls) 4 0), .ref (z_ad (zl_P P b w_Ls) 6 1), .ref (z_ad (zl_P P b w_Ls) 5 0), .ref (z_ad (zl_P P b w_Ls) 5 1), .ref (z_ad (zl_P P b w_Ls) 5 2), .ref (z_ad (zl_P P b w_Ls) 35 0), .ref (z_ad (zl_P P b w_Ls) 36 0), .ref (z_ad (zl_P P b w_Ls) 3 0), .ref (z_ad (zl_P P b w_Ls) 37 0), .int 0, .ref (z_ad (zl_P P b w_Ls) 1 0), .ref (z_ad (zl_P P b w_Ls) 0 0), .ref (z_ad (zl_P P b w_Ls) 2 0)]) := rfl
  obtain ⟨h1, h2, h3, h4, h5, h6, h7, h8, h9, h10, h11, h12, h13⟩ := w_i8
  rw [w_a (by omega) h1, w_a (by omega) h2, w_a (by omega) h3, w_a (by omega) h4, w_a (by omega) h5, w_a (by omega) h6, w_a (by omega) h7, w_a (by omega) h8, w_a (by omega) h9, w_a (by omega) h10, w_a (by omega) h11, w_a (by omega) h12, w_a (by omega) h13] at e8
  unfold w_L8 zk_c8
  rw [List.map_cons, e8]
  refine zE.cons rfl ?_
  rw [List.map_append, List.map_append, List.map_append, List.map_append, List.map_append, List.map_append, List.map_append, List.map_append, List.map_append, List.map_append, List.map_append, List.map_append, List.map_append, List.map_append, List.map_append, List.map_append]
  refine zE.app (zE.app (zE.app (zE.app (zE.app (zE.app (zE.app (zE.app (zE.app (zE.app (zE.app (zE.app (zE.app (zE.app (zE.app (zE.app (zE.rf rfl) (zE.rf rfl)) (zE.rf w_pz4.symm)) (zE.rf (w_pz6 (o := 1) (by omega) rfl).symm)) (zE.rf (w_pz5 (i := 0) (by omega) rfl).symm)) (zE.rf (w_pz5 (i := 1) (by omega) rfl).symm)) (zE.rf (w_pz5 (i := 2) (by omega) rfl).symm)) (zE.rf rfl)) (zE.rf rfl)) w_pz3) (zE.refs fun k hk => ?_)) (zE.rf (w_pz1 (i := 0) (by omega) rfl).symm)) (zE.rf w_pz0.symm)) (zE.rf w_pz2.symm)) (zE.rf (w_pz5 (i := 43) (by omega) rfl).symm)) (zE.rf (w_pz5 (i := 44) (by omega) rfl).symm)) (zE.rf (w_pz5 (i := 45) (by omega) rfl).symm)
  show va_up (va_up (va_up (fun _ => none) 0 (some (b + 262))) 1 (some (b + 267))) 2 (some (b + 272)) k = some (z_ad (zl_P P b w_Ls) 5 (43 + k))
  rw [w_a (by omega) (w_i5 (43 + k) (by omega)).1]
  match k, hk with
  | 0, _ => rfl
  | 1, _ => rfl
  | 2, _ => rfl
  | k + 3, h => exact absurd h (by omega)
end WP
