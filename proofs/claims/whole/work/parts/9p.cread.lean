/-! READ XXXVIII: the class's readTape -/
abbrev sRd (o : Nat) : Nat → Nat → Nat → Prop := fun c i k => (c = 4 ∧ i = 0 ∧ (k = 4 ∨ k = 5 ∨ k = 6 ∨ k = 7 ∨ k = 8 ∨ k = 9 ∨ k = 10)) ∨ (c = 6 ∧ i = o) ∨ (c = 26 ∧ (i = 2 * o ∨ i = 2 * o + 1)) ∨ ((c = 27 ∨ c = 28 ∨ c = 29 ∨ c = 30) ∧ i = o) ∨ (c = 7 ∧ i = 0) ∨ c = 31 ∨ c = 32
section
variable {o n : Nat} {m m' : zMem} {b : Nat → Int32}
def q_res (b : Nat → Int32) (n : Nat) : (Nat × Nat) ⊕ qZ := x_text (qk_K b n) (qk_V b n) (qk_S b n) (qk_A b n) 401 q_z0
theorem i_PC {c i k : Nat} (h : sPC o c i k) : sRd o c i k := by
  rcases h with h | h | h | h
  · exact Or.inl ⟨h.1, h.2.1, by omega⟩
  · exact Or.inr (Or.inl h)
  · exact Or.inr (Or.inr (Or.inl h))
  · exact Or.inr (Or.inr (Or.inr (Or.inl h)))
theorem p4_readTape (ho : o < 2) (h43 : m.2.2 4 0 3 = o) (hn : n ≤ 2000) (hb : ∀ k, k < n → m.1 34 0 k = b k ∧ q_by (b k)) : zw (f4_readTape 0 (nI n) m) fun q => (∀ c i k, ¬ sRd o c i k → q.2.1 c i k = m.1 c i k) ∧ (∀ c, ¬ (c = 33 ∨ c = 21) → q.2.2.1 c = m.2.1 c) ∧ (∀ c, ¬ c = 7 → q.2.2.2 c = m.2.2 c) ∧ (∀ F t', q_res b n = .inl (F, t') → (F = 1 ∨ F = 2) ∧ q.1 = nI F ∧ q.2.1 4 0 8 = nI (qk_S b n t')) ∧ (∀ t T W G c hn pn d, q_res b n = .inr (t, T, W, G, c, hn, pn, d) → qz_ok (qk_K b n) (qk_S b n) (t, T, W, G, c, hn, pn, d) ∧ q.1 = nI d.1 ∧ q.2.1 4 0 8 = (if d.1 = 0 then -1 else nI d.2) ∧ qTx q.2 o T ∧ c4_gw o G W q.2 ∧ qCl q.2 o T) := by
  have hK : ∀ j, qk_K b n j < 149 := fun j => qk_ok_lt (qk_K_ok b n j)
  have hV : ∀ j, qk_K b n j = 3 → qk_V b n j < 10000 := fun j h => qk_V_lt h
  unfold f4_readTape
  refine zw_b (p7_scan hn hb) ?_
  rintro m1 ⟨s1, s2, s3, tc⟩
  have tok1 : c4_tok (qk_K b n) (qk_S b n) m1 := fun j hj => ⟨(tc j hj).1, (tc j hj).2.1⟩
  refine zw_b (p4_begin (K := qk_K b n) (V := qk_V b n) (S := qk_S b n) (A := qk_A b n) ho (by rw [s3 4 (by omega)]; exact h43) tok1 (fun j hj => ⟨(tc j hj).2.2.1, (tc j hj).2.2.2⟩)) ?_
  rintro m2 ⟨j2, st2⟩
  refine zw_b (x := z_it f4_readTape_L5 z_fu (1, 0, m2)) (p4_text hK hV 401 0 z_fu q_z0 m2 rfl (by show 402 < 5000; omega) qz_0 st2) ?_
  rintro m3 ⟨j3, p1, p2⟩
  have J : zj (sPC o) l21 m1 m3 := zj_t j2 j3
  have tok3 : c4_tok (qk_K b n) (qk_S b n) m3 := tok1.fr J (fun c k e => by omega)
  have fr1 : ∀ c i k, ¬ sRd o c i k → m3.1 c i k = m.1 c i k := fun c i k h => by
    rw [J.1 c i k (fun q => h (i_PC q)), s1 c i k (fun q => h (by
      rcases q with q | q | q
      · exact Or.inr (Or.inr (Or.inr (Or.inr (Or.inl q))))
      · exact Or.inr (Or.inr (Or.inr (Or.inr (Or.inr (Or.inl q)))))
      · exact Or.inr (Or.inr (Or.inr (Or.inr (Or.inr (Or.inr q)))))))]
  have fr2 : ∀ c, ¬ (c = 33 ∨ c = 21) → m3.2.1 c = m.2.1 c := fun c h => by rw [J.2.1 c (fun q => h (Or.inr q)), s2 c (fun q => h (Or.inl q))]
  have fr3 : ∀ c, ¬ c = 7 → m3.2.2 c = m.2.2 c := fun c h => by rw [J.2.2, s3 c h]
  have i48 : sRd o 4 0 8 := Or.inl ⟨rfl, rfl, by omega⟩
  have i47 : sRd o 4 0 7 := Or.inl ⟨rfl, rfl, by omega⟩
  have p1' : ∀ F t', q_res b n = .inl (F, t') → (F = 1 ∨ F = 2) ∧ t' ≤ 400 ∧ m3.1 4 0 4 = nI t' ∧ m3.1 4 0 7 = nI F := p1
  have p2' : ∀ z', q_res b n = .inr z' → qz_ok (qk_K b n) (qk_S b n) z' ∧ c4_st (qk_K b n) (qk_V b n) (qk_S b n) (qk_A b n) o z' m3 := p2
  rcases hr : q_res b n with ⟨F, t'⟩ | ⟨t, T, W, G, c, hn', pn, d⟩
  · obtain ⟨hF, ht', g4, g7⟩ := p1' F t' hr
    rw [g7, if_neg (y_F hF).2, g4, if_pos (y_in (by omega) (by omega)), y_cl (by omega)]
    simp only [z_let]
    rw [(tok3 t' (by omega)).2]
    refine zw_some.mpr ⟨fun c i k h => ?_, fr2, fr3, fun F2 t2 q => ?_, (fun t T W G c hn pn d q => by cases q)⟩
    · rw [z_sI_1, if_neg (fun q => h (by rw [q.1, q.2.1, q.2.2]; exact i48))]; exact fr1 c i k h
    · cases q
      exact ⟨hF, by rw [z_sI_1, if_neg (by omega)]; exact g7, by rw [z_sI_1, if_pos ⟨rfl, rfl, rfl⟩]⟩
  · obtain ⟨hz, hh, htx, hgw, hnm, N, hN, h9, hl⟩ := p2' _ hr
    obtain ⟨_, ht, _, _, _, _, g7, ⟨d5, d9, d10⟩, _⟩ := hh
    rw [g7, if_pos rfl]
    simp only [z_let]
    obtain ⟨M, hM⟩ : ∃ M, M = z_sI (z_sI m3 4 0 7 (m3.1 4 0 9)) 4 0 8 ((z_sI m3 4 0 7 (m3.1 4 0 9)).1 4 0 10) := ⟨_, rfl⟩
    rw [← hM]
    have fM : zk (fun c i k => c = 4 ∧ i = 0 ∧ (k = 7 ∨ k = 8)) m3 M := by rw [hM]; exact zk_s (zk_s (zk_r m3) (by omega)) (by omega)
    have M7 : M.1 4 0 7 = nI d.1 := by rw [hM, z_sI_1, if_neg (by omega), z_sI_1, if_pos ⟨rfl, rfl, rfl⟩]; exact d9
    have M8 : M.1 4 0 8 = if d.1 = 0 then -1 else nI d.2 := by rw [hM, z_sI_1, if_pos ⟨rfl, rfl, rfl⟩, z_sI_1, if_neg (by omega)]; exact d10
    clear hM
    have JM : zj (fun c i k => c = 4 ∧ i = 0 ∧ (k = 7 ∨ k = 8)) l21 m3 M := zj_k fM
    refine zw_some.mpr ⟨fun c i k h => ?_, fun c h => by rw [fM.2]; exact fr2 c h, fun c h => by rw [fM.2]; exact fr3 c h, (fun F t' q => by cases q), fun t2 T2 W2 G2 c2 hn2 pn2 d2 q => ?_⟩
    · rw [fM.1 c i k (fun q => h (Or.inl ⟨q.1, q.2.1, by omega⟩))]; exact fr1 c i k h
    · cases q
      refine ⟨hz, M7, M8, htx.zk fM (fun i k => by omega), hgw.fr JM (fun k => by omega), N, by omega, by rw [fM.1 _ _ _ (by omega)]; exact h9, fun k hk => ?_⟩
      obtain ⟨i, i1, i2⟩ := hl k hk
      exact ⟨i, by rw [fM.1 _ _ _ (by omega)]; exact i1, q_cl_cong (Nat.le_refl _) (fun a _ => fM.1 _ _ _ (by omega)) i2⟩
end
