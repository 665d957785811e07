/-! READ XLI: read's step -/
section
variable {B : Nat}
theorem i_RR9 {v c i k : Nat} (hc : c < 100) (h9 : c ≠ 9) (h : sRR v c i k ∨ sE9 c i k) : False := by
  rcases h with h | h
  · rcases h with h | h | h | h | h | h
    · rcases h with h | h | h | h | h | h | h | h | h <;> omega
    all_goals omega
  · omega
theorem s_read : qSt B f8_read f9_read := by
  rintro m ⟨T, o, v, r, hi, hN, hR⟩
  obtain ⟨t1, t2, ho, e8, e4, tx, cl, mx, ml⟩ := id hi
  obtain ⟨⟨u, nx, hs, a1⟩, _, _, n, hn, h81, h92, hby, hpl, hkey⟩ := id hR
  have hv : v < 2 := mx.1
  have ho' : 1 - o < 2 := by omega
  obtain ⟨b, hbE⟩ : ∃ b, b = m.1 101 0 := ⟨_, rfl⟩
  have hb : ∀ k, k < n → m.1 34 0 k = b k ∧ q_by (b k) := fun k hk => by rw [hbE]; exact hby k hk
  rw [f8_read_eq, h81]
  refine zw_b (p4_readTape (o := 1 - o) (b := b) ho' e4 hn hb) ?_
  rintro ⟨q, m1⟩ ⟨s1, s2, s3, p1, p2⟩
  have s1' : ∀ c i k, ¬ sRd (1 - o) c i k → m1.1 c i k = m.1 c i k := s1
  have s2' : ∀ c, ¬ (c = 33 ∨ c = 21) → m1.2.1 c = m.2.1 c := s2
  have s3' : ∀ c, ¬ c = 7 → m1.2.2 c = m.2.2 c := s3
  rw [z_u2_ap]
  simp only [z_let]
  obtain ⟨M, hM⟩ : ∃ M, M = z_sI m1 8 0 1 0 := ⟨_, rfl⟩
  rw [← hM]
  have fM : zk (fun c i k => c = 8 ∧ i = 0 ∧ k = 1) m1 M := by rw [hM]; exact zk_s (zk_r m1) ⟨rfl, rfl, rfl⟩
  have M81 : M.1 8 0 1 = 0 := by rw [hM, z_sI_1, if_pos ⟨rfl, rfl, rfl⟩]
  have f1 : ∀ c i k, ¬ sRd (1 - o) c i k → M.1 c i k = if c = 8 ∧ i = 0 ∧ k = 1 then 0 else m.1 c i k := fun c i k h => by
    rw [hM, z_sI_1]
    by_cases q : c = 8 ∧ i = 0 ∧ k = 1
    · rw [if_pos q, if_pos q]
    · rw [if_neg q, if_neg q]; exact s1' c i k h
  clear hM
  have g9 : ∀ c i k, c = 9 ∨ 100 ≤ c ∨ c = 3 → M.1 c i k = m.1 c i k := fun c i k h => by
    rw [f1 c i k (fun q => by rcases q with q | q | q | q | q | q | q <;> omega), if_neg (by omega)]
  have h18 : M.1 9 0 18 = nI v := by rw [g9 _ _ _ (by omega)]; exact mx.2.1
  have h2 : M.1 9 0 2 = nI n := by rw [g9 _ _ _ (by omega)]; exact h92
  have hb' : ∀ k, k < n → M.1 101 0 k = b k ∧ q_by (b k) := fun k hk => ⟨by rw [g9 _ _ _ (by omega), hbE], (hb k hk).2⟩
  have l1 : ∀ c, ¬ (c = 33 ∨ c = 21) → M.2.1 c = m.2.1 c := fun c h => by rw [fM.2]; exact s2' c h
  have x1 : ∀ c, ¬ c = 7 → M.2.2 c = m.2.2 c := fun c h => by rw [fM.2]; exact s3' c h
  have hk' : ∀ k, k < 21 → M.2.1 109 0 k = q_key k := fun k hk => by rw [l1 109 (by omega)]; exact hkey k hk
  rcases hr : q_res b n with ⟨F, t'⟩ | ⟨t, T', W, G, c, hn', pn, d⟩
  · obtain ⟨hF, q1, q2⟩ := p1 F t' hr
    have q1' : q = nI F := q1
    have q2' : m1.1 4 0 8 = nI (qk_S b n t') := q2
    rw [q1', if_neg (y_F hF).2]
    refine zw_some.mpr (zw_mono (p9_read hv h18 hn h2 hb' hk') ?_)
    rintro ⟨q9, m9⟩ ⟨w1, w2, w3, w4, _⟩
    obtain ⟨w5, w6, w7⟩ := w4 F t' hr
    have w6' : m9.1 9 0 17 = nI (qk_S b n t') := w6
    exact ⟨w5.symm, q_rfault hi hN hR f1 l1 x1 w7 w1 w2 w3 (by rw [w6', fM.1 _ _ _ (by omega)]; exact q2')⟩
  · obtain ⟨hz, q1, q2, qt, qg, qc⟩ := p2 t T' W G c hn' pn d hr
    have q1' : q = nI d.1 := q1
    have q2' : m1.1 4 0 8 = if d.1 = 0 then -1 else nI d.2 := q2
    obtain ⟨z1, z2, z3, z4, z5, z6, z7, z8, z9, z10, z11, z12⟩ := hz
    clear z6 z7 z12
    by_cases cd : d.1 = 0
    · rw [q1', if_pos (show nI d.1 = 0 by rw [cd]; rfl)]
      rw [if_pos cd] at q2'
      have qt' : qTx m1 (1 - o) T' := qt
      have qg' : c4_gw (1 - o) G W m1 := qg
      have qc' : qCl m1 (1 - o) T' := qc
      have hH := z2.1
      have hP := z2.2
      have hWW := z10 cd
      have MM : ∀ c i k, c ≠ 8 → M.1 c i k = m1.1 c i k := fun c i k h => fM.1 c i k (fun q => h q.1)
      refine zw_mono (p8_rend (q1 := nI d.1) (T := T') (o := 1 - o) (W := W) (G := G) (m := M) ho' (by rw [x1 8 (by omega), e8]; omega) (by rw [x1 4 (by omega)]; exact e4) z2 (qt'.fr (funext fun k => MM _ _ _ (by omega)) (funext fun k => MM _ _ _ (by omega)) (funext fun k => MM _ _ _ (by omega))) (fun k hk => by rw [MM _ _ _ (by omega)]; exact qg'.2 k (by omega)) (fun k hk => ?_) (fun h hh => ?_)) ?_
      · rcases hWW k (by omega) with q | ⟨g, hg, q⟩
        · exact Or.inl q
        · exact Or.inr (by rw [q]; exact nI_pos (by omega))
      · rw [MM _ _ _ (by omega), qg'.1 h hh]
        by_cases ch : h < tH T'
        · rw [if_pos ch]
        · rw [if_neg ch]; exact z9 h (by omega) hh
      rintro ⟨q5, m5⟩ ⟨y1, y2, y3, y4, y5, y6, y7, y8, y9, y10⟩
      have y2' : ∀ c i k, ¬ sE8 c i k → m5.1 c i k = M.1 c i k := y2
      have y3' : m5.2.1 = M.2.1 := y3
      have k18 : m5.1 9 0 18 = nI v := by rw [y2' _ _ _ (by omega)]; exact h18
      have k2 : m5.1 9 0 2 = nI n := by rw [y2' _ _ _ (by omega)]; exact h2
      refine zw_mono (p9_read (m := m5) (b := b) (n := n) hv k18 hn k2 (fun k hk => ⟨by rw [y2' _ _ _ (by omega)]; exact (hb' k hk).1, (hb' k hk).2⟩) (fun k hk => by rw [y3']; exact hk' k hk)) ?_
      rintro ⟨q9, m9⟩ ⟨w1, w2, w3, _, w4⟩
      obtain ⟨w5, w6, w7, w8, w9, w10, w11, w12, w13⟩ := (w4 t T' W G c hn' pn d hr).2 cd
      have w1' : ∀ c, ¬ lRR c → m9.2.1 c = m5.2.1 c := w1
      have w2' : m9.2.2 = m5.2.2 := w2
      have w7' : ∀ c i k, ¬ (c = 9 ∧ i ≠ 0) → ¬ (sRR (1 - v) c i k ∨ sE9 c i k) → m9.1 c i k = m5.1 c i k := w7
      have K9 : ∀ c i k, c < 100 → c ≠ 9 → m9.1 c i k = m5.1 c i k := fun c i k h1 h2 => w7' c i k (fun q => h2 q.1) (fun q => i_RR9 h1 h2 q)
      have y1' : q5 = nI d.1 := y1
      have w5' : q9 = 0 := w5
      refine ⟨?_, ?_⟩
      · show q5 = q9
        rw [y1', w5', cd]; rfl
      · have y7' : qRep m5 0 T' (q_bx W G (tP T') (tH T')) := y7
        have E8 : ∀ c i k, c < 100 → c ≠ 9 → ¬ sE8 c i k → c ≠ 8 → m9.1 c i k = m1.1 c i k := fun c i k h1 h2 h3 h4 => by rw [K9 c i k h1 h2, y2' c i k h3, MM c i k h4]
        have Q : qInv B m9 := by
          refine q_rclose (o := 1 - o) (v := 1 - v) (T := T') (r := q_bx W G (tP T') (tH T')) z2 z3 ho' (by rw [w2']; exact y4) (by rw [w2']; exact y5) (qt'.fr (funext fun k => E8 _ _ _ (by omega) (by omega) (by omega) (by omega)) (funext fun k => E8 _ _ _ (by omega) (by omega) (by omega) (by omega)) (funext fun k => E8 _ _ _ (by omega) (by omega) (by omega) (by omega))) (qc'.fr (funext fun k => E8 _ _ _ (by omega) (by omega) (by omega) (by omega)) (funext fun k => E8 _ _ _ (by omega) (by omega) (by omega) (by omega)) (funext fun k => E8 _ _ _ (by omega) (by omega) (by omega) (by omega))) w8 w9 (q_bx_row z2 (fun k hk => hWW k (by omega)) (fun h hh k q1 q2 => z8 h (by omega) k q1 q2)) (y7'.fr (funext fun k => K9 _ _ _ (by omega) (by omega)) (funext fun k => K9 _ _ _ (by omega) (by omega)) (funext fun k => K9 _ _ _ (by omega) (by omega)) (funext fun k => K9 _ _ _ (by omega) (by omega)) (funext fun k => K9 _ _ _ (by omega) (by omega))) w10 (nx := nx) a1.2.1 ?_ ?_ w11 ?_ w13 ?_ w12 ?_ w3 ?_ (fun k hk => ?_)
          · rw [K9 _ _ _ (by omega) (by omega), y2' _ _ _ (by omega), g9 _ _ _ (by omega)]; exact a1.2.2.1
          · rw [K9 _ _ _ (by omega) (by omega)]; exact y8
          · rw [K9 _ _ _ (by omega) (by omega)]; exact y10
          · rw [K9 _ _ _ (by omega) (by omega)]; exact y9
          · rw [K9 _ _ _ (by omega) (by omega), y2' _ _ _ (by omega)]; exact M81
          · have w6' : m9.1 9 0 17 = -1 := w6
            rw [w6', E8 _ _ _ (by omega) (by omega) (by omega) (by omega)]; exact q2'
          · rw [w1' 109 (by omega), y3']; exact hk' k hk
        obtain ⟨T2, o2, v2, r2, c1, c2, c3⟩ := Q
        exact ⟨T2, o2, v2, r2, c1, c2.mn (by omega), c3.mn (by omega)⟩
    · rw [q1', if_neg (show ¬ nI d.1 = 0 by rw [y_eq0 (by omega)]; exact cd)]
      rw [if_neg cd] at q2'
      refine zw_some.mpr (zw_mono (p9_read hv h18 hn h2 hb' hk') ?_)
      rintro ⟨q9, m9⟩ ⟨w1, w2, w3, _, w4⟩
      obtain ⟨w5, w6, w7⟩ := (w4 t T' W G c hn' pn d hr).1 cd
      have w6' : m9.1 9 0 17 = nI d.2 := w6
      exact ⟨w5.symm, q_rfault hi hN hR f1 l1 x1 w7 w1 w2 w3 (by rw [w6', fM.1 _ _ _ (by omega)]; exact q2')⟩
end
