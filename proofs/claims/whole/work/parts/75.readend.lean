/-! READ, its end: a text without a FAULT is taken over -/
section
variable {T : qT} {o v B : Nat} {r r' : Nat → Int32} {m m' : zMem} {W G : Nat → Int32}
abbrev sE8 : Nat → Nat → Nat → Prop := fun c i k => ((c = 5 ∨ c = 22 ∨ c = 23 ∨ c = 24 ∨ c = 25) ∧ i = 0) ∨ (c = 3 ∧ k = 2) ∨ (c = 2 ∧ k = 2) ∨ (c = 8 ∧ k = 11)
/-- what the class does behind a text without a FAULT -/
def f8_rend (q1 : Int32) (m4 : zMem) : Option (Int32 × zMem) := z_let (f4_exchange (m4.2.2 8 0 3) m4) (z_u2 fun q7 qm8 => z_let (z_sR qm8 8 0 3 q7) fun m10 => (f5_begin 0 (m10.2.2 8 0 3) m10).bind (fun qm12 => z_let (f3_clear qm12) (fun qm14 => z_let (f2_clear qm14) (fun qm16 => z_let (z_sI qm16 8 0 11 (0 : Int32)) fun m18 => some (q1, m18)))))
theorem f8_read_eq (m : zMem) : f8_read m = (f4_readTape 0 (m.1 8 0 1) m).bind (z_u2 fun q1 qm2 => z_let (z_sI qm2 8 0 1 (0 : Int32)) fun m4 => (if q1 = 0 then f8_rend q1 m4 else some (q1, m4))) := rfl
theorem p8_rend {q1 : Int32} (ho : o < 2) (h8 : m.2.2 8 0 3 = 1 - o) (h4 : m.2.2 4 0 3 = o) (hT : tOk T) (ht : qTx m o T) (hW : ∀ k, k < tP T → m.1 28 o k = W k) (hWr : ∀ k, k < tP T → W k = -1 ∨ ¬ W k < 0) (hG : ∀ h, h < 5 → m.1 27 o h = if h < tH T then G h else 0) : zw (f8_rend q1 m) fun q => q.1 = q1 ∧ (∀ c i k, ¬ sE8 c i k → q.2.1 c i k = m.1 c i k) ∧ q.2.2.1 = m.2.1 ∧ q.2.2.2 8 0 3 = o ∧ q.2.2.2 4 0 3 = 1 - o ∧ (∀ c, c ≠ 8 → c ≠ 4 → q.2.2.2 c = m.2.2 c) ∧ qRep q.2 0 T (q_bx W G (tP T) (tH T)) ∧ q.2.1 3 0 2 = 0 ∧ q.2.1 2 0 2 = 0 ∧ q.2.1 8 0 11 = 0 := by
  unfold f8_rend f4_exchange
  simp only [z_let, z_u2]
  rw [h8, h4]
  obtain ⟨M, hM⟩ : ∃ M, M = z_sR (z_sR m 4 0 3 (1 - o)) 8 0 3 o := ⟨_, rfl⟩
  rw [← hM]
  have e1 : M.1 = m.1 := by rw [hM]; rfl
  have e2 : M.2.1 = m.2.1 := by rw [hM]; rfl
  have e3 : M.2.2 8 0 3 = o := by rw [hM]; rfl
  have e4 : M.2.2 4 0 3 = 1 - o := by rw [hM]; rfl
  have e5 : ∀ c, c ≠ 8 → c ≠ 4 → M.2.2 c = m.2.2 c := fun c h1 h2 => by
    rw [hM]
    funext b
    show (if c = 8 ∧ b = 0 then _ else (if c = 4 ∧ b = 0 then _ else m.2.2 c b)) = m.2.2 c b
    rw [if_neg (fun q => h1 q.1), if_neg (fun q => h2 q.1)]
  clear hM
  rw [e3]
  have ht' : qTx M o T := by unfold qTx at *; rw [e1]; exact ht
  refine zw_b (p5_begin (W := W) (G := G) hT ht' (by rw [e1]; exact hW) hWr (by rw [e1]; exact hG)) ?_
  rintro m1 ⟨hf, hr⟩
  unfold f3_clear f2_clear
  simp only [z_let]
  refine zw_some.mpr ⟨rfl, fun c i k hs => ?_, ?_, ?_, ?_, fun c h1 h2 => ?_, ?_, ?_, ?_, ?_⟩
  · show (z_sI (z_sI (z_sI m1 3 0 2 0) 2 0 2 0) 8 0 11 0).1 c i k = _
    rw [z_sI_1, if_neg (by omega), z_sI_1, if_neg (by omega), z_sI_1, if_neg (by omega), hf.1 c i k (by omega), e1]
  · show m1.2.1 = _
    rw [hf.2, e2]
  · show m1.2.2 8 0 3 = _
    rw [hf.2, e3]
  · show m1.2.2 4 0 3 = _
    rw [hf.2, e4]
  · show m1.2.2 c = _
    rw [hf.2, e5 c h1 h2]
  · have hz : zk (fun c _ _ => c = 3 ∨ c = 2 ∨ c = 8) m1 (z_sI (z_sI (z_sI m1 3 0 2 0) 2 0 2 0) 8 0 11 0) := zk_s (zk_s (zk_s (zk_r m1) (by omega)) (by omega)) (by omega)
    exact hr.zk hz (fun k => by omega)
  · show (z_sI (z_sI (z_sI m1 3 0 2 0) 2 0 2 0) 8 0 11 0).1 3 0 2 = 0
    rw [z_sI_1, if_neg (by omega), z_sI_1, if_neg (by omega), z_sI_1, if_pos ⟨rfl, rfl, rfl⟩]
  · show (z_sI (z_sI (z_sI m1 3 0 2 0) 2 0 2 0) 8 0 11 0).1 2 0 2 = 0
    rw [z_sI_1, if_neg (by omega), z_sI_1, if_pos ⟨rfl, rfl, rfl⟩]
  · show (z_sI (z_sI (z_sI m1 3 0 2 0) 2 0 2 0) 8 0 11 0).1 8 0 11 = 0
    rw [z_sI_1, if_pos ⟨rfl, rfl, rfl⟩]
end
