/-! Text: its constructor ends with empty() -/
theorem z_sI_1 {μ : zMem} {c i k a b j : Nat} {x : Int32} : (z_sI μ c i k x).1 a b j = if a = c ∧ b = i ∧ j = k then x else μ.1 a b j := by
  unfold z_sI z_uI
  by_cases h : a = c ∧ b = i
  · obtain ⟨rfl, rfl⟩ := h
    by_cases hj : j = k
    · subst hj
      simp [upd]
    · simp [upd, hj]
  · have h2 : ¬ (a = c ∧ b = i ∧ j = k) := fun q => h ⟨q.1, q.2.1⟩
    simp [h, h2]
theorem z_sI_2 {μ : zMem} {c i k : Nat} {x : Int32} : (z_sI μ c i k x).2 = μ.2 := rfl
theorem z_uI_1j {μ : zMem} {c i a b j : Nat} {f : Nat → Int32} : (z_uI μ c i f).1 a b j = if a = c ∧ b = i then f j else μ.1 a b j := by
  rw [z_uI_1]
  by_cases h : a = c ∧ b = i
  · rw [if_pos h, if_pos h]
  · rw [if_neg h, if_neg h]
theorem p6_write {o : Nat} {μ : zMem} {a : Int32} (w : Nat) (hw : μ.1 6 o 9 = nI w) (h : w < 404) : f6_write o a μ = some (z_sI (z_sI μ 29 o w a) 6 o 9 (nI (w + 1))) := by
  unfold f6_write
  rw [hw, if_pos (show nI w < (404 : Int32) from nI_lt (b := 404) h (by decide)), if_pos (z_in_n h (by decide))]
  simp only [z_let]
  rw [z_cl (by omega), z_sI_1, if_neg (by omega), hw, nI_1]
/-- the memory behind empty() -/
def z_em (o : Nat) (μ : zMem) : zMem :=
  let m1 := z_sI (z_sI (z_sI μ 6 o 0 0) 6 o 1 0) 6 o 2 0
  let m2 := z_uI m1 27 o (z_fl 5 (fun _ => 0) (m1.1 27 o))
  let m3 := z_uI m2 28 o (z_fl 7 (fun _ => -1) (m2.1 28 o))
  let m4 := z_sI (z_sI (z_sI (z_sI m3 6 o 9 0) 30 o 0 0) 30 o 1 0) 30 o 2 0
  let m5 := z_sI (z_sI m4 29 o 0 0) 6 o 9 (nI 1)
  let m6 := z_sI (z_sI m5 29 o 1 (-15)) 6 o 9 (nI 2)
  let m7 := z_sI m6 30 o 3 (nI 2)
  let m8 := z_sI (z_sI m7 29 o 2 (-1)) 6 o 9 (nI 3)
  z_sI (z_sI m8 29 o 3 (-15)) 6 o 9 (nI 4)
theorem p6_empty (o : Nat) (μ : zMem) : f6_empty o μ = some (z_em o μ) := by
  unfold f6_empty z_em
  simp only [z_let]
  rw [z_fill (N := 5) (N' := 5) (c := 27) (i := o) (v := fun _ _ => 0) (fun _ => 0) (fun x m => rfl) (fun _ _ _ => rfl) (Nat.le_refl _) (by omega) (by decide)]
  simp only [Option.bind_some]
  rw [z_fill (N := 7) (N' := 7) (c := 28) (i := o) (v := fun _ _ => -1) (fun _ => -1) (fun x m => rfl) (fun _ _ _ => rfl) (Nat.le_refl _) (by omega) (by decide)]
  simp only [Option.bind_some]
  rw [show ((0 : Int32).toNatClampNeg) = 0 from rfl, show ((1 : Int32).toNatClampNeg) = 1 from rfl, show ((2 : Int32).toNatClampNeg) = 2 from rfl, show ((3 : Int32).toNatClampNeg) = 3 from rfl]
  simp only [z_sI_1]
  simp only [and_self, and_true, true_and, if_true, reduceIte, Nat.reduceEqDiff, false_and, and_false]
  rw [p6_write 0 (by simp [z_sI_1]; rfl) (by omega)]
  simp only [Option.bind_some]
  rw [p6_write 1 (by simp [z_sI_1]) (by omega)]
  simp only [Option.bind_some]
  rw [show (z_sI (z_sI (z_sI (z_sI (z_sI (z_sI (z_sI (z_sI (z_uI (z_uI (z_sI (z_sI (z_sI μ 6 o 0 0) 6 o 1 0) 6 o 2 0) 27 o (z_fl 5 (fun _ => 0) ((z_sI (z_sI (z_sI μ 6 o 0 0) 6 o 1 0) 6 o 2 0).1 27 o))) 28 o (z_fl 7 (fun _ => -1) ((z_uI (z_sI (z_sI (z_sI μ 6 o 0 0) 6 o 1 0) 6 o 2 0) 27 o (z_fl 5 (fun _ => 0) ((z_sI (z_sI (z_sI μ 6 o 0 0) 6 o 1 0) 6 o 2 0).1 27 o))).1 28 o))) 6 o 9 0) 30 o 0 0) 30 o 1 0) 30 o 2 0) 29 o 0 0) 6 o 9 (nI 1)) 29 o 1 (-15)) 6 o 9 (nI 2)).1 6 o 9 = nI 2 from by simp [z_sI_1]]
  rw [p6_write 2 (by simp [z_sI_1]) (by omega)]
  simp only [Option.bind_some]
  rw [p6_write 3 (by simp [z_sI_1]) (by omega)]
  rfl
