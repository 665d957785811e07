/-! THE FIRST MEMORY keeps the invariant -/
def q_T0 : qT := (0, 0, 0, fun _ => 0, fun _ => 0, fun k => ([], q_pl k))
def q_r0 : Nat → Int32 := q_bx (fun _ => -1) (fun _ => 0) 0 0
theorem q_r0_0 (k : Nat) : q_r0 k = 0 := q_bx_00
/-- what the class's constructors leave, and the raw Model -/
def q_raw (m : zMem) : Prop := (m.2.2 8 0 3 = 1 ∧ m.2.2 4 0 3 = 0) ∧ (m.1 6 1 0 = 0 ∧ m.1 6 1 1 = 0 ∧ m.1 6 1 2 = 0 ∧ m.1 6 1 9 = nI 4) ∧ (m.1 29 1 0 = 0 ∧ m.1 29 1 1 = -15 ∧ m.1 29 1 2 = -1 ∧ m.1 29 1 3 = -15) ∧ (m.1 30 1 0 = 0 ∧ m.1 30 1 1 = 0 ∧ m.1 30 1 2 = 0 ∧ m.1 30 1 3 = nI 2) ∧ (∀ c k, c = 5 ∨ c = 22 ∨ c = 23 ∨ c = 24 ∨ c = 25 → m.1 c 0 k = 0) ∧ (m.1 3 0 1 = 0 ∧ m.1 3 0 2 = 0) ∧ (∀ k, k < 66 → m.1 9 0 k = if k = 17 then -1 else 0) ∧ (m.1 8 0 11 = 0 ∧ m.1 8 0 1 = 0) ∧ (∀ k, k < 3 → m.1 164 0 k = 0) ∧ m.1 2 0 2 = 0 ∧ m.1 4 0 8 = -1
theorem z_sL_1 {μ : zMem} {c i k j : Nat} {x : Int64} : (z_sL μ c i k x).2.1 c i j = if j = k then x else μ.2.1 c i j := by
  unfold z_sL
  simp only [and_self, if_true]
  rfl
/-- the cells that the Model's own start leaves alone -/
abbrev sFi : Nat → Nat → Nat → Prop := fun c i k => sPl 0 c i k ∨ sPl 1 c i k ∨ sCp c i k ∨ c = 148
theorem q_first {m m' : zMem} (hq : q_raw m) (hf : ∀ c i k, ¬ sFi c i k → m'.1 c i k = m.1 c i k) (h2 : m'.2.2 = m.2.2) (hk : ∀ k, k < 21 → m'.2.1 109 0 k = q_key k) (hp : q_pln 0 m') (hn : qMn m' q_r0) : qInv 0 m' := by
  obtain ⟨⟨a1, a2⟩, ⟨b1, b2, b3, b4⟩, ⟨c1, c2, c3, c4⟩, ⟨d1, d2, d3, d4⟩, e, ⟨f1, f2⟩, g, ⟨i1, i2⟩, j1, j2, j3⟩ := hq
  obtain ⟨⟨p1, p2, p3, p4, p5⟩, p6, p7, p8⟩ := hp
  refine ⟨q_T0, 1, 0, q_r0, ⟨⟨by decide, by decide⟩, fun k hk => ?_, by omega, by rw [h2]; exact a1, by rw [h2]; exact a2, ⟨?_, ?_, ?_, fun h hh => absurd hh (Nat.not_lt_zero _), fun h hh => absurd hh (Nat.not_lt_zero _)⟩, ⟨4, by omega, ?_, fun k hk => ?_⟩, ⟨by omega, ?_, p1, p2, p5, fun h hh => absurd hh (Nat.not_lt_zero _), fun h hh => absurd hh (Nat.not_lt_zero _)⟩, fun k hk => Or.inl ⟨?_, rfl⟩⟩, ⟨⟨fun k hk => absurd hk (Nat.not_lt_zero _), fun k _ _ => ⟨q_r0_0 _, q_r0_0 _, q_r0_0 _⟩, fun k _ _ => q_r0_0 _, fun k _ => ⟨0, by omega, q_r0_0 _⟩, ⟨0, by omega, q_r0_0 _⟩, fun h _ _ => q_r0_0 _, fun h _ k _ hk => ?_⟩, ⟨?_, fun k hk => ?_, fun k hk => ?_, fun k hk => ?_, fun k hk => ?_, fun k hk => absurd hk (Nat.not_lt_zero _), fun h hh => ?_⟩, hn⟩, ⟨0, 0, fun _ _ => 0, by omega, by omega, ?_, ?_, ?_, fun j hj => absurd hj (Nat.not_lt_zero _)⟩, ⟨fun _ => false, fun _ _ => 0, fun s hs => ?_, fun s hs => ⟨?_, fun q => absurd q (show ¬ false = true by decide)⟩⟩, ⟨0, fun _ => 0, fun _ => 0, by omega, ?_, ?_, fun j hj => absurd hj (Nat.not_lt_zero _)⟩, 0, by omega, ?_, ?_, fun k hk => absurd hk (Nat.not_lt_zero _), ?_, hk⟩
  · show q_wf 16 (q_pl k) 0 1
    unfold q_pl
    by_cases h3 : k = 3
    · rw [if_pos h3]; exact ⟨by omega, by omega, rfl⟩
    · rw [if_neg h3]; exact ⟨by omega, by omega, rfl⟩
  · rw [hf _ _ _ (by omega)]; exact b1
  · rw [hf _ _ _ (by omega)]; exact b2
  · rw [hf _ _ _ (by omega)]; exact b3
  · rw [hf _ _ _ (by omega)]; exact b4
  · have g29 : ∀ j, m'.1 29 1 j = m.1 29 1 j := fun j => hf _ _ _ (by omega)
    have g30 : ∀ j, m'.1 30 1 j = m.1 30 1 j := fun j => hf _ _ _ (by omega)
    show ∃ i, m'.1 30 1 k = nI i ∧ q_cl (m'.1 29 1) 4 i [] (q_pl k)
    rw [g30]
    unfold q_pl
    by_cases h3 : k = 3
    · rw [if_pos h3, h3]
      exact ⟨2, d4, ⟨(g29 2).trans c3, trivial⟩, (g29 3).trans c4, by show 2 + 1 < 4; omega⟩
    · rw [if_neg h3]
      refine ⟨0, ?_, ⟨(g29 0).trans c1, trivial⟩, (g29 1).trans c2, by show 0 + 1 < 4; omega⟩
      match k, hk, h3 with
      | 0, _, _ => exact d1
      | 1, _, _ => exact d2
      | 2, _, _ => exact d3
      | 3, _, h => exact absurd rfl h
  · rw [hf _ _ _ (by omega), g _ (by omega), if_neg (by omega)]; rfl
  · exact (p8 k hk).1.trans (p8 k hk).2.symm
  · rw [q_r0_0, b_0]
  · rw [hf _ _ _ (by omega), e _ _ (by omega), q_r0_0]
  · rw [hf _ _ _ (by omega), e _ _ (by omega), b_0, decide_eq_false (show ¬ k < tP q_T0 from Nat.not_lt_zero _)]; rfl
  · rw [hf _ _ _ (by omega), e _ _ (by omega), b_0, decide_eq_false (show ¬ k < tP q_T0 from Nat.not_lt_zero _)]; rfl
  · rw [hf _ _ _ (by omega), e _ _ (by omega), q_r0_0]
  · rw [hf _ _ _ (by omega), e _ _ (by omega), q_r0_0]
  · rw [hf _ _ _ (by omega), e _ _ (by omega), q_r0_0]
  · rw [hf _ _ _ (by omega)]; exact f1
  · rw [hf _ _ _ (by omega)]; exact f2
  · rw [hf _ _ _ (by omega), g _ (by omega), if_neg (by omega)]; rfl
  · rw [hf _ _ _ (by omega), i1, b_0, Bool.and_false]
  · rw [hf _ _ _ (by omega), j1 s hs]; rfl
  · rw [hf _ _ _ (by omega)]; exact j2
  · rw [hf _ _ _ (by omega), g _ (by omega), if_neg (by omega)]; rfl
  · rw [hf _ _ _ (by omega)]; exact i2
  · rw [hf _ _ _ (by omega), g _ (by omega), if_neg (by omega)]; rfl
  · rw [hf _ _ _ (by omega), hf _ _ _ (by omega), j3, g _ (by omega), if_pos rfl]
theorem z_sL_a {μ : zMem} {c i k : Nat} {x : Int64} : (z_sL μ c i k x).1 = μ.1 := rfl
theorem z_sL_c {μ : zMem} {c i k : Nat} {x : Int64} : (z_sL μ c i k x).2.2 = μ.2.2 := rfl
/-- the Model's own start -/
theorem first_inv {m : zMem} (hq : q_raw m) : zw (f9_irest m) (qInv 0) := by
  unfold f9_irest
  refine zw_b (p9_plain (v := 0) (by omega) m) ?_
  rintro m1 ⟨hf1, hp1⟩
  refine zw_b (p9_plain (v := 1) (by omega) m1) ?_
  rintro m2 ⟨hf2, hp2⟩
  simp only [z_let]
  generalize hM : z_sL _ 109 0 (20 : Int32).toNatClampNeg _ = M
  have e1 : M.1 = m2.1 := by rw [← hM]; simp only [z_sL_a]
  have e2 : M.2.2 = m2.2.2 := by rw [← hM]; simp only [z_sL_c]
  have ek : ∀ k, k < 21 → M.2.1 109 0 k = q_key k := fun k hk => by
    rw [← hM]
    simp only [z_sL_1, show (0 : Int32).toNatClampNeg = 0 from rfl, show (1 : Int32).toNatClampNeg = 1 from rfl, show (2 : Int32).toNatClampNeg = 2 from rfl, show (3 : Int32).toNatClampNeg = 3 from rfl, show (4 : Int32).toNatClampNeg = 4 from rfl, show (5 : Int32).toNatClampNeg = 5 from rfl, show (6 : Int32).toNatClampNeg = 6 from rfl, show (7 : Int32).toNatClampNeg = 7 from rfl, show (8 : Int32).toNatClampNeg = 8 from rfl, show (9 : Int32).toNatClampNeg = 9 from rfl, show (10 : Int32).toNatClampNeg = 10 from rfl, show (11 : Int32).toNatClampNeg = 11 from rfl, show (12 : Int32).toNatClampNeg = 12 from rfl, show (13 : Int32).toNatClampNeg = 13 from rfl, show (14 : Int32).toNatClampNeg = 14 from rfl, show (15 : Int32).toNatClampNeg = 15 from rfl, show (16 : Int32).toNatClampNeg = 16 from rfl, show (17 : Int32).toNatClampNeg = 17 from rfl, show (18 : Int32).toNatClampNeg = 18 from rfl, show (19 : Int32).toNatClampNeg = 19 from rfl, show (20 : Int32).toNatClampNeg = 20 from rfl]
    match k, hk with
    | 0, _ => simp only [Nat.reduceEqDiff, ↓reduceIte, q_key]
    | 1, _ => simp only [Nat.reduceEqDiff, ↓reduceIte, q_key]
    | 2, _ => simp only [Nat.reduceEqDiff, ↓reduceIte, q_key]
    | 3, _ => simp only [Nat.reduceEqDiff, ↓reduceIte, q_key]
    | 4, _ => simp only [Nat.reduceEqDiff, ↓reduceIte, q_key]
    | 5, _ => simp only [Nat.reduceEqDiff, ↓reduceIte, q_key]
    | 6, _ => simp only [Nat.reduceEqDiff, ↓reduceIte, q_key]
    | 7, _ => simp only [Nat.reduceEqDiff, ↓reduceIte, q_key]
    | 8, _ => simp only [Nat.reduceEqDiff, ↓reduceIte, q_key]
    | 9, _ => simp only [Nat.reduceEqDiff, ↓reduceIte, q_key]
    | 10, _ => simp only [Nat.reduceEqDiff, ↓reduceIte, q_key]
    | 11, _ => simp only [Nat.reduceEqDiff, ↓reduceIte, q_key]
    | 12, _ => simp only [Nat.reduceEqDiff, ↓reduceIte, q_key]
    | 13, _ => simp only [Nat.reduceEqDiff, ↓reduceIte, q_key]
    | 14, _ => simp only [Nat.reduceEqDiff, ↓reduceIte, q_key]
    | 15, _ => simp only [Nat.reduceEqDiff, ↓reduceIte, q_key]
    | 16, _ => simp only [Nat.reduceEqDiff, ↓reduceIte, q_key]
    | 17, _ => simp only [Nat.reduceEqDiff, ↓reduceIte, q_key]
    | 18, _ => simp only [Nat.reduceEqDiff, ↓reduceIte, q_key]
    | 19, _ => simp only [Nat.reduceEqDiff, ↓reduceIte, q_key]
    | 20, _ => simp only [Nat.reduceEqDiff, ↓reduceIte, q_key]
    | k + 21, h => exact absurd h (by omega)
  clear hM
  obtain ⟨⟨p1, p2, p3, p4, p5⟩, p6, p7, p8⟩ := hp1
  have g : ∀ c k, k ≠ 1 → c = 123 ∨ c = 126 ∨ c = 131 → m2.1 c 0 k = m1.1 c 0 k := fun c k h1 h2 => hf2.1 c 0 k (by omega)
  have hx : qMx M q_T0 0 := by
    refine ⟨by omega, ?_, ?_, ?_, ?_, fun h hh => absurd hh (Nat.not_lt_zero _), fun h hh => absurd hh (Nat.not_lt_zero _)⟩
    · rw [e1, hf2.1 _ _ _ (by omega), hf1.1 _ _ _ (by omega), hq.2.2.2.2.2.2.1 _ (by omega), if_neg (by omega)]; rfl
    · rw [e1, g _ _ (by omega) (by omega)]; exact p1
    · rw [e1, g _ _ (by omega) (by omega)]; exact p2
    · rw [e1, g _ _ (by omega) (by omega)]; exact p5
  refine zw_b (p9_begins (W := fun _ => -1) (G := fun _ => 0) hx ⟨by decide, by decide⟩ (fun k hk => absurd hk (Nat.not_lt_zero _)) (fun k hk => absurd hk (Nat.not_lt_zero _))) ?_
  rintro m3 ⟨hf3, hr3⟩
  refine zw_b (p9_keepsRow hr3) ?_
  rintro m4 ⟨hf4, hn4⟩
  refine zw_some.mpr (q_first hq (fun c i k hs => ?_) ?_ (fun k hk => ?_) ?_ hn4)
  · rw [hf4.1 c i k (by omega), hf3.1 c i k (by omega), e1, hf2.1 c i k (by omega), hf1.1 c i k (by omega)]
  · rw [hf4.2, hf3.2, e2, hf2.2, hf1.2]
  · rw [hf4.2, hf3.2]; exact ek k hk
  · have gg : ∀ c k, (c = 123 ∨ c = 126 ∨ c = 129 ∨ c = 130 ∨ c = 131) ∧ k ≠ 1 ∨ c = 125 ∧ k < 5 ∨ c = 128 ∧ k < 7 ∨ (c = 132 ∨ c = 133) ∧ k < 4 → m4.1 c 0 k = m1.1 c 0 k := fun c k h => by
      rw [hf4.1 c 0 k (by omega), hf3.1 c 0 k (by omega), e1, hf2.1 c 0 k (by omega)]
    refine ⟨⟨?_, ?_, ?_, ?_, ?_⟩, fun h hh => ?_, fun k hk => ?_, fun k hk => ⟨?_, ?_⟩⟩
    · rw [gg _ _ (by omega)]; exact p1
    · rw [gg _ _ (by omega)]; exact p2
    · rw [gg _ _ (by omega)]; exact p3
    · rw [gg _ _ (by omega)]; exact p4
    · rw [gg _ _ (by omega)]; exact p5
    · rw [gg _ _ (by omega)]; exact p6 h hh
    · rw [gg _ _ (by omega)]; exact p7 k hk
    · rw [gg _ _ (by omega)]; exact (p8 k hk).1
    · rw [gg _ _ (by omega)]; exact (p8 k hk).2
