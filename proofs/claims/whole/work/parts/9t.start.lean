/-! THE START: the first memory, and the cells that both constructors leave, as one list -/
theorem w_sLo {μ : zMem} {c k : Nat} {x : Int64} (h : c < 100) : (z_sL μ 109 0 k x).2.1 c = μ.2.1 c := by
  funext i
  have h2 : ¬ (c = 109 ∧ i = 0) := fun q => by omega
  show (if c = 109 ∧ i = 0 then _ else μ.2.1 c i) = μ.2.1 c i
  rw [if_neg h2]
/-- the Model's own start leaves the class's cells alone -/
def w_fr (m m' : zMem) : Prop := (∀ c i k, c < 100 → c ≠ 9 → m'.1 c i k = m.1 c i k) ∧ (∀ c, c < 100 → m'.2.1 c = m.2.1 c) ∧ m'.2.2 = m.2.2
theorem first_fr {m : zMem} (hq : q_raw m) : zw (f9_irest m) (w_fr m) := by
  unfold f9_irest
  refine zw_b (p9_plain (v := 0) (by omega) m) ?_
  rintro m1 ⟨hf1, hp1⟩
  refine zw_b (p9_plain (v := 1) (by omega) m1) ?_
  rintro m2 ⟨hf2, hp2⟩
  simp only [z_let]
  generalize hM : z_sL _ 109 0 (20 : Int32).toNatClampNeg _ = M
  have e1 : M.1 = m2.1 := by rw [← hM]; simp only [z_sL_a]
  have e2 : M.2.2 = m2.2.2 := by rw [← hM]; simp only [z_sL_c]
  have ek : ∀ c, c < 100 → M.2.1 c = m2.2.1 c := fun c hc => by
    rw [← hM]
    simp only [w_sLo hc]
  clear hM
  obtain ⟨⟨p1, p2, p3, p4, p5⟩, p6, p7, p8⟩ := hp1
  have g : ∀ c k, k ≠ 1 → c = 123 ∨ c = 126 ∨ c = 131 → m2.1 c 0 k = m1.1 c 0 k := fun c k h1 h2 => hf2.1 c 0 k (by omega)
  have hx : qMx M q_T0 0 := by
    refine ⟨by omega, ?_, ?_, ?_, ?_, fun h hh => absurd hh (Nat.not_lt_zero _), fun h hh => absurd hh (Nat.not_lt_zero _)⟩
    · rw [e1, hf2.1 _ _ _ (by omega), hf1.1 _ _ _ (by omega), hq.2.2.2.2.2.2.1 _ (by omega), if_neg (by omega)]; rfl
    · rw [e1, g _ _ (by omega) (by omega)]; exact p1
    · rw [e1, g _ _ (by omega) (by omega)]; exact p2
    · rw [e1, g _ _ (by omega) (by omega)]; exact p5
  refine zw_b (p9_begins (W := fun _ => -1) (G := fun _ => 0) hx ⟨by decide, by decide⟩ (fun k hk => absurd hk (Nat.not_lt_zero _)) (fun k hk => absurd hk (Nat.not_lt_zero _))) ?_
  rintro m3 ⟨hf3, hr3⟩
  refine zw_b (p9_keepsRow hr3) ?_
  rintro m4 ⟨hf4, hn4⟩
  refine zw_some.mpr ⟨fun c i k h1 h2 => ?_, fun c hc => ?_, ?_⟩
  · rw [hf4.1 c i k (by omega), hf3.1 c i k (by omega), e1, hf2.1 c i k (by omega), hf1.1 c i k (by omega)]
  · rw [hf4.2, hf3.2, ek c hc, hf2.2, hf1.2]
  · rw [hf4.2, hf3.2, e2, hf2.2, hf1.2]
/-- the memory before the Model's own start -/
def w_m : zMem := (fun c _ => if c = 4 then (fun k => if k = 8 ∨ k = 10 then -1 else 0) else if c = 9 then (fun k => if k = 17 then -1 else 0) else if c = 6 ∨ c = 27 ∨ c = 28 ∨ c = 29 ∨ c = 30 then (z_em 0 z_M0).1 c 0 else fun _ => 0, fun _ _ _ => 0, fun c _ _ => if c = 4 then 0 else 1)
theorem w_raw : q_raw w_m := by
  refine ⟨⟨rfl, rfl⟩, ⟨rfl, rfl, rfl, rfl⟩, ⟨rfl, rfl, rfl, rfl⟩, ⟨rfl, rfl, rfl, rfl⟩, fun c k h => ?_, ⟨rfl, rfl⟩, fun k _ => rfl, ⟨rfl, rfl⟩, fun k _ => rfl, rfl, rfl⟩
  rcases h with rfl | rfl | rfl | rfl | rfl <;> rfl
theorem w_raw9 : z_raw9 w_m := by
  refine ⟨fun k _ => rfl, fun c hc => ?_, fun c hc => rfl⟩
  show (if c = 4 then _ else if c = 9 then _ else if c = 6 ∨ c = 27 ∨ c = 28 ∨ c = 29 ∨ c = 30 then _ else fun _ => 0) = _
  rw [if_neg (by omega), if_neg (by omega), if_neg (by omega)]
/-! lists of cells, up to what the heap can see -/
def zE (cs cs' : List va_E) : Prop := cs.length = cs'.length ∧ ∀ (D : va_G) (H : Heap) (a k : Nat) (e' : va_E), cs'[k]? = some e' → ∃ e, cs[k]? = some e ∧ (va_at D classes (a, e) H → va_at D classes (a, e') H)
theorem zE.rf {cs cs' : List va_E} (h : cs = cs') : zE cs cs' := by
  subst h
  exact ⟨rfl, fun D H a k e' he => ⟨e', he, id⟩⟩
theorem zE.app {a a' b b' : List va_E} (h1 : zE a a') (h2 : zE b b') : zE (a ++ b) (a' ++ b') := by
  refine ⟨by rw [List.length_append, List.length_append, h1.1, h2.1], fun D H q k e' he => ?_⟩
  by_cases hl : k < a'.length
  · rw [List.getElem?_append_left hl] at he
    rw [List.getElem?_append_left (by rw [h1.1]; exact hl)]
    exact h1.2 D H q k e' he
  · rw [List.getElem?_append_right (by omega)] at he
    rw [List.getElem?_append_right (by rw [h1.1]; omega), h1.1]
    exact h2.2 D H q _ e' he
theorem zE.cons {x x' : va_E} {l l' : List va_E} (h1 : x = x') (h2 : zE l l') : zE (x :: l) (x' :: l') := zE.app (a := [x]) (a' := [x']) (zE.rf (by rw [h1])) h2
theorem zE.refs {cA : ClassId} {n : Nat} {f f' : Nat → Option Nat} (h : ∀ k, k < n → f k = f' k) : zE [.inl (cA, n, .inr (.inr (.inr (.inr f))))] [.inl (cA, n, .inr (.inr (.inr (.inr f'))))] := by
  refine ⟨rfl, fun D H a k e' he => ?_⟩
  match k, he with
  | 0, he =>
    cases he
    refine ⟨_, rfl, fun hh => ?_⟩
    have hh : H[a]? = some (vp_cell cA (n, .inr (.inr (.inr (.inr f))))) := hh
    show H[a]? = some (vp_cell cA (n, .inr (.inr (.inr (.inr f')))))
    rw [hh, vp_cell_q, vp_cell_q]
    have : (Array.ofFn (n := n) fun j => va_rf (f j.val)) = Array.ofFn (n := n) fun j => va_rf (f' j.val) := by
      congr 1
      funext j
      rw [h j.val j.isLt]
    unfold arrV
    rw [this]
  | k + 1, he => cases he
theorem zk_H.toE {P : zP} {b : Nat} {cs cs' : List va_E} {H : Heap} (h : zk_H P b cs H) (he : zE cs cs') : zk_H P b cs' H := by
  refine ⟨by rw [h.1, he.1], fun k e' hk => ?_⟩
  obtain ⟨e, h1, h2⟩ := he.2 (z_D P) H (b + k) k e' hk
  exact h2 (h.2 k e h1)
/-! the cells in the order in which they are made -/
abbrev w_st (i : Nat) : List (Nat × Nat) := [(5, i), (22, i), (23, i), (24, i), (25, i)]
abbrev w_L7 : List (Nat × Nat) := [(7, 0), (31, 0), (32, 0), (33, 0), (34, 1)]
abbrev w_tx (o : Nat) : List (Nat × Nat) := [(6, o), (26, 2 * o), (27, o), (26, 2 * o + 1), (28, o), (29, o), (30, o)]
abbrev w_L4 : List (Nat × Nat) := (4, 0) :: (((([] ++ w_L7) ++ [(21, 0)]) ++ [(21, 1)]) ++ w_tx 0)
def w_ps (i : Nat) : List (Nat × Nat) := (List.range i).flatMap fun j => w_st (3 + j)
abbrev w_L3 : List (Nat × Nat) := (3, 0) :: (20, 0) :: w_ps 40
abbrev w_ct (i : Nat) : List (Nat × Nat) := [(1, i), (10, i), (11, i), (12, i), (13, i)]
abbrev w_L0 : List (Nat × Nat) := (0, 0) :: (([] ++ w_ct 1) ++ [(14, 0)])
abbrev w_L2 : List (Nat × Nat) := [(2, 0), (15, 0), (16, 0), (17, 0), (18, 0), (19, 0)]
def w_L8 : List (Nat × Nat) := (8, 0) :: (((((((((((((((([] ++ [(34, 0)]) ++ w_L4) ++ w_tx 1) ++ w_st 0) ++ w_st 1) ++ w_st 2) ++ [(35, 0)]) ++ [(36, 0)]) ++ w_L3) ++ [(37, 0)]) ++ w_ct 0) ++ w_L0) ++ w_L2) ++ w_st 43) ++ w_st 44) ++ w_st 45)
def w_Ls : List (Nat × Nat) := w_L8 ++ zL9
theorem w_L8_l : w_L8.length = 277 := by decide +kernel
theorem w_Ls_l : w_Ls.length = 322 := by decide +kernel
theorem w_Ls_ok : zl_ok w_Ls = true := by decide +kernel
theorem w_L8_c : (w_L8.all fun q => decide (q.1 < 100 ∧ q.1 ≠ 9)) = true := by decide +kernel
def w_sb (i : Nat) : Nat := if i < 3 then 24 + 5 * i else if i < 43 then 43 + 5 * (i - 3) else 262 + 5 * (i - 43)
theorem w_i5 : ∀ i, i < 46 → w_Ls.idxOf (5, i) = w_sb i ∧ w_Ls.idxOf (22, i) = w_sb i + 1 ∧ w_Ls.idxOf (23, i) = w_sb i + 2 ∧ w_Ls.idxOf (24, i) = w_sb i + 3 ∧ w_Ls.idxOf (25, i) = w_sb i + 4 := by decide +kernel
theorem w_i6 : ∀ o, o < 2 → w_Ls.idxOf (6, o) = 10 + 7 * o ∧ w_Ls.idxOf (26, 2 * o) = 10 + 7 * o + 1 ∧ w_Ls.idxOf (27, o) = 10 + 7 * o + 2 ∧ w_Ls.idxOf (26, 2 * o + 1) = 10 + 7 * o + 3 ∧ w_Ls.idxOf (28, o) = 10 + 7 * o + 4 ∧ w_Ls.idxOf (29, o) = 10 + 7 * o + 5 ∧ w_Ls.idxOf (30, o) = 10 + 7 * o + 6 := by decide +kernel
