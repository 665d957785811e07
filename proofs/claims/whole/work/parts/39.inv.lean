/-! THE INVARIANT between the class and the reference -/
abbrev sQ : Nat → Nat → Nat → Prop := fun c i k => ((c = 5 ∨ c = 22 ∨ c = 23 ∨ c = 24 ∨ c = 25) ∧ (i = 1 ∨ i = 2)) ∨ (10 ≤ c ∧ c ≤ 14) ∨ (17 ≤ c ∧ c ≤ 19) ∨ (c = 2 ∧ k = 3) ∨ c = 35 ∨ c = 36 ∨ c = 145 ∨ c = 146 ∨ c = 149 ∨ (152 ≤ c ∧ c ≤ 154) ∨ c = 157 ∨ (161 ≤ c ∧ c ≤ 163) ∨ (c = 9 ∧ (k = 47 ∨ k = 50 ∨ k = 51))
/-- the text -/
def qI_T (T : qT) (o v : Nat) (m : zMem) : Prop := tOk T ∧ tLw T ∧ o < 2 ∧ m.2.2 8 0 3 = o ∧ m.2.2 4 0 3 = 1 - o ∧ qTx m o T ∧ qCl m o T ∧ qMx m T v ∧ qMl m v T
/-- what goes on -/
def qI_N (B : Nat) (T : qT) (r : Nat → Int32) (m : zMem) : Prop := qRow T B r ∧ qRep m 0 T r ∧ qMn m r
/-- what can be undone: hs 0 the latest -/
def qI_U (B : Nat) (T : qT) (u nx : Nat) (hs : Nat → Nat → Int32) (m : zMem) : Prop := u ≤ 40 ∧ nx < 40 ∧ m.1 3 0 1 = nI nx ∧ m.1 3 0 2 = nI u ∧ m.1 9 0 55 = nI u ∧ ∀ j, j < u → qRow T B (hs j) ∧ qRep m (3 + (nx + 39 - j) % 40) T (hs j) ∧ ∀ k, k < 34 → m.1 156 0 (34 * (u - 1 - j) + k) = hs j k
def qI_S (B : Nat) (T : qT) (sf : Nat → Bool) (ss : Nat → Nat → Int32) (m : zMem) : Prop := (∀ s, s < 32 → bt (m.1 8 0 11) s = (decide (s < 3) && sf s)) ∧ ∀ s, s < 3 → (m.1 164 0 s = if sf s then 1 else 0) ∧ (sf s = true → qRow T B (ss s) ∧ qRep m (43 + s) T (ss s) ∧ ∀ k, k < 34 → m.1 165 0 (34 * s + k) = ss s k)
def qI_L (T : qT) (td : Nat) (te tf : Nat → Nat) (m : zMem) : Prop := td ≤ 20 ∧ m.1 2 0 2 = nI td ∧ m.1 9 0 58 = nI td ∧ ∀ i, i < td → te i < tP T ∧ tf i < tP T ∧ te i ≠ tf i ∧ m.1 15 0 i = nI (te i) ∧ m.1 16 0 i = nI (tf i) ∧ m.1 159 0 i = nI (te i) ∧ m.1 160 0 i = nI (tf i)
def q_by (x : Int32) : Prop := -128 ≤ x.toInt ∧ x.toInt < 128
def q_key : Nat → Int64 := fun k => match k with
  | 0 => f9_word 104 111 117 115 101 0 0
  | 1 => f9_word 112 101 114 115 111 110 0
  | 2 => f9_word 114 105 103 104 116 0 0
  | 3 => f9_word 97 119 97 121 0 0 0
  | 4 => f9_word 103 111 101 115 0 0 0
  | 5 => f9_word 99 111 109 101 115 0 0
  | 6 => f9_word 100 105 101 115 0 0 0
  | 7 => f9_word 114 101 110 116 115 0 0
  | 8 => f9_word 115 101 101 100 0 0 0
  | 9 => f9_word 105 102 0 0 0 0 0
  | 10 => f9_word 116 104 101 110 0 0 0
  | 11 => f9_word 101 108 115 101 0 0 0
  | 12 => f9_word 114 101 110 116 0 0 0
  | 13 => f9_word 97 103 101 0 0 0 0
  | 14 => f9_word 103 111 110 101 0 0 0
  | 15 => f9_word 103 111 116 0 0 0 0
  | 16 => f9_word 121 101 97 114 0 0 0
  | 17 => f9_word 114 105 103 104 116 115 0
  | 18 => f9_word 108 111 114 100 0 0 0
  | 19 => f9_word 119 104 105 99 104 0 0
  | 20 => f9_word 104 111 109 101 0 0 0
  | _ => 0
/-- the tape, the latest FAULT's place, the reference's words -/
def qI_P (n : Nat) (m : zMem) : Prop := n ≤ 2000 ∧ m.1 8 0 1 = nI n ∧ m.1 9 0 2 = nI n ∧ (∀ k, k < n → m.1 34 0 k = m.1 101 0 k ∧ q_by (m.1 101 0 k)) ∧ m.1 4 0 8 = m.1 9 0 17 ∧ ∀ k, k < 21 → m.2.1 109 0 k = q_key k
/-- all of it, but what is held back -/
def qI_R (B : Nat) (T : qT) (m : zMem) : Prop := (∃ u nx hs, qI_U B T u nx hs m) ∧ (∃ sf ss, qI_S B T sf ss m) ∧ (∃ td te tf, qI_L T td te tf m) ∧ ∃ n, qI_P n m
def qInv (B : Nat) (m : zMem) : Prop := ∃ T o v r, qI_T T o v m ∧ qI_N B T r m ∧ qI_R B T m
section
variable {S : Nat → Nat → Nat → Prop} {m m' : zMem} {T : qT}
theorem qI_T.zk {o v : Nat} (h : qI_T T o v m) (hf : zk S m m') (hs : ∀ c i k, (c = 6 ∨ c = 26 ∨ c = 29 ∨ c = 30 ∨ (c = 9 ∧ k = 18) ∨ c = 123 ∨ c = 126 ∨ c = 131 ∨ c = 124 ∨ c = 127 ∨ c = 132 ∨ c = 133 ∨ c = 135 ∨ c = 136 ∨ c = 137 ∨ c = 138 ∨ c = 139 ∨ c = 141 ∨ c = 142) → ¬ S c i k) : qI_T T o v m' := by
  obtain ⟨h1, h2, h3, h4, h5, h6, h7, h8, h9⟩ := h
  refine ⟨h1, h2, h3, by rw [hf.2]; exact h4, by rw [hf.2]; exact h5, h6.zk hf (fun i k => ⟨hs _ _ _ (by omega), hs _ _ _ (by omega)⟩), h7.zk hf (fun k => ⟨hs _ _ _ (by omega), hs _ _ _ (by omega), hs _ _ _ (by omega)⟩), h8.zk hf (fun k => ⟨hs _ _ _ (by omega), hs _ _ _ (by omega), hs _ _ _ (by omega), hs _ _ _ (by omega), hs _ _ _ (by omega), hs _ _ _ (by omega)⟩), h9.zk hf (fun c k h => hs _ _ _ (by omega))⟩
theorem qI_N.zk {B : Nat} {r : Nat → Int32} (h : qI_N B T r m) (hf : zk S m m') (hs : ∀ c k, (c = 5 ∨ c = 22 ∨ c = 23 ∨ c = 24 ∨ c = 25 ∨ c = 148) → ¬ S c 0 k) : qI_N B T r m' := ⟨h.1, h.2.1.zk hf (fun k => ⟨hs _ _ (by omega), hs _ _ (by omega), hs _ _ (by omega), hs _ _ (by omega), hs _ _ (by omega)⟩), h.2.2.zk hf (fun k => hs _ _ (by omega))⟩
theorem qI_U.zk {B u nx : Nat} {h' : Nat → Nat → Int32} (h : qI_U B T u nx h' m) (hf : zk S m m') (hs : ∀ c i k, ((c = 3 ∧ (k = 1 ∨ k = 2)) ∨ (c = 9 ∧ k = 55) ∨ c = 156 ∨ (3 ≤ i ∧ i < 43 ∧ (c = 5 ∨ c = 22 ∨ c = 23 ∨ c = 24 ∨ c = 25))) → ¬ S c i k) : qI_U B T u nx h' m' := by
  obtain ⟨h1, h2, h3, h4, h5, h6⟩ := h
  refine ⟨h1, h2, by rw [hf.1 _ _ _ (hs _ _ _ (by omega))]; exact h3, by rw [hf.1 _ _ _ (hs _ _ _ (by omega))]; exact h4, by rw [hf.1 _ _ _ (hs _ _ _ (by omega))]; exact h5, fun j hj => ?_⟩
  have hm : (nx + 39 - j) % 40 < 40 := Nat.mod_lt _ (by omega)
  refine ⟨(h6 j hj).1, (h6 j hj).2.1.zk hf (fun k => ⟨hs _ _ _ (by omega), hs _ _ _ (by omega), hs _ _ _ (by omega), hs _ _ _ (by omega), hs _ _ _ (by omega)⟩), fun k hk => ?_⟩
  rw [hf.1 _ _ _ (hs _ _ _ (by omega))]
  exact (h6 j hj).2.2 k hk
theorem qI_S.zk {B : Nat} {sf : Nat → Bool} {ss : Nat → Nat → Int32} (h : qI_S B T sf ss m) (hf : zk S m m') (hs : ∀ c i k, ((c = 8 ∧ k = 11) ∨ c = 164 ∨ c = 165 ∨ (43 ≤ i ∧ (c = 5 ∨ c = 22 ∨ c = 23 ∨ c = 24 ∨ c = 25))) → ¬ S c i k) : qI_S B T sf ss m' := by
  refine ⟨fun s hs' => by rw [hf.1 _ _ _ (hs _ _ _ (by omega))]; exact h.1 s hs', fun s hs' => ⟨by rw [hf.1 _ _ _ (hs _ _ _ (by omega))]; exact (h.2 s hs').1, fun hb => ?_⟩⟩
  obtain ⟨h1, h2, h3⟩ := (h.2 s hs').2 hb
  refine ⟨h1, h2.zk hf (fun k => ⟨hs _ _ _ (by omega), hs _ _ _ (by omega), hs _ _ _ (by omega), hs _ _ _ (by omega), hs _ _ _ (by omega)⟩), fun k hk => ?_⟩
  rw [hf.1 _ _ _ (hs _ _ _ (by omega))]
  exact h3 k hk
theorem qI_L.zk {td : Nat} {te tf : Nat → Nat} (h : qI_L T td te tf m) (hf : zk S m m') (hs : ∀ c i k, ((c = 2 ∧ k = 2) ∨ (c = 9 ∧ k = 58) ∨ c = 15 ∨ c = 16 ∨ c = 159 ∨ c = 160) → ¬ S c i k) : qI_L T td te tf m' := by
  obtain ⟨h1, h2, h3, h4⟩ := h
  refine ⟨h1, by rw [hf.1 _ _ _ (hs _ _ _ (by omega))]; exact h2, by rw [hf.1 _ _ _ (hs _ _ _ (by omega))]; exact h3, fun i hi => ?_⟩
  obtain ⟨a1, a2, a3, a4, a5, a6, a7⟩ := h4 i hi
  refine ⟨a1, a2, a3, ?_, ?_, ?_, ?_⟩
  · rw [hf.1 _ _ _ (hs _ _ _ (by omega))]; exact a4
  · rw [hf.1 _ _ _ (hs _ _ _ (by omega))]; exact a5
  · rw [hf.1 _ _ _ (hs _ _ _ (by omega))]; exact a6
  · rw [hf.1 _ _ _ (hs _ _ _ (by omega))]; exact a7
theorem qI_P.zk {n : Nat} (h : qI_P n m) (hf : zk S m m') (hs : ∀ c i k, ((c = 8 ∧ k = 1) ∨ (c = 9 ∧ (k = 2 ∨ k = 17)) ∨ c = 34 ∨ c = 101 ∨ (c = 4 ∧ k = 8)) → ¬ S c i k) : qI_P n m' := by
  obtain ⟨h1, h2, h3, h4, h5, h6⟩ := h
  refine ⟨h1, by rw [hf.1 _ _ _ (hs _ _ _ (by omega))]; exact h2, by rw [hf.1 _ _ _ (hs _ _ _ (by omega))]; exact h3, fun k hk => ?_, by rw [hf.1 _ _ _ (hs _ _ _ (by omega)), hf.1 _ _ _ (hs _ _ _ (by omega))]; exact h5, fun k hk => by rw [hf.2]; exact h6 k hk⟩
  rw [hf.1 _ _ _ (hs _ _ _ (by omega)), hf.1 _ _ _ (hs _ _ _ (by omega))]
  exact h4 k hk
theorem qI_R.zk {B : Nat} (h : qI_R B T m) (hf : zk sQ m m') : qI_R B T m' := by
  obtain ⟨⟨u, nx, hs, h1⟩, ⟨sf, ss, h2⟩, ⟨td, te, tf, h3⟩, n, h4⟩ := h
  exact ⟨⟨u, nx, hs, h1.zk hf (fun c i k h => by omega)⟩, ⟨sf, ss, h2.zk hf (fun c i k h => by omega)⟩, ⟨td, te, tf, h3.zk hf (fun c i k h => by omega)⟩, n, h4.zk hf (fun c i k h => by omega)⟩
theorem q_T_q {o v : Nat} (h : qI_T T o v m) (hf : zk sQ m m') : qI_T T o v m' := h.zk hf (fun c i k h => by omega)
theorem q_N_q {B : Nat} {r : Nat → Int32} (h : qI_N B T r m) (hf : zk sQ m m') : qI_N B T r m' := h.zk hf (fun c k h => by omega)
theorem q_L_q {td : Nat} {te tf : Nat → Nat} (h : qI_L T td te tf m) (hf : zk sQ m m') : qI_L T td te tf m' := h.zk hf (fun c i k h => by omega)
end
/-- rows copied, as frames of triples -/
abbrev sCp : Nat → Nat → Nat → Prop := fun c _ k => c = 149 ∨ (c = 9 ∧ (k = 50 ∨ k = 51))
theorem p9_copiesK {m : zMem} {T : qT} {v : Nat} {r : Nat → Int32} (hx : qMx m T v) (hn : qMn m r) : zw (f9_copies m) fun m' => zk sCp m m' ∧ qMr m' r ∧ qSd m' false (tS T) := by
  refine zw_mono (p9_copies hx hn) ?_
  rintro m' ⟨hf, hr, h9⟩
  refine ⟨⟨fun c i k hn => ?_, hf.2⟩, hr, ?_, ?_⟩
  · by_cases e : c = 9 ∧ i = 0
    · obtain ⟨rfl, rfl⟩ := e
      rw [h9, pk_un (by omega), pk_un (by omega)]
    · exact congrFun (hf.1 c i (by omega)) k
  · rw [h9, pk_un (by omega), pk_us]
  · rw [h9, pk_us]; rfl
theorem p9_copiesStillK {m : zMem} {T : qT} {v : Nat} {r : Nat → Int32} (hx : qMx m T v) (hn : qMn m r) : zw (f9_copiesStill m) fun m' => zk sCp m m' ∧ qMr m' r ∧ qSd m' true (tS T) := by
  unfold f9_copiesStill
  refine zw_b (p9_copiesK hx hn) ?_
  rintro m1 ⟨hf, hr, hs⟩
  simp only [z_let]
  refine zw_some.mpr ⟨zk_s hf (by omega), fun k hk => ?_, ?_, ?_⟩
  · rw [z_sI_1, if_neg (by omega)]; exact hr k hk
  · rw [z_sI_1, if_neg (by omega)]; exact hs.1
  · rw [z_sI_1, if_pos ⟨rfl, rfl, rfl⟩]; rfl
/-- the class's copies -/
theorem p5_copyFrom {m : zMem} {o o' : Nat} {T : qT} {r : Nat → Int32} (h : qRep m o' T r) (hT : tOk T) : qRep (f5_copyFrom o o' m) o T r ∧ zk (sState o) m (f5_copyFrom o o' m) := by
  unfold f5_copyFrom
  simp only [z_let]
  refine ⟨⟨?_, ?_, ?_, ?_, ?_, ?_, ?_⟩, ?_⟩
  · simp only [z_uI_1j, z_sI_1, Nat.reduceEqDiff, false_and, if_false, and_false, and_self, if_true, true_and]
    exact h.1
  · intro k hk
    simp only [z_uI_1j, z_sI_1, Nat.reduceEqDiff, false_and, if_false, and_false, and_self, if_true, true_and]
    exact h.2.1 k hk
  · intro k hk
    simp only [z_uI_1j, z_sI_1, Nat.reduceEqDiff, false_and, if_false, and_false, and_self, if_true, true_and]
    exact h.2.2.1 k hk
  · intro k hk
    have e := h.2.2.2.1 k hk
    simp only [z_uI_1j, Nat.reduceEqDiff, false_and, if_false, and_self, if_true]
    rw [pk_cpy_in (by omega) (by omega), show 0 + (k - 0) = k by omega]
    simp only [z_sI_1, Nat.reduceEqDiff, false_and, if_false]
    exact e
  · intro k hk
    have e := h.2.2.2.2.1 k hk
    simp only [z_uI_1j, Nat.reduceEqDiff, false_and, if_false, and_self, if_true]
    rw [pk_cpy_in (by omega) (by omega), show 0 + (k - 0) = k by omega]
    simp only [z_uI_1j, z_sI_1, Nat.reduceEqDiff, false_and, if_false]
    exact e
  · intro k hk
    have e := h.2.2.2.2.2.1 k hk
    simp only [z_uI_1j, Nat.reduceEqDiff, false_and, if_false, and_self, if_true]
    have := hT.2
    · rw [pk_cpy_in (by omega) (by omega), show 0 + (k - 0) = k by omega]
      simp only [z_uI_1j, z_sI_1, Nat.reduceEqDiff, false_and, if_false]
      exact e
  · intro k hk
    have e := h.2.2.2.2.2.2 k hk
    simp only [z_uI_1j, Nat.reduceEqDiff, false_and, if_false, and_self, if_true]
    rw [pk_cpy_in (by omega) (by omega), show 0 + (k - 0) = k by omega]
    simp only [z_uI_1j, z_sI_1, Nat.reduceEqDiff, false_and, if_false]
    exact e
  · exact zk_u (zk_u (zk_u (zk_u (zk_s (zk_s (zk_s (zk_r m) (by omega)) (by omega)) (by omega)) (fun k => by omega)) (fun k => by omega)) (fun k => by omega)) (fun k => by omega)
