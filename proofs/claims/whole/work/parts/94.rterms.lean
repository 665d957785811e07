/-! READ XVII: the reference reads terms: its small steps -/
abbrev sR (c0 : Nat) : Nat → Nat → Nat → Prop := fun c i k => (c = 9 ∧ i = 0 ∧ (k = 11 ∨ k = 12 ∨ k = 13 ∨ k = 14 ∨ k = 40 ∨ k = 44)) ∨ ((c = 141 ∨ c = 142) ∧ c0 ≤ k ∧ k < c0 + 420) ∨ c = 143
section
variable {K V S : Nat → Nat} {e t k d F C c0 : Nat} {m m' m1 : zMem} {l l' : List qI} {w pp : List Nat} {a : Int32}
/-- the reference's TOKENS up to e, which is the end or the 401st -/
def r9_tk (K V S : Nat → Nat) (e : Nat) (m : zMem) : Prop := ∀ j, j ≤ e → m.1 105 0 j = nI (qk_G (K j)) ∧ m.1 106 0 j = nI (S j) ∧ (K j = 3 → m.1 107 0 j = nI (V j))
def r9_kk (K : Nat → Nat) (e : Nat) : Prop := e ≤ 400 ∧ (∀ j, qk_ok (K j) = true) ∧ ∀ j, j ≤ e → K j ≠ 0 → j < 400 → j + 1 ≤ e
theorem r9_tk.fr {T : Nat → Nat → Nat → Prop} (h : r9_tk K V S e m) (hf : zk T m m') (hs : ∀ c k, (c = 105 ∨ c = 106 ∨ c = 107) → ¬ T c 0 k) : r9_tk K V S e m' := fun j hj => ⟨by rw [hf.1 _ _ _ (hs _ _ (by omega))]; exact (h j hj).1, by rw [hf.1 _ _ _ (hs _ _ (by omega))]; exact (h j hj).2.1, fun q => by rw [hf.1 _ _ _ (hs _ _ (by omega))]; exact (h j hj).2.2 q⟩
theorem p9_is {c : Nat} (hk : r9_kk K e) (ht : t ≤ e) (htk : r9_tk K V S e m) (h11 : m.1 9 0 11 = nI t) (h13 : m.1 9 0 13 = 0) (hc : qk_ok c = true) (ha : a = nI (qk_G c)) : f9_is a m = some (if K t = c then 1 else 0) := by
  have he := hk.1
  unfold f9_is
  rw [h13, if_pos rfl, h11, if_pos (y_in (by omega) (by omega)), y_cl (by omega), (htk t ht).1, ha]
  by_cases h : K t = c
  · rw [if_pos h, if_pos (by rw [h])]
  · rw [if_neg h, if_neg (by rw [qk_G_eq (hk.2.1 t) hc]; exact h)]
theorem p9_isF (h : ¬ m.1 9 0 13 = 0) : f9_is a m = some 0 := by
  unfold f9_is
  rw [if_neg h]
theorem p9_failF (h : 0 < m.1 9 0 13) : f9_fail a m = some m := by
  unfold f9_fail
  rw [if_pos h]
abbrev sF : Nat → Nat → Nat → Prop := fun c i k => c = 9 ∧ i = 0 ∧ (k = 13 ∨ k = 14)
theorem p9_fail (hF : F = 1 ∨ F = 2) (he : e ≤ 400) (ht : t ≤ e) (htk : r9_tk K V S e m) (h11 : m.1 9 0 11 = nI t) (h13 : m.1 9 0 13 = 0) : zw (f9_fail (nI F) m) fun m' => zk sF m m' ∧ m'.1 9 0 13 = nI F ∧ m'.1 9 0 14 = nI (S t) := by
  unfold f9_fail
  rw [h13, if_neg (show ¬ (0 : Int32) < 0 by decide)]
  simp only [z_let]
  rw [show (z_sI m 9 0 13 (nI F)).1 9 0 11 = nI t by rw [z_sI_1, if_neg (by omega)]; exact h11, if_pos (y_in (by omega) (by omega)), y_cl (by omega)]
  refine zw_some.mpr ⟨zk_s (zk_s (zk_r m) (by omega)) (by omega), ?_, ?_⟩
  · rw [z_sI_1, if_neg (by omega), z_sI_1, if_pos ⟨rfl, rfl, rfl⟩]
  · rw [z_sI_1, if_pos ⟨rfl, rfl, rfl⟩, z_sI_1, if_neg (by omega)]; exact (htk t ht).2.1
theorem y_F (hF : F = 1 ∨ F = 2) : (0 : Int32) < nI F ∧ ¬ nI F = 0 := by rcases hF with h | h <;> subst h <;> decide
theorem y_400 : (400 : Int32) = nI 400 := rfl
abbrev sG : Nat → Nat → Nat → Prop := fun c i k => c = 9 ∧ i = 0 ∧ (k = 11 ∨ k = 13 ∨ k = 14)
/-- one TOKEN on, or ROOM -/
theorem p9_goesOn (he : e ≤ 400) (ht : t ≤ e) (htk : r9_tk K V S e m) (h11 : m.1 9 0 11 = nI t) (h13 : m.1 9 0 13 = 0) : zw (f9_goesOn m) fun m' => zk sG m m' ∧ (t < 400 → m'.1 9 0 11 = nI (t + 1) ∧ m'.1 9 0 13 = 0) ∧ (¬ t < 400 → m'.1 9 0 13 = nI 2 ∧ m'.1 9 0 14 = nI (S t)) := by
  unfold f9_goesOn
  rw [h11, y_400]
  by_cases c : t < 400
  · rw [if_neg (show ¬ nI t = nI 400 by rw [y_eq (by omega) (by omega)]; omega)]
    simp only [z_let]
    refine zw_some.mpr ⟨zk_s (zk_r m) (by omega), fun _ => ⟨?_, ?_⟩, fun q => absurd c q⟩
    · rw [z_sI_1, if_pos ⟨rfl, rfl, rfl⟩, y_s1]
    · rw [z_sI_1, if_neg (by omega)]; exact h13
  · rw [if_pos (show nI t = nI 400 by congr 1; omega)]
    refine zw_b (p9_fail (F := 2) (Or.inr rfl) he ht htk h11 h13) ?_
    rintro m1 ⟨f1, g1, g2⟩
    exact zw_some.mpr ⟨zk_m f1 (fun c i k h => by omega), fun q => absurd q c, fun _ => ⟨g1, g2⟩⟩
/-- with a FAULT: the place may go on, nothing else -/
theorem p9_goesOnF (h : 0 < m.1 9 0 13) : zw (f9_goesOn m) fun m' => zk (fun c i k => c = 9 ∧ i = 0 ∧ k = 11) m m' := by
  unfold f9_goesOn
  by_cases c : m.1 9 0 11 = 400
  · rw [if_pos c, p9_failF h]
    exact zw_some.mpr (zk_r m)
  · rw [if_neg c]
    simp only [z_let]
    exact zw_some.mpr (zk_s (zk_r m) (by omega))
abbrev sM (c0 : Nat) : Nat → Nat → Nat → Prop := fun c i k => (c = 9 ∧ i = 0 ∧ k = 40) ∨ ((c = 141 ∨ c = 142) ∧ c0 ≤ k ∧ k < c0 + 420)
theorem p9_emit {x : Int32} (hc0 : c0 ≤ 420) (hC : c0 ≤ C ∧ C < c0 + 420) (h40 : m.1 9 0 40 = nI C) : zw (f9_emit a x m) fun m' => zk (sM c0) m m' ∧ m'.1 9 0 40 = nI (C + 1) ∧ m'.1 141 0 C = a ∧ m'.1 142 0 C = x ∧ ∀ j, j ≠ C → m'.1 141 0 j = m.1 141 0 j ∧ m'.1 142 0 j = m.1 142 0 j := by
  unfold f9_emit
  simp only [z_let]
  rw [h40, if_pos (y_in (show C < 840 by omega) (by omega)), y_cl (by omega)]
  have e1 : (z_sI m 141 0 C a).1 9 0 40 = nI C := by rw [z_sI_1, if_neg (by omega)]; exact h40
  rw [e1, if_pos (y_in (show C < 840 by omega) (by omega)), y_cl (by omega)]
  have e2 : (z_sI (z_sI m 141 0 C a) 142 0 C x).1 9 0 40 = nI C := by rw [z_sI_1, if_neg (by omega)]; exact e1
  rw [e2, y_s1]
  refine zw_some.mpr ⟨zk_s (zk_s (zk_s (zk_r m) (by omega)) (by omega)) (by omega), ?_, ?_, ?_, fun j hj => ⟨?_, ?_⟩⟩
  · rw [z_sI_1, if_pos ⟨rfl, rfl, rfl⟩]
  · rw [z_sI_1, if_neg (by omega), z_sI_1, if_neg (by omega), z_sI_1, if_pos ⟨rfl, rfl, rfl⟩]
  · rw [z_sI_1, if_neg (by omega), z_sI_1, if_pos ⟨rfl, rfl, rfl⟩]
  · rw [z_sI_1, if_neg (by omega), z_sI_1, if_neg (by omega), z_sI_1, if_neg (by omega)]
  · rw [z_sI_1, if_neg (by omega), z_sI_1, if_neg (by omega), z_sI_1, if_neg (by omega)]
theorem q_ms_cong {c c' x x' : Nat → Int32} : ∀ {l : List qI} {a : Nat}, (∀ i, a ≤ i → i < a + l.length → c' i = c i ∧ x' i = x i) → q_ms c x a l → q_ms c' x' a l
  | [], _, _, _ => trivial
  | w :: l, a, h, hc => by
    obtain ⟨h1, h2⟩ := h a (Nat.le_refl _) (by show a < a + (l.length + 1); omega)
    exact ⟨⟨by rw [h1]; exact hc.1.1, fun q => by rw [h2]; exact hc.1.2 q⟩, q_ms_cong (fun i h1 h2 => h i (by omega) (by show i < a + (l.length + 1); omega)) hc.2⟩
theorem q_ms_app {c x : Nat → Int32} : ∀ {l l' : List qI} {a : Nat}, q_ms c x a l → q_ms c x (a + l.length) l' → q_ms c x a (l ++ l')
  | [], _, _, _, h => h
  | w :: l, l', a, hc, h => ⟨hc.1, q_ms_app hc.2 (by rw [show a + 1 + l.length = a + (w :: l).length by show a + 1 + l.length = a + (l.length + 1); omega]; exact h)⟩
/-- what waits, the latest first -/
def qk_wt (g : Nat → Int32) : List Nat → Prop
  | [] => True
  | k :: w => g w.length = nI k ∧ qk_wt g w
theorem qk_wt_u {g g' : Nat → Int32} : ∀ {w : List Nat}, (∀ i, i < w.length → g' i = g i) → qk_wt g w → qk_wt g' w
  | [], _, _ => trivial
  | k :: w, h, hw => ⟨by rw [h _ (Nat.lt_succ_self _)]; exact hw.1, qk_wt_u (fun i hi => h i (Nat.lt_succ_of_lt hi)) hw.2⟩
theorem qk_wt_tl {g : Nat → Int32} : ∀ {pp w : List Nat}, qk_wt g (pp ++ w) → qk_wt g w
  | [], _, h => h
  | _ :: pp, _, h => qk_wt_tl (pp := pp) h.2
def r9_oi (k : Nat) : qI := (if k = 8 then 2 else if k = 9 then 3 else if k = 10 then 4 else 5, 0)
def r9_op (k : Nat) : Prop := k = 8 ∨ k = 9 ∨ k = 10 ∨ k = 15
/-- what comes out: f = 1: * and / alone -/
def r9_pp (f : Nat) (k : Nat) : Prop := k = 10 ∨ k = 15 ∨ (f = 0 ∧ (k = 8 ∨ k = 9))
def r9_bl (f : Nat) (w : List Nat) : Prop := w = [] ∨ ∃ k w', w = k :: w' ∧ (k = 6 ∨ (f = 1 ∧ (k = 8 ∨ k = 9)))
abbrev sO (c0 : Nat) : Nat → Nat → Nat → Prop := fun c i k => (c = 9 ∧ i = 0 ∧ (k = 40 ∨ k = 44)) ∨ ((c = 141 ∨ c = 142) ∧ c0 ≤ k ∧ k < c0 + 420)
theorem r9_oi_w (k : Nat) : ((if nI k = (8 : Int32) then some (2 : Int32) else (if nI k = (9 : Int32) then some (3 : Int32) else (if nI k = (10 : Int32) then some (4 : Int32) else some (5 : Int32)))) : Option Int32) = some (nI (r9_oi k).1) ∨ ¬ r9_op k := by
  by_cases h : r9_op k
  · refine Or.inl ?_
    rcases h with h | h | h | h <;> subst h <;> rfl
  · exact Or.inr h
theorem p9_comesOutL {f : Nat} (hc0 : c0 ≤ 420) (hf : f < 2) : ∀ (pp : List Nat) (w : List Nat) (C n : Nat) (m : zMem), (∀ k, k ∈ pp → r9_pp f k) → r9_bl f w → (pp ++ w).length ≤ 60 → c0 ≤ C ∧ C + pp.length ≤ c0 + 420 → pp.length < n → m.1 9 0 44 = nI (pp ++ w).length → qk_wt (m.1 143 0) (pp ++ w) → m.1 9 0 40 = nI C → zw (z_it (f9_comesOut_L1 (nI f)) n m) fun r => zk (sO c0) m (Sum.elim id id r) ∧ (Sum.elim id id r).1 9 0 44 = nI w.length ∧ (Sum.elim id id r).1 9 0 40 = nI (C + pp.length) ∧ q_ms ((Sum.elim id id r).1 141 0) ((Sum.elim id id r).1 142 0) C (pp.map r9_oi) ∧ ∀ j, j < C → (Sum.elim id id r).1 141 0 j = m.1 141 0 j ∧ (Sum.elim id id r).1 142 0 j = m.1 142 0 j
  | pp, w, C, 0, m, _, _, _, _, hn, _, _, _ => by omega
  | [], w, C, n + 1, m, hp, hb, hl, hC, hn, h44, hw, h40 => by
    have fin : ∀ r : zMem ⊕ zMem, Sum.elim id id r = m → (zk (sO c0) m (Sum.elim id id r) ∧ (Sum.elim id id r).1 9 0 44 = nI w.length ∧ (Sum.elim id id r).1 9 0 40 = nI (C + ([] : List Nat).length) ∧ q_ms ((Sum.elim id id r).1 141 0) ((Sum.elim id id r).1 142 0) C (([] : List Nat).map r9_oi) ∧ ∀ j, j < C → (Sum.elim id id r).1 141 0 j = m.1 141 0 j ∧ (Sum.elim id id r).1 142 0 j = m.1 142 0 j) := fun r hr => by
      rw [hr]
      exact ⟨zk_r m, h44, h40, trivial, fun _ _ => ⟨rfl, rfl⟩⟩
    rcases hb with rfl | ⟨k, w', rfl, hk⟩
    · refine ⟨.inl m, z_it_d ?_, fin _ rfl⟩
      unfold f9_comesOut_L1
      rw [show m.1 9 0 44 = nI 0 from h44, if_neg (show ¬ (0 : Int32) < nI 0 by decide)]
    · have hl' : w'.length + 1 ≤ 60 := hl
      have e44 : m.1 9 0 44 = nI (w'.length + 1) := h44
      refine ⟨.inr m, z_it_d ?_, fin _ rfl⟩
      unfold f9_comesOut_L1
      rw [e44, if_pos (show (0 : Int32) < nI (w'.length + 1) from nI_lt (a := 0) (by omega) (by omega)), nI_pred, if_pos (y_in (by omega) (by omega)), y_cl (by omega)]
      simp only [z_let]
      have e143 : m.1 143 0 w'.length = nI k := hw.1
      rw [e143]
      rcases hk with rfl | ⟨rfl, rfl | rfl⟩
      · rw [if_pos (show nI 6 = 6 from rfl)]
      · rw [if_neg (show ¬ nI 8 = 6 by decide), if_neg (show ¬ nI 1 = 0 by decide), if_pos (show nI 8 = 8 from rfl)]
      · rw [if_neg (show ¬ nI 9 = 6 by decide), if_neg (show ¬ nI 1 = 0 by decide), if_neg (show ¬ nI 9 = 8 by decide), if_pos (show nI 9 = 9 from rfl)]
  | k :: pp, w, C, n + 1, m, hp, hb, hl, hC, hn, h44, hw, h40 => by
    have hl' : (pp ++ w).length + 1 ≤ 60 := hl
    have hC' : c0 ≤ C ∧ C + (pp.length + 1) ≤ c0 + 420 := hC
    have hn' : pp.length + 1 < n + 1 := hn
    have e44 : m.1 9 0 44 = nI ((pp ++ w).length + 1) := h44
    have e143 : m.1 143 0 (pp ++ w).length = nI k := hw.1
    have hk := hp k List.mem_cons_self
    have hop : r9_op k := by unfold r9_op; unfold r9_pp at hk; omega
    obtain ⟨M, hM⟩ : ∃ M, M = z_sI m 9 0 44 (nI (pp ++ w).length) := ⟨_, rfl⟩
    have fM : zk (fun c i k => c = 9 ∧ i = 0 ∧ k = 44) m M := by rw [hM]; exact zk_s (zk_r m) ⟨rfl, rfl, rfl⟩
    have M44 : M.1 9 0 44 = nI (pp ++ w).length := by rw [hM, z_sI_1, if_pos ⟨rfl, rfl, rfl⟩]
    obtain ⟨m2, hm2, f2, g40, g141, g142, glow⟩ := p9_emit (a := nI (r9_oi k).1) (x := 0) (m := M) (C := C) hc0 (by omega) (by rw [fM.1 _ _ _ (by omega)]; exact h40)
    have hbody : f9_comesOut_L1 (nI f) m = some (.inl m2) := by
      have hq := (r9_oi_w k).resolve_right (fun q => q hop)
      unfold f9_comesOut_L1
      rw [e44, if_pos (show (0 : Int32) < nI ((pp ++ w).length + 1) from nI_lt (a := 0) (by omega) (by omega)), nI_pred, if_pos (y_in (by omega) (by omega)), y_cl (by omega)]
      simp only [z_let]
      rw [e143, ← hM, hq, Option.bind_some, hm2, Option.bind_some]
      have n6 : ¬ nI k = 6 := by unfold r9_op at hop; rcases hop with h | h | h | h <;> subst h <;> decide
      rw [if_neg n6]
      by_cases c0 : f = 0
      · subst c0
        rw [if_pos (show nI 0 = 0 from rfl)]
      · have c1 : f = 1 := by omega
        subst c1
        have hk' : k = 10 ∨ k = 15 := by unfold r9_pp at hk; omega
        have n8 : ¬ nI k = 8 := by rcases hk' with h | h <;> subst h <;> decide
        have n9 : ¬ nI k = 9 := by rcases hk' with h | h <;> subst h <;> decide
        rw [if_neg (show ¬ nI 1 = 0 by decide), if_neg n8, if_neg n9]
    have ih := p9_comesOutL hc0 hf pp w (C + 1) n m2 (fun k' hk' => hp k' (List.mem_cons_of_mem _ hk')) hb (by omega) (by omega) (by omega) (by rw [f2.1 _ _ _ (by omega)]; exact M44) (qk_wt_u (fun i _ => by rw [f2.1 _ _ _ (by omega), fM.1 _ _ _ (by omega)]) hw.2) g40
    rw [z_it_s hbody]
    refine zw_mono ih ?_
    rintro r ⟨r1, r2, r3, r4, r5⟩
    refine ⟨zk_t (zk_m fM (fun c i k h => by omega)) (zk_t (zk_m f2 (fun c i k h => by omega)) r1), r2, ?_, ⟨⟨?_, fun _ => ?_⟩, r4⟩, fun j hj => ?_⟩
    · rw [r3]; congr 1; show C + 1 + pp.length = C + (pp.length + 1); omega
    · rw [(r5 C (by omega)).1, g141]
    · rw [(r5 C (by omega)).2, g142]; rfl
    · rw [(r5 j (by omega)).1, (r5 j (by omega)).2, (glow j (by omega)).1, (glow j (by omega)).2, fM.1 _ _ _ (by omega), fM.1 _ _ _ (by omega)]
      exact ⟨rfl, rfl⟩
theorem p9_comesOut {f : Nat} (hc0 : c0 ≤ 420) (hf : f < 2) (hp : ∀ k, k ∈ pp → r9_pp f k) (hb : r9_bl f w) (hl : (pp ++ w).length ≤ 60) (hC : c0 ≤ C ∧ C + pp.length ≤ c0 + 420) (h44 : m.1 9 0 44 = nI (pp ++ w).length) (hw : qk_wt (m.1 143 0) (pp ++ w)) (h40 : m.1 9 0 40 = nI C) : zw (f9_comesOut (nI f) m) fun m' => zk (sO c0) m m' ∧ m'.1 9 0 44 = nI w.length ∧ m'.1 9 0 40 = nI (C + pp.length) ∧ q_ms (m'.1 141 0) (m'.1 142 0) C (pp.map r9_oi) ∧ ∀ j, j < C → m'.1 141 0 j = m.1 141 0 j ∧ m'.1 142 0 j = m.1 142 0 j := by
  have hlp : pp.length ≤ 60 := by rw [List.length_append] at hl; omega
  unfold f9_comesOut
  refine zw_b (p9_comesOutL hc0 hf pp w C z_fu m hp hb hl hC (by show pp.length < 5000; omega) h44 hw h40) ?_
  rintro r h
  cases r with
  | inl x => exact zw_some.mpr h
  | inr x => exact zw_some.mpr h
/-- any stack is one that comes out and one that blocks -/
theorem r9_split : ∀ w : List Nat, (∀ k, k ∈ w → k = 6 ∨ r9_op k) → ∃ pp w', w = pp ++ w' ∧ (∀ k, k ∈ pp → r9_pp 0 k) ∧ r9_bl 0 w'
  | [], _ => ⟨[], [], rfl, fun k hk => absurd hk (by simp), Or.inl rfl⟩
  | k :: w, h => by
    by_cases c : k = 6
    · exact ⟨[], k :: w, rfl, fun k hk => absurd hk (by simp), Or.inr ⟨k, w, rfl, Or.inl c⟩⟩
    · obtain ⟨pp, w', e, h1, h2⟩ := r9_split w fun k' hk' => h k' (List.mem_cons_of_mem _ hk')
      refine ⟨k :: pp, w', by rw [e]; rfl, fun k' hk' => ?_, h2⟩
      rcases List.mem_cons.mp hk' with rfl | hk'
      · have := h k' List.mem_cons_self
        unfold r9_op at this
        unfold r9_pp
        omega
      · exact h1 k' hk'
end
