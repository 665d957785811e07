/-! READ XXXIII: the reference's sentences, their texts; names on both sides -/
def g9_house (μ : zMem) : Option (zMem) := if z_in (μ.1 9 0 19) 2 = true then (f9_roomFor (μ.1 123 0 (μ.1 9 0 19).toNatClampNeg) (5 : Int32) μ).bind (fun qm4 => (if 0 < (qm4.1 9 0 13) then some qm4 else (f9_named qm4).bind (z_u2 fun q7 qm8 => if z_in (qm8.1 9 0 19) 2 = true then (f9_bounded (99 : Int32) qm8).bind (z_u2 fun q11 qm12 => if z_in (((5 : Int32) * (qm8.1 9 0 19)) + (qm8.1 123 0 (qm8.1 9 0 19).toNatClampNeg)) 10 = true then z_let (z_sI qm12 124 0 (((5 : Int32) * (qm8.1 9 0 19)) + (qm8.1 123 0 (qm8.1 9 0 19).toNatClampNeg)).toNatClampNeg q11) fun m14 => if z_in (m14.1 9 0 19) 2 = true then (f9_endsName q7 (m14.1 123 0 (m14.1 9 0 19).toNatClampNeg) m14).bind (fun qm18 => (if (qm18.1 9 0 13) = 0 then if z_in (qm18.1 9 0 19) 2 = true then z_let (z_sI qm18 123 0 (qm18.1 9 0 19).toNatClampNeg ((qm18.1 123 0 (qm18.1 9 0 19).toNatClampNeg) + (1 : Int32))) fun m22 => some m22 else none else some qm18)) else none else none) else none))) else none
def g9_person (μ : zMem) : Option (zMem) := if z_in (μ.1 9 0 19) 2 = true then (f9_roomFor (μ.1 126 0 (μ.1 9 0 19).toNatClampNeg) (7 : Int32) μ).bind (fun qm26 => (if 0 < (qm26.1 9 0 13) then some qm26 else (f9_named qm26).bind (z_u2 fun q29 qm30 => if z_in (qm30.1 9 0 19) 2 = true then (f9_bounded (99 : Int32) qm30).bind (z_u2 fun q33 qm34 => if z_in (((7 : Int32) * (qm30.1 9 0 19)) + (qm30.1 126 0 (qm30.1 9 0 19).toNatClampNeg)) 14 = true then z_let (z_sI qm34 127 0 (((7 : Int32) * (qm30.1 9 0 19)) + (qm30.1 126 0 (qm30.1 9 0 19).toNatClampNeg)).toNatClampNeg q33) fun m36 => if z_in (m36.1 9 0 19) 2 = true then (f9_endsName q29 ((10 : Int32) + (m36.1 126 0 (m36.1 9 0 19).toNatClampNeg)) m36).bind (fun qm40 => (if (qm40.1 9 0 13) = 0 then if z_in (qm40.1 9 0 19) 2 = true then z_let (z_sI qm40 126 0 (qm40.1 9 0 19).toNatClampNeg ((qm40.1 126 0 (qm40.1 9 0 19).toNatClampNeg) + (1 : Int32))) fun m44 => some m44 else none else some qm40)) else none else none) else none))) else none
def g9_right (μ : zMem) : Option (zMem) := if z_in (μ.1 9 0 19) 2 = true then (f9_roomFor (μ.1 129 0 (μ.1 9 0 19).toNatClampNeg) (20 : Int32) μ).bind (fun qm48 => (if (qm48.1 9 0 13) = 0 then (f9_tellRight qm48).bind (fun qm51 => some qm51) else some qm48)) else none
def g9_away (μ : zMem) : Option (zMem) := if z_in (μ.1 9 0 19) 2 = true then (f9_roomFor (μ.1 130 0 (μ.1 9 0 19).toNatClampNeg) (7 : Int32) μ).bind (fun qm55 => (if (qm55.1 9 0 13) = 0 then (f9_tellAway qm55).bind (fun qm58 => some qm58) else some qm55)) else none
def g9_law (μ : zMem) : Option (zMem) := z_let ((μ.1 105 0 (μ.1 9 0 11).toNatClampNeg) - (24 : Int32)) fun v61 => ((if v61 < 0 then (f9_fail (1 : Int32) μ).bind (fun qm66 => some qm66) else (if (27 : Int32) < (μ.1 105 0 (μ.1 9 0 11).toNatClampNeg) then (f9_fail (1 : Int32) μ).bind (fun qm69 => some qm69) else some μ)) : Option (zMem)).bind (fun jm71 => (if 0 < (jm71.1 9 0 13) then some jm71 else (f9_goesOn jm71).bind (fun qm73 => (f9_tellLaw v61 qm73).bind (fun qm75 => some qm75))))
def g9_seed (μ : zMem) : Option (zMem) := (f9_goesOn μ).bind (fun qm129 => (f9_bounded (9999 : Int32) qm129).bind (z_u2 fun q131 qm132 => if z_in (qm129.1 9 0 19) 2 = true then z_let (z_sI qm132 131 0 (qm129.1 9 0 19).toNatClampNeg q131) fun m134 => (f9_must (4 : Int32) m134).bind (fun qm137 => some qm137) else none))
theorem g9_tellOne (μ : zMem) : f9_tellOne μ = if z_in (μ.1 9 0 11) 403 = true then (if (μ.1 105 0 (μ.1 9 0 11).toNatClampNeg) = (20 : Int32) then g9_house μ else (if (μ.1 105 0 (μ.1 9 0 11).toNatClampNeg) = (21 : Int32) then g9_person μ else (if (μ.1 105 0 (μ.1 9 0 11).toNatClampNeg) = (22 : Int32) then g9_right μ else (if (μ.1 105 0 (μ.1 9 0 11).toNatClampNeg) = (23 : Int32) then g9_away μ else (if (μ.1 105 0 (μ.1 9 0 11).toNatClampNeg) = (24 : Int32) then g9_law μ else (if (μ.1 105 0 (μ.1 9 0 11).toNatClampNeg) = (25 : Int32) then g9_law μ else (if (μ.1 105 0 (μ.1 9 0 11).toNatClampNeg) = (26 : Int32) then g9_law μ else (if (μ.1 105 0 (μ.1 9 0 11).toNatClampNeg) = (27 : Int32) then g9_law μ else (if (μ.1 105 0 (μ.1 9 0 11).toNatClampNeg) = (28 : Int32) then g9_seed μ else g9_law μ))))))))) else none := rfl
section
variable {K V S : Nat → Nat} {A B : Nat → Int64} {e t k F H P p a v c0 b0 C b : Nat} {m m' : zMem} {c d : Nat × Nat} {T : qT} {W G : Nat → Int32} {hn pn : Nat → Nat}
theorem qk_se_iff {f : Nat → Bool} {n : Nat} : (q_se f n).isSome = true ↔ ∃ j, j < n ∧ f j = true := by
  rcases q_se_sp f n with ⟨h1, h2⟩ | ⟨k, hk, h1, h2, _⟩
  · rw [h1]
    refine ⟨fun q => absurd q (by decide), fun ⟨j, q1, q2⟩ => ?_⟩
    rw [h2 j q1] at q2; exact absurd q2 (by decide)
  · rw [h1]
    exact ⟨fun _ => ⟨k, hk, h2⟩, fun _ => rfl⟩
theorem qk_se_some {f : Nat → Bool} {n j : Nat} (hj : j < n) (h : f j = true) (hl : ∀ i, i < j → f i = false) : q_se f n = some j := by
  rcases q_se_sp f n with ⟨_, h2⟩ | ⟨k, hk, h1, h2, h3⟩
  · rw [h2 j hj] at h; exact absurd h (by decide)
  · rcases Nat.lt_trichotomy k j with q | q | q
    · rw [hl k q] at h2; exact absurd h2 (by decide)
    · rw [h1, q]
    · rw [h3 j q] at h; exact absurd h (by decide)
/-- the first of a sort, in the order told or by number -/
theorem qk_se_sort {f g : Nat → Bool} {od : Nat → Nat} {n N l : Nat} (h1 : ∀ k, k < n → f k = true → l ≤ od k ∧ od k - l < N ∧ g (od k - l) = true) (h2 : ∀ j, j < N → g j = true → ∃ k, k < n ∧ od k = l + j ∧ f k = true) (h3 : ∀ k k', k < k' → k' < n → f k = true → f k' = true → od k < od k') : (q_se f n).map (fun j => od j - l) = q_se g N := by
  rcases q_se_sp f n with ⟨a1, a2⟩ | ⟨k, hk, a1, a2, a3⟩
  · rw [a1, q_se_none fun j hj => ?_]
    · rfl
    · cases hg : g j
      · rfl
      · obtain ⟨k, k1, k2, k3⟩ := h2 j hj hg
        rw [a2 k k1] at k3; exact absurd k3 (by decide)
  · rw [a1]
    obtain ⟨b1, b2, b3⟩ := h1 k hk a2
    show some (od k - l) = _
    rw [qk_se_some b2 b3 fun i hi => ?_]
    cases hg : g i
    · rfl
    · obtain ⟨k', k1, k2, k3⟩ := h2 i (by omega) hg
      rcases Nat.lt_trichotomy k' k with q | q | q
      · rw [a3 k' q] at k3; exact absurd k3 (by decide)
      · subst q; omega
      · have := h3 k k' q k1 a2 k3
        omega
def qz_nk (K : Nat → Nat) (T : qT) (hn pn : Nat → Nat) : Prop := (∀ h, h < tH T → K (hn h) = 2) ∧ ∀ p, p < tP T → K (pn p) = 2
def r9_ab (K : Nat → Nat) (A B : Nat → Int64) : Prop := ∀ i j, K i = 2 → K j = 2 → (A i = A j ↔ B i = B j)
theorem r9_any (hAB : r9_ab K A B) (hT : tOk T) (hnk : qz_nk K T hn pn) (h : r9_nm B T hn pn m) (hK : K t = 2) (h108 : m.2.1 108 0 t = B t) : (q_se (fun j => decide (m.2.1 121 0 j = m.2.1 108 0 t)) (tH T + tP T)).isSome = ((x_fh A hn (tH T) t).isSome || (x_fh A pn (tP T) t).isSome) := by
  obtain ⟨h20, od, o1, o2, o3, o4⟩ := h
  rw [Bool.eq_iff_iff, Bool.or_eq_true, qk_se_iff, x_fh, x_fh, qk_se_iff, qk_se_iff, h108]
  constructor
  · rintro ⟨j, hj, q⟩
    have q' := of_decide_eq_true q
    rcases (o1 j hj).2 with ⟨a1, a2⟩ | ⟨a1, a2, a3⟩
    · rw [a2] at q'
      exact Or.inl ⟨od j, a1, decide_eq_true ((hAB _ _ (hnk.1 _ a1) hK).mpr q')⟩
    · rw [a3] at q'
      exact Or.inr ⟨od j - 10, by omega, decide_eq_true ((hAB _ _ (hnk.2 _ (by omega)) hK).mpr q')⟩
  · have hP := hT.2
    have hH := hT.1
    rintro (⟨j, hj, q⟩ | ⟨j, hj, q⟩)
    · have q' := (hAB _ _ (hnk.1 _ hj) hK).mp (of_decide_eq_true q)
      obtain ⟨k, k1, k2⟩ := o2 j hj
      refine ⟨k, k1, decide_eq_true ?_⟩
      rcases (o1 k k1).2 with ⟨a1, a2⟩ | ⟨a1, a2, a3⟩
      · rw [a2, k2, q']
      · omega
    · have q' := (hAB _ _ (hnk.2 _ hj) hK).mp (of_decide_eq_true q)
      obtain ⟨k, k1, k2⟩ := o3 j hj
      refine ⟨k, k1, decide_eq_true ?_⟩
      rcases (o1 k k1).2 with ⟨a1, a2⟩ | ⟨a1, a2, a3⟩
      · omega
      · rw [a3, show od k - 10 = j by omega, q']
theorem r9_fh {od : Nat → Nat} (hAB : r9_ab K A B) (hT : tOk T) (hnk : qz_nk K T hn pn) (o1 : ∀ k, k < tH T + tP T → m.1 122 0 k = nI (od k) ∧ ((od k < tH T ∧ m.2.1 121 0 k = B (hn (od k))) ∨ (10 ≤ od k ∧ od k < 10 + tP T ∧ m.2.1 121 0 k = B (pn (od k - 10))))) (o2 : ∀ h, h < tH T → ∃ k, k < tH T + tP T ∧ od k = h) (o4 : ∀ k k', k < k' → k' < tH T + tP T → (od k < 10 ↔ od k' < 10) → od k < od k') (hK : K t = 2) (h108 : m.2.1 108 0 t = B t) : (q_se (fun j => decide (m.2.1 121 0 j = m.2.1 108 0 t) && (decide (0 ≤ od j) && decide (od j < 0 + 10))) (tH T + tP T)).map (fun j => od j - 0) = x_fh A hn (tH T) t := by
  have hH := hT.1
  unfold x_fh
  rw [h108]
  refine qk_se_sort (l := 0) (fun k hk q => ?_) (fun j hj q => ?_) (fun k k' q1 q2 q3 q4 => ?_)
  · rw [Bool.and_eq_true, Bool.and_eq_true, decide_eq_true_eq, decide_eq_true_eq, decide_eq_true_eq] at q
    rcases (o1 k hk).2 with ⟨a1, a2⟩ | ⟨a1, a2, a3⟩
    · refine ⟨by omega, by omega, decide_eq_true ?_⟩
      rw [Nat.sub_zero]
      exact (hAB _ _ (hnk.1 _ a1) hK).mpr (by rw [← a2]; exact q.1)
    · omega
  · obtain ⟨k, k1, k2⟩ := o2 j hj
    refine ⟨k, k1, by omega, ?_⟩
    rw [Bool.and_eq_true, Bool.and_eq_true, decide_eq_true_eq, decide_eq_true_eq, decide_eq_true_eq]
    rcases (o1 k k1).2 with ⟨a1, a2⟩ | ⟨a1, a2, a3⟩
    · refine ⟨?_, by omega, by omega⟩
      rw [a2, k2]
      exact (hAB _ _ (hnk.1 _ hj) hK).mp (of_decide_eq_true q)
    · omega
  · rw [Bool.and_eq_true, Bool.and_eq_true, decide_eq_true_eq, decide_eq_true_eq, decide_eq_true_eq] at q3 q4
    exact o4 k k' q1 q2 (by omega)
theorem r9_fp {od : Nat → Nat} (hAB : r9_ab K A B) (hT : tOk T) (hnk : qz_nk K T hn pn) (o1 : ∀ k, k < tH T + tP T → m.1 122 0 k = nI (od k) ∧ ((od k < tH T ∧ m.2.1 121 0 k = B (hn (od k))) ∨ (10 ≤ od k ∧ od k < 10 + tP T ∧ m.2.1 121 0 k = B (pn (od k - 10))))) (o3 : ∀ p, p < tP T → ∃ k, k < tH T + tP T ∧ od k = 10 + p) (o4 : ∀ k k', k < k' → k' < tH T + tP T → (od k < 10 ↔ od k' < 10) → od k < od k') (hK : K t = 2) (h108 : m.2.1 108 0 t = B t) : (q_se (fun j => decide (m.2.1 121 0 j = m.2.1 108 0 t) && (decide (10 ≤ od j) && decide (od j < 10 + 10))) (tH T + tP T)).map (fun j => od j - 10) = x_fh A pn (tP T) t := by
  have hP := hT.2
  have hH := hT.1
  unfold x_fh
  rw [h108]
  refine qk_se_sort (l := 10) (fun k hk q => ?_) (fun j hj q => ?_) (fun k k' q1 q2 q3 q4 => ?_)
  · rw [Bool.and_eq_true, Bool.and_eq_true, decide_eq_true_eq, decide_eq_true_eq, decide_eq_true_eq] at q
    rcases (o1 k hk).2 with ⟨a1, a2⟩ | ⟨a1, a2, a3⟩
    · omega
    · refine ⟨by omega, by omega, decide_eq_true ?_⟩
      exact (hAB _ _ (hnk.2 _ (by omega)) hK).mpr (by rw [← a3]; exact q.1)
  · obtain ⟨k, k1, k2⟩ := o3 j hj
    refine ⟨k, k1, by omega, ?_⟩
    rw [Bool.and_eq_true, Bool.and_eq_true, decide_eq_true_eq, decide_eq_true_eq, decide_eq_true_eq]
    rcases (o1 k k1).2 with ⟨a1, a2⟩ | ⟨a1, a2, a3⟩
    · omega
    · refine ⟨?_, by omega, by omega⟩
      rw [a3, show od k - 10 = j by omega]
      exact (hAB _ _ (hnk.2 _ hj) hK).mp (of_decide_eq_true q)
  · rw [Bool.and_eq_true, Bool.and_eq_true, decide_eq_true_eq, decide_eq_true_eq, decide_eq_true_eq] at q3 q4
    exact o4 k k' q1 q2 (by omega)
/-- one name more -/
theorem r9_nm_h {s : Int32} {R R' X : Nat → Int32} {L : Nat → List qB × List qI} (hH : H < 5) (h : r9_nm B (H, P, s, R, X, L) hn pn m) (h20 : m'.1 9 0 20 = nI (H + P + 1)) (h121 : m'.2.1 121 0 (H + P) = B k) (h122 : m'.1 122 0 (H + P) = nI H) (ho : ∀ j, j ≠ H + P → m'.2.1 121 0 j = m.2.1 121 0 j ∧ m'.1 122 0 j = m.1 122 0 j) : r9_nm B (H + 1, P, s, R', X, L) (uN hn H k) pn m' := by
  obtain ⟨_, od, o1, o2, o3, o4⟩ := h
  have o1' : ∀ k, k < H + P → m.1 122 0 k = nI (od k) ∧ ((od k < H ∧ m.2.1 121 0 k = B (hn (od k))) ∨ (10 ≤ od k ∧ od k < 10 + P ∧ m.2.1 121 0 k = B (pn (od k - 10)))) := o1
  have en : ∀ x, x < H + P → x ≠ H + P := fun x hx => by omega
  refine ⟨by rw [h20]; show nI (H + P + 1) = nI (H + 1 + P); congr 1; omega, uN od (H + P) H, fun x hx => ?_, fun h' hh => ?_, fun p' hp => ?_, fun x x' q1 q2 q3 => ?_⟩
  · have hx' : x < H + 1 + P := hx
    unfold uN
    by_cases cx : x = H + P
    · rw [if_pos cx]
      refine ⟨by rw [cx]; exact h122, Or.inl ⟨show H < H + 1 by omega, ?_⟩⟩
      rw [if_pos rfl, cx]; exact h121
    · rw [if_neg cx, (ho x cx).1, (ho x cx).2]
      obtain ⟨a1, a2⟩ := o1' x (by omega)
      refine ⟨a1, ?_⟩
      rcases a2 with ⟨a3, a4⟩ | ⟨a3, a4, a5⟩
      · exact Or.inl ⟨show od x < H + 1 by omega, by rw [if_neg (by omega)]; exact a4⟩
      · exact Or.inr ⟨a3, a4, a5⟩
  · have hh' : h' < H + 1 := hh
    by_cases ch : h' = H
    · exact ⟨H + P, show H + P < H + 1 + P by omega, by unfold uN; rw [if_pos rfl, ch]⟩
    · obtain ⟨x, x1, x2⟩ := o2 h' (show h' < H by omega)
      have x1' : x < H + P := x1
      exact ⟨x, show x < H + 1 + P by omega, by unfold uN; rw [if_neg (by omega)]; exact x2⟩
  · obtain ⟨x, x1, x2⟩ := o3 p' hp
    have x1' : x < H + P := x1
    exact ⟨x, show x < H + 1 + P by omega, by unfold uN; rw [if_neg (by omega)]; exact x2⟩
  · have q2' : x' < H + 1 + P := q2
    unfold uN at q3 ⊢
    have n1 : x ≠ H + P := by omega
    rw [if_neg n1] at q3 ⊢
    by_cases cx : x' = H + P
    · rw [if_pos cx] at q3 ⊢
      obtain ⟨_, a2⟩ := o1' x (by omega)
      omega
    · rw [if_neg cx] at q3 ⊢
      exact o4 x x' q1 (show x' < H + P by omega) q3
theorem r9_nm_p {s : Int32} {R X X' : Nat → Int32} {L : Nat → List qB × List qI} (hH : H ≤ 5) (hP : P < 7) (h : r9_nm B (H, P, s, R, X, L) hn pn m) (h20 : m'.1 9 0 20 = nI (H + P + 1)) (h121 : m'.2.1 121 0 (H + P) = B k) (h122 : m'.1 122 0 (H + P) = nI (10 + P)) (ho : ∀ j, j ≠ H + P → m'.2.1 121 0 j = m.2.1 121 0 j ∧ m'.1 122 0 j = m.1 122 0 j) : r9_nm B (H, P + 1, s, R, X', L) hn (uN pn P k) m' := by
  obtain ⟨_, od, o1, o2, o3, o4⟩ := h
  have o1' : ∀ k, k < H + P → m.1 122 0 k = nI (od k) ∧ ((od k < H ∧ m.2.1 121 0 k = B (hn (od k))) ∨ (10 ≤ od k ∧ od k < 10 + P ∧ m.2.1 121 0 k = B (pn (od k - 10)))) := o1
  refine ⟨by rw [h20]; rfl, uN od (H + P) (10 + P), fun x hx => ?_, fun h' hh => ?_, fun p' hp => ?_, fun x x' q1 q2 q3 => ?_⟩
  · have hx' : x < H + (P + 1) := hx
    unfold uN
    by_cases cx : x = H + P
    · rw [if_pos cx]
      refine ⟨by rw [cx]; exact h122, Or.inr ⟨by omega, show 10 + P < 10 + (P + 1) by omega, ?_⟩⟩
      rw [if_pos (show 10 + P - 10 = P by omega), cx]; exact h121
    · rw [if_neg cx, (ho x cx).1, (ho x cx).2]
      obtain ⟨a1, a2⟩ := o1' x (by omega)
      refine ⟨a1, ?_⟩
      rcases a2 with ⟨a3, a4⟩ | ⟨a3, a4, a5⟩
      · exact Or.inl ⟨a3, a4⟩
      · exact Or.inr ⟨a3, show od x < 10 + (P + 1) by omega, by rw [if_neg (by omega)]; exact a5⟩
  · obtain ⟨x, x1, x2⟩ := o2 h' hh
    have x1' : x < H + P := x1
    exact ⟨x, show x < H + (P + 1) by omega, by unfold uN; rw [if_neg (by omega)]; exact x2⟩
  · have hh' : p' < P + 1 := hp
    by_cases ch : p' = P
    · exact ⟨H + P, show H + P < H + (P + 1) by omega, by unfold uN; rw [if_pos rfl, ch]⟩
    · obtain ⟨x, x1, x2⟩ := o3 p' (show p' < P by omega)
      have x1' : x < H + P := x1
      exact ⟨x, show x < H + (P + 1) by omega, by unfold uN; rw [if_neg (by omega)]; exact x2⟩
  · have q2' : x' < H + (P + 1) := q2
    unfold uN at q3 ⊢
    have n1 : x ≠ H + P := by omega
    rw [if_neg n1] at q3 ⊢
    by_cases cx : x' = H + P
    · rw [if_pos cx] at q3 ⊢
      obtain ⟨_, a2⟩ := o1' x (by omega)
      omega
    · rw [if_neg cx] at q3 ⊢
      exact o4 x x' q1 (show x' < H + P by omega) q3
end
