/-! COVERS: fill, agents; BOUND -/
def q_pc (x : Int32) : Nat → Nat
  | 0 => 0
  | n + 1 => q_pc x n + (if bt x n then 1 else 0)
theorem q_pc_le (x : Int32) : ∀ n, q_pc x n ≤ n
  | 0 => Nat.le_refl 0
  | n + 1 => by
    have := q_pc_le x n
    rw [q_pc]
    cases bt x n
    · rw [if_neg (by decide)]; omega
    · rw [if_pos rfl]; omega
theorem q_bc_pc (x : Int32) : ∀ n, q_bc x n = nI (q_pc x n)
  | 0 => rfl
  | n + 1 => by
    show q_bc x n + (if bt x n then 1 else 0) = _
    rw [q_bc_pc x n, q_pc]
    cases bt x n
    · rw [if_neg (by decide), if_neg (by decide), Int32.add_zero]; rfl
    · rw [if_pos rfl, if_pos rfl, nI_1]
theorem q_pc_sub {s f : Int32} : ∀ {n : Nat}, (∀ i, i < n → bt s i = true → bt f i = true) → q_pc s n ≤ q_pc f n
  | 0, _ => Nat.le_refl 0
  | n + 1, h => by
    have ih := q_pc_sub (n := n) (fun i hi => h i (by omega))
    have hn := h n (by omega)
    rw [q_pc, q_pc]
    cases es : bt s n
    · rw [if_neg (by decide)]; omega
    · rw [hn es, if_pos rfl]; omega
theorem q_pc_lt {s f : Int32} : ∀ {n : Nat}, (∀ i, i < n → bt s i = true → bt f i = true) → (∃ i, i < n ∧ bt s i = false ∧ bt f i = true) → q_pc s n < q_pc f n
  | 0, _, ⟨i, hi, _⟩ => absurd hi (by omega)
  | n + 1, h, ⟨i, hi, h1, h2⟩ => by
    have hs := q_pc_sub (n := n) (fun i hi => h i (by omega))
    have hn := h n (by omega)
    rw [q_pc, q_pc]
    by_cases e : i = n
    · rw [← e, h1, h2, if_neg (by decide), if_pos rfl, e]; omega
    · have ih := q_pc_lt (n := n) (fun i hi => h i (by omega)) ⟨i, by omega, h1, h2⟩
      cases es : bt s n
      · rw [if_neg (by decide)]; omega
      · rw [hn es, if_pos rfl]; omega
/-- s lies in f, and isn't f: fewer -/
theorem q_bc_lt {s f : Nat} (hs : s < 128) (hf : f < 128) (h : nI s &&& (nI f ^^^ -1) = 0) (hne : s ≠ f) : q_bc (nI s) 7 < q_bc (nI f) 7 := by
  have hb : ∀ i, i < 32 → bt (nI s) i = true → bt (nI f) i = true := fun i hi e => by
    have := b_eq0.mp h i hi
    rw [b_and, b_not hi, e] at this
    cases ef : bt (nI f) i
    · rw [ef] at this; exact absurd this (by decide)
    · rfl
  rw [q_bc_pc, q_bc_pc]
  have l1 := q_pc_le (nI s) 7
  have l2 := q_pc_le (nI f) 7
  refine nI_lt (q_pc_lt (fun i hi => hb i (by omega)) ?_) (by omega)
  refine Classical.byContradiction fun hno => hne ?_
  have e : nI s = nI f := b_ext fun i hi => by
    cases es : bt (nI s) i
    · cases ef : bt (nI f) i
      · rfl
      · by_cases h7 : i < 7
        · exact absurd ⟨i, h7, es, ef⟩ hno
        · rw [b_n _ i hi, Nat.testBit_lt_two_pow (Nat.lt_of_lt_of_le hf (show 128 ≤ 2 ^ i from Nat.pow_le_pow_right (n := 2) (by decide) (show 7 ≤ i by omega)))] at ef
          exact absurd ef (by decide)
    · exact (hb i hi es).symm
  exact (nI_eq (by omega) (by omega)).mp e
def q_cv (r : Nat → Int32) (al a : Int32) : Nat → Bool
  | 0 => true
  | n + 1 => q_cv r al a n && (decide (r (28 + n) &&& al = 0) || !decide (r (28 + n) &&& a = 0))
theorem q_cv_f {r : Nat → Int32} {al a : Int32} {n : Nat} : ∀ d, q_cv r al a n = false → q_cv r al a (n + d) = false
  | 0, h => h
  | d + 1, h => by
    rw [← Nat.add_assoc, q_cv, q_cv_f d h]; rfl
theorem q_cv_all {r : Nat → Int32} {al : Int32} : ∀ n, q_cv r al al n = true
  | 0 => rfl
  | n + 1 => by
    rw [q_cv, q_cv_all n]
    cases decide (r (28 + n) &&& al = 0) <;> rfl
section
variable {T : qT} {o v B : Nat} {r : Nat → Int32} {m m' : zMem}
def q_al (T : qT) (r : Nat → Int32) : Int32 := q_st T r 0 ||| q_st T r 1
theorem p8_al (h : qI_T T o v m) (hn : qI_N B T r m) : f5_alive 0 m = q_al T r := by
  unfold f5_alive q_al
  rw [p5_home hn.2.1 h.ok, p5_away hn.2.1 h.ok]
theorem p8_serveAll (h : qI_T T o v m) (hn : qI_N B T r m) (a : Int32) : f8_serveAll a m = some (if q_cv r (q_al T r) a (tH T) then 1 else 0) := by
  have hH := h.ok.1
  have key : zw (z_it (f8_serveAll_L1 a m) z_fu 0) (Sum.elim (fun _ => q_cv r (q_al T r) a (tH T) = true) (fun x => x = 0 ∧ q_cv r (q_al T r) a (tH T) = false)) := by
    refine zw_forG (tH T) (fun k s => s = nI k ∧ q_cv r (q_al T r) a k = true) (by omega) ⟨rfl, rfl⟩ ?_ ?_
    · rintro k s hk ⟨rfl, hc⟩
      unfold f8_serveAll_L1
      simp (disch := omega) only [h.ox, h.H, y_lt, hk, ↓reduceIte, y_in, y_cl, hn.2.1.2.2.2.2.2.2 k (by omega), z_let, y_s1, p8_al h hn]
      by_cases c1 : r (28 + k) &&& q_al T r = 0
      · rw [if_pos c1]
        refine zw_some.mpr ⟨rfl, ?_⟩
        rw [q_cv, hc, decide_eq_true c1]; rfl
      · rw [if_neg c1]
        by_cases c2 : r (28 + k) &&& a = 0
        · rw [if_pos c2]
          refine zw_some.mpr ⟨rfl, ?_⟩
          obtain ⟨d, hd⟩ := Nat.exists_eq_add_of_le (show k + 1 ≤ tH T by omega)
          rw [hd]
          refine q_cv_f d ?_
          rw [q_cv, decide_eq_false c1, decide_eq_true c2, hc]; rfl
        · rw [if_neg c2]
          refine zw_some.mpr ⟨rfl, ?_⟩
          rw [q_cv, hc, decide_eq_false c2, Bool.or_comm]; rfl
    · rintro s ⟨rfl, hc⟩
      unfold f8_serveAll_L1
      simp (disch := omega) only [h.ox, h.H, y_lt, Nat.lt_irrefl, ↓reduceIte]
      exact zw_some.mpr hc
  obtain ⟨e, he, hq⟩ := key
  unfold f8_serveAll
  rw [he]
  cases e with
  | inl u => show some _ = _; rw [show q_cv r (q_al T r) a (tH T) = true from hq]; rfl
  | inr x => show some x = _; rw [hq.2, show x = 0 from hq.1]; rfl
theorem p9_aliveBits (h : qI_T T o v m) (hr : qMr m r) : f9_aliveBits m = some (q_al T r) := by
  unfold f9_aliveBits
  rw [p9_inState h.mx h.ok hr, p9_inState h.mx h.ok hr]
  rfl
theorem p9_doCover (h : qI_T T o v m) (hr : qMr m r) (a : Int32) : f9_doCover a m = some (if q_cv r (q_al T r) a (tH T) then 1 else 0) := by
  have hH := h.ok.1
  obtain ⟨hv, h9, h1, _⟩ := h.mx
  have key : zw (z_it (f9_doCover_L3 a m (q_al T r)) z_fu 0) (Sum.elim (fun _ => q_cv r (q_al T r) a (tH T) = true) (fun x => x = 0 ∧ q_cv r (q_al T r) a (tH T) = false)) := by
    refine zw_forG (tH T) (fun k s => s = nI k ∧ q_cv r (q_al T r) a k = true) (by omega) ⟨rfl, rfl⟩ ?_ ?_
    · rintro k s hk ⟨rfl, hc⟩
      unfold f9_doCover_L3
      simp (disch := omega) only [h9, h1, y_lt, hk, ↓reduceIte, y_28, nI_add, y_in, y_cl, hr _, y_s1]
      by_cases c1 : r (28 + k) &&& q_al T r = 0
      · rw [if_pos c1]
        refine zw_some.mpr ⟨rfl, ?_⟩
        rw [q_cv, hc, decide_eq_true c1]; rfl
      · rw [if_neg c1]
        by_cases c2 : r (28 + k) &&& a = 0
        · rw [if_pos c2]
          refine zw_some.mpr ⟨rfl, ?_⟩
          obtain ⟨d, hd⟩ := Nat.exists_eq_add_of_le (show k + 1 ≤ tH T by omega)
          rw [hd]
          refine q_cv_f d ?_
          rw [q_cv, decide_eq_false c1, decide_eq_true c2, hc]; rfl
        · rw [if_neg c2]
          refine zw_some.mpr ⟨rfl, ?_⟩
          rw [q_cv, hc, decide_eq_false c2, Bool.or_comm]; rfl
    · rintro s ⟨rfl, hc⟩
      unfold f9_doCover_L3
      simp (disch := omega) only [h9, h1, y_lt, y_in, y_cl, Nat.lt_irrefl, ↓reduceIte]
      exact zw_some.mpr hc
  obtain ⟨e, he, hq⟩ := key
  unfold f9_doCover
  rw [p9_aliveBits h hr, Option.bind_some, he]
  cases e with
  | inl u => show some _ = _; rw [show q_cv r (q_al T r) a (tH T) = true from hq]; rfl
  | inr x => show some x = _; rw [hq.2, show x = 0 from hq.1]; rfl
/-- is a set one of those that may be taken -/
def q_ok (T : qT) (r : Nat → Int32) (fr th : Int32) (k : Nat) : Bool := decide (nI k &&& (fr ^^^ -1) = 0) && q_cv r (q_al T r) (nI k ||| th) (tH T)
/-- the reference's best of the first k sets -/
def q_bs (ok : Nat → Bool) : Nat → Int32
  | 0 => -1
  | k + 1 => if ok k = true ∧ (q_bs ok k < 0 ∨ q_bc (nI k) 7 < q_bc (q_bs ok k) 7) then nI k else q_bs ok k
/-- the class's -/
def q_fw (ok : Nat → Bool) (fr : Int32) : Nat → Int32
  | 0 => fr
  | k + 1 => if ok k = true ∧ q_bc (nI k) 7 < q_bc (q_fw ok fr k) 7 then nI k else q_fw ok fr k
theorem q_bs_in (ok : Nat → Bool) : ∀ n, q_bs ok n = -1 ∨ ∃ j, j < n ∧ q_bs ok n = nI j
  | 0 => Or.inl rfl
  | n + 1 => by
    rw [q_bs]
    by_cases c : ok n = true ∧ (q_bs ok n < 0 ∨ q_bc (nI n) 7 < q_bc (q_bs ok n) 7)
    · rw [if_pos c]; exact Or.inr ⟨n, by omega, rfl⟩
    · rw [if_neg c]
      rcases q_bs_in ok n with h | ⟨j, hj, h⟩
      · exact Or.inl h
      · exact Or.inr ⟨j, by omega, h⟩
theorem q_fw_bs {ok : Nat → Bool} {f : Nat} (hf : f < 128) (hok : ∀ k, k < 128 → ok k = true → nI k &&& (nI f ^^^ -1) = 0) : ∀ n, n ≤ 128 → q_fw ok (nI f) n = if q_bs ok n < 0 then nI f else q_bs ok n
  | 0, _ => rfl
  | n + 1, hn => by
    have ih := q_fw_bs hf hok n (by omega)
    have hM : q_bs ok (n + 1) = if ok n = true ∧ (q_bs ok n < 0 ∨ q_bc (nI n) 7 < q_bc (q_bs ok n) 7) then nI n else q_bs ok n := rfl
    rw [q_fw, ih]
    rcases q_bs_in ok n with h | ⟨j, hj, h⟩
    · rw [h] at hM ⊢
      rw [if_pos (show (-1 : Int32) < 0 by decide)]
      cases eo : ok n
      · have e : q_bs ok (n + 1) = -1 := by rw [hM, eo]; exact if_neg (fun q => absurd q.1 (by decide))
        rw [e, if_pos (show (-1 : Int32) < 0 by decide)]
        exact if_neg (fun q => absurd q.1 (by decide))
      · have e : q_bs ok (n + 1) = nI n := by rw [hM, eo]; exact if_pos ⟨rfl, Or.inl (by decide)⟩
        rw [e, if_neg (nI_pos (by omega))]
        by_cases e2 : n = f
        · rw [e2]; exact if_neg (fun q => absurd q.2 Int32.lt_irrefl)
        · exact if_pos ⟨rfl, q_bc_lt (by omega) hf (hok n (by omega) eo) e2⟩
    · rw [h] at hM ⊢
      rw [if_neg (nI_pos (by omega))]
      by_cases c : ok n = true ∧ q_bc (nI n) 7 < q_bc (nI j) 7
      · have e : q_bs ok (n + 1) = nI n := by rw [hM]; exact if_pos ⟨c.1, Or.inr c.2⟩
        rw [e, if_neg (nI_pos (by omega))]
        exact if_pos c
      · have e : q_bs ok (n + 1) = nI j := by rw [hM]; exact if_neg (fun q => q.2.elim (nI_pos (by omega)) (fun q2 => c ⟨q.1, q2⟩))
        rw [e, if_neg (nI_pos (by omega))]
        exact if_neg c
theorem q_bs_ge {ok : Nat → Bool} {f : Nat} (h : ok f = true) : ∀ d, ¬ q_bs ok (f + 1 + d) < 0 ∨ 2147483648 ≤ f + 1 + d
  | 0 => by
    by_cases hb : 2147483648 ≤ f + 1 + 0
    · exact Or.inr hb
    refine Or.inl ?_
    rw [Nat.add_zero, q_bs]
    by_cases c : ok f = true ∧ (q_bs ok f < 0 ∨ q_bc (nI f) 7 < q_bc (q_bs ok f) 7)
    · rw [if_pos c]; exact nI_pos (by omega)
    · rw [if_neg c]; exact fun q => c ⟨h, Or.inl q⟩
  | d + 1 => by
    by_cases hb : 2147483648 ≤ f + 1 + (d + 1)
    · exact Or.inr hb
    refine Or.inl ?_
    have ih := (q_bs_ge h d).resolve_right (by omega)
    rw [← Nat.add_assoc, q_bs]
    by_cases c : ok (f + 1 + d) = true ∧ (q_bs ok (f + 1 + d) < 0 ∨ q_bc (nI (f + 1 + d)) 7 < q_bc (q_bs ok (f + 1 + d)) 7)
    · rw [if_pos c]; exact nI_pos (by omega)
    · rw [if_neg c]; exact ih
theorem q_fw_more {ok : Nat → Bool} {fr : Int32} {n : Nat} : ∀ d, (∀ k, n ≤ k → k < n + d → ok k = false) → q_fw ok fr (n + d) = q_fw ok fr n
  | 0, _ => rfl
  | d + 1, h => by
    rw [← Nat.add_assoc, q_fw, h (n + d) (by omega) (by omega), if_neg (by simp)]
    exact q_fw_more d (fun k h1 h2 => h k h1 (by omega))
end
