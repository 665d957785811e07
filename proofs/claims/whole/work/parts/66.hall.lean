/-! LORDS I: as many stay without as the worst set lacks -/
def q_su (sv : Nat → Int32) (S : Int32) : Nat → Int32
  | 0 => 0
  | k + 1 => if bt S k then q_su sv S k ||| sv k else q_su sv S k
def q_mi (x U : Int32) : Int32 := x &&& (U ^^^ -1)
theorem q_mi_b {x U : Int32} {i : Nat} (hi : i < 32) : bt (q_mi x U) i = (bt x i && !bt U i) := by
  unfold q_mi
  rw [b_and, b_not hi]
theorem q_su_or (sv : Nat → Int32) (A B : Int32) : ∀ n, q_su sv (A ||| B) n = q_su sv A n ||| q_su sv B n
  | 0 => by
    show (0 : Int32) = 0 ||| 0
    decide
  | n + 1 => by
    have ih := q_su_or sv A B n
    refine b_ext fun i hi => ?_
    have ihb := congrArg (fun x => bt x i) ih
    simp only [b_or] at ihb
    rw [q_su, q_su, q_su, b_or A B n]
    cases bt A n <;> cases bt B n <;> simp only [Bool.or_false, Bool.or_true, Bool.false_or, Bool.true_or, if_true, Bool.false_eq_true, if_false, b_or, ihb] <;> cases bt (q_su sv A n) i <;> cases bt (q_su sv B n) i <;> cases bt (sv n) i <;> rfl
theorem q_su_mn (sv : Nat → Int32) {A B : Int32} (h : q_sb A B) (n : Nat) (hn : n ≤ 32) : q_sb (q_su sv A n) (q_su sv B n) := by
  have e : B ||| A = B := q_sb_or h
  have := q_su_or sv B A n
  rw [e] at this
  exact q_sb_of this.symm
theorem q_su_1 (sv : Nat → Int32) {h n : Nat} (hh : h < n) (hn : n ≤ 32) : ∀ i, i < 32 → bt (q_su sv ((1 : Int32) <<< (nI h &&& 31)) n) i = bt (sv h) i := by
  intro i hi
  have key : ∀ k, k ≤ n → bt (q_su sv ((1 : Int32) <<< (nI h &&& 31)) k) i = if h < k then bt (sv h) i else false := fun k => by
    induction k with
    | zero => intro _; rw [if_neg (by omega)]; exact b_0 i
    | succ k ih =>
      intro hk
      have ih' := ih (by omega)
      rw [q_su, b_p h (by omega) (by omega)]
      by_cases e : k = h
      · subst e
        rw [decide_eq_true rfl, if_pos rfl, b_or, ih', if_neg (by omega), if_pos (by omega), Bool.false_or]
      · rw [decide_eq_false e, y_ff, ih']
        by_cases c : h < k
        · rw [if_pos c, if_pos (by omega)]
        · rw [if_neg c, if_neg (by omega)]
  rw [key n (Nat.le_refl n), if_pos hh]
theorem q_pc_or (x y : Int32) : ∀ n, q_pc (x ||| y) n + q_pc (x &&& y) n = q_pc x n + q_pc y n
  | 0 => rfl
  | n + 1 => by
    have ih := q_pc_or x y n
    rw [q_pc, q_pc, q_pc, q_pc, b_or, b_and]
    cases bt x n <;> cases bt y n <;> simp <;> omega
theorem q_pc_eqb {x y : Int32} : ∀ {n : Nat}, (∀ i, i < n → bt x i = bt y i) → q_pc x n = q_pc y n
  | 0, _ => rfl
  | n + 1, h => by rw [q_pc, q_pc, q_pc_eqb (fun i hi => h i (by omega)), h n (by omega)]
theorem w_p1 : ∀ p, p < 7 → q_pc ((1 : Int32) <<< (nI p &&& 31)) 7 = 1 := by decide +kernel
theorem w_p0 : q_pc 0 7 = 0 := by decide +kernel
theorem q_pc_del {x : Int32} {p : Nat} (hp : p < 7) (hb : bt x p = true) : q_pc (q_mi x ((1 : Int32) <<< (nI p &&& 31))) 7 + 1 = q_pc x 7 := by
  have h := q_pc_or (q_mi x ((1 : Int32) <<< (nI p &&& 31))) ((1 : Int32) <<< (nI p &&& 31)) 7
  have e1 : q_mi x ((1 : Int32) <<< (nI p &&& 31)) ||| ((1 : Int32) <<< (nI p &&& 31)) = x := b_ext fun i hi => by
    rw [b_or, q_mi_b hi, b_p p (by omega) hi]
    by_cases e : i = p
    · rw [e, hb, decide_eq_true rfl]; rfl
    · rw [decide_eq_false e]
      cases bt x i <;> rfl
  have e2 : q_mi x ((1 : Int32) <<< (nI p &&& 31)) &&& ((1 : Int32) <<< (nI p &&& 31)) = 0 := b_eq0.mpr fun i hi => by
    rw [b_and, q_mi_b hi, b_p p (by omega) hi]
    by_cases e : i = p
    · rw [decide_eq_true e]
      cases bt x i <;> rfl
    · rw [decide_eq_false e, Bool.and_false]
  rw [e1, e2, w_p0, w_p1 p hp] at h
  omega
section
variable {sv : Nat → Int32} {H : Nat}
def q_lw' (H h : Nat) (S : Int32) : Prop := ∀ i, i < 32 → bt S i = true → h ≤ i ∧ i < H
def q_nn (sv : Nat → Int32) (H : Nat) (S U : Int32) : Nat := q_pc (q_mi (q_su sv S H) U) 7
def q_isW (sv : Nat → Int32) (H h : Nat) (U : Int32) (w : Nat) : Prop := (∀ S, q_lw' H h S → q_pc S 7 ≤ q_nn sv H S U + w) ∧ ∃ S, q_lw' H h S ∧ q_pc S 7 = q_nn sv H S U + w
theorem q_lw0 (h : Nat) : q_lw' H h 0 := fun i _ e => by rw [b_0] at e; exact absurd e (by decide)
theorem q_exW (h : Nat) (U : Int32) : ∃ w, q_isW sv H h U w := by
  have key : ∀ k, (∃ S, q_lw' H h S ∧ q_nn sv H S U + (7 - k) ≤ q_pc S 7) → ∃ w, q_isW sv H h U w := fun k => by
    induction k with
    | zero =>
      rintro ⟨S, h1, h2⟩
      have := q_pc_le S 7
      refine ⟨7, fun S' _ => ?_, S, h1, by omega⟩
      have := q_pc_le S' 7
      omega
    | succ k ih =>
      rintro ⟨S, h1, h2⟩
      by_cases c : ∃ S, q_lw' H h S ∧ q_nn sv H S U + (7 - k) ≤ q_pc S 7
      · exact ih c
      · by_cases c7 : 7 ≤ k
        · exact absurd ⟨S, h1, by omega⟩ c
        · refine ⟨7 - (k + 1), fun S' hS' => ?_, S, h1, ?_⟩
          · refine Classical.byContradiction fun q => c ⟨S', hS', by omega⟩
          · refine Nat.le_antisymm ?_ h2
            refine Classical.byContradiction fun q => c ⟨S, h1, by omega⟩
  exact key 7 ⟨0, q_lw0 h, by
    have : q_pc 0 7 = 0 := w_p0
    have e : q_su sv 0 H = 0 := by
      have : ∀ n, q_su sv 0 n = 0 := fun n => by
        induction n with
        | zero => rfl
        | succ n ih => rw [q_su, b_0, y_ff, ih]
      exact this H
    unfold q_nn
    rw [e]
    have e0 : q_mi 0 U = 0 := b_eq0.mpr fun i hi => by rw [q_mi_b hi, b_0]; rfl
    rw [e0]
    omega⟩
theorem q_nn_mn {A B U : Int32} (hH : H ≤ 5) (h : q_sb A B) : q_nn sv H A U ≤ q_nn sv H B U := by
  refine q_pc_sub fun i hi e => ?_
  rw [q_mi_b (by omega)] at e ⊢
  rw [Bool.and_eq_true] at e ⊢
  exact ⟨q_su_mn sv h H (by omega) i (by omega) e.1, e.2⟩
/-- the union of two tight sets is tight -/
theorem q_tight {h w : Nat} {U A B : Int32} (hH : H ≤ 5) (hb : ∀ S, q_lw' H h S → q_pc S 7 ≤ q_nn sv H S U + w) (lA : q_lw' H h A) (lB : q_lw' H h B) (tA : q_pc A 7 = q_nn sv H A U + w) (tB : q_pc B 7 = q_nn sv H B U + w) : q_lw' H h (A ||| B) ∧ q_pc (A ||| B) 7 = q_nn sv H (A ||| B) U + w := by
  have lO : q_lw' H h (A ||| B) := fun i hi e => by
    rw [b_or, Bool.or_eq_true] at e
    rcases e with e | e
    · exact lA i hi e
    · exact lB i hi e
  have lI : q_lw' H h (A &&& B) := fun i hi e => by
    rw [b_and, Bool.and_eq_true] at e
    exact lA i hi e.1
  refine ⟨lO, ?_⟩
  have e1 := q_pc_or A B 7
  have e2 := q_pc_or (q_mi (q_su sv A H) U) (q_mi (q_su sv B H) U) 7
  have e3 : q_mi (q_su sv A H) U ||| q_mi (q_su sv B H) U = q_mi (q_su sv (A ||| B) H) U := b_ext fun i hi => by
    rw [b_or, q_mi_b hi, q_mi_b hi, q_mi_b hi, q_su_or, b_or]
    cases bt (q_su sv A H) i <;> cases bt (q_su sv B H) i <;> cases bt U i <;> rfl
  rw [e3] at e2
  have hI := hb _ lI
  have hO := hb _ lO
  have e4 : q_nn sv H (A &&& B) U ≤ q_pc (q_mi (q_su sv A H) U &&& q_mi (q_su sv B H) U) 7 := q_pc_sub fun i hi e => by
    rw [q_mi_b (by omega), Bool.and_eq_true] at e
    have a1 := q_su_mn sv (A := A &&& B) (B := A) (fun j _ q => by rw [b_and, Bool.and_eq_true] at q; exact q.1) H (by omega) i (by omega) e.1
    have a2 := q_su_mn sv (A := A &&& B) (B := B) (fun j _ q => by rw [b_and, Bool.and_eq_true] at q; exact q.2) H (by omega) i (by omega) e.1
    rw [b_and, q_mi_b (by omega), q_mi_b (by omega), a1, a2, e.2]; rfl
  unfold q_nn at *
  omega
theorem q_hall {D : Nat → Int32 → Nat} (hH : H ≤ 5) (hsv : ∀ h i, 7 ≤ i → i < 32 → bt (sv h) i = false) (hD0 : ∀ U, D H U = 0) (hD1 : ∀ h U, h < H → D (h + 1) U ≤ D h U) (hD2 : ∀ h U p, h < H → p < 7 → bt (sv h) p = true → bt U p = false → D (h + 1) (U ||| ((1 : Int32) <<< (nI p &&& 31))) + 1 ≤ D h U) (hD3 : ∀ h U, h < H → D h U = D (h + 1) U ∨ ∃ p, p < 7 ∧ bt (sv h) p = true ∧ bt U p = false ∧ D h U = D (h + 1) (U ||| ((1 : Int32) <<< (nI p &&& 31))) + 1) : ∀ (d h : Nat) (U : Int32) (w : Nat), h + d = H → q_isW sv H h U w → D h U + w = d := by
  intro d
  induction d with
  | zero =>
    intro h U w hd hW
    have e : h = H := by omega
    subst e
    rw [hD0]
    obtain ⟨_, S, l, t⟩ := hW
    have : q_pc S 7 = 0 := by
      have e : S = 0 := b_eq0.mpr fun i hi => by
        cases q : bt S i
        · rfl
        · have := l i hi q; omega
      rw [e]; exact w_p0
    omega
  | succ d ih =>
    intro h U w hd hW
    have hh : h < H := by omega
    obtain ⟨hb, S, lS, tS⟩ := hW
    obtain ⟨w', hW'⟩ := q_exW (sv := sv) (H := H) (h + 1) U
    have i1 := ih (h + 1) U w' (by omega) hW'
    obtain ⟨hb', S0, lS0, tS0⟩ := hW'
    have up : ∀ S, q_lw' H (h + 1) S → q_lw' H h S := fun S l i hi e => ⟨by have := (l i hi e).1; omega, (l i hi e).2⟩
    -- S less h
    have lS' : q_lw' H (h + 1) (q_mi S ((1 : Int32) <<< (nI h &&& 31))) := fun i hi e => by
      rw [q_mi_b hi, Bool.and_eq_true, b_p h (by omega) hi] at e
      have l := lS i hi e.1
      have : i ≠ h := fun q => by rw [decide_eq_true q] at e; exact absurd e.2 (by decide)
      omega
    have sS' : q_sb (q_mi S ((1 : Int32) <<< (nI h &&& 31))) S := fun i hi e => by
      rw [q_mi_b hi, Bool.and_eq_true] at e; exact e.1
    have nS' : q_nn sv H (q_mi S ((1 : Int32) <<< (nI h &&& 31))) U ≤ q_nn sv H S U := q_nn_mn hH sS'
    have pS' : q_pc S 7 ≤ q_pc (q_mi S ((1 : Int32) <<< (nI h &&& 31))) 7 + 1 := by
      cases e : bt S h
      · have : q_pc (q_mi S ((1 : Int32) <<< (nI h &&& 31))) 7 = q_pc S 7 := q_pc_eqb fun i hi => by
          rw [q_mi_b (by omega), b_p h (by omega) (by omega)]
          by_cases c : i = h
          · rw [c, e]; rfl
          · rw [decide_eq_false c]
            cases bt S i <;> rfl
        omega
      · have := q_pc_del (x := S) (p := h) (by omega) e
        omega
    have hle : D h U + w ≤ d + 1 := by
      rcases hD3 h U hh with e | ⟨p, hp, b1, b2, e⟩
      · have := hb' _ lS'
        omega
      · obtain ⟨w2, hW2⟩ := q_exW (sv := sv) (H := H) (h + 1) (U ||| ((1 : Int32) <<< (nI p &&& 31)))
        have i2 := ih (h + 1) _ w2 (by omega) hW2
        have hb2 := hW2.1
        have hbU : ∀ i, i < 32 → bt (U ||| ((1 : Int32) <<< (nI p &&& 31))) i = (bt U i || decide (i = p)) := fun i hi => by rw [b_or, b_p p (by omega) hi]
        cases eh : bt S h
        · have l1 : q_lw' H (h + 1) S := fun i hi q => by
            have l := lS i hi q
            have : i ≠ h := fun q2 => by rw [q2, eh] at q; exact absurd q (by decide)
            omega
          have := hb2 S l1
          have m1 : q_nn sv H S (U ||| ((1 : Int32) <<< (nI p &&& 31))) ≤ q_nn sv H S U := q_pc_sub fun i hi q => by
            rw [q_mi_b (by omega), hbU i (by omega), Bool.and_eq_true] at q
            rw [q_mi_b (by omega), Bool.and_eq_true]
            refine ⟨q.1, ?_⟩
            have q2 := q.2
            revert q2
            cases bt U i
            · intro _; rfl
            · intro q2
              rw [Bool.true_or] at q2
              exact absurd q2 (by decide)
          omega
        · have h2 := hb2 _ lS'
          have hd1 := q_pc_del (x := S) (p := h) (by omega) eh
          have hN : bt (q_su sv S H) p = true := by
            refine q_su_mn sv (A := (1 : Int32) <<< (nI h &&& 31)) (B := S) (fun i hi q => ?_) H (by omega) p (by omega) ?_
            · rw [b_p h (by omega) hi, decide_eq_true_eq] at q
              rw [q]; exact eh
            · rw [q_su_1 sv hh (by omega) p (by omega)]; exact b1
          have hNU : bt (q_mi (q_su sv S H) U) p = true := by rw [q_mi_b (by omega), hN, b2]; rfl
          have hd2 := q_pc_del hp hNU
          have m2 : q_nn sv H (q_mi S ((1 : Int32) <<< (nI h &&& 31))) (U ||| ((1 : Int32) <<< (nI p &&& 31))) ≤ q_pc (q_mi (q_mi (q_su sv S H) U) ((1 : Int32) <<< (nI p &&& 31))) 7 := q_pc_sub fun i hi q => by
            rw [q_mi_b (by omega), hbU i (by omega), Bool.and_eq_true] at q
            have a1 := q_su_mn sv sS' H (by omega) i (by omega) q.1
            rw [q_mi_b (by omega), q_mi_b (by omega), a1, b_p p (by omega) (by omega)]
            have q2 := q.2
            revert q2
            cases bt U i <;> cases decide (i = p) <;> intro q2 <;> first | rfl | exact absurd q2 (by decide)
          have e5 : q_nn sv H S U = q_pc (q_mi (q_su sv S H) U) 7 := rfl
          omega
    refine Nat.le_antisymm hle ?_
    refine Classical.byContradiction fun hlt => ?_
    have d1 := hD1 h U hh
    have t0 := hb S0 (up S0 lS0)
    have ew : w' = w := by omega
    subst ew
    -- sets that are tight
    have fold : ∀ k, k ≤ 7 → ∃ A, q_lw' H (h + 1) A ∧ q_pc A 7 = q_nn sv H A U + w' ∧ ∀ p, p < k → bt (sv h) p = true → bt U p = false → bt (q_su sv A H) p = true := fun k => by
      induction k with
      | zero => intro _; exact ⟨S0, lS0, tS0, fun p hp => absurd hp (by omega)⟩
      | succ k ihk =>
        intro hk
        obtain ⟨A, lA, tA, cA⟩ := ihk (by omega)
        by_cases c : bt (sv h) k = true ∧ bt U k = false
        · obtain ⟨w2, hW2⟩ := q_exW (sv := sv) (H := H) (h + 1) (U ||| ((1 : Int32) <<< (nI k &&& 31)))
          have i2 := ih (h + 1) _ w2 (by omega) hW2
          have d2 := hD2 h U k hh (by omega) c.1 c.2
          obtain ⟨_, P, lP, tP'⟩ := hW2
          have bP := hb' P lP
          have hbU : ∀ i, i < 32 → bt (U ||| ((1 : Int32) <<< (nI k &&& 31))) i = (bt U i || decide (i = k)) := fun i hi => by rw [b_or, b_p k (by omega) hi]
          have hNk : bt (q_su sv P H) k = true := by
            cases e : bt (q_su sv P H) k
            · exfalso
              have : q_nn sv H P (U ||| ((1 : Int32) <<< (nI k &&& 31))) = q_nn sv H P U := q_pc_eqb fun i hi => by
                rw [q_mi_b (by omega), q_mi_b (by omega), hbU i (by omega)]
                by_cases ck : i = k
                · rw [ck, e]; rfl
                · rw [decide_eq_false ck, Bool.or_false]
              omega
            · rfl
          have hNU : bt (q_mi (q_su sv P H) U) k = true := by rw [q_mi_b (by omega), hNk, c.2]; rfl
          have hd2 := q_pc_del (show k < 7 by omega) hNU
          have m3 : q_nn sv H P (U ||| ((1 : Int32) <<< (nI k &&& 31))) = q_pc (q_mi (q_mi (q_su sv P H) U) ((1 : Int32) <<< (nI k &&& 31))) 7 := q_pc_eqb fun i hi => by
            rw [q_mi_b (by omega), hbU i (by omega), q_mi_b (by omega), q_mi_b (by omega), b_p k (by omega) (by omega)]
            cases bt (q_su sv P H) i <;> cases bt U i <;> cases decide (i = k) <;> rfl
          have e5 : q_nn sv H P U = q_pc (q_mi (q_su sv P H) U) 7 := rfl
          have tP2 : q_pc P 7 = q_nn sv H P U + w' := by omega
          obtain ⟨lO, tO⟩ := q_tight hH hb' lA lP tA tP2
          refine ⟨A ||| P, lO, tO, fun p hp b1 b2 => ?_⟩
          rw [q_su_or, b_or]
          by_cases ck : p = k
          · rw [ck, hNk, Bool.or_true]
          · rw [cA p (by omega) b1 b2]; rfl
        · refine ⟨A, lA, tA, fun p hp b1 b2 => ?_⟩
          by_cases ck : p = k
          · subst ck; exact absurd ⟨b1, b2⟩ c
          · exact cA p (by omega) b1 b2
    obtain ⟨A, lA, tA, cA⟩ := fold 7 (Nat.le_refl 7)
    have lZ : q_lw' H h (A ||| ((1 : Int32) <<< (nI h &&& 31))) := fun i hi e => by
      rw [b_or, b_p h (by omega) hi, Bool.or_eq_true, decide_eq_true_eq] at e
      rcases e with e | e
      · exact up A lA i hi e
      · omega
    have bZ := hb _ lZ
    have hAh : bt A h = false := by
      cases e : bt A h
      · rfl
      · have := (lA h (by omega) e).1; omega
    have pZ : q_pc (A ||| ((1 : Int32) <<< (nI h &&& 31))) 7 = q_pc A 7 + 1 := by
      have := q_pc_or A ((1 : Int32) <<< (nI h &&& 31)) 7
      have e0 : A &&& ((1 : Int32) <<< (nI h &&& 31)) = 0 := b_eq0.mpr fun i hi => by
        rw [b_and, b_p h (by omega) hi]
        by_cases c : i = h
        · rw [c, hAh]; rfl
        · rw [decide_eq_false c, Bool.and_false]
      rw [e0, w_p0, w_p1 h (by omega)] at this
      omega
    have nZ : q_nn sv H (A ||| ((1 : Int32) <<< (nI h &&& 31))) U = q_nn sv H A U := q_pc_eqb fun i hi => by
      rw [q_mi_b (by omega), q_mi_b (by omega), q_su_or, b_or, q_su_1 sv hh (by omega) i (by omega)]
      cases e1 : bt (sv h) i
      · rw [Bool.or_false]
      · cases e2 : bt U i
        · rw [cA i hi e1 e2]; rfl
        · simp
    omega
end
