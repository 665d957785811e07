/-! fill, agents, bound -/
section
variable {T : qT} {o v B : Nat} {r : Nat → Int32} {m m' : zMem}
theorem y_pow {P : Nat} (h : P ≤ 7) : (1 : Int32) <<< (nI P &&& 31) = nI (2 ^ P) := (by decide +kernel : ∀ P, P < 8 → (1 : Int32) <<< (nI P &&& 31) = nI (2 ^ P)) P (by omega)
theorem y_p7 {P : Nat} (h : P ≤ 7) : 2 ^ P ≤ 128 := Nat.pow_le_pow_right (n := 2) (by decide) h
theorem q_fw_in {ok : Nat → Bool} {f : Nat} (hf : f < 128) : ∀ n, n ≤ 128 → ∃ j, j < 128 ∧ q_fw ok (nI f) n = nI j
  | 0, _ => ⟨f, hf, rfl⟩
  | n + 1, hn => by
    rw [q_fw]
    by_cases c : ok n = true ∧ q_bc (nI n) 7 < q_bc (q_fw ok (nI f) n) 7
    · rw [if_pos c]; exact ⟨n, by omega, rfl⟩
    · rw [if_neg c]; exact q_fw_in hf n (by omega)
theorem p8_fewestFor (h : qI_T T o v m) (hn : qI_N B T r m) {f : Nat} (hf : f < 2 ^ tP T) (th : Int32) : f8_fewestFor (nI f) th m = some (q_fw (q_ok T r (nI f) th) (nI f) (2 ^ tP T)) := by
  have hP := h.ok.2
  have h128 := y_p7 hP
  unfold f8_fewestFor
  refine z_it_eb (fun k => (q_fw (q_ok T r (nI f) th) (nI f) k, nI k)) (2 ^ tP T) _ rfl (fun k hk => ?_) ?_ (z_fu_lt (by omega)) rfl
  · obtain ⟨j, hj, e⟩ := q_fw_in (ok := q_ok T r (nI f) th) (f := f) (by omega) k (by omega)
    have hs : q_fw (q_ok T r (nI f) th) (nI f) (k + 1) = if q_ok T r (nI f) th k = true ∧ q_bc (nI k) 7 < q_bc (nI j) 7 then nI k else nI j := by rw [q_fw, e]
    show f8_fewestFor_L1 (nI f) th m (q_fw (q_ok T r (nI f) th) (nI f) k, nI k) = some (Sum.inl (q_fw (q_ok T r (nI f) th) (nI f) (k + 1), nI (k + 1)))
    rw [hs, e]
    unfold f8_fewestFor_L1
    simp (disch := omega) only [z_u2, h.ox, h.P, y_pow, y_lt, hk, ↓reduceIte, p6_bitCount_n, p8_serveAll h hn, Option.bind_some, y_s1]
    unfold q_ok
    generalize q_cv r (q_al T r) (nI k ||| th) (tH T) = bb
    generalize nI k &&& (nI f ^^^ -1) = mk
    cases bb <;> by_cases c1 : mk = 0 <;> by_cases c2 : q_bc (nI k) 7 < q_bc (nI j) 7 <;> simp [c1, c2]
  · unfold f8_fewestFor_L1
    simp (disch := omega) only [z_u2, h.ox, h.P, y_pow, y_lt, Nat.lt_irrefl, ↓reduceIte]
theorem p9_coverOf (h : qI_T T o v m) (hr : qMr m r) (fr th : Int32) : f9_coverOf fr th m = some (q_bs (q_ok T r fr th) 128) := by
  unfold f9_coverOf
  refine z_it_eb (fun k => (q_bs (q_ok T r fr th) k, nI k)) 128 _ rfl (fun k hk => ?_) ?_ (z_fu_lt (by omega)) rfl
  · have hs : q_bs (q_ok T r fr th) (k + 1) = if q_ok T r fr th k = true ∧ (q_bs (q_ok T r fr th) k < 0 ∨ q_bc (nI k) 7 < q_bc (q_bs (q_ok T r fr th) k) 7) then nI k else q_bs (q_ok T r fr th) k := rfl
    show f9_coverOf_L1 fr th m (q_bs (q_ok T r fr th) k, nI k) = some (Sum.inl (q_bs (q_ok T r fr th) (k + 1), nI (k + 1)))
    rw [hs]
    generalize q_bs (q_ok T r fr th) k = b
    unfold f9_coverOf_L1
    simp (disch := omega) only [z_u2, y_128, y_lt, hk, ↓reduceIte, p9_bits, p9_doCover h hr, Option.bind_some, y_s1]
    unfold q_ok
    generalize q_cv r (q_al T r) (nI k ||| th) (tH T) = bb
    generalize nI k &&& (fr ^^^ -1) = mk
    cases bb <;> by_cases c1 : mk = 0 <;> by_cases c2 : q_bc (nI k) 7 < q_bc b 7 <;> by_cases c3 : b < 0 <;> simp [c1, c2, c3]
  · unfold f9_coverOf_L1
    simp only [z_u2]
    rw [if_neg (show ¬ nI 128 < 128 by decide)]
/-- they agree -/
theorem q_cover {f : Nat} (hP : tP T ≤ 7) (hf : f < 2 ^ tP T) {th : Int32} (hal : nI f ||| th = q_al T r) : q_fw (q_ok T r (nI f) th) (nI f) (2 ^ tP T) = q_bs (q_ok T r (nI f) th) 128 ∧ ∃ j, j < 128 ∧ q_bs (q_ok T r (nI f) th) 128 = nI j := by
  have h128 := y_p7 hP
  have hsub : ∀ k, k < 128 → q_ok T r (nI f) th k = true → nI k &&& (nI f ^^^ -1) = 0 := fun k hk e => by
    unfold q_ok at e
    rw [Bool.and_eq_true, decide_eq_true_eq] at e
    exact e.1
  have hbig : ∀ k, 2 ^ tP T ≤ k → k < 2 ^ tP T + (128 - 2 ^ tP T) → q_ok T r (nI f) th k = false := fun k h1 h2 => by
    cases e : q_ok T r (nI f) th k
    · rfl
    · have h0 := b_eq0.mp (hsub k (by omega) e)
      have hk : k = k &&& f := Nat.eq_of_testBit_eq fun i => by
        rw [Nat.testBit_and]
        by_cases hi : i < 32
        · have := h0 i hi
          rw [b_and, b_not hi, b_n _ i hi, b_n _ i hi] at this
          cases ek : k.testBit i
          · rfl
          · rw [ek] at this
            cases ef : f.testBit i
            · rw [ef] at this; exact absurd this (by decide)
            · rfl
        · rw [Nat.testBit_lt_two_pow (Nat.lt_of_lt_of_le (show k < 128 by omega) (show 128 ≤ 2 ^ i from Nat.pow_le_pow_right (n := 2) (by decide) (show 7 ≤ i by omega)))]; rfl
      have := Nat.and_le_right (n := k) (m := f)
      omega
  have e1 : q_fw (q_ok T r (nI f) th) (nI f) (2 ^ tP T) = q_fw (q_ok T r (nI f) th) (nI f) 128 := by
    have := q_fw_more (fr := nI f) (128 - 2 ^ tP T) hbig
    rw [show 2 ^ tP T + (128 - 2 ^ tP T) = 128 by omega] at this
    exact this.symm
  have hokf : q_ok T r (nI f) th f = true := by
    unfold q_ok
    rw [hal, q_cv_all, Bool.and_true, decide_eq_true_eq]
    exact b_eq0.mpr fun i hi => by
      rw [b_and, b_not hi]
      cases bt (nI f) i <;> rfl
  have hge : ¬ q_bs (q_ok T r (nI f) th) 128 < 0 := by
    have := (q_bs_ge hokf (128 - (f + 1))).resolve_right (by omega)
    rw [show f + 1 + (128 - (f + 1)) = 128 by omega] at this
    exact this
  refine ⟨?_, ?_⟩
  · rw [e1, q_fw_bs (by omega) hsub 128 (by omega), if_neg hge]
  · rcases q_bs_in (q_ok T r (nI f) th) 128 with e | e
    · rw [e] at hge; exact absurd (by decide) hge
    · exact e
theorem q_al_mk (hP : tP T ≤ 7) : q_al T r = q_mk (fun p => decide (r p = 0) || decide (r p = 1)) (tP T) := q_mk_eq (by omega) fun i hi => by
  unfold q_al q_st
  rw [b_or, q_mk_b _ _ (by omega) i hi, q_mk_b _ _ (by omega) i hi]
  cases decide (i < tP T) <;> rfl
theorem p8_many {j : Nat} (hj : j < 128) (a : Int32) : f8_manyOrWho (nI j) a = if a = 0 then q_bc (nI j) 7 else if a = 1 then nI j else -1 := by
  unfold f8_manyOrWho
  rw [p6_bitCount_n j hj]
theorem c_fill (hT : tOk T) (a : Int32) : ∃ x, qAp T o v B r (f8_fill a) x ∧ qAn T o v B r (f9_fill a) x := by
  have hP := hT.2
  have ef : q_st T r 0 = nI (q_nk (fun p => decide (r p = 0)) (tP T)) := q_mk_n _ (by omega)
  have hf := q_nk_lt (fun p => decide (r p = 0)) (tP T)
  generalize q_nk (fun p => decide (r p = 0)) (tP T) = f at *
  have hal : nI f ||| q_st T r 1 = q_al T r := by rw [← ef]; rfl
  obtain ⟨e1, j, hj, e2⟩ := q_cover (r := r) hP hf hal
  have s8 : ∀ m, qI_T T o v m → qI_N B T r m → f8_fill a m = some (if a = 0 then q_bc (nI j) 7 else if a = 1 then nI j else -1) := fun m h hn => by
    unfold f8_fill
    rw [p5_home hn.2.1 hT, p5_away hn.2.1 hT, ef, p8_fewestFor h hn hf, e1, e2, Option.bind_some, p8_many hj]
  rcases y_w01 a with ha | ha | ⟨ha, ha'⟩
  · refine ⟨q_bc (nI j) 7, fun m h hn => by rw [s8 m h hn, if_pos ha], fun m h hn => ?_⟩
    unfold f9_fill
    rw [ha, if_neg (by decide)]
    refine q_cp h hn (fun m' h' hn' hr' _ => ?_)
    rw [p9_inState h'.mx hT hr', Option.bind_some, p9_inState h'.mx hT hr', Option.bind_some, p9_coverOf h' hr', Option.bind_some, ef, e2, if_pos rfl, p9_bits]
    exact q_some m'
  · refine ⟨nI j, fun m h hn => by rw [s8 m h hn, ha, if_neg n01, if_pos rfl], fun m h hn => ?_⟩
    unfold f9_fill
    rw [ha, if_neg (by decide)]
    refine q_cp h hn (fun m' h' hn' hr' _ => ?_)
    rw [p9_inState h'.mx hT hr', Option.bind_some, p9_inState h'.mx hT hr', Option.bind_some, p9_coverOf h' hr', Option.bind_some, ef, e2, if_neg n01]
    exact q_some m'
  · have n0 : ¬ a = 0 := fun q => by rw [q] at ha; exact absurd ha (by decide)
    have n1 : ¬ a = 1 := fun q => by rw [q] at ha; exact absurd ha (by decide)
    refine ⟨-1, fun m h hn => by rw [s8 m h hn, if_neg n0, if_neg n1], fun m h hn => ?_⟩
    unfold f9_fill
    rw [ha, if_pos rfl]
    exact q_some m
theorem c_agents (hT : tOk T) (a : Int32) : ∃ x, qAp T o v B r (f8_agents a) x ∧ qAn T o v B r (f9_agents a) x := by
  have hP := hT.2
  have ef : q_al T r = nI (q_nk (fun p => decide (r p = 0) || decide (r p = 1)) (tP T)) := (q_al_mk hP).trans (q_mk_n _ (by omega))
  have hf := q_nk_lt (fun p => decide (r p = 0) || decide (r p = 1)) (tP T)
  generalize q_nk (fun p => decide (r p = 0) || decide (r p = 1)) (tP T) = f at *
  have hal : nI f ||| 0 = q_al T r := by
    rw [← ef]
    exact b_ext fun i hi => by rw [b_or, b_0, Bool.or_false]
  obtain ⟨e1, j, hj, e2⟩ := q_cover (r := r) hP hf hal
  have s8 : ∀ m, qI_T T o v m → qI_N B T r m → f8_agents a m = some (if a = 0 then q_bc (nI j) 7 else if a = 1 then nI j else -1) := fun m h hn => by
    unfold f8_agents
    rw [p8_al h hn, ef, p8_fewestFor h hn hf, e1, e2, Option.bind_some, p8_many hj]
  rcases y_w01 a with ha | ha | ⟨ha, ha'⟩
  · refine ⟨q_bc (nI j) 7, fun m h hn => by rw [s8 m h hn, if_pos ha], fun m h hn => ?_⟩
    unfold f9_agents
    rw [ha, if_neg (by decide)]
    refine q_cp h hn (fun m' h' hn' hr' _ => ?_)
    rw [p9_aliveBits h' hr', Option.bind_some, p9_coverOf h' hr', Option.bind_some, ef, e2, if_pos rfl, p9_bits]
    exact q_some m'
  · refine ⟨nI j, fun m h hn => by rw [s8 m h hn, ha, if_neg n01, if_pos rfl], fun m h hn => ?_⟩
    unfold f9_agents
    rw [ha, if_neg (by decide)]
    refine q_cp h hn (fun m' h' hn' hr' _ => ?_)
    rw [p9_aliveBits h' hr', Option.bind_some, p9_coverOf h' hr', Option.bind_some, ef, e2, if_neg n01]
    exact q_some m'
  · have n0 : ¬ a = 0 := fun q => by rw [q] at ha; exact absurd ha (by decide)
    have n1 : ¬ a = 1 := fun q => by rw [q] at ha; exact absurd ha (by decide)
    refine ⟨-1, fun m h hn => by rw [s8 m h hn, if_neg n0, if_neg n1], fun m h hn => ?_⟩
    unfold f9_agents
    rw [ha, if_pos rfl]
    exact q_some m
end
