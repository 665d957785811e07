/-! QUERIES VII: year, count -/
section
variable {T : qT} {o v B : Nat} {r : Nat → Int32} {m m' : zMem}
theorem q_any_iff {c : Nat → Bool} : ∀ {n : Nat}, q_any c n = true ↔ ∃ i, i < n ∧ c i = true
  | 0 => ⟨fun h => absurd (show false = true from h) (by decide), fun ⟨i, hi, _⟩ => absurd hi (by omega)⟩
  | n + 1 => by
    show (q_any c n || c n) = true ↔ _
    rw [Bool.or_eq_true, q_any_iff]
    constructor
    · rintro (⟨i, hi, e⟩ | e)
      · exact ⟨i, by omega, e⟩
      · exact ⟨n, by omega, e⟩
    · rintro ⟨i, hi, e⟩
      by_cases h : i = n
      · rw [h] at e; exact Or.inr e
      · exact Or.inl ⟨i, by omega, e⟩
theorem q_mk_eq0 {c : Nat → Bool} {n : Nat} (hn : n ≤ 32) : q_mk c n = 0 ↔ q_any c n = false := by
  rw [b_eq0]
  constructor
  · intro h
    cases e : q_any c n
    · rfl
    · obtain ⟨i, hi, ei⟩ := q_any_iff.mp e
      have := h i (by omega)
      rw [q_mk_b c n hn i (by omega), decide_eq_true hi, ei] at this
      exact absurd this (by decide)
  · intro h i hi
    rw [q_mk_b c n hn i hi]
    by_cases hin : i < n
    · cases e : c i
      · rw [Bool.and_false]
      · rw [q_any_iff.mpr ⟨i, hin, e⟩] at h
        exact absurd h (by decide)
    · rw [decide_eq_false hin, Bool.false_and]
def q_isl (T : qT) (r : Nat → Int32) (p : Nat) : Bool := q_any (fun h => decide (q_lord T r h = nI p)) (tH T)
theorem q_lords_b (hT : tOk T) {p : Nat} (hp : p < tP T) : f8_has (q_lords T r) (nI p) = if q_isl T r p then 1 else 0 := by
  have hP := hT.2
  rw [y_has _ p (by omega)]
  unfold q_lords
  rw [q_mk_b _ _ (by omega) p (by omega), decide_eq_true hp, Bool.true_and]
  rfl
theorem q_lordb0 (hT : tOk T) (p : Nat) : (q_mk (fun h => decide (q_lord T r h = nI p)) (tH T) = 0) ↔ q_isl T r p = false := q_mk_eq0 (by have := hT.1; omega)
def q_yc (T : qT) (r : Nat → Int32) (p n : Nat) : Nat → Int32 := q_sm fun k => if q_isl T (q_ys T false (tS T + nI k) n r) p then 1 else 0
theorem c_year (hT : tOk T) (a b c : Int32) : ∃ x, qAn T o v B r (f8_year a b c) x ∧ qAn T o v B r (f9_year a b c) x := by
  have hP := hT.2
  rcases y_is a (n := tP T) (by omega) with ha | ⟨j, hj, rfl⟩
  · refine ⟨-1, fun m h hn => ?_, fun m h hn => ?_⟩
    · unfold f8_year
      rw [p8_isPerson_n h ha, if_pos rfl]
      exact q_some m
    · unfold f9_year
      refine zw_eq (p9_isPerson_n h ha) ?_
      rw [if_pos rfl]
      exact q_some m
  rcases y_long b with ⟨e8, e9⟩ | ⟨e8, e9, n, hn', rfl⟩
  · refine ⟨-1, fun m h hn => ?_, fun m h hn => ?_⟩
    · unfold f8_year
      rw [p8_isPerson_y h hj, if_neg n01, e8, if_pos rfl]
      exact q_some m
    · unfold f9_year
      refine zw_eq (p9_isPerson_y h hj) ?_
      rw [if_neg n01]
      refine zw_eq e9 ?_
      rw [if_pos rfl]
      exact q_some m
  rcases y_span c (l := 1) (u := 20) (by omega) with hd | ⟨hd, s, hs1, hs2, rfl⟩ | hd
  · have hd' : f9_in c 1 20 = 0 := hd
    refine ⟨-1, fun m h hn => ?_, fun m h hn => ?_⟩
    · unfold f8_year
      rw [p8_isPerson_y h hj, if_neg n01, e8, if_neg n01]
      unfold f9_in at hd'
      by_cases d1 : c < 1
      · rw [if_pos d1]; exact q_some m
      · rw [if_neg d1] at hd' ⊢
        by_cases d2 : 20 < c
        · rw [if_pos d2]; exact q_some m
        · rw [if_neg d2] at hd'
          exact absurd hd' (by decide)
    · unfold f9_year
      refine zw_eq (p9_isPerson_y h hj) ?_
      rw [if_neg n01]
      refine zw_eq e9 ?_
      rw [if_neg n01, hd', if_pos rfl]
      exact q_some m
  · have hd' : f9_in (nI s) 1 20 = 1 := hd
    refine ⟨q_yc T r j n s, fun m h hn => ?_, fun m h hn => ?_⟩
    · unfold f8_year
      have c1 : ¬ nI s < 1 := nI_nlt (b := 1) hs1 (by omega)
      have c2 : ¬ 20 < nI s := nI_nlt (a := 20) hs2 (by omega)
      rw [p8_isPerson_y h hj, if_neg n01, e8, if_neg n01, if_neg c1, if_neg c2]
      refine zw_b (zw_for2 (Q := fun q => q.1 = q_yc T r j n s ∧ zk sQ m q.2) s (fun k a m1 => a = q_yc T r j n k ∧ zk sQ m m1) (by omega) ⟨rfl, zk_r m⟩ ?_ ?_) (fun q hq => zw_some.mpr hq)
      · rintro k a m1 hk ⟨rfl, hf⟩
        have h1 := q_T_q h hf
        unfold f8_year_L7
        simp (disch := omega) only [z_u3, y_lt, hk, ↓reduceIte, h1.ox, h1.tx.2.2.1]
        refine zw_b (p8_foresee h1 (q_N_q hn hf) hn' _) ?_
        rintro m2 ⟨hc2, hf2⟩
        have h2 := q_T_q h1 hf2
        rw [h2.ox, p5_allLandlords hc2 hT h2.tx, Option.bind_some, q_lords_b hT hj]
        cases eb : q_isl T (q_ys T false (tS T + nI k) n r) j
        · rw [if_pos (show (if false = true then (1 : Int32) else 0) = 0 from rfl)]
          refine zw_some.mpr ⟨y_s1 k, ?_, zk_t hf hf2⟩
          show q_yc T r j n k = q_yc T r j n k + (if q_isl T (q_ys T false (tS T + nI k) n r) j then 1 else 0)
          rw [eb, if_neg (by decide), Int32.add_zero]
        · rw [if_pos (show true = true from rfl), if_neg n01]
          refine zw_some.mpr ⟨y_s1 k, ?_, zk_t hf hf2⟩
          show q_yc T r j n k + 1 = q_yc T r j n k + (if q_isl T (q_ys T false (tS T + nI k) n r) j then 1 else 0)
          rw [eb, if_pos rfl]
      · rintro a m1 hI
        unfold f8_year_L7
        simp only [z_u3]
        rw [if_neg Int32.lt_irrefl]
        exact zw_some.mpr hI
    · unfold f9_year
      refine zw_eq (p9_isPerson_y h hj) ?_
      rw [if_neg n01]
      refine zw_eq e9 ?_
      rw [if_neg n01, hd', if_neg n01]
      refine zw_b (zw_for2 (Q := fun q => q.1 = q_yc T r j n s ∧ zk sQ m q.2) s (fun k a m1 => a = q_yc T r j n k ∧ zk sQ m m1) (by omega) ⟨rfl, zk_r m⟩ ?_ ?_) (fun q hq => zw_some.mpr hq)
      · rintro k a m1 hk ⟨rfl, hf⟩
        have h1 := q_T_q h hf
        unfold f9_year_L9
        simp (disch := omega) only [z_u3, y_lt, hk, ↓reduceIte, z_let]
        refine zw_b (p9_copiesK h1.mx (q_N_q hn hf).2.2) ?_
        rintro m2 ⟨hf2, hr2, hs2'⟩
        rw [hs2'.1]
        have hf3 : zk sCp m2 (z_sI m2 9 0 50 (tS T + nI k)) := zk_s (zk_r m2) (by omega)
        have hf3' : zk sQ m _ := zk_t hf (zk_t (zk_cp hf2) (zk_cp hf3))
        have h3 := q_T_q h hf3'
        refine zw_b (p9_goes (st := false) (sd := tS T + nI k) h3.mx hT h3.lw h3.ml (fun i hi => by rw [z_sI_1, if_neg (by omega)]; exact hr2 i hi) hn.1 ⟨by rw [z_sI_1, if_pos ⟨rfl, rfl, rfl⟩], by rw [z_sI_1, if_neg (by omega)]; exact hs2'.2⟩ hn') ?_
        rintro m4 ⟨hf4, hr4⟩
        have hf4' : zk sQ m m4 := zk_t hf3' (zk_my hf4)
        rw [p9_lordBits (q_T_q h hf4').mx hT hr4, Option.bind_some]
        cases eb : q_isl T (q_ys T false (tS T + nI k) n r) j
        · rw [if_pos ((q_lordb0 hT j).mpr eb)]
          refine zw_some.mpr ⟨y_s1 k, ?_, hf4'⟩
          show q_yc T r j n k = q_yc T r j n k + (if q_isl T (q_ys T false (tS T + nI k) n r) j then 1 else 0)
          rw [eb, if_neg (by decide), Int32.add_zero]
        · rw [if_neg (fun q => by rw [(q_lordb0 hT j).mp q] at eb; exact absurd eb (by decide))]
          refine zw_some.mpr ⟨y_s1 k, ?_, hf4'⟩
          show q_yc T r j n k + 1 = q_yc T r j n k + (if q_isl T (q_ys T false (tS T + nI k) n r) j then 1 else 0)
          rw [eb, if_pos rfl]
      · rintro a m1 hI
        unfold f9_year_L9
        simp only [z_u3]
        rw [if_neg Int32.lt_irrefl]
        exact zw_some.mpr hI
  · omega
end
