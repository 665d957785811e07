/-! LETTERS III: numbers of ways are small; ask, foremost -/
def q_sn (f : Nat → Nat) : Nat → Nat
  | 0 => 0
  | n + 1 => q_sn f n + f n
theorem q_sm_sn (f : Nat → Nat) : ∀ n, q_sm (fun i => nI (f i)) n = nI (q_sn f n)
  | 0 => rfl
  | n + 1 => by
    show q_sm (fun i => nI (f i)) n + nI (f n) = _
    rw [q_sm_sn f n, nI_add]; rfl
theorem q_sn_le {f : Nat → Nat} {b : Nat} : ∀ {n : Nat}, (∀ i, i < n → f i ≤ b) → q_sn f n ≤ n * b
  | 0, _ => by rw [Nat.zero_mul]; exact Nat.le_refl 0
  | n + 1, h => by
    have ih := q_sn_le (n := n) (fun i hi => h i (by omega))
    have hn := h n (by omega)
    show q_sn f n + f n ≤ _
    rw [Nat.add_mul, Nat.one_mul]; omega
theorem q_sn_0 {f : Nat → Nat} : ∀ {n : Nat}, q_sn f n = 0 → ∀ i, i < n → f i = 0
  | n + 1, h, i, hi => by
    have h' : q_sn f n + f n = 0 := h
    by_cases e : i = n
    · rw [e]; omega
    · exact q_sn_0 (n := n) (by omega) i (by omega)
theorem w_9 : ∀ S, S < 128 → ∀ p, p < 7 → S.testBit p = false → q_pc (nI (S + 2 ^ p)) 7 = q_pc (nI S) 7 + 1 := by decide +kernel
theorem w_10 : ∀ S, S < 128 → S ≠ 0 → ¬ q_bc (nI S) 7 = 0 := by decide +kernel
theorem q_W_bd {nd : Nat → Int32} {n : Nat} (hn : n ≤ 7) : ∀ (d S : Nat), S < 2 ^ n → 2 ^ n - S ≤ d → ∃ w, w ≤ 7 ^ (7 - q_pc (nI S) 7) ∧ q_W nd n S = nI w := by
  have h128 := y_p7 hn
  intro d
  induction d with
  | zero => intro S h1 h2; omega
  | succ d ih =>
    intro S h1 h2
    rw [q_W_eq nd hn h1]
    by_cases e : S = 2 ^ n - 1
    · rw [if_pos e]; exact ⟨1, Nat.pow_pos (by decide), rfl⟩
    · rw [if_neg e]
      have hex : ∀ p, ∃ w, (p < n → w ≤ 7 ^ (7 - (q_pc (nI S) 7 + 1)) ∧ (if q_go nd p S then q_W nd n (S + 2 ^ p) else 0) = nI w) := fun p => by
        by_cases hp : p < n
        · cases eg : q_go nd p S
          · exact ⟨0, fun _ => ⟨Nat.zero_le _, rfl⟩⟩
          · have hb := q_go_b eg
            have l4 := w_4 n (by omega) S (by omega) h1 p hp hb
            have hpos := Nat.two_pow_pos p
            obtain ⟨w, hw, ew⟩ := ih (S + 2 ^ p) l4 (by omega)
            rw [w_9 S (by omega) p (by omega) hb] at hw
            exact ⟨w, fun _ => ⟨hw, by rw [if_pos rfl, ew]⟩⟩
        · exact ⟨0, fun q => absurd q hp⟩
      have hch : ∃ f : Nat → Nat, ∀ p, p < n → f p ≤ 7 ^ (7 - (q_pc (nI S) 7 + 1)) ∧ (if q_go nd p S then q_W nd n (S + 2 ^ p) else 0) = nI (f p) := ⟨fun p => Classical.choose (hex p), fun p hp => Classical.choose_spec (hex p) hp⟩
      obtain ⟨f, hf⟩ := hch
      refine ⟨q_sn f n, ?_, (q_sm_cong fun p hp => (hf p hp).2).trans (q_sm_sn f n)⟩
      have h3 := q_sn_le (n := n) (fun p hp => (hf p hp).1)
      obtain ⟨p, hp, hb⟩ := w_8 n (by omega) S (by omega) h1 e
      have h9 := w_9 S (by omega) p (by omega) hb
      have h7 := q_pc_le (nI (S + 2 ^ p)) 7
      refine Nat.le_trans h3 (Nat.le_trans (Nat.mul_le_mul_right _ hn) ?_)
      rw [show 7 - q_pc (nI S) 7 = (7 - (q_pc (nI S) 7 + 1)) + 1 by omega, Nat.pow_succ, Nat.mul_comm]
      exact Nat.le_refl _
theorem q_W_n {nd : Nat → Int32} {n : Nat} (hn : n ≤ 7) {S : Nat} (hS : S < 2 ^ n) : ∃ w, w ≤ 823543 ∧ q_W nd n S = nI w := by
  obtain ⟨w, hw, e⟩ := q_W_bd (nd := nd) hn (2 ^ n) S hS (Nat.sub_le _ _)
  exact ⟨w, Nat.le_trans hw (Nat.le_trans (Nat.pow_le_pow_right (by decide) (Nat.sub_le 7 _)) (by decide)), e⟩
section
variable {T : qT} {o v td : Nat} {te tf : Nat → Nat} {m m' : zMem} {nd : Nat → Int32} {n : Nat}
theorem q_plc_0 (hn : n ≤ 7) (p : Nat) : q_plc nd n p 0 = if q_go nd p 0 then q_W nd n (0 + 2 ^ p) else 0 := by
  have h128 := y_p7 hn
  unfold q_plc
  rw [q_sm_out (Nat.two_pow_pos n)]
  have e0 : q_sm (fun i => if i = 0 then 0 else if decide (q_bc (nI i) 7 = 0) then q_bh nd n p i else 0) (2 ^ n) = 0 := (q_sm_cong fun i hi => by
    by_cases e : i = 0
    · rw [if_pos e]
    · rw [if_neg e, decide_eq_false (w_10 i (by omega) e), y_ff]).trans (q_sm_0 _)
  rw [e0, Int32.zero_add, show decide (q_bc (nI 0) 7 = 0) = true from rfl, if_pos rfl]
  unfold q_bh
  cases q_go nd p 0
  · rw [y_ff, y_ff]
  · rw [if_pos rfl, if_pos rfl, q_H_0, Int32.one_mul]
theorem q_fm (hn : n ≤ 7) (h1 : 1 ≤ n) : ∃ f : Nat → Nat, (∀ p, p < n → f p ≤ 823543 ∧ q_plc nd n p 0 = nI (f p)) ∧ q_W nd n 0 = nI (q_sn f n) := by
  have hpos := Nat.two_pow_pos n
  have hne : 0 ≠ 2 ^ n - 1 := by
    have : 2 ^ 1 ≤ 2 ^ n := Nat.pow_le_pow_right (n := 2) (by decide) h1
    omega
  have hex : ∀ p, ∃ w, (p < n → w ≤ 823543 ∧ q_plc nd n p 0 = nI w) := fun p => by
    by_cases hp : p < n
    · rw [q_plc_0 hn]
      cases eg : q_go nd p 0
      · exact ⟨0, fun _ => ⟨by omega, rfl⟩⟩
      · obtain ⟨w, hw, ew⟩ := q_W_n (nd := nd) hn (S := 0 + 2 ^ p) (w_4 n (by omega) 0 (by omega) hpos p hp (q_go_b eg))
        exact ⟨w, fun _ => ⟨hw, by rw [if_pos rfl, ew]⟩⟩
    · exact ⟨0, fun q => absurd q hp⟩
  refine ⟨fun p => Classical.choose (hex p), fun p hp => Classical.choose_spec (hex p) hp, ?_⟩
  rw [q_W_eq nd hn hpos, if_neg hne, ← q_sm_sn]
  exact q_sm_cong fun p hp => by rw [← q_plc_0 hn]; exact (Classical.choose_spec (hex p) hp).2
theorem y_kn (htd : td ≤ 20) (a : Int32) {f8 f9 : Int32 → zMem → Option (Int32 × zMem)} (n8 : ∀ m, f8_isKnown a m = 0 → f8 a m = some (-1, m)) (n9 : ∀ m, f9_isKnown a m = some 0 → f9 a m = some (-1, m)) (y : ∀ k, k ≤ td → a = nI k → (∀ m, qI_L T td te tf m → f8_isKnown a m = 1 ∧ f9_isKnown a m = some 1) → ∃ x, qAl T o v td te tf (f8 a) x ∧ qAl T o v td te tf (f9 a) x) : ∃ x, qAl T o v td te tf (f8 a) x ∧ qAl T o v td te tf (f9 a) x := by
  rcases y_known (T := T) (te := te) (tf := tf) htd a with hk | ⟨k, hk, ea, hk'⟩
  · exact ⟨-1, fun m h hl => by rw [n8 m (hk m hl).1]; exact q_some m, fun m h hl => by rw [n9 m (hk m hl).2]; exact q_some m⟩
  · exact y k hk ea hk'
/-- the class's foremost: first of the most, if any -/
def q_fo (F : Nat → Int32) : Nat → Int32 × Int32
  | 0 => (-2, 0)
  | p + 1 => if (q_fo F p).2 < F p then (nI p, F p) else q_fo F p
theorem q_fo_sp {F : Nat → Int32} {f : Nat → Nat} : ∀ {n : Nat}, n < 1000 → (∀ p, p < n → f p ≤ 823543 ∧ F p = nI (f p)) → (q_fo F n = (-2, 0) ∧ ∀ p, p < n → f p = 0) ∨ ∃ j, j < n ∧ 0 < f j ∧ q_fo F n = (nI j, F j) ∧ q_lg (fun _ => true) F n = nI j
  | 0, _, _ => Or.inl ⟨rfl, fun p hp => absurd hp (by omega)⟩
  | n + 1, hn, h => by
    have hF := h n (by omega)
    rcases q_fo_sp (n := n) (by omega) (fun p hp => h p (by omega)) with ⟨h1, h2⟩ | ⟨j, hj, h0, h1, h2⟩
    · by_cases e : f n = 0
      · refine Or.inl ⟨?_, fun p hp => ?_⟩
        · rw [q_fo, h1, hF.2, e, if_neg (by decide)]
        · by_cases e2 : p = n
          · rw [e2]; exact e
          · exact h2 p (by omega)
      · refine Or.inr ⟨n, by omega, by omega, ?_, ?_⟩
        · rw [q_fo, h1, hF.2]
          exact if_pos (show (0 : Int32) < nI (f n) from nI_lt (a := 0) (by omega) (by omega))
        · rcases q_lg_in (fun _ => true) F n with e2 | ⟨j, hj, e2, _⟩
          · rw [q_lg, if_pos rfl, e2, if_pos (Or.inl (by decide))]
          · rw [q_lg_ts (by omega) e2, (h j (by omega)).2, h2 j hj, hF.2, if_pos (nI_lt (a := 0) (by omega) (by omega))]
    · have hj' := h j (by omega)
      by_cases c : F j < F n
      · refine Or.inr ⟨n, by omega, ?_, ?_, ?_⟩
        · rw [hj'.2, hF.2, y_lt (by omega) (by omega)] at c; omega
        · rw [q_fo, h1, if_pos c]
        · rw [q_lg_ts (by omega) h2, if_pos c]
      · refine Or.inr ⟨j, by omega, h0, ?_, ?_⟩
        · rw [q_fo, h1, if_neg c]
        · rw [q_lg_ts (by omega) h2, if_neg c]
theorem c_foremost (hT : tOk T) (htd : td ≤ 20) (a : Int32) : ∃ x, qAl T o v td te tf (f8_foremost a) x ∧ qAl T o v td te tf (f9_foremost a) x := by
  have hP := hT.2
  refine y_kn htd a (fun m e => by unfold f8_foremost; rw [e, if_pos rfl]) (fun m e => by unfold f9_foremost; rw [e]; rfl) (fun k hk ea hk' => ?_)
  subst ea
  have s8 : ∀ m, qI_T T o v m → qI_L T td te tf m → zw (f8_foremost (nI k) m) fun q => q.1 = (q_fo (fun p => q_plc (q_nd te tf k) (tP T) p 0) (tP T)).1 ∧ zk sQ m q.2 := fun m h hl => by
    unfold f8_foremost
    rw [(hk' m hl).1, if_neg n01, h.ox, h.P]
    refine zw_b (p2_weigh hT hl hk) ?_
    rintro m1 ⟨hf, hq⟩
    have h1 := q_T_q h (zk_lc hf)
    refine zw_eq (z_it_e (e := (q_fo (fun p => q_plc (q_nd te tf k) (tP T) p 0) (tP T)).1) (fun i => ((q_fo (fun p => q_plc (q_nd te tf k) (tP T) p 0) i).1, (q_fo (fun p => q_plc (q_nd te tf k) (tP T) p 0) i).2, nI i)) (tP T) rfl (fun i hi => ?_) ?_ (z_fu_lt (by omega))) (zw_some.mpr ⟨rfl, zk_lc hf⟩)
    · have hs : q_fo (fun p => q_plc (q_nd te tf k) (tP T) p 0) (i + 1) = if (q_fo (fun p => q_plc (q_nd te tf k) (tP T) p 0) i).2 < q_plc (q_nd te tf k) (tP T) i 0 then (nI i, q_plc (q_nd te tf k) (tP T) i 0) else q_fo (fun p => q_plc (q_nd te tf k) (tP T) p 0) i := rfl
      rw [hs]
      generalize q_fo (fun p => q_plc (q_nd te tf k) (tP T) p 0) i = st
      unfold f8_foremost_L5
      simp (disch := omega) only [z_u3, h1.ox, h1.P, y_lt, hi, ↓reduceIte, p2_timesAt hP hq hi, Option.bind_some, y_s1]
      by_cases c : st.2 < q_plc (q_nd te tf k) (tP T) i 0
      · rw [if_pos c, if_pos c]; rfl
      · rw [if_neg c, if_neg c]; rfl
    · unfold f8_foremost_L5
      simp (disch := omega) only [z_u3, h1.ox, h1.P, y_lt, Nat.lt_irrefl, ↓reduceIte]
  have s9 : ∀ m x, qI_T T o v m → qI_L T td te tf m → (∀ m1, qI_T T o v m1 → qLm m1 (q_nd te tf k) (tP T) → z_it (f9_foremost_L7 (q_W (q_nd te tf k) (tP T) 0) m1) z_fu (-2, 0) = some x) → zw (f9_foremost (nI k) m) fun q => q.1 = x ∧ zk sQ m q.2 := fun m x h hl hz => by
    unfold f9_foremost
    refine zw_eq (hk' m hl).2 ?_
    rw [if_neg n01]
    refine zw_b (p9_countsBy h hl hk) ?_
    rintro ⟨y, m1⟩ ⟨ey, hf, hq⟩
    have ey' : y = _ := ey
    have hf' : zk sQ m m1 := hf
    simp only [z_u2]
    rw [ey']
    exact zw_eq (hz m1 (q_T_q h hf') hq) (zw_some.mpr ⟨rfl, hf'⟩)
  by_cases hn0 : tP T = 0
  · refine ⟨-2, fun m h hl => ?_, fun m h hl => s9 m _ h hl (fun m1 h1 hq1 => ?_)⟩
    · have := s8 m h hl
      rw [hn0] at this
      exact this
    · obtain ⟨hv, h9, _, h2, _⟩ := h1.mx
      refine z_it_e (fun _ => (-2, 0)) 0 _ rfl (fun i hi => absurd hi (by omega)) ?_ (by decide)
      unfold f9_foremost_L7
      simp only [z_u2]
      rw [h9, if_pos (y_in hv (by omega)), y_cl (by omega), h2, hn0, if_neg (by decide)]
  obtain ⟨f, hf, hsum⟩ := q_fm (nd := q_nd te tf k) hP (by omega)
  have hb := q_sn_le (n := tP T) (fun p hp => (hf p hp).1)
  have hb' : tP T * 823543 ≤ 7 * 823543 := Nat.mul_le_mul_right _ hP
  rcases q_fo_sp (F := fun p => q_plc (q_nd te tf k) (tP T) p 0) (n := tP T) (by omega) hf with ⟨e1, e2⟩ | ⟨j, hj, hj0, e1, e2⟩
  · have hz : q_W (q_nd te tf k) (tP T) 0 = 0 := by
      rw [hsum]
      have : ∀ n, (∀ p, p < n → f p = 0) → q_sn f n = 0 := fun n => by
        induction n with
        | zero => intro _; rfl
        | succ n ih => intro h; show q_sn f n + f n = 0; rw [ih (fun p hp => h p (by omega)), h n (by omega)]
      rw [this _ e2]; rfl
    refine ⟨-2, fun m h hl => ?_, fun m h hl => s9 m _ h hl (fun m1 h1 hq1 => ?_)⟩
    · have := s8 m h hl
      rw [e1] at this
      exact this
    · obtain ⟨hv, h9, _, h2, _⟩ := h1.mx
      refine z_it_e (fun _ => (-2, 0)) 0 _ rfl (fun i hi => absurd hi (by omega)) ?_ (by decide)
      unfold f9_foremost_L7
      simp only [z_u2]
      rw [h9, if_pos (y_in hv (by omega)), y_cl (by omega), h2, hz, if_pos (show (0 : Int32) < nI (tP T) from nI_lt (a := 0) (by omega) (by omega)), if_neg (by decide)]
  · have hpos : 0 < q_W (q_nd te tf k) (tP T) 0 := by
      rw [hsum]
      refine nI_lt (a := 0) ?_ (by omega)
      refine Nat.pos_of_ne_zero fun q => ?_
      have := q_sn_0 q j hj
      omega
    refine ⟨nI j, fun m h hl => ?_, fun m h hl => s9 m _ h hl (fun m1 h1 hq1 => ?_)⟩
    · have := s8 m h hl
      rw [e1] at this
      exact this
    · have hx := h1.mx
      obtain ⟨hv, h9, _, h2, _⟩ := hx
      rw [← e2]
      refine z_it_e (fun i => (q_lg (fun _ => true) (fun p => q_plc (q_nd te tf k) (tP T) p 0) i, nI i)) (tP T) _ rfl (fun i hi => ?_) ?_ (z_fu_lt (by omega))
      · rcases q_lg_in (fun _ => true) (fun p => q_plc (q_nd te tf k) (tP T) p 0) i with e | ⟨l, hl2, e, _⟩
        · show f9_foremost_L7 _ m1 (q_lg (fun _ => true) (fun p => q_plc (q_nd te tf k) (tP T) p 0) i, nI i) = some (Sum.inl (q_lg (fun _ => true) (fun p => q_plc (q_nd te tf k) (tP T) p 0) (i + 1), nI (i + 1)))
          rw [q_lg, if_pos rfl, e, if_pos (Or.inl (by decide))]
          unfold f9_foremost_L7
          simp (disch := omega) only [z_u2, h9, h2, y_in, y_cl, y_lt, hi, ↓reduceIte, hpos, y_2lt, Option.bind_some, y_s1]
        · show f9_foremost_L7 _ m1 (q_lg (fun _ => true) (fun p => q_plc (q_nd te tf k) (tP T) p 0) i, nI i) = some (Sum.inl (q_lg (fun _ => true) (fun p => q_plc (q_nd te tf k) (tP T) p 0) (i + 1), nI (i + 1)))
          rw [q_lg_ts (by omega) e, e]
          unfold f9_foremost_L7
          simp (disch := omega) only [z_u2, h9, h2, y_in, y_cl, y_lt, y_lt0, hi, ↓reduceIte, hpos, p9_placedAt h1.mx hT hq1 hi, p9_placedAt h1.mx hT hq1 (show l < tP T by omega), Option.bind_some, y_s1]
          by_cases c : q_plc (q_nd te tf k) (tP T) l 0 < q_plc (q_nd te tf k) (tP T) i 0
          · rw [if_pos c, if_pos c]; rfl
          · rw [if_neg c, if_neg c]; rfl
      · unfold f9_foremost_L7
        simp (disch := omega) only [z_u2, h9, h2, y_in, y_cl, y_lt, Nat.lt_irrefl, ↓reduceIte]
end
