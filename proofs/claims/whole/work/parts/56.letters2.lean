/-! LETTERS II: first, last, sum, ahead, ask -/
section
variable {T : qT} {o v td : Nat} {te tf : Nat → Nat} {m m' : zMem} {nd : Nat → Int32} {n : Nat}
/-- the common beginning: k known, p a PERSON -/
theorem y_kp (hT : tOk T) (htd : td ≤ 20) (a b : Int32) {f8 : Int32 → Int32 → zMem → Option (Int32 × zMem)} {f9 : Int32 → Int32 → zMem → Option (Int32 × zMem)}
    (n8 : ∀ m, f8_isKnown a m = 0 → f8 a b m = some (-1, m)) (n9 : ∀ m, f9_isKnown a m = some 0 → f9 a b m = some (-1, m))
    (p8 : ∀ m, f8_isKnown a m = 1 → f8_isPerson b m = 0 → f8 a b m = some (-1, m)) (p9 : ∀ m, f9_isKnown a m = some 1 → f9_isPerson b m = some 0 → f9 a b m = some (-1, m))
    (y : ∀ k p, k ≤ td → p < tP T → a = nI k → b = nI p → (∀ m, qI_L T td te tf m → f8_isKnown a m = 1 ∧ f9_isKnown a m = some 1) → ∃ x, qAl T o v td te tf (f8 a b) x ∧ qAl T o v td te tf (f9 a b) x) : ∃ x, qAl T o v td te tf (f8 a b) x ∧ qAl T o v td te tf (f9 a b) x := by
  have hP := hT.2
  rcases y_known (T := T) (te := te) (tf := tf) htd a with hk | ⟨k, hk, ea, hk'⟩
  · exact ⟨-1, fun m h hl => by rw [n8 m (hk m hl).1]; exact q_some m, fun m h hl => by rw [n9 m (hk m hl).2]; exact q_some m⟩
  rcases y_is b (n := tP T) (by omega) with hb | ⟨p, hp, eb⟩
  · exact ⟨-1, fun m h hl => by rw [p8 m (hk' m hl).1 (p8_isPerson_n h hb)]; exact q_some m, fun m h hl => by rw [p9 m (hk' m hl).2 (p9_isPerson_n h hb)]; exact q_some m⟩
  · exact y k p hk hp ea eb hk'
def q_res1 (x : Option Nat) : Int32 := match x with
  | some j => nI j
  | none => -2
theorem c_first (hT : tOk T) (htd : td ≤ 20) (a b : Int32) : ∃ x, qAl T o v td te tf (f8_first a b) x ∧ qAl T o v td te tf (f9_first a b) x := by
  have hP := hT.2
  refine y_kp hT htd a b (fun m e => by unfold f8_first; rw [e, if_pos rfl]) (fun m e => by unfold f9_first; rw [e]; rfl) (fun m e1 e2 => by unfold f8_first; rw [e1, if_neg n01, e2, if_pos rfl]) (fun m e1 e2 => by unfold f9_first; rw [e1, Option.bind_some, if_neg n01, e2]; rfl) (fun k p hk hp ea eb hk' => ?_)
  subst ea eb
  refine ⟨q_res1 (q_se (fun i => decide (0 < q_plc (q_nd te tf k) (tP T) p (nI i))) (tP T)), fun m h hl => ?_, fun m h hl => ?_⟩
  · unfold f8_first
    rw [(hk' m hl).1, if_neg n01, p8_isPerson_y h hp, if_neg n01, h.ox, h.P]
    refine zw_b (p2_weigh hT hl hk) ?_
    rintro m1 ⟨hf, hq⟩
    have h1 := q_T_q h (zk_lc hf)
    refine zw_eq (z_se (fun i => decide (0 < q_plc (q_nd te tf k) (tP T) p (nI i))) nI (tP T) (fun j => (nI j, m1)) rfl (fun i hi => ?_) ?_ (by omega)) ?_
    · unfold f8_first_L7
      simp (disch := omega) only [h1.ox, h1.P, y_lt, hi, ↓reduceIte, p2_timesAt hP hq hp, Option.bind_some, y_s1]
      by_cases e : 0 < q_plc (q_nd te tf k) (tP T) p (nI i)
      · rw [if_pos e, decide_eq_true e, if_pos rfl]
      · rw [if_neg e, decide_eq_false e, y_ff]
    · unfold f8_first_L7
      simp (disch := omega) only [h1.ox, h1.P, y_lt, Nat.lt_irrefl, ↓reduceIte]
    · cases q_se (fun i => decide (0 < q_plc (q_nd te tf k) (tP T) p (nI i))) (tP T)
      · exact zw_some.mpr ⟨rfl, zk_lc hf⟩
      · exact zw_some.mpr ⟨rfl, zk_lc hf⟩
  · unfold f9_first
    refine zw_eq (hk' m hl).2 ?_
    rw [if_neg n01]
    refine zw_eq (p9_isPerson_y h hp) ?_
    rw [if_neg n01]
    refine zw_b (p9_countsBy h hl hk) ?_
    rintro ⟨x, m1⟩ ⟨_, hf, hq⟩
    have hf' : zk sQ m m1 := hf
    have h1 := q_T_q h hf'
    have hx := h1.mx
    obtain ⟨hv, h9, _, h2, _⟩ := hx
    simp only [z_u2]
    refine zw_eq (z_se (fun i => decide (0 < q_plc (q_nd te tf k) (tP T) p (nI i))) nI (tP T) (fun j => (nI j, m1)) rfl (fun i hi => ?_) ?_ (by omega)) ?_
    · unfold f9_first_L10
      simp (disch := omega) only [h9, h2, y_in, y_cl, y_lt, hi, ↓reduceIte, p9_placedAt h1.mx hT hq hp, Option.bind_some, y_s1]
      by_cases e : 0 < q_plc (q_nd te tf k) (tP T) p (nI i)
      · rw [if_pos e, decide_eq_true e, if_pos rfl]
      · rw [if_neg e, decide_eq_false e, y_ff]
    · unfold f9_first_L10
      simp (disch := omega) only [h9, h2, y_in, y_cl, y_lt, Nat.lt_irrefl, ↓reduceIte]
    · cases q_se (fun i => decide (0 < q_plc (q_nd te tf k) (tP T) p (nI i))) (tP T)
      · exact zw_some.mpr ⟨rfl, hf'⟩
      · exact zw_some.mpr ⟨rfl, hf'⟩
def q_dn (n k : Nat) : Int32 := if k < n then nI (n - 1 - k) else -1
theorem q_dn_s {n k : Nat} (hk : k < n) : q_dn n k + (-1) = q_dn n (k + 1) := by
  unfold q_dn
  rw [if_pos hk]
  by_cases e : k + 1 < n
  · rw [if_pos e, show n - 1 - k = (n - 1 - (k + 1)) + 1 by omega, pk_m1]
  · rw [if_neg e, show n - 1 - k = 0 by omega]; rfl
def q_res2 (n : Nat) (x : Option Nat) : Int32 := match x with
  | some j => nI (n - 1 - j)
  | none => -2
theorem c_last (hT : tOk T) (htd : td ≤ 20) (a b : Int32) : ∃ x, qAl T o v td te tf (f8_last a b) x ∧ qAl T o v td te tf (f9_last a b) x := by
  have hP := hT.2
  refine y_kp hT htd a b (fun m e => by unfold f8_last; rw [e, if_pos rfl]) (fun m e => by unfold f9_last; rw [e]; rfl) (fun m e1 e2 => by unfold f8_last; rw [e1, if_neg n01, e2, if_pos rfl]) (fun m e1 e2 => by unfold f9_last; rw [e1, Option.bind_some, if_neg n01, e2]; rfl) (fun k p hk hp ea eb hk' => ?_)
  subst ea eb
  have e0 : nI (tP T) - 1 = q_dn (tP T) 0 := by
    unfold q_dn
    rw [if_pos (by omega)]
    exact pk_sub (b := 1) (by omega)
  refine ⟨q_res2 (tP T) (q_se (fun i => decide (0 < q_plc (q_nd te tf k) (tP T) p (nI (tP T - 1 - i)))) (tP T)), fun m h hl => ?_, fun m h hl => ?_⟩
  · unfold f8_last
    rw [(hk' m hl).1, if_neg n01, p8_isPerson_y h hp, if_neg n01, h.ox, h.P]
    refine zw_b (p2_weigh hT hl hk) ?_
    rintro m1 ⟨hf, hq⟩
    have h1 := q_T_q h (zk_lc hf)
    simp only [z_let]
    rw [h1.ox, h1.P]
    refine zw_eq (z_se (fun i => decide (0 < q_plc (q_nd te tf k) (tP T) p (nI (tP T - 1 - i)))) (q_dn (tP T)) (tP T) (fun j => (nI (tP T - 1 - j), m1)) e0 (fun i hi => ?_) ?_ (by omega)) ?_
    · rw [← q_dn_s hi]
      have ed : q_dn (tP T) i = nI (tP T - 1 - i) := if_pos hi
      rw [ed]
      unfold f8_last_L9
      rw [if_neg (nI_pos (by omega)), p2_timesAt hP hq hp, Option.bind_some]
      by_cases e : 0 < q_plc (q_nd te tf k) (tP T) p (nI (tP T - 1 - i))
      · rw [if_pos e, decide_eq_true e, if_pos rfl]
      · rw [if_neg e, decide_eq_false e, y_ff]
    · have ed : q_dn (tP T) (tP T) = -1 := if_neg (by omega)
      rw [ed]
      rfl
    · cases q_se (fun i => decide (0 < q_plc (q_nd te tf k) (tP T) p (nI (tP T - 1 - i)))) (tP T)
      · exact zw_some.mpr ⟨rfl, zk_lc hf⟩
      · exact zw_some.mpr ⟨rfl, zk_lc hf⟩
  · unfold f9_last
    refine zw_eq (hk' m hl).2 ?_
    rw [if_neg n01]
    refine zw_eq (p9_isPerson_y h hp) ?_
    rw [if_neg n01]
    refine zw_b (p9_countsBy h hl hk) ?_
    rintro ⟨x, m1⟩ ⟨_, hf, hq⟩
    have hf' : zk sQ m m1 := hf
    have h1 := q_T_q h hf'
    have hx := h1.mx
    obtain ⟨hv, h9, _, h2, _⟩ := hx
    simp only [z_u2, z_let]
    rw [h9, if_pos (y_in hv (by omega)), y_cl (by omega), h2]
    refine zw_eq (z_se (fun i => decide (0 < q_plc (q_nd te tf k) (tP T) p (nI (tP T - 1 - i)))) (q_dn (tP T)) (tP T) (fun j => (nI (tP T - 1 - j), m1)) e0 (fun i hi => ?_) ?_ (by omega)) ?_
    · rw [← q_dn_s hi]
      have ed : q_dn (tP T) i = nI (tP T - 1 - i) := if_pos hi
      rw [ed]
      unfold f9_last_L13
      rw [if_neg (nI_pos (by omega)), p9_placedAt h1.mx hT hq hp, Option.bind_some]
      by_cases e : 0 < q_plc (q_nd te tf k) (tP T) p (nI (tP T - 1 - i))
      · rw [if_pos e, decide_eq_true e, if_pos rfl]
      · rw [if_neg e, decide_eq_false e, y_ff]
    · have ed : q_dn (tP T) (tP T) = -1 := if_neg (by omega)
      rw [ed]
      rfl
    · cases q_se (fun i => decide (0 < q_plc (q_nd te tf k) (tP T) p (nI (tP T - 1 - i)))) (tP T)
      · exact zw_some.mpr ⟨rfl, hf'⟩
      · exact zw_some.mpr ⟨rfl, hf'⟩
theorem c_sum (hT : tOk T) (htd : td ≤ 20) (a b : Int32) : ∃ x, qAl T o v td te tf (f8_sum a b) x ∧ qAl T o v td te tf (f9_sum a b) x := by
  have hP := hT.2
  refine y_kp hT htd a b (fun m e => by unfold f8_sum; rw [e, if_pos rfl]) (fun m e => by unfold f9_sum; rw [e]; rfl) (fun m e1 e2 => by unfold f8_sum; rw [e1, if_neg n01, e2, if_pos rfl]) (fun m e1 e2 => by unfold f9_sum; rw [e1, Option.bind_some, if_neg n01, e2]; rfl) (fun k p hk hp ea eb hk' => ?_)
  subst ea eb
  refine ⟨q_sm (fun i => nI i * q_plc (q_nd te tf k) (tP T) p (nI i)) (tP T), fun m h hl => ?_, fun m h hl => ?_⟩
  · unfold f8_sum
    rw [(hk' m hl).1, if_neg n01, p8_isPerson_y h hp, if_neg n01, h.ox, h.P]
    refine zw_b (p2_weigh hT hl hk) ?_
    rintro m1 ⟨hf, hq⟩
    have h1 := q_T_q h (zk_lc hf)
    refine zw_eq (z_it_e (e := q_sm (fun i => nI i * q_plc (q_nd te tf k) (tP T) p (nI i)) (tP T)) (fun i => (q_sm (fun i => nI i * q_plc (q_nd te tf k) (tP T) p (nI i)) i, nI i)) (tP T) rfl (fun i hi => ?_) ?_ (z_fu_lt (by omega))) (zw_some.mpr ⟨rfl, zk_lc hf⟩)
    · unfold f8_sum_L7
      simp (disch := omega) only [z_u2, h1.ox, h1.P, y_lt, hi, ↓reduceIte, p2_timesAt hP hq hp, Option.bind_some, y_s1]
      rfl
    · unfold f8_sum_L7
      simp (disch := omega) only [z_u2, h1.ox, h1.P, y_lt, Nat.lt_irrefl, ↓reduceIte]
  · unfold f9_sum
    refine zw_eq (hk' m hl).2 ?_
    rw [if_neg n01]
    refine zw_eq (p9_isPerson_y h hp) ?_
    rw [if_neg n01]
    refine zw_b (p9_countsBy h hl hk) ?_
    rintro ⟨x, m1⟩ ⟨_, hf, hq⟩
    have hf' : zk sQ m m1 := hf
    have h1 := q_T_q h hf'
    have hx := h1.mx
    obtain ⟨hv, h9, _, h2, _⟩ := hx
    simp only [z_u2]
    refine zw_eq (z_it_e (e := q_sm (fun i => nI i * q_plc (q_nd te tf k) (tP T) p (nI i)) (tP T)) (fun i => (q_sm (fun i => nI i * q_plc (q_nd te tf k) (tP T) p (nI i)) (i + 1), nI (i + 1))) (tP T - 1) ?_ (fun i hi => ?_) ?_ (z_fu_lt (by omega))) (zw_some.mpr ⟨rfl, hf'⟩)
    · show ((0 : Int32), (1 : Int32)) = (0 + nI 0 * _, nI 1)
      rw [show nI 0 = 0 from rfl, Int32.zero_mul]; rfl
    · have hi' : i + 1 < tP T := by omega
      unfold f9_sum_L10
      simp (disch := omega) only [z_u2, h9, h2, y_in, y_cl, y_lt, hi', ↓reduceIte, p9_placedAt h1.mx hT hq hp, Option.bind_some, y_s1]
      rfl
    · rw [show tP T - 1 + 1 = tP T by omega]
      unfold f9_sum_L10
      simp (disch := omega) only [z_u2, h9, h2, y_in, y_cl, y_lt, Nat.lt_irrefl, ↓reduceIte]
/-! ahead -/
def q_ahc (nd : Nat → Int32) (n p : Nat) : Nat → Bool := fun x => !decide (x = p) && decide (q_ahd nd n x p = q_W nd n 0)
theorem c_ahead (hT : tOk T) (htd : td ≤ 20) (a b : Int32) : ∃ x, qAl T o v td te tf (f8_ahead a b) x ∧ qAl T o v td te tf (f9_ahead a b) x := by
  have hP := hT.2
  refine y_kp hT htd a b (fun m e => by unfold f8_ahead; rw [e, if_pos rfl]) (fun m e => by unfold f9_ahead; rw [e]; rfl) (fun m e1 e2 => by unfold f8_ahead; rw [e1, if_neg n01, e2, if_pos rfl]) (fun m e1 e2 => by unfold f9_ahead; rw [e1, Option.bind_some, if_neg n01, e2]; rfl) (fun k p hk hp ea eb hk' => ?_)
  subst ea eb
  by_cases e0 : q_W (q_nd te tf k) (tP T) 0 = 0
  · refine ⟨-2, fun m h hl => ?_, fun m h hl => ?_⟩
    · unfold f8_ahead f2_all
      rw [(hk' m hl).1, if_neg n01, p8_isPerson_y h hp, if_neg n01, h.ox, h.P]
      refine zw_b (p2_weigh hT hl hk) ?_
      rintro m1 ⟨hf, hq⟩
      rw [Option.bind_some, show (0 : Int32).toNatClampNeg = 0 from rfl, hq.2.2.2 0 (Nat.two_pow_pos _), if_pos e0]
      exact zw_some.mpr ⟨rfl, zk_lc hf⟩
    · unfold f9_ahead
      refine zw_eq (hk' m hl).2 ?_
      rw [if_neg n01]
      refine zw_eq (p9_isPerson_y h hp) ?_
      rw [if_neg n01]
      refine zw_b (p9_countsBy h hl hk) ?_
      rintro ⟨x, m1⟩ ⟨ex, hf, hq⟩
      have ex' : x = _ := ex
      simp only [z_u2]
      rw [ex', if_pos e0]
      exact zw_some.mpr ⟨rfl, hf⟩
  · refine ⟨q_mk (q_ahc (q_nd te tf k) (tP T) p) (tP T), fun m h hl => ?_, fun m h hl => ?_⟩
    · unfold f8_ahead f2_all
      rw [(hk' m hl).1, if_neg n01, p8_isPerson_y h hp, if_neg n01, h.ox, h.P]
      refine zw_b (p2_weigh hT hl hk) ?_
      rintro m1 ⟨hf, hq⟩
      have h1 := q_T_q h (zk_lc hf)
      have eA : m1.1 19 0 0 = q_W (q_nd te tf k) (tP T) 0 := hq.2.2.2 0 (Nat.two_pow_pos _)
      rw [Option.bind_some, show (0 : Int32).toNatClampNeg = 0 from rfl, eA, if_neg e0]
      refine zw_eq (z_it_e (e := q_mk (q_ahc (q_nd te tf k) (tP T) p) (tP T)) (fun i => (q_mk (q_ahc (q_nd te tf k) (tP T) p) i, nI i)) (tP T) rfl (fun i hi => ?_) ?_ (z_fu_lt (by omega))) (zw_some.mpr ⟨rfl, zk_lc hf⟩)
      · unfold f8_ahead_L10 f2_all
        simp (disch := omega) only [z_u2, h1.ox, h1.P, y_lt, hi, ↓reduceIte, p2_timesAhead hP hq hi hp, Option.bind_some, z_let, y_eq, y_s1, show (0 : Int32).toNatClampNeg = 0 from rfl, eA]
        rw [q_mk]
        unfold q_ahc
        by_cases c1 : i = p
        · rw [if_pos c1, decide_eq_true c1]; rfl
        · rw [if_neg c1, decide_eq_false c1]
          by_cases c2 : q_ahd (q_nd te tf k) (tP T) i p = q_W (q_nd te tf k) (tP T) 0
          · rw [if_pos c2, decide_eq_true c2]; rfl
          · rw [if_neg c2, decide_eq_false c2]; rfl
      · unfold f8_ahead_L10
        simp (disch := omega) only [z_u2, h1.ox, h1.P, y_lt, Nat.lt_irrefl, ↓reduceIte]
    · unfold f9_ahead
      refine zw_eq (hk' m hl).2 ?_
      rw [if_neg n01]
      refine zw_eq (p9_isPerson_y h hp) ?_
      rw [if_neg n01]
      refine zw_b (p9_countsBy h hl hk) ?_
      rintro ⟨x, m1⟩ ⟨ex, hf, hq⟩
      have ex' : x = _ := ex
      have hf' : zk sQ m m1 := hf
      simp only [z_u2]
      rw [ex', if_neg e0]
      refine zw_b (zw_for2 (Q := fun q => q.1 = q_mk (q_ahc (q_nd te tf k) (tP T) p) (tP T) ∧ zk sQ m q.2) (tP T) (fun i a m2 => a = q_mk (q_ahc (q_nd te tf k) (tP T) p) i ∧ zk sQ m m2) (by omega) ⟨rfl, hf'⟩ ?_ ?_) (fun q hq => zw_some.mpr hq)
      · rintro i a m2 hi ⟨rfl, hf2⟩
        have h2 := q_T_q h hf2
        have hx := h2.mx
        obtain ⟨hv, h9, _, h1, _⟩ := hx
        have hs : q_mk (q_ahc (q_nd te tf k) (tP T) p) (i + 1) = if q_ahc (q_nd te tf k) (tP T) p i then q_mk (q_ahc (q_nd te tf k) (tP T) p) i ||| (1 <<< (nI i &&& 31)) else q_mk (q_ahc (q_nd te tf k) (tP T) p) i := rfl
        unfold f9_ahead_L11
        simp (disch := omega) only [z_u3, h9, h1, y_in, y_cl, y_lt, hi, ↓reduceIte, y_eq]
        by_cases c1 : i = p
        · rw [if_pos c1]
          refine zw_some.mpr ⟨y_s1 i, ?_, hf2⟩
          show q_mk (q_ahc (q_nd te tf k) (tP T) p) i = q_mk (q_ahc (q_nd te tf k) (tP T) p) (i + 1)
          rw [hs]
          unfold q_ahc
          rw [decide_eq_true c1]; rfl
        · rw [if_neg c1, Option.bind_assoc]
          refine zw_b (p9_beforeBy h2 (q_L_q hl hf2) hk hi hp) ?_
          rintro ⟨y, m3⟩ ⟨ey, hf3⟩
          have ey' : y = _ := ey
          have hf3' : zk sQ m m3 := zk_t hf2 hf3
          simp only [z_u2, z_let]
          rw [ey']
          by_cases c2 : q_ahd (q_nd te tf k) (tP T) i p = q_W (q_nd te tf k) (tP T) 0
          · rw [if_pos c2]
            refine zw_some.mpr ⟨y_s1 i, ?_, hf3'⟩
            show _ = q_mk (q_ahc (q_nd te tf k) (tP T) p) (i + 1)
            rw [hs]
            have ec : q_ahc (q_nd te tf k) (tP T) p i = true := by unfold q_ahc; rw [decide_eq_false c1, decide_eq_true c2]; rfl
            rw [ec, if_pos rfl]
          · rw [if_neg c2]
            refine zw_some.mpr ⟨y_s1 i, ?_, hf3'⟩
            show _ = q_mk (q_ahc (q_nd te tf k) (tP T) p) (i + 1)
            rw [hs]
            have ec : q_ahc (q_nd te tf k) (tP T) p i = false := by unfold q_ahc; rw [decide_eq_false c1, decide_eq_false c2]; rfl
            rw [ec, y_ff]
      · rintro a m2 hI
        obtain ⟨hv, h9, _, h1, _⟩ := (q_T_q h hI.2).mx
        unfold f9_ahead_L11
        simp (disch := omega) only [z_u3, h9, h1, y_in, y_cl, y_lt, Nat.lt_irrefl, ↓reduceIte]
        exact zw_some.mpr hI
end
