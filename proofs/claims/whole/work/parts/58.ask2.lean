/-! LETTERS IV: ask -/
def q_wo (all g : Int32) : Int32 := if all - g < g then g else all - g
theorem q_wo_max (all g : Int32) : fj9_max_7cf53 g (all - g) = q_wo all g := by
  unfold fj9_max_7cf53 q_wo
  by_cases c1 : g < all - g
  · rw [if_pos c1, if_neg (by rw [y_i] at *; omega)]
  · rw [if_neg c1]
    by_cases c2 : all - g < g
    · rw [if_pos c2]
    · rw [if_neg c2]
      rw [y_i] at c1 c2
      exact Int32.toInt_inj.mp (by omega)
def q_s1 (x : Option (Nat × Int32)) (c : Nat) (w : Int32) : Option (Nat × Int32) := match x with
  | none => some (c, w)
  | some (d, y) => if w < y then some (c, w) else some (d, y)
def q_ai (g : Nat → Nat → Int32) (all : Int32) (p : Nat) : Nat → Option (Nat × Int32) → Option (Nat × Int32)
  | 0, x => x
  | k + 1, x => q_s1 (q_ai g all p k x) (10 * p + (p + 1 + k)) (q_wo all (g p (p + 1 + k)))
def q_ao (g : Nat → Nat → Int32) (all : Int32) (n : Nat) : Nat → Option (Nat × Int32)
  | 0 => none
  | p + 1 => q_ai g all p (n - (p + 1)) (q_ao g all n p)
def q_xb (x : Option (Nat × Int32)) : Prop := ∀ c y, x = some (c, y) → c < 1000
theorem q_s1_b {x : Option (Nat × Int32)} {c : Nat} {w : Int32} (h : q_xb x) (hc : c < 1000) : q_xb (q_s1 x c w) := by
  intro d y e
  unfold q_s1 at e
  match x, h, e with
  | none, _, e => cases e; exact hc
  | some (d', y'), h, e =>
    by_cases c1 : w < y'
    · have e' : (if w < y' then some (c, w) else some (d', y')) = some (d, y) := e
      rw [if_pos c1] at e'; cases e'; exact hc
    · have e' : (if w < y' then some (c, w) else some (d', y')) = some (d, y) := e
      rw [if_neg c1] at e'; exact h d y e'
theorem q_ai_b {g : Nat → Nat → Int32} {all : Int32} {p : Nat} (hp : p < 7) {x : Option (Nat × Int32)} (h : q_xb x) : ∀ k, k < 7 → q_xb (q_ai g all p k x)
  | 0, _ => h
  | k + 1, hk => q_s1_b (q_ai_b hp h k (by omega)) (by omega)
theorem q_ao_b {g : Nat → Nat → Int32} {all : Int32} {n : Nat} (hn : n ≤ 7) : ∀ p, p ≤ n → q_xb (q_ao g all n p)
  | 0, _ => fun c y e => by cases e
  | p + 1, hp => q_ai_b (by omega) (q_ao_b hn p (by omega)) _ (by omega)
/-- as the class, as the reference hold it -/
def q_x1 (z : Int32) (x : Option (Nat × Int32)) : Int32 := match x with
  | none => -2
  | some (c, _) => nI c
def q_x2 (z : Int32) (x : Option (Nat × Int32)) : Int32 := match x with
  | none => z
  | some (_, y) => y
section
variable {T : qT} {o v td : Nat} {te tf : Nat → Nat} {m m' : zMem} {nd : Nat → Int32} {n : Nat}
theorem p8_ask13 (hT : tOk T) (h : qI_T T o v m) (hq : qLt m nd (tP T)) {all : Int32} {p : Nat} (hp : p < tP T) (x : Option (Nat × Int32)) (hx : q_xb x) : z_it (f8_ask_L13 m all (nI p)) z_fu (q_x1 all x, q_x2 all x, nI (p + 1)) = some (q_x1 all (q_ai (q_ahd nd (tP T)) all p (tP T - (p + 1)) x), q_x2 all (q_ai (q_ahd nd (tP T)) all p (tP T - (p + 1)) x)) := by
  have hP := hT.2
  refine z_it_e (fun k => (q_x1 all (q_ai (q_ahd nd (tP T)) all p k x), q_x2 all (q_ai (q_ahd nd (tP T)) all p k x), nI (p + 1 + k))) (tP T - (p + 1)) _ rfl (fun k hk => ?_) ?_ (z_fu_lt (by omega))
  · have hb := q_ai_b (g := q_ahd nd (tP T)) (all := all) (show p < 7 by omega) hx k (by omega)
    show f8_ask_L13 m all (nI p) (q_x1 all (q_ai (q_ahd nd (tP T)) all p k x), q_x2 all (q_ai (q_ahd nd (tP T)) all p k x), nI (p + 1 + k)) = some (Sum.inl (q_x1 all (q_s1 (q_ai (q_ahd nd (tP T)) all p k x) (10 * p + (p + 1 + k)) (q_wo all (q_ahd nd (tP T) p (p + 1 + k)))), q_x2 all (q_s1 (q_ai (q_ahd nd (tP T)) all p k x) (10 * p + (p + 1 + k)) (q_wo all (q_ahd nd (tP T) p (p + 1 + k)))), nI (p + 1 + (k + 1))))
    generalize q_ai (q_ahd nd (tP T)) all p k x = y at *
    have hk' : p + 1 + k < tP T := by omega
    unfold f8_ask_L13
    have e10 : (10 : Int32) * nI p + nI (p + 1 + k) = nI (10 * p + (p + 1 + k)) := by rw [show (10 : Int32) = nI 10 from rfl, pk_mul, nI_add]
    simp (disch := omega) only [z_u3, h.ox, h.P, y_lt, hk', ↓reduceIte, p2_timesAhead hP hq hp hk', Option.bind_some, z_let, q_wo_max, e10, y_s1]
    match y, hb with
    | none, _ => rfl
    | some (c, w), hb =>
      have hc := hb c w rfl
      show ((if nI c = -2 then _ else (if q_wo all (q_ahd nd (tP T) p (p + 1 + k)) < w then some (nI (10 * p + (p + 1 + k)), q_wo all (q_ahd nd (tP T) p (p + 1 + k))) else some (nI c, w))) : Option (Int32 × Int32)).bind _ = some (Sum.inl (q_x1 all (if q_wo all (q_ahd nd (tP T) p (p + 1 + k)) < w then some (10 * p + (p + 1 + k), q_wo all (q_ahd nd (tP T) p (p + 1 + k))) else some (c, w)), q_x2 all (if q_wo all (q_ahd nd (tP T) p (p + 1 + k)) < w then some (10 * p + (p + 1 + k), q_wo all (q_ahd nd (tP T) p (p + 1 + k))) else some (c, w)), _))
      rw [if_neg (show ¬ nI c = -2 by rw [y_ne2 (by omega)]; exact id)]
      by_cases c1 : q_wo all (q_ahd nd (tP T) p (p + 1 + k)) < w
      · rw [if_pos c1, if_pos c1]; rfl
      · rw [if_neg c1, if_neg c1]; rfl
  · rw [show p + 1 + (tP T - (p + 1)) = tP T by omega]
    unfold f8_ask_L13
    simp (disch := omega) only [z_u3, h.ox, h.P, y_lt, Nat.lt_irrefl, ↓reduceIte]
theorem p9_ask15 (hT : tOk T) (h : qI_T T o v m) (hl : qI_L T td te tf m) {k : Nat} (hk : k ≤ td) {all : Int32} {p : Nat} (hp : p < tP T) (x : Option (Nat × Int32)) (hx : q_xb x) : zw (z_it (f9_ask_L15 (nI k) all (nI p)) z_fu (q_x1 0 x, q_x2 0 x, nI (p + 1), m)) fun q => q.1 = q_x1 0 (q_ai (q_ahd (q_nd te tf k) (tP T)) all p (tP T - (p + 1)) x) ∧ q.2.1 = q_x2 0 (q_ai (q_ahd (q_nd te tf k) (tP T)) all p (tP T - (p + 1)) x) ∧ zk sQ m q.2.2 := by
  have hP := hT.2
  refine zw_forG (tP T - (p + 1)) (fun j s => s.1 = q_x1 0 (q_ai (q_ahd (q_nd te tf k) (tP T)) all p j x) ∧ s.2.1 = q_x2 0 (q_ai (q_ahd (q_nd te tf k) (tP T)) all p j x) ∧ s.2.2.1 = nI (p + 1 + j) ∧ zk sQ m s.2.2.2) (by omega) ⟨rfl, rfl, rfl, zk_r m⟩ ?_ ?_
  · rintro j ⟨s1, s2, s3, m1⟩ hj ⟨e1, e2, e3, hf⟩
    have e1' : s1 = _ := e1
    have e2' : s2 = _ := e2
    have e3' : s3 = _ := e3
    have hf' : zk sQ m m1 := hf
    subst e1' e2' e3'
    have h1 := q_T_q h hf'
    have hx1 := h1.mx
    obtain ⟨hv, h9, _, h2, _⟩ := hx1
    have hb := q_ai_b (g := q_ahd (q_nd te tf k) (tP T)) (all := all) (show p < 7 by omega) hx j (by omega)
    have hs : q_ai (q_ahd (q_nd te tf k) (tP T)) all p (j + 1) x = q_s1 (q_ai (q_ahd (q_nd te tf k) (tP T)) all p j x) (10 * p + (p + 1 + j)) (q_wo all (q_ahd (q_nd te tf k) (tP T) p (p + 1 + j))) := rfl
    rw [hs]
    generalize q_ai (q_ahd (q_nd te tf k) (tP T)) all p j x = y at *
    have hj' : p + 1 + j < tP T := by omega
    unfold f9_ask_L15
    simp (disch := omega) only [z_u4, h9, h2, y_in, y_cl, y_lt, hj', ↓reduceIte]
    refine zw_b (p9_beforeBy h1 (q_L_q hl hf') hk hp hj') ?_
    rintro ⟨g, m2⟩ ⟨eg, hf2⟩
    have eg' : g = q_ahd (q_nd te tf k) (tP T) p (p + 1 + j) := eg
    subst eg'
    have hf2' : zk sQ m m2 := zk_t hf' hf2
    have e10 : (10 : Int32) * nI p + nI (p + 1 + j) = nI (10 * p + (p + 1 + j)) := by rw [show (10 : Int32) = nI 10 from rfl, pk_mul, nI_add]
    have ew : (if all - q_ahd (q_nd te tf k) (tP T) p (p + 1 + j) < q_ahd (q_nd te tf k) (tP T) p (p + 1 + j) then some (q_ahd (q_nd te tf k) (tP T) p (p + 1 + j)) else some (all - q_ahd (q_nd te tf k) (tP T) p (p + 1 + j))) = some (q_wo all (q_ahd (q_nd te tf k) (tP T) p (p + 1 + j))) := by
      unfold q_wo
      by_cases c : all - q_ahd (q_nd te tf k) (tP T) p (p + 1 + j) < q_ahd (q_nd te tf k) (tP T) p (p + 1 + j)
      · rw [if_pos c, if_pos c]
      · rw [if_neg c, if_neg c]
    simp only [z_u2, z_let]
    rw [ew, Option.bind_some, e10, y_s1]
    match y, hb with
    | none, _ => exact zw_some.mpr ⟨rfl, rfl, rfl, hf2'⟩
    | some (c, w), hb =>
      have hc := hb c w rfl
      generalize q_wo all (q_ahd (q_nd te tf k) (tP T) p (p + 1 + j)) = ww
      show zw (((if nI c < 0 then _ else (if ww < w then some (nI (10 * p + (p + 1 + j)), ww) else some (nI c, w))) : Option (Int32 × Int32)).bind _) _
      rw [if_neg (nI_pos (by omega))]
      by_cases c1 : ww < w
      · rw [if_pos c1]
        refine zw_some.mpr ⟨?_, ?_, rfl, hf2'⟩
        · show _ = q_x1 0 (if ww < w then some (10 * p + (p + 1 + j), ww) else some (c, w))
          rw [if_pos c1]; rfl
        · show _ = q_x2 0 (if ww < w then some (10 * p + (p + 1 + j), ww) else some (c, w))
          rw [if_pos c1]; rfl
      · rw [if_neg c1]
        refine zw_some.mpr ⟨?_, ?_, rfl, hf2'⟩
        · show _ = q_x1 0 (if ww < w then some (10 * p + (p + 1 + j), ww) else some (c, w))
          rw [if_neg c1]; rfl
        · show _ = q_x2 0 (if ww < w then some (10 * p + (p + 1 + j), ww) else some (c, w))
          rw [if_neg c1]; rfl
  · rintro ⟨s1, s2, s3, m1⟩ ⟨e1, e2, e3, hf⟩
    have e3' : s3 = _ := e3
    have hf' : zk sQ m m1 := hf
    rw [show p + 1 + (tP T - (p + 1)) = tP T by omega] at e3'
    subst e3'
    obtain ⟨hv, h9, _, h2, _⟩ := (q_T_q h hf').mx
    unfold f9_ask_L15
    simp (disch := omega) only [z_u4, h9, h2, y_in, y_cl, y_lt, Nat.lt_irrefl, ↓reduceIte]
    exact zw_some.mpr ⟨e1, e2, hf'⟩
theorem c_ask (hT : tOk T) (htd : td ≤ 20) (a : Int32) : ∃ x, qAl T o v td te tf (f8_ask a) x ∧ qAl T o v td te tf (f9_ask a) x := by
  have hP := hT.2
  refine y_kn htd a (fun m e => by unfold f8_ask; rw [e, if_pos rfl]) (fun m e => by unfold f9_ask; rw [e]; rfl) (fun k hk ea hk' => ?_)
  subst ea
  generalize hall : q_W (q_nd te tf k) (tP T) 0 = all
  have s8 : ∀ m x, qI_T T o v m → qI_L T td te tf m → (∀ m1, qI_T T o v m1 → qLt m1 (q_nd te tf k) (tP T) → z_it (f8_ask_L7 m1 all) z_fu (-2, all, 0) = some x) → zw (f8_ask (nI k) m) fun q => q.1 = x ∧ zk sQ m q.2 := fun m x h hl hz => by
    unfold f8_ask f2_all
    rw [(hk' m hl).1, if_neg n01, h.ox, h.P]
    refine zw_b (p2_weigh hT hl hk) ?_
    rintro m1 ⟨hf, hq⟩
    rw [Option.bind_some, show (0 : Int32).toNatClampNeg = 0 from rfl, hq.2.2.2 0 (Nat.two_pow_pos _), hall]
    exact zw_eq (hz m1 (q_T_q h (zk_lc hf)) hq) (zw_some.mpr ⟨rfl, zk_lc hf⟩)
  have s9 : ∀ m x, qI_T T o v m → qI_L T td te tf m → (∀ m1, qI_T T o v m1 → qI_L T td te tf m1 → zw (z_it (f9_ask_L7 (nI k) all) z_fu (-2, 0, 0, m1)) fun q => q.1 = x ∧ zk sQ m1 q.2) → zw (f9_ask (nI k) m) fun q => q.1 = x ∧ zk sQ m q.2 := fun m x h hl hz => by
    unfold f9_ask
    refine zw_eq (hk' m hl).2 ?_
    rw [if_neg n01]
    refine zw_b (p9_countsBy h hl hk) ?_
    rintro ⟨y, m1⟩ ⟨ey, hf, hq⟩
    have ey' : y = _ := ey
    have hf' : zk sQ m m1 := hf
    simp only [z_u2]
    rw [ey', hall]
    exact zw_b (hz m1 (q_T_q h hf') (q_L_q hl hf')) (fun q hq => zw_some.mpr ⟨hq.1, zk_t hf' hq.2⟩)
  by_cases hpos : 0 < all
  · refine ⟨q_x1 0 (q_ao (q_ahd (q_nd te tf k) (tP T)) all (tP T) (tP T)), fun m h hl => s8 m _ h hl (fun m1 h1 hq => ?_), fun m h hl => s9 m _ h hl (fun m1 h1 hl1 => ?_)⟩
    · refine z_it_e (fun i => (q_x1 all (q_ao (q_ahd (q_nd te tf k) (tP T)) all (tP T) i), q_x2 all (q_ao (q_ahd (q_nd te tf k) (tP T)) all (tP T) i), nI i)) (tP T) _ rfl (fun i hi => ?_) ?_ (z_fu_lt (by omega))
      · unfold f8_ask_L7
        simp (disch := omega) only [z_u3, h1.ox, h1.P, y_lt, hi, ↓reduceIte, hpos, y_s1, p8_ask13 hT h1 hq hi _ (q_ao_b hP i (by omega)), Option.bind_some, z_u2]
        rfl
      · unfold f8_ask_L7
        simp (disch := omega) only [z_u3, h1.ox, h1.P, y_lt, Nat.lt_irrefl, ↓reduceIte, hpos]
        cases q_ao (q_ahd (q_nd te tf k) (tP T)) all (tP T) (tP T) <;> rfl
    · refine zw_forG (tP T) (fun i s => s.1 = q_x1 0 (q_ao (q_ahd (q_nd te tf k) (tP T)) all (tP T) i) ∧ s.2.1 = q_x2 0 (q_ao (q_ahd (q_nd te tf k) (tP T)) all (tP T) i) ∧ s.2.2.1 = nI i ∧ zk sQ m1 s.2.2.2) (by omega) ⟨rfl, rfl, rfl, zk_r m1⟩ ?_ ?_
      · rintro i ⟨s1, s2, s3, m2⟩ hi ⟨e1, e2, e3, hf⟩
        have e1' : s1 = _ := e1
        have e2' : s2 = _ := e2
        have e3' : s3 = _ := e3
        have hf' : zk sQ m1 m2 := hf
        subst e1' e2' e3'
        have h2 := q_T_q h1 hf'
        have hx := h2.mx
        obtain ⟨hv, h9, _, h3, _⟩ := hx
        unfold f9_ask_L7
        simp (disch := omega) only [z_u4, h9, h3, y_in, y_cl, y_lt, hi, ↓reduceIte, hpos, y_s1]
        refine zw_b (p9_ask15 hT h2 (q_L_q hl1 hf') hk hi _ (q_ao_b hP i (by omega))) ?_
        rintro ⟨t1, t2, m3⟩ ⟨f1, f2, hf3⟩
        exact zw_some.mpr ⟨f1, f2, rfl, zk_t hf' hf3⟩
      · rintro ⟨s1, s2, s3, m2⟩ ⟨e1, e2, e3, hf⟩
        have e3' : s3 = _ := e3
        have hf' : zk sQ m1 m2 := hf
        subst e3'
        obtain ⟨hv, h9, _, h3, _⟩ := (q_T_q h1 hf').mx
        unfold f9_ask_L7
        simp (disch := omega) only [z_u4, h9, h3, y_in, y_cl, y_lt, Nat.lt_irrefl, ↓reduceIte]
        exact zw_some.mpr ⟨e1, hf'⟩
  · refine ⟨-2, fun m h hl => s8 m _ h hl (fun m1 h1 hq => ?_), fun m h hl => s9 m _ h hl (fun m1 h1 hl1 => ?_)⟩
    · refine z_it_e (fun _ => (-2, all, 0)) 0 _ rfl (fun i hi => absurd hi (by omega)) ?_ (by decide)
      unfold f8_ask_L7
      simp only [z_u3]
      rw [if_neg hpos]
    · obtain ⟨hv, h9, _, h3, _⟩ := h1.mx
      refine zw_forG 0 (fun i s => s = ((-2 : Int32), (0 : Int32), (0 : Int32), m1)) (by omega) rfl (fun i s hi => absurd hi (by omega)) ?_
      rintro s rfl
      unfold f9_ask_L7
      simp only [z_u4]
      rw [h9, if_pos (y_in hv (by omega)), y_cl (by omega), h3]
      by_cases c : (0 : Int32) < nI (tP T)
      · rw [if_pos c, if_neg hpos]; exact zw_some.mpr ⟨rfl, zk_r m1⟩
      · rw [if_neg c]; exact zw_some.mpr ⟨rfl, zk_r m1⟩
end
