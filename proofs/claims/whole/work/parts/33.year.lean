/-! YEARS I: frames of triples, loops that count; the class's Court and Course -/
def zk (S : Nat → Nat → Nat → Prop) (m m' : zMem) : Prop := (∀ c i k, ¬ S c i k → m'.1 c i k = m.1 c i k) ∧ m'.2 = m.2
theorem zk_r {S : Nat → Nat → Nat → Prop} (m : zMem) : zk S m m := ⟨fun _ _ _ _ => rfl, rfl⟩
theorem zk_t {S : Nat → Nat → Nat → Prop} {m m1 m2 : zMem} (h : zk S m m1) (h' : zk S m1 m2) : zk S m m2 := ⟨fun c i k hn => (h'.1 c i k hn).trans (h.1 c i k hn), h'.2.trans h.2⟩
theorem zk_m {S S' : Nat → Nat → Nat → Prop} {m m' : zMem} (h : zk S m m') (hs : ∀ c i k, S c i k → S' c i k) : zk S' m m' := ⟨fun c i k hn => h.1 c i k fun q => hn (hs c i k q), h.2⟩
theorem zk_s {S : Nat → Nat → Nat → Prop} {m m1 : zMem} {c i k : Nat} {x : Int32} (h : zk S m m1) (hs : S c i k) : zk S m (z_sI m1 c i k x) := ⟨fun a b j hn => by
    rw [z_sI_1, if_neg (fun e => hn (by rw [e.1, e.2.1, e.2.2]; exact hs))]
    exact h.1 a b j hn, h.2⟩
theorem zk_u {S : Nat → Nat → Nat → Prop} {m m1 : zMem} {c i : Nat} {f : Nat → Int32} (h : zk S m m1) (hs : ∀ k, S c i k) : zk S m (z_uI m1 c i f) := ⟨fun a b j hn => by
    rw [z_uI_1j, if_neg (fun e => hn (by rw [e.1, e.2]; exact hs j))]
    exact h.1 a b j hn, h.2⟩
theorem zk_f {S : Nat → Nat → Prop} {S' : Nat → Nat → Nat → Prop} {m m' : zMem} (h : z_fr S m m') (hs : ∀ c i k, S c i → S' c i k) : zk S' m m' := ⟨fun c i k hn => congrFun (h.1 c i fun q => hn (hs c i k q)) k, h.2⟩
theorem zw_forG {σ ρ : Type} {body : σ → Option (σ ⊕ ρ)} {Q : ρ → Prop} {s0 : σ} (N : Nat) (I : Nat → σ → Prop) (hN : N < 5000) (h0 : I 0 s0) (hs : ∀ k s, k < N → I k s → zw (body s) (Sum.elim (I (k + 1)) Q)) (he : ∀ s, I N s → zw (body s) (Sum.elim (fun _ => False) Q)) : zw (z_it body z_fu s0) Q :=
  zw_it (fun k s => I k s ∧ k ≤ N) N ⟨h0, Nat.zero_le _⟩ (fun k s h => by
    rcases Nat.lt_or_ge k N with hk | hk
    · refine zw_mono (hs k s hk h.1) fun a ha => ?_
      cases a with
      | inl s' => exact ⟨⟨ha, hk⟩, hk⟩
      | inr e => exact ha
    · have e : k = N := Nat.le_antisymm h.2 hk
      subst e
      refine zw_mono (he s h.1) fun a ha => ?_
      cases a with
      | inl s' => exact ha.elim
      | inr e => exact ha) hN
theorem zw_for {ρ : Type} {body : Int32 × zMem → Option ((Int32 × zMem) ⊕ ρ)} {Q : ρ → Prop} {m0 : zMem} (N : Nat) (I : Nat → zMem → Prop) (hN : N < 5000) (h0 : I 0 m0) (hs : ∀ k m, k < N → I k m → zw (body (nI k, m)) (Sum.elim (fun s => s.1 = nI (k + 1) ∧ I (k + 1) s.2) Q)) (he : ∀ m, I N m → zw (body (nI N, m)) (Sum.elim (fun _ => False) Q)) : zw (z_it body z_fu (0, m0)) Q :=
  zw_forG N (fun k s => s.1 = nI k ∧ I k s.2) hN ⟨rfl, h0⟩ (fun k s hk h => by
    obtain ⟨x, m⟩ := s
    obtain ⟨e, h⟩ := h
    have e' : x = nI k := e
    subst e'
    exact hs k m hk h) (fun s h => by
    obtain ⟨x, m⟩ := s
    obtain ⟨e, h⟩ := h
    have e' : x = nI N := e
    subst e'
    exact he m h)
theorem zw_for2 {ρ : Type} {body : Int32 × Int32 × zMem → Option ((Int32 × Int32 × zMem) ⊕ ρ)} {Q : ρ → Prop} {m0 : zMem} {a : Int32} (N : Nat) (I : Nat → Int32 → zMem → Prop) (hN : N < 5000) (h0 : I 0 a m0) (hs : ∀ k a m, k < N → I k a m → zw (body (a, nI k, m)) (Sum.elim (fun s => s.2.1 = nI (k + 1) ∧ I (k + 1) s.1 s.2.2) Q)) (he : ∀ a m, I N a m → zw (body (a, nI N, m)) (Sum.elim (fun _ => False) Q)) : zw (z_it body z_fu (a, 0, m0)) Q :=
  zw_forG N (fun k s => s.2.1 = nI k ∧ I k s.1 s.2.2) hN ⟨rfl, h0⟩ (fun k s hk h => by
    obtain ⟨y, x, m⟩ := s
    obtain ⟨e, h⟩ := h
    have e' : x = nI k := e
    subst e'
    exact hs k y m hk h) (fun s h => by
    obtain ⟨y, x, m⟩ := s
    obtain ⟨e, h⟩ := h
    have e' : x = nI N := e
    subst e'
    exact he y m h)
theorem qRep.zk {S : Nat → Nat → Nat → Prop} {m m' : zMem} {o : Nat} {T : qT} {r : Nat → Int32} (h : qRep m o T r) (hf : zk S m m') (hs : ∀ k, ¬ S 5 o k ∧ ¬ S 22 o k ∧ ¬ S 23 o k ∧ ¬ S 24 o k ∧ ¬ S 25 o k) : qRep m' o T r := h.fr (funext fun k => hf.1 _ _ _ (hs k).1) (funext fun k => hf.1 _ _ _ (hs k).2.1) (funext fun k => hf.1 _ _ _ (hs k).2.2.1) (funext fun k => hf.1 _ _ _ (hs k).2.2.2.1) (funext fun k => hf.1 _ _ _ (hs k).2.2.2.2)
theorem qTx.zk {S : Nat → Nat → Nat → Prop} {m m' : zMem} {o : Nat} {T : qT} (h : qTx m o T) (hf : zk S m m') (hs : ∀ i k, ¬ S 6 o k ∧ ¬ S 26 i k) : qTx m' o T := h.fr (funext fun k => hf.1 _ _ _ (hs 0 k).1) (funext fun k => hf.1 _ _ _ (hs _ k).2) (funext fun k => hf.1 _ _ _ (hs _ k).2)
theorem qCl.zk {S : Nat → Nat → Nat → Prop} {m m' : zMem} {o : Nat} {T : qT} (h : qCl m o T) (hf : zk S m m') (hs : ∀ k, ¬ S 6 o k ∧ ¬ S 30 o k ∧ ¬ S 29 o k) : qCl m' o T := h.fr (funext fun k => hf.1 _ _ _ (hs k).1) (funext fun k => hf.1 _ _ _ (hs k).2.1) (funext fun k => hf.1 _ _ _ (hs k).2.2)
/-- of how many HOUSES, and with what RENT -/
def q_ls (T : qT) (r : Nat → Int32) (p : Nat) : Nat → Int32 := q_sm fun h => if decide (q_lord T r h = nI p) then 1 else 0
def q_or (T : qT) (r : Nat → Int32) (p : Nat) : Nat → Int32 := q_sm fun h => if decide (q_lord T r h = nI p) then tR T h else 0
theorem q_ls_s (T : qT) (r : Nat → Int32) (p k : Nat) : q_ls T r p (k + 1) = q_ls T r p k + (if decide (q_lord T r k = nI p) then 1 else 0) := rfl
theorem q_or_s (T : qT) (r : Nat → Int32) (p k : Nat) : q_or T r p (k + 1) = q_or T r p k + (if decide (q_lord T r k = nI p) then tR T k else 0) := rfl
def qSeen (m : zMem) (o : Nat) (T : qT) (r : Nat → Int32) : Prop := (∀ h, h < tH T → m.1 10 o h = q_lord T r h) ∧ (∀ p, p < 7 → m.1 11 o p = q_ls T r p (tH T)) ∧ (∀ p, p < 7 → m.1 12 o p = q_or T r p (tH T))
theorem qSeen.zk {S : Nat → Nat → Nat → Prop} {m m' : zMem} {o : Nat} {T : qT} {r : Nat → Int32} (h : qSeen m o T r) (hf : zk S m m') (hs : ∀ k, ¬ S 10 o k ∧ ¬ S 11 o k ∧ ¬ S 12 o k) : qSeen m' o T r := ⟨fun k hk => by rw [hf.1 _ _ _ (hs k).1]; exact h.1 k hk, fun k hk => by rw [hf.1 _ _ _ (hs k).2.1]; exact h.2.1 k hk, fun k hk => by rw [hf.1 _ _ _ (hs k).2.2]; exact h.2.2 k hk⟩
theorem qSeen.cong {m : zMem} {o : Nat} {T : qT} {r r' : Nat → Int32} (h : qSeen m o T r) (e : ∀ h, h < tH T → q_lord T r h = q_lord T r' h) : qSeen m o T r' := ⟨fun k hk => by rw [h.1 k hk, e k hk], fun p hp => by
    rw [h.2.1 p hp]
    exact q_sm_cong fun i hi => by rw [e i hi], fun p hp => by
    rw [h.2.2 p hp]
    exact q_sm_cong fun i hi => by rw [e i hi]⟩
theorem z_l26a (o : Nat) : z_len 26 (2 * o) = 5 := by
  show (if 2 * o % 2 = 0 then 5 else 7) = 5
  rw [if_pos (by omega)]
theorem z_l26b (o : Nat) : z_len 26 (2 * o + 1) = 7 := by
  show (if (2 * o + 1) % 2 = 0 then 5 else 7) = 7
  rw [if_neg (by omega)]
abbrev sLook (o : Nat) : Nat → Nat → Nat → Prop := fun c i _ => (c = 10 ∨ c = 11 ∨ c = 12) ∧ i = o
theorem p1_look {m : zMem} {o0 o1 o2 : Nat} {T : qT} {r : Nat → Int32} (hr : qRep m o2 T r) (hT : tOk T) (ht : qTx m o1 T) : zw (f1_look o0 o1 o2 m) fun m' => zk (sLook o0) m m' ∧ qSeen m' o0 T r := by
  have hH := hT.1
  have hP := hT.2
  unfold f1_look
  refine zw_b (zw_for (Q := fun m1 => zk (sLook o0) m m1 ∧ ∀ p, p < 7 → m1.1 11 o0 p = 0 ∧ m1.1 12 o0 p = 0) 7 (fun k m1 => zk (sLook o0) m m1 ∧ ∀ p, p < k → m1.1 11 o0 p = 0 ∧ m1.1 12 o0 p = 0) (by omega) ⟨zk_r m, fun p hp => absurd hp (by omega)⟩ ?_ ?_) ?_
  · rintro k m1 hk ⟨hf, hz⟩
    unfold f1_look_L1
    simp (disch := omega) only [z_u2, y_7, y_lt, hk, if_true, y_in, y_cl, z_let, y_s1]
    refine zw_some.mpr ⟨rfl, zk_s (zk_s hf ⟨by omega, rfl⟩) ⟨by omega, rfl⟩, fun p hp => ?_⟩
    by_cases e : p = k
    · subst e
      simp [z_sI_1]
    · simp only [z_sI_1, e, and_false, if_false]
      exact hz p (by omega)
  · rintro m1 hI
    unfold f1_look_L1
    simp only [z_u2]
    rw [if_neg (show ¬ nI 7 < 7 by decide)]
    exact zw_some.mpr hI
  · rintro m1 ⟨hf1, hz1⟩
    refine zw_b (zw_for (Q := fun m2 => zk (sLook o0) m m2 ∧ qSeen m2 o0 T r) (tH T) (fun k m2 => zk (sLook o0) m m2 ∧ (∀ h, h < k → m2.1 10 o0 h = q_lord T r h) ∧ (∀ p, p < 7 → m2.1 11 o0 p = q_ls T r p k) ∧ (∀ p, p < 7 → m2.1 12 o0 p = q_or T r p k)) (by omega) ⟨hf1, fun p hp => absurd hp (by omega), fun p hp => (hz1 p hp).1, fun p hp => (hz1 p hp).2⟩ ?_ ?_) (fun m2 h2 => zw_some.mpr h2)
    · rintro k m2 hk ⟨hf, h10, h11, h12⟩
      have ht2 : qTx m2 o1 T := ht.zk hf (fun i k => by omega)
      have hr2 : qRep m2 o2 T r := hr.zk hf (fun k => by omega)
      unfold f1_look_L12
      simp (disch := omega) only [z_u2, ht2.1, y_lt, hk, if_true, p5_landlordOf hr2 hT, Option.bind_some, y_in, y_cl, z_let, z_l26a, y_s1]
      rcases q_lord_in (T := T) (r := r) (h := k) with e | ⟨j, hj, e⟩
      · rw [e, if_pos (by decide)]
        refine zw_some.mpr ⟨rfl, zk_s hf ⟨by omega, rfl⟩, fun h hh => ?_, fun p hp => ?_, fun p hp => ?_⟩
        · rw [z_sI_1]
          by_cases e2 : h = k
          · rw [if_pos ⟨rfl, rfl, e2⟩, e2, e]
          · rw [if_neg (fun q => e2 q.2.2)]
            exact h10 h (by omega)
        · rw [z_sI_1, if_neg (by omega), h11 p hp]
          rw [q_ls_s]
          rw [e, show decide ((-2 : Int32) = nI p) = false from decide_eq_false (fun q => absurd q.symm (by rw [y_ne2 (by omega)]; exact id)), if_neg (by decide), Int32.add_zero]
        · rw [z_sI_1, if_neg (by omega), h12 p hp]
          rw [q_or_s]
          rw [e, show decide ((-2 : Int32) = nI p) = false from decide_eq_false (fun q => absurd q.symm (by rw [y_ne2 (by omega)]; exact id)), if_neg (by decide), Int32.add_zero]
      · rw [e, if_neg (nI_pos (by omega)), if_pos (y_in (by omega) (by omega)), y_cl (by omega)]
        have e26 : m2.1 26 (2 * o1) k = tR T k := ht2.2.2.2.1 k hk
        refine zw_some.mpr ⟨rfl, zk_s (zk_s (zk_s hf ⟨by omega, rfl⟩) ⟨by omega, rfl⟩) ⟨by omega, rfl⟩, fun h hh => ?_, fun p hp => ?_, fun p hp => ?_⟩
        · rw [z_sI_1, if_neg (by omega), z_sI_1, if_neg (by omega), z_sI_1]
          by_cases e2 : h = k
          · rw [if_pos ⟨rfl, rfl, e2⟩, e2, e]
          · rw [if_neg (fun q => e2 q.2.2)]
            exact h10 h (by omega)
        · rw [z_sI_1, if_neg (by omega), z_sI_1]
          rw [q_ls_s]
          by_cases e2 : p = j
          · subst e2
            rw [if_pos ⟨rfl, rfl, rfl⟩, z_sI_1, if_neg (by omega), h11 p hp, e, decide_eq_true rfl, if_pos rfl]
          · rw [if_neg (fun q => e2 q.2.2), z_sI_1, if_neg (by omega), h11 p hp, e, show decide (nI j = nI p) = false from decide_eq_false (by rw [y_eq (by omega) (by omega)]; omega), if_neg (by decide), Int32.add_zero]
        · rw [z_sI_1]
          rw [q_or_s]
          by_cases e2 : p = j
          · subst e2
            rw [if_pos ⟨rfl, rfl, rfl⟩, z_sI_1, if_neg (by omega), z_sI_1, if_neg (by omega), z_sI_1, if_neg (by omega), z_sI_1, if_neg (by omega), h12 p hp, e, e26, decide_eq_true rfl, if_pos rfl]
          · rw [if_neg (fun q => e2 q.2.2), z_sI_1, if_neg (by omega), z_sI_1, if_neg (by omega), h12 p hp, e, show decide (nI j = nI p) = false from decide_eq_false (by rw [y_eq (by omega) (by omega)]; omega), if_neg (by decide), Int32.add_zero]
    · rintro m2 ⟨hf, h10, h11, h12⟩
      have ht2 : qTx m2 o1 T := ht.zk hf (fun i k => by omega)
      unfold f1_look_L12
      simp (disch := omega) only [z_u2, ht2.1, y_lt, Nat.lt_irrefl, if_false]
      exact zw_some.mpr ⟨hf, h10, h11, h12⟩
/-- what a LAW can look at, of a PERSON -/
def q_var (T : qT) (r : Nat → Int32) (p : Nat) : Nat → Int32 := fun j => if j = 0 then q_or T r p (tH T) else if j = 1 then q_age T r p else if j = 2 then r (7 + p) else if j = 3 then r (14 + p) else if j = 4 then r 33 else if j = 5 then q_rh r p (tH T) else if j = 6 then q_ls T r p (tH T) else if j = 7 then nI p else q_bc (q_st T r 0) 7
def q_vaH (T : qT) (r : Nat → Int32) (p h : Nat) : Nat → Int32 := fun j => if j = 0 then tR T h else q_var T r p j
def q_ch (T : qT) (r : Nat → Int32) (k p : Nat) : Int32 := f9_within (tV T k (q_var T r p)) 0 100
def q_rt (T : qT) (r : Nat → Int32) (h : Nat) : Int32 := if q_lord T r h < 0 then 0 else f9_within (tV T 3 (q_vaH T r (q_lord T r h).toNatClampNeg h)) 0 99
theorem q_clamp {c v : Int32} (hc : 0 ≤ c) : fj9_max_7cf53 0 (fj9_min_7cf53 c v) = f9_within v 0 c := by
  unfold fj9_max_7cf53 fj9_min_7cf53 f9_within
  rw [y_il, y_t0] at hc
  simp only [y_i, y_t0]
  by_cases h1 : v.toInt < c.toInt
  · rw [if_pos h1, if_neg (show ¬ c.toInt < v.toInt by omega)]
    by_cases h2 : v.toInt < 0
    · rw [if_pos h2, if_neg (by omega)]
    · rw [if_neg h2]
      by_cases h3 : 0 < v.toInt
      · rw [if_pos h3]
      · rw [if_neg h3]
        exact Int32.toInt_inj.mp (by rw [y_t0]; omega)
  · rw [if_neg h1]
    by_cases h2 : v.toInt < 0
    · exact absurd h2 (by omega)
    · rw [if_neg h2]
      by_cases h3 : c.toInt < v.toInt
      · rw [if_pos h3]
        by_cases h4 : 0 < c.toInt
        · rw [if_pos h4]
        · rw [if_neg h4]
          exact Int32.toInt_inj.mp (by rw [y_t0]; omega)
      · rw [if_neg h3]
        by_cases h4 : 0 < c.toInt
        · rw [if_pos h4]
          exact Int32.toInt_inj.mp (by omega)
        · rw [if_neg h4]
          exact Int32.toInt_inj.mp (by rw [y_t0]; omega)
theorem q_rh_5 {B : Nat} {T : qT} {r : Nat → Int32} (hT : tOk T) (hw : qRow T B r) (p : Nat) : q_rh r p 5 = q_rh r p (tH T) := by
  unfold q_rh
  refine q_sm_to hT.1 fun i h1 h2 => ?_
  rw [hw.2.2.2.2.2.1 i h1 h2, b_0]
  rfl
theorem q_age_rep {m : zMem} {o : Nat} {T : qT} {r : Nat → Int32} (hr : qRep m o T r) {p : Nat} (hp : p < tP T) : m.1 24 o p = q_age T r p := hr.2.2.2.2.2.1 p hp
theorem p1_variableOf {m : zMem} {o0 o1 o2 B : Nat} {T : qT} {r : Nat → Int32} (hr : qRep m o2 T r) (hw : qRow T B r) (hT : tOk T) (ht : qTx m o1 T) (hs : qSeen m o0 T r) {p : Nat} (hp : p < tP T) {j : Nat} (hj : j < 9) : f1_variableOf o0 o1 o2 (nI j) (nI p) (-1) m = some (q_var T r p j) := by
  have hP := hT.2
  have h5 := q_rh_5 hT hw p
  unfold f1_variableOf q_var
  simp (disch := omega) only [y_0, y_1, y_2, y_3, y_4, y_5, y_6, y_7, y_eq, y_in, if_true, y_cl, p5_rightsHeld hr, Option.bind_some]
  have ebc : fj6_bitCount_0f7a4 (m.1 5 o2 1) = q_bc (q_st T r (nI 0)) 7 := by
    rw [p5_home hr hT]
    unfold q_st
    rw [p6_bitCount_mk _ hP, q_bc_mk _ hP]
    rfl
  rw [hs.2.1 p (by omega), hs.2.2 p (by omega), q_age_rep hr hp, hr.2.2.2.1 p (by omega), hr.2.2.2.2.1 p (by omega), hr.1, h5, ebc]
  match j, hj with
  | 0, _ => rfl
  | 1, _ => rfl
  | 2, _ => rfl
  | 3, _ => rfl
  | 4, _ => rfl
  | 5, _ => rfl
  | 6, _ => rfl
  | 7, _ => rfl
  | 8, _ => rfl
theorem p1_variableH {m : zMem} {o0 o1 o2 B : Nat} {T : qT} {r : Nat → Int32} (hr : qRep m o2 T r) (hw : qRow T B r) (hT : tOk T) (ht : qTx m o1 T) (hs : qSeen m o0 T r) {p : Nat} (hp : p < tP T) {h : Nat} (hh : h < tH T) {j : Nat} (hj : j < 9) : f1_variableOf o0 o1 o2 (nI j) (nI p) (nI h) m = some (q_vaH T r p h j) := by
  have hP := hT.2
  have hH := hT.1
  by_cases h0 : j = 0
  · subst h0
    unfold f1_variableOf q_vaH
    rw [if_pos (show nI 0 = 0 from rfl), if_pos rfl, if_neg (show ¬ nI h = -1 by rw [y_ne1 (by omega)]; exact id), z_l26a, if_pos (y_in (by omega) (by omega)), y_cl (by omega), ht.2.2.2.1 h hh]
  · have e := p1_variableOf hr hw hT ht hs hp hj
    unfold f1_variableOf at *
    have hne : ¬ nI j = 0 := by rw [y_eq0 (by omega)]; exact h0
    rw [if_neg hne] at *
    rw [e]
    unfold q_vaH
    rw [if_neg h0]
abbrev sLaw (o : Nat) : Nat → Nat → Nat → Prop := fun c i _ => c = 13 ∧ i = o
theorem p1_chanceOf {m : zMem} {o0 o1 o2 B : Nat} {T : qT} {r : Nat → Int32} (hr : qRep m o2 T r) (hw : qRow T B r) (hT : tOk T) (hl : tLw T) (ht : qTx m o1 T) (hc : qCl m o1 T) (hs : qSeen m o0 T r) {p : Nat} (hp : p < tP T) {k : Nat} (hk : k < 4) : zw (f1_chanceOf o0 o1 o2 (nI k) (nI p) m) fun q => q.1 = q_ch T r k p ∧ zk (sLaw o0) m q.2 := by
  unfold f1_chanceOf
  refine zw_b (p1_valueOf (x := q_var T r p) hc hl (fun m' hf j hj => ?_) hk) ?_
  · have hf' : zk (sLaw o0) m m' := zk_f hf (fun c i k h => h)
    exact p1_variableOf (hr.zk hf' (fun k => by omega)) hw hT (ht.zk hf' (fun i k => by omega)) (hs.zk hf' (fun k => by omega)) hp hj
  · rintro ⟨v, m1⟩ ⟨e, hf⟩
    refine zw_some.mpr ⟨?_, zk_f hf (fun c i k h => h)⟩
    show fj9_max_7cf53 0 (fj9_min_7cf53 100 v) = _
    rw [q_clamp (by decide), show v = tV T k (q_var T r p) from e]
    rfl
theorem p1_rentsOf {m : zMem} {o0 o1 o2 B : Nat} {T : qT} {r : Nat → Int32} (hr : qRep m o2 T r) (hw : qRow T B r) (hT : tOk T) (hl : tLw T) (ht : qTx m o1 T) (hc : qCl m o1 T) (hs : qSeen m o0 T r) {h : Nat} (hh : h < tH T) : zw (f1_rentsOf o0 o1 o2 (nI h) m) fun q => q.1 = q_rt T r h ∧ zk (sLaw o0) m q.2 := by
  have hH := hT.1
  have hP := hT.2
  unfold f1_rentsOf q_rt
  rw [if_pos (y_in (by omega) (by omega)), y_cl (by omega)]
  simp only [z_let]
  rw [hs.1 h hh]
  rcases q_lord_in (T := T) (r := r) (h := h) with e | ⟨p, hp, e⟩
  · rw [e, if_pos (by decide)]
    exact zw_some.mpr ⟨rfl, zk_r m⟩
  · rw [e, if_neg (nI_pos (by omega)), if_neg (nI_pos (by omega)), y_cl (by omega)]
    refine zw_b (p1_valueOf (x := q_vaH T r p h) (k := 3) hc hl (fun m' hf j hj => ?_) (by omega)) ?_
    · have hf' : zk (sLaw o0) m m' := zk_f hf (fun c i k h => h)
      exact p1_variableH (hr.zk hf' (fun k => by omega)) hw hT (ht.zk hf' (fun i k => by omega)) (hs.zk hf' (fun k => by omega)) hp hh hj
    · rintro ⟨v, m1⟩ ⟨e, hf⟩
      refine zw_some.mpr ⟨?_, zk_f hf (fun c i k h => h)⟩
      show fj9_max_7cf53 0 (fj9_min_7cf53 99 v) = _
      rw [q_clamp (by decide), show v = tV T 3 (q_vaH T r p h) from e]
