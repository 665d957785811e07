/-! READ XXVI: sentences: one reading of them -/
abbrev qZ : Type := Nat × qT × (Nat → Int32) × (Nat → Int32) × (Nat × Nat) × (Nat → Nat) × (Nat → Nat) × (Nat × Nat)
def uN (f : Nat → Nat) (k x : Nat) : Nat → Nat := fun j => if j = k then x else f j
/-- the first doubt stays -/
def z_su (c : Bool) (a p : Nat) (d : Nat × Nat) : Nat × Nat := if c && decide (d.1 = 0) then (a, p) else d
def x_fh (A : Nat → Int64) (hn : Nat → Nat) (H t : Nat) : Option Nat := q_se (fun j => decide (A (hn j) = A t)) H
def e_4 (K : Nat → Nat) (k0 k1 k2 k3 t : Nat) : qE Unit := e_bd (e_t K k0 t) fun t1 _ => e_bd (e_t K k1 t1) fun t2 _ => e_bd (e_t K k2 t2) fun t3 _ => e_t K k3 t3
def e_3 (K : Nat → Nat) (k0 k1 k2 t : Nat) : qE Unit := e_bd (e_t K k0 t) fun t1 _ => e_bd (e_t K k1 t1) fun t2 _ => e_t K k2 t2
def y_house (V S : Nat → Nat) (A : Nat → Int64) : qZ → qZ
  | (t, (H, P, s, R, X, L), W, G, c, hn, pn, d) => (t + 4, (H + 1, P, s, upd R H (nI (V (t + 2))), X, L), W, G, c, uN hn H (t + 1), pn, z_su (decide (99 < V (t + 2))) 5 (S (t + 2)) (z_su ((x_fh A hn H (t + 1)).isSome || (x_fh A pn P (t + 1)).isSome) 3 (S (t + 1)) d))
def y_person (V S : Nat → Nat) (A : Nat → Int64) : qZ → qZ
  | (t, (H, P, s, R, X, L), W, G, c, hn, pn, d) => (t + 4, (H, P + 1, s, R, upd X P (nI (V (t + 2))), L), W, G, c, hn, uN pn P (t + 1), z_su (decide (99 < V (t + 2))) 5 (S (t + 2)) (z_su ((x_fh A hn H (t + 1)).isSome || (x_fh A pn P (t + 1)).isSome) 3 (S (t + 1)) d))
def y_rG (G : Nat → Int32) : Option Nat → Option Nat → Nat → Int32
  | some p, some h => upd G h (G h ||| ((1 : Int32) <<< (nI p &&& 31)))
  | _, _ => G
def y_rD (S : Nat → Nat) (G : Nat → Int32) (t : Nat) (d : Nat × Nat) : Option Nat → Option Nat → Nat × Nat
  | none, none => z_su true 4 (S (t + 2)) (z_su true 4 (S (t + 1)) d)
  | none, some _ => z_su true 4 (S (t + 1)) d
  | some _, none => z_su true 4 (S (t + 2)) d
  | some p, some h => z_su (bt (G h) p) 3 (S (t + 2)) d
def y_right (S : Nat → Nat) (A : Nat → Int64) : qZ → qZ
  | (t, (H, P, s, R, X, L), W, G, c, hn, pn, d) => (t + 4, (H, P, s, R, X, L), W, y_rG G (x_fh A pn P (t + 1)) (x_fh A hn H (t + 2)), (c.1 + 1, c.2), hn, pn, y_rD S G t d (x_fh A pn P (t + 1)) (x_fh A hn H (t + 2)))
def y_aW (W : Nat → Int32) (v : Nat) : Option Nat → Nat → Int32
  | some p => upd W p (nI v)
  | none => W
def y_away (V S : Nat → Nat) (A : Nat → Int64) : qZ → qZ
  | (t, (H, P, s, R, X, L), W, G, c, hn, pn, d) => (t + 4, (H, P, s, R, X, L), y_aW W (V (t + 2)) (x_fh A pn P (t + 1)), G, (c.1, c.2 + 1), hn, pn, z_su (decide (99 < V (t + 2))) 5 (S (t + 2)) (z_su (x_fh A pn P (t + 1)).isNone 4 (S (t + 1)) d))
def y_seed (V : Nat → Nat) : qZ → qZ
  | (t, (H, P, _, R, X, L), W, G, c, hn, pn, d) => (t + 3, (H, P, nI (V (t + 1)), R, X, L), W, G, c, hn, pn, d)
def y_law (k t' : Nat) (x : List qB × List qI) : qZ → qZ
  | (_, (H, P, s, R, X, L), W, G, c, hn, pn, d) => (t', (H, P, s, R, X, fun j => if j = k then x else L j), W, G, c, hn, pn, d)
def x_tell (K V S : Nat → Nat) (A : Nat → Int64) (z : qZ) : (Nat × Nat) ⊕ qZ :=
  if K z.1 = 128 then (if z.2.1.1 < 5 then Sum.map id (fun _ => y_house V S A z) (e_4 K 128 2 3 59 z.1) else .inl (2, z.1))
  else if K z.1 = 129 then (if z.2.1.2.1 < 7 then Sum.map id (fun _ => y_person V S A z) (e_4 K 129 2 3 59 z.1) else .inl (2, z.1))
  else if K z.1 = 130 then (if z.2.2.2.2.1.1 < 20 then Sum.map id (fun _ => y_right S A z) (e_4 K 130 2 2 59 z.1) else .inl (2, z.1))
  else if K z.1 = 131 then (if z.2.2.2.2.1.2 < 7 then Sum.map id (fun _ => y_away V S A z) (e_4 K 131 2 3 59 z.1) else .inl (2, z.1))
  else if K z.1 = 136 then Sum.map id (fun _ => y_seed V z) (e_3 K 136 3 59 z.1)
  else if 132 ≤ K z.1 ∧ K z.1 < 136 then Sum.map id (fun p => y_law (K z.1 - 132) p.1 p.2 z) (x_law K V (K z.1 - 132) z.1)
  else .inl (1, z.1)
def x_text (K V S : Nat → Nat) (A : Nat → Int64) : Nat → qZ → (Nat × Nat) ⊕ qZ
  | 0, z => .inr z
  | n + 1, z => if K z.1 = 0 then .inr z else Sum.elim Sum.inl (fun z' => x_text K V S A n z') (x_tell K V S A z)
/-! the class: doubts, names -/
abbrev l21 : Nat → Prop := fun c => c = 21
abbrev sDb : Nat → Nat → Nat → Prop := fun c i k => c = 4 ∧ i = 0 ∧ (k = 9 ∨ k = 10)
section
variable {K V S : Nat → Nat} {A : Nat → Int64} {o t N k F H P p a : Nat} {m m' : zMem} {d : Nat × Nat} {y : Int64} {c : Bool}
def c4_db (d : Nat × Nat) (m : zMem) : Prop := d.1 ≤ 5 ∧ m.1 4 0 9 = nI d.1 ∧ m.1 4 0 10 = if d.1 = 0 then -1 else nI d.2
theorem c4_db.fr (h : c4_db d m) (h9 : m'.1 4 0 9 = m.1 4 0 9) (h10 : m'.1 4 0 10 = m.1 4 0 10) : c4_db d m' := ⟨h.1, by rw [h9]; exact h.2.1, by rw [h10]; exact h.2.2⟩
theorem z_su_f : z_su false a p d = d := rfl
theorem p4_sus (ha : a ≤ 5) (ha0 : a ≠ 0) (ht : t ≤ 400) (h4 : m.1 4 0 4 = nI t) (h32 : m.1 32 0 t = nI p) (h : c4_db d m) : zw (f4_suspect (nI a) m) fun m' => zk sDb m m' ∧ c4_db (z_su true a p d) m' := by
  obtain ⟨h5, h9, h10⟩ := id h
  unfold f4_suspect z_su
  rw [h9]
  by_cases c : d.1 = 0
  · rw [if_pos (show nI d.1 = 0 by rw [c]; rfl), decide_eq_true c]
    simp only [z_let]
    rw [show (z_sI m 4 0 9 (nI a)).1 4 0 4 = nI t by rw [z_sI_1, if_neg (by omega)]; exact h4, if_pos (y_in (by omega) (by omega)), y_cl (by omega)]
    refine zw_some.mpr ⟨zk_s (zk_s (zk_r m) (by omega)) (by omega), ha, ?_, ?_⟩
    · rw [z_sI_1, if_neg (by omega), z_sI_1, if_pos ⟨rfl, rfl, rfl⟩]; rfl
    · rw [z_sI_1, if_pos ⟨rfl, rfl, rfl⟩, z_sI_1, if_neg (by omega), h32]
      show nI p = if a = 0 then _ else _
      rw [if_neg ha0]; rfl
  · rw [if_neg (show ¬ nI d.1 = 0 by rw [y_eq0 (by omega)]; exact c), decide_eq_false c]
    exact zw_some.mpr ⟨zk_r m, h⟩
theorem p4_susC (ha : a ≤ 5) (ha0 : a ≠ 0) (ht : t ≤ 400) (h4 : m.1 4 0 4 = nI t) (h32 : m.1 32 0 t = nI p) (h : c4_db d m) (c : Bool) {x : Option zMem} (hx : x = if c = true then (f4_suspect (nI a) m).bind (fun q => some q) else some m) : zw x fun m' => zk sDb m m' ∧ c4_db (z_su c a p d) m' := by
  rw [hx]
  cases c
  · rw [y_ff]
    exact zw_some.mpr ⟨zk_r m, h⟩
  · rw [if_pos rfl, zw_bs]
    exact p4_sus ha ha0 ht h4 h32 h
theorem p4_findName {i n : Nat} (hi : i < 2) (hn : n ≤ z_len 21 i) (ht : t ≤ 400) (h4 : m.1 4 0 4 = nI t) : f4_findName i (nI n) m = some (match q_se (fun j => decide (m.2.1 21 i j = m.2.1 33 0 t)) n with | some j => nI j | none => -1) := by
  have hl : z_len 21 i ≤ 7 := by
    rcases (show i = 0 ∨ i = 1 by omega) with h | h <;> subst h <;> decide
  have hlen : Int32.ofNat (z_len 21 i) = nI (z_len 21 i) := rfl
  unfold f4_findName
  rw [z_se (body := f4_findName_L1 i (nI n) m) (s0 := 0) (fun j => decide (m.2.1 21 i j = m.2.1 33 0 t)) nI n nI rfl (fun j hj => ?_) ?_ (by omega)]
  · cases q_se (fun j => decide (m.2.1 21 i j = m.2.1 33 0 t)) n <;> rfl
  · unfold f4_findName_L1
    rw [if_neg (nI_nlt (by omega) (by omega))]
  · unfold f4_findName_L1
    rw [if_pos (nI_lt hj (by omega)), hlen, if_pos (nI_lt (by omega) (by omega)), if_pos (y_in (by omega) (by omega)), p4_value ht h4, Option.bind_some, y_cl (by omega)]
    simp only [q_cmp0]
    by_cases e : m.2.1 21 i j = m.2.1 33 0 t
    · rw [if_pos e, decide_eq_true e, if_pos rfl]
    · rw [if_neg e, decide_eq_false e, y_ff, y_s1]
theorem q_se_lt {f : Nat → Bool} {n j : Nat} (h : q_se f n = some j) : j < n := by
  rcases q_se_sp f n with ⟨h1, _⟩ | ⟨k, hk, h1, _⟩
  · rw [h1] at h; cases h
  · rw [h1] at h; cases h; exact hk
theorem p4_oldName (ht : t ≤ 400) (h3 : m.2.2 4 0 3 = o) (h4 : m.1 4 0 4 = nI t) (h32 : m.1 32 0 t = nI p) (h : c4_db d m) (hH : H ≤ 5) (hP : P ≤ 7) (h60 : m.1 6 o 0 = nI H) (h61 : m.1 6 o 1 = nI P) : zw (f4_suspectOldName m) fun m' => zk sDb m m' ∧ c4_db (z_su ((q_se (fun j => decide (m.2.1 21 0 j = m.2.1 33 0 t)) H).isSome || (q_se (fun j => decide (m.2.1 21 1 j = m.2.1 33 0 t)) P).isSome) 3 p d) m' := by
  have hl0 : z_len 21 0 = 5 := rfl
  have hl1 : z_len 21 1 = 7 := rfl
  refine p4_susC (a := 3) (by omega) (by omega) ht h4 h32 h _ ?_
  unfold f4_suspectOldName
  rw [h3, h60, h61, p4_findName (by omega) (by omega) ht h4, p4_findName (by omega) (by omega) ht h4, Option.bind_some]
  rcases e0 : q_se (fun j => decide (m.2.1 21 0 j = m.2.1 33 0 t)) H with _ | j
  · rw [if_pos rfl, Option.bind_some]
    rcases e1 : q_se (fun j => decide (m.2.1 21 1 j = m.2.1 33 0 t)) P with _ | j
    · rfl
    · have := q_se_lt e1
      show (if nI j = -1 then _ else _) = _
      rw [if_neg (show ¬ nI j = -1 by rw [y_ne1 (by omega)]; exact id)]
      rfl
  · have := q_se_lt e0
    show (if nI j = -1 then _ else _) = _
    rw [if_neg (show ¬ nI j = -1 by rw [y_ne1 (by omega)]; exact id)]
    rfl
theorem q_cmp1 (a c : Int64) : (0 < lg_cmp a c) = (c < a) := by
  unfold lg_cmp
  by_cases h : a > c
  · rw [if_pos h]
    exact propext ⟨fun _ => h, fun _ => by decide⟩
  · rw [if_neg h]
    refine propext ⟨fun q => ?_, fun q => absurd q h⟩
    by_cases e : a = c
    · rw [if_pos e] at q; exact absurd q (by decide)
    · rw [if_neg e] at q; exact absurd q (by decide)
theorem p4_susNum (ht : t ≤ 400) (h4 : m.1 4 0 4 = nI t) (h32 : m.1 32 0 t = nI p) (h : c4_db d m) : zw (f4_suspectNumber m) fun m' => zk sDb m m' ∧ c4_db (z_su (decide (99 < m.2.1 33 0 t)) 5 p d) m' := by
  refine p4_susC (a := 5) (by omega) (by omega) ht h4 h32 h _ ?_
  unfold f4_suspectNumber
  rw [p4_value ht h4, Option.bind_some]
  simp only [q_cmp1]
  by_cases c : 99 < m.2.1 33 0 t
  · rw [if_pos c, decide_eq_true c, if_pos rfl]; rfl
  · rw [if_neg c, decide_eq_false c, y_ff]
def c4_tok (K S : Nat → Nat) (m : zMem) : Prop := ∀ j, j < 401 → m.1 31 0 j = nI (K j) ∧ m.1 32 0 j = nI (S j)
theorem c4_tok.fr {T : Nat → Nat → Nat → Prop} {L : Nat → Prop} (h : c4_tok K S m) (hf : zj T L m m') (hs : ∀ c k, (c = 31 ∨ c = 32) → ¬ T c 0 k) : c4_tok K S m' := fun j hj => ⟨by rw [hf.1 _ _ _ (hs _ _ (by omega))]; exact (h j hj).1, by rw [hf.1 _ _ _ (hs _ _ (by omega))]; exact (h j hj).2⟩
abbrev sNm (i at_ : Nat) : Nat → Nat → Nat → Prop := fun c j k => (c = 4 ∧ j = 0 ∧ (k = 4 ∨ k = 7 ∨ k = 9 ∨ k = 10)) ∨ (c = 26 ∧ j = i ∧ k = at_)
/-- a sentence of two names and a number, or a FAULT -/
def c4_fl (F t' : Nat) (q : Int32 × zMem) : Prop := q.1 = 0 ∧ (F = 1 ∨ F = 2) ∧ t' ≤ 400 ∧ q.2.1 4 0 4 = nI t' ∧ q.2.1 4 0 7 = nI F
theorem p4_named {kw i2 i3 n : Nat} (hK : ∀ j, K j < 149) (hkw : kw < 149) (hi2 : i2 < 2) (hn : n < z_len 21 i2) (hn3 : n < z_len 26 i3) (hl3 : z_len 26 i3 ≤ 7) (ht : t ≤ 400) (h3 : m.2.2 4 0 3 = o) (h4 : m.1 4 0 4 = nI t) (h7 : m.1 4 0 7 = 0) (htk : c4_tok K S m) (hdb : c4_db d m) (hH : H ≤ 5) (hP : P ≤ 7) (h60 : m.1 6 o 0 = nI H) (h61 : m.1 6 o 1 = nI P) : zw (f4_readNamed (nI kw) i2 i3 (nI n) m) fun q => zj (sNm i3 n) l21 m q.2 ∧ (∀ F t', e_4 K kw 2 3 59 t = .inl (F, t') → c4_fl F t' q) ∧ (∀ p, e_4 K kw 2 3 59 t = .inr p → q.1 = 1 ∧ t + 4 ≤ 400 ∧ q.2.1 4 0 4 = nI (t + 4) ∧ q.2.1 4 0 7 = 0 ∧ K (t + 1) = 2 ∧ K (t + 2) = 3 ∧ c4_db (z_su (decide (99 < m.2.1 33 0 (t + 2))) 5 (S (t + 2)) (z_su ((q_se (fun j => decide (m.2.1 21 0 j = m.2.1 33 0 (t + 1))) H).isSome || (q_se (fun j => decide (m.2.1 21 1 j = m.2.1 33 0 (t + 1))) P).isSome) 3 (S (t + 1)) d)) q.2 ∧ q.2.1 26 i3 n = (m.2.1 33 0 (t + 2)).toInt32 ∧ q.2.2.1 21 i2 n = m.2.1 33 0 (t + 1) ∧ ∀ i j, ¬ (i = i2 ∧ j = n) → q.2.2.1 21 i j = m.2.1 21 i j) := by
  have hl : z_len 21 i2 ≤ 7 := by
    rcases (show i2 = 0 ∨ i2 = 1 by omega) with h | h <;> subst h <;> decide
  unfold f4_readNamed e_4
  refine c4_tk (K := K) ht h4 h7 (htk t (by omega)).1 (hK t) hkw ?_ ?_
  · intro e1 _ c1 m1 f1 g14 g17
    rw [z_u2_ap, if_neg n01, e1, e_bd_r]
    have j1 : zj (sNm i3 n) l21 m m1 := zj_k (zk_m f1 (fun c i k e => by omega))
    have t1 : c4_tok K S m1 := htk.fr (zj_k (L := l21) f1) (fun c k e => by omega)
    refine zw_b (p4_oldName (o := o) (H := H) (P := P) (show t + 1 ≤ 400 by omega) (by rw [f1.2]; exact h3) g14 (t1 (t + 1) (by omega)).2 (hdb.fr (f1.1 _ _ _ (by omega)) (f1.1 _ _ _ (by omega))) hH hP (by rw [f1.1 _ _ _ (by omega)]; exact h60) (by rw [f1.1 _ _ _ (by omega)]; exact h61)) ?_
    rintro m2 ⟨f2, db2⟩
    rw [f1.2] at db2
    have g24 : m2.1 4 0 4 = nI (t + 1) := by rw [f2.1 _ _ _ (by omega)]; exact g14
    have t2 : c4_tok K S m2 := t1.fr (zj_k (L := l21) f2) (fun c k e => by omega)
    rw [p4_value (show t + 1 ≤ 400 by omega) g24, Option.bind_some, if_pos (y_in hn (by omega)), y_cl (by omega), f2.2, f1.2]
    simp only [z_let]
    obtain ⟨M, hM⟩ : ∃ M, M = z_sL m2 21 i2 n (m.2.1 33 0 (t + 1)) := ⟨_, rfl⟩
    rw [← hM]
    have M1 : M.1 = m2.1 := by rw [hM]; rfl
    have M22 : M.2.2 = m.2.2 := by rw [hM]; show m2.2.2 = _; rw [f2.2, f1.2]
    have M21 : M.2.1 21 i2 n = m.2.1 33 0 (t + 1) := by rw [hM, z_sL_j, if_pos ⟨rfl, rfl, rfl⟩]
    have M21' : ∀ i j, ¬ (i = i2 ∧ j = n) → M.2.1 21 i j = m.2.1 21 i j := fun i j hij => by rw [hM, z_sL_j, if_neg (fun q => hij q.2), f2.2, f1.2]
    have M33 : ∀ j, M.2.1 33 0 j = m.2.1 33 0 j := fun j => by rw [hM, z_sL_j, if_neg (by omega), f2.2, f1.2]
    have jM : zj (sNm i3 n) l21 m M := by rw [hM]; exact zj_l (zj_t j1 (zj_k (zk_m f2 (fun c i k e => by omega)))) rfl
    clear hM
    have tM : c4_tok K S M := fun j hj => by rw [M1]; exact t2 j hj
    refine c4_tk (K := K) (k := 2) (show t + 1 ≤ 400 by omega) (by rw [M1]; exact g24) (by rw [M1, f2.1 _ _ _ (by omega)]; exact g17) (tM (t + 1) (by omega)).1 (hK _) (by omega) ?_ ?_
    · intro e3 k3 c3 m3 f3 g34 g37
      rw [z_u2_ap, if_neg n01, e3, e_bd_r]
      have j3 : zj (sNm i3 n) l21 m m3 := zj_t jM (zj_k (zk_m f3 (fun c i k e => by omega)))
      have t3 : c4_tok K S m3 := tM.fr (zj_k (L := l21) f3) (fun c k e => by omega)
      have db3 := db2.fr (m' := m3) (by rw [f3.1 _ _ _ (by omega), M1]) (by rw [f3.1 _ _ _ (by omega), M1])
      refine zw_b (p4_susNum (show t + 1 + 1 ≤ 400 by omega) g34 (t3 (t + 1 + 1) (by omega)).2 db3) ?_
      rintro m4 ⟨f4, db4⟩
      rw [f3.2, M33] at db4
      have g44 : m4.1 4 0 4 = nI (t + 1 + 1) := by rw [f4.1 _ _ _ (by omega)]; exact g34
      rw [p4_value (show t + 1 + 1 ≤ 400 by omega) g44, Option.bind_some, if_pos (y_in hn3 (by omega)), f4.2, f3.2, M33]
      obtain ⟨M5, hM5⟩ : ∃ M5, M5 = z_sI m4 26 i3 n (m.2.1 33 0 (t + 1 + 1)).toInt32 := ⟨_, rfl⟩
      rw [← hM5]
      have f5 : zk (fun c j k => c = 26 ∧ j = i3 ∧ k = n) m4 M5 := by rw [hM5]; exact zk_s (zk_r m4) ⟨rfl, rfl, rfl⟩
      have M526 : M5.1 26 i3 n = (m.2.1 33 0 (t + 1 + 1)).toInt32 := by rw [hM5, z_sI_1, if_pos ⟨rfl, rfl, rfl⟩]
      clear hM5
      have j5 : zj (sNm i3 n) l21 m M5 := zj_t j3 (zj_t (zj_k (zk_m f4 (fun c i k e => by omega))) (zj_k (zk_m f5 (fun c i k e => by omega))))
      have t5 : c4_tok K S M5 := (t3.fr (zj_k (L := l21) f4) (fun c k e => by omega)).fr (zj_k (L := l21) f5) (fun c k e => by omega)
      refine c4_tk (K := K) (k := 3) (show t + 1 + 1 ≤ 400 by omega) (by rw [f5.1 _ _ _ (by omega)]; exact g44) (by rw [f5.1 _ _ _ (by omega), f4.1 _ _ _ (by omega)]; exact g37) (t5 (t + 1 + 1) (by omega)).1 (hK _) (by omega) ?_ ?_
      · intro e6 k6 c6 m6 f6 g64 g67
        rw [z_u2_ap, if_neg n01, e6, e_bd_r]
        have t6 : c4_tok K S m6 := t5.fr (zj_k (L := l21) f6) (fun c k e => by omega)
        refine c4_tk (K := K) (k := 59) (show t + 1 + 1 + 1 ≤ 400 by omega) g64 g67 (t6 (t + 1 + 1 + 1) (by omega)).1 (hK _) (by omega) ?_ ?_
        · intro e7 _ c7 m7 f7 g74 g77
          rw [z_u2_ap, if_neg n01, e7]
          have j7 : zj (sNm i3 n) l21 m m7 := zj_t j5 (zj_t (zj_k (zk_m f6 (fun c i k e => by omega))) (zj_k (zk_m f7 (fun c i k e => by omega))))
          refine zw_some.mpr ⟨j7, (fun F t' q => by cases q), fun _ _ => ⟨rfl, by omega, g74, g77, k3, k6, ?_, ?_, ?_, fun i j hij => ?_⟩⟩
          · exact db4.fr (by rw [f7.1 _ _ _ (by omega), f6.1 _ _ _ (by omega), f5.1 _ _ _ (by omega)]) (by rw [f7.1 _ _ _ (by omega), f6.1 _ _ _ (by omega), f5.1 _ _ _ (by omega)])
          · rw [f7.1 _ _ _ (by omega), f6.1 _ _ _ (by omega)]; exact M526
          · rw [f7.2, f6.2, f5.2, f4.2, f3.2]; exact M21
          · rw [f7.2, f6.2, f5.2, f4.2, f3.2]; exact M21' i j hij
        · intro F m7 e7 hF f7 g74 g77
          rw [z_u2_ap, if_pos rfl, e7]
          refine zw_some.mpr ⟨zj_t j5 (zj_t (zj_k (zk_m f6 (fun c i k e => by omega))) (zj_k (zk_m f7 (fun c i k e => by omega)))), fun F2 t2 q => ?_, (fun p q => by cases q)⟩
          cases q
          exact ⟨rfl, hF, by omega, g74, g77⟩
      · intro F m6 e6 hF f6 g64 g67
        rw [z_u2_ap, if_pos rfl, e6, e_bd_l]
        refine zw_some.mpr ⟨zj_t j5 (zj_k (zk_m f6 (fun c i k e => by omega))), fun F2 t2 q => ?_, (fun p q => by cases q)⟩
        cases q
        exact ⟨rfl, hF, by omega, g64, g67⟩
    · intro F m3 e3 hF f3 g34 g37
      rw [z_u2_ap, if_pos rfl, e3, e_bd_l]
      refine zw_some.mpr ⟨zj_t jM (zj_k (zk_m f3 (fun c i k e => by omega))), fun F2 t2 q => ?_, (fun p q => by cases q)⟩
      cases q
      exact ⟨rfl, hF, by omega, g34, g37⟩
  · intro F m1 e1 hF f1 g14 g17
    rw [z_u2_ap, if_pos rfl, e1, e_bd_l]
    refine zw_some.mpr ⟨zj_k (zk_m f1 (fun c i k e => by omega)), fun F2 t2 q => ?_, (fun p q => by cases q)⟩
    cases q
    exact ⟨rfl, hF, ht, g14, g17⟩
end
