/-! READ XV: the class reads terms -/
abbrev sT : Nat → Nat → Nat → Prop := fun c i k => c = 4 ∧ i = 0 ∧ (k = 4 ∨ k = 7)
abbrev sW (o : Nat) : Nat → Nat → Nat → Prop := fun c i k => (c = 6 ∧ i = o ∧ k = 9) ∨ (c = 29 ∧ i = o)
abbrev sX (o : Nat) : Nat → Nat → Nat → Prop := fun c i k => (c = 4 ∧ i = 0 ∧ (k = 4 ∨ k = 7)) ∨ (c = 6 ∧ i = o ∧ k = 9) ∨ (c = 29 ∧ i = o)
section
variable {K V : Nat → Nat} {o t N k d F : Nat} {m m' : zMem} {l l' : List qI}
theorem p4_kind (ht : t ≤ 400) (h4 : m.1 4 0 4 = nI t) : f4_kind m = some (m.1 31 0 t) := by
  unfold f4_kind
  rw [h4, if_pos (y_in (by omega) (by omega)), y_cl (by omega)]
theorem p4_value (ht : t ≤ 400) (h4 : m.1 4 0 4 = nI t) : f4_value m = some (m.2.1 33 0 t) := by
  unfold f4_value
  rw [h4, if_pos (y_in (by omega) (by omega)), y_cl (by omega)]
theorem c4_take {β : Type} {f : Int32 × zMem → Option β} {Q : β → Prop} (ht : t ≤ 400) (h4 : m.1 4 0 4 = nI t) (h7 : m.1 4 0 7 = 0) (h31 : m.1 31 0 t = nI (K t)) (hK : K t < 149) (hk : k < 149)
    (hok : K t = k → t < 400 → ∀ m', zk sT m m' → m'.1 4 0 4 = nI (t + 1) → m'.1 4 0 7 = 0 → zw (f (1, m')) Q)
    (hbad : ∀ F m', x_t K k t = (F, t, []) → (F = 1 ∨ F = 2) → zk sT m m' → m'.1 4 0 4 = nI t → m'.1 4 0 7 = nI F → zw (f (0, m')) Q) : zw ((f4_take (nI k) m).bind f) Q := by
  unfold f4_take
  rw [h4, if_pos (y_in (by omega) (by omega)), y_cl (by omega), h31]
  by_cases c : K t = k
  · rw [if_pos (show nI (K t) = nI k by rw [c])]
    by_cases c4 : t < 400
    · rw [show (400 : Int32) = nI 400 from rfl, if_pos (nI_lt c4 (by omega))]
      simp only [z_let, Option.bind_some]
      rw [show (z_sI m 4 0 4 (nI t + 1)).1 4 0 7 = 0 by rw [z_sI_1, if_neg (by omega)]; exact h7, if_pos rfl, Option.bind_some]
      exact hok c c4 _ (zk_s (zk_r m) (by omega)) (by rw [z_sI_1, if_pos ⟨rfl, rfl, rfl⟩, y_s1]) (by rw [z_sI_1, if_neg (by omega)]; exact h7)
    · rw [show (400 : Int32) = nI 400 from rfl, if_neg (nI_nlt (by omega) (by omega))]
      simp only [z_let, Option.bind_some]
      rw [show (z_sI m 4 0 7 2).1 4 0 7 = 2 by rw [z_sI_1, if_pos ⟨rfl, rfl, rfl⟩], if_neg (show ¬ (2 : Int32) = 0 by decide), Option.bind_some]
      exact hbad 2 _ (x_t_2 c c4) (Or.inr rfl) (zk_s (zk_r m) (by omega)) (by rw [z_sI_1, if_neg (by omega)]; exact h4) (by rw [z_sI_1, if_pos ⟨rfl, rfl, rfl⟩]; rfl)
  · rw [if_neg (show ¬ nI (K t) = nI k by rw [y_eq (by omega) (by omega)]; exact c)]
    simp only [z_let, Option.bind_some]
    rw [show (z_sI m 4 0 7 1).1 4 0 7 = 1 by rw [z_sI_1, if_pos ⟨rfl, rfl, rfl⟩], if_neg (show ¬ (1 : Int32) = 0 by decide), Option.bind_some]
    exact hbad 1 _ (x_t_1 c) (Or.inl rfl) (zk_s (zk_r m) (by omega)) (by rw [z_sI_1, if_neg (by omega)]; exact h4) (by rw [z_sI_1, if_pos ⟨rfl, rfl, rfl⟩]; rfl)
theorem c6_write {x : Int32} (hN : N ≤ 404) (h9 : m.1 6 o 9 = nI N) : zw (f6_write o x m) fun m' => zk (sW o) m m' ∧ (N < 404 → m'.1 6 o 9 = nI (N + 1) ∧ m'.1 29 o N = x ∧ ∀ a, a ≠ N → m'.1 29 o a = m.1 29 o a) := by
  by_cases c : N < 404
  · rw [p6_write N h9 c]
    refine zw_some.mpr ⟨zk_s (zk_s (zk_r m) (by omega)) (by omega), fun _ => ⟨?_, ?_, fun a ha => ?_⟩⟩
    · rw [z_sI_1, if_pos ⟨rfl, rfl, rfl⟩]
    · rw [z_sI_1, if_neg (by omega), z_sI_1, if_pos ⟨rfl, rfl, rfl⟩]
    · rw [z_sI_1, if_neg (by omega), z_sI_1, if_neg (by omega)]
  · unfold f6_write
    rw [h9, show (404 : Int32) = nI 404 from rfl, if_neg (nI_nlt (by omega) (by omega))]
    exact zw_some.mpr ⟨zk_r m, fun q => absurd q c⟩
theorem q_cs_cong {c c' : Nat → Int32} : ∀ {l : List qI} {a : Nat}, (∀ i, a ≤ i → i < a + l.length → c' i = c i) → q_cs c a l → q_cs c' a l
  | [], _, _, _ => trivial
  | w :: l, a, h, hc => ⟨by rw [h a (Nat.le_refl _) (by show a < a + (l.length + 1); omega)]; exact hc.1, q_cs_cong (fun i h1 h2 => h i (by omega) (by show i < a + (l.length + 1); omega)) hc.2⟩
theorem q_cs_app {c : Nat → Int32} : ∀ {l l' : List qI} {a : Nat}, q_cs c a l → q_cs c (a + l.length) l' → q_cs c a (l ++ l')
  | [], _, _, _, h => h
  | w :: l, l', a, hc, h => ⟨hc.1, q_cs_app hc.2 (by rw [show a + 1 + l.length = a + (w :: l).length by show a + 1 + l.length = a + (l.length + 1); omega]; exact h)⟩
/-- before a term: t TOKENS behind, N words -/
def c4_in (K V : Nat → Nat) (o t N : Nat) (m : zMem) : Prop := t ≤ 400 ∧ N ≤ t + 4 ∧ m.2.2 4 0 3 = o ∧ m.1 4 0 4 = nI t ∧ m.1 4 0 7 = 0 ∧ m.1 6 o 9 = nI N ∧ (∀ j, j < 401 → m.1 31 0 j = nI (K j)) ∧ (∀ j, j < 401 → K j = 3 → m.2.1 33 0 j = lN (V j))
def c4_post (o N : Nat) (m : zMem) (r : qX) (q : Int32 × zMem) : Prop := zk (sX o) m q.2 ∧ q.2.1 4 0 4 = nI r.2.1 ∧ (r.1 = 0 → q.1 = 1 ∧ q.2.1 4 0 7 = 0 ∧ q.2.1 6 o 9 = nI (N + r.2.2.length) ∧ q_cs (q.2.1 29 o) N r.2.2 ∧ ∀ a, a < N → q.2.1 29 o a = m.1 29 o a) ∧ (r.1 ≠ 0 → q.1 = 0 ∧ q.2.1 4 0 7 = nI r.1)
def c4_ok (K V : Nat → Nat) (o : Nat) (f : zMem → Option (Int32 × zMem)) (s : Nat → qX) : Prop := ∀ t N m, c4_in K V o t N m → zw (f m) (c4_post o N m (s t))
theorem c4_in.fr (h : c4_in K V o t N m) (hf : zk (sX o) m m') {t' N' : Nat} (ht : t' ≤ 400) (hN : N' ≤ t' + 4) (h4 : m'.1 4 0 4 = nI t') (h7 : m'.1 4 0 7 = 0) (h9 : m'.1 6 o 9 = nI N') : c4_in K V o t' N' m' := ⟨ht, hN, by rw [hf.2]; exact h.2.2.1, h4, h7, h9, fun j hj => by rw [hf.1 _ _ _ (by omega)]; exact h.2.2.2.2.2.2.1 j hj, fun j hj hk => by rw [hf.2]; exact h.2.2.2.2.2.2.2 j hj hk⟩
theorem c4_post_F {m1 m2 : zMem} {t' : Nat} (hF : F = 1 ∨ F = 2) (hf : zk (sX o) m m1) (h4 : m1.1 4 0 4 = nI t') (h7 : m1.1 4 0 7 = nI F) : c4_post o N m (F, t', l) (0, m1) := ⟨hf, h4, fun q => by have : F = 0 := q; omega, fun _ => ⟨rfl, h7⟩⟩
theorem y_b0 : z_b 0 = true := by decide
theorem y_b1 : z_b 1 = true := by decide
theorem zk_TX (h : zk sT m m') : zk (sX o) m m' := zk_m h (fun c i k e => by omega)
theorem zk_WX (h : zk (sW o) m m') : zk (sX o) m m' := zk_m h (fun c i k e => by omega)
/-- a word is written, then its TOKEN taken -/
theorem c4_word {x : Int32} {w : qI} (hK : ∀ j, K j < 149) (hk : k < 149) (hx : K t = k → x = q_wd w) (h : c4_in K V o t N m) : zw ((f6_write o x m).bind fun qm => (f4_take (nI k) qm).bind (z_u2 fun q35 qm36 => if z_b q35 = true then some (q35, qm36) else none)) (c4_post o N m (x_bd (x_t K k t) fun t1 _ => (0, t1, [w]))) := by
  obtain ⟨ht, hN, h3, h4, h7, h9, h31, h33⟩ := id h
  refine zw_b (c6_write (by omega) h9) ?_
  rintro m1 ⟨f1, w1⟩
  refine c4_take (K := K) ht (by rw [f1.1 _ _ _ (by omega)]; exact h4) (by rw [f1.1 _ _ _ (by omega)]; exact h7) (by rw [f1.1 _ _ _ (by omega)]; exact h31 t (by omega)) (hK t) hk ?_ ?_
  · intro c c4 m2 f2 g4 g7
    rw [z_u2_ap, if_pos y_b1, x_t_ok c c4, x_bd_0]
    obtain ⟨v1, v2, v3⟩ := w1 (by omega)
    refine zw_some.mpr ⟨zk_t (zk_WX f1) (zk_TX f2), g4, fun _ => ⟨rfl, g7, ?_, ⟨?_, trivial⟩, fun a ha => ?_⟩, fun q => absurd rfl q⟩
    · rw [f2.1 _ _ _ (by omega)]; exact v1
    · rw [f2.1 _ _ _ (by omega), v2]; exact hx c
    · rw [f2.1 _ _ _ (by omega)]; exact v3 a (by omega)
  · intro F m2 hx hF f2 g4 g7
    rw [z_u2_ap, if_pos y_b0, hx, x_bd_F (by omega)]
    exact zw_some.mpr (c4_post_F (m2 := m) hF (zk_t (zk_WX f1) (zk_TX f2)) g4 g7)
theorem p4_unit {fr : Int32 → zMem → Option (Int32 × zMem)} {fs : Nat → Nat → qX} (hK : ∀ j, K j < 149) (hd : d ≤ 6) (hr : d < 6 → c4_ok K V o (fr (nI (d + 1))) (fs (d + 1))) (hg : d < 6 → ∀ t, t ≤ 400 → x_g 15 t (fs (d + 1) t)) : c4_ok K V o (f4_readUnit fr (nI d)) (x_unit K V fs d) := by
  intro t N m h
  obtain ⟨ht, hN, h3, h4, h7, h9, h31, h33⟩ := id h
  unfold f4_readUnit x_unit
  rw [p4_kind ht h4, Option.bind_some, Option.bind_some, h31 t (by omega)]
  have hKt := hK t
  by_cases c : K t = 40
  · rw [if_pos c, if_pos (show nI (K t) = 40 by rw [c]; rfl)]
    by_cases cd : d < 6
    · rw [if_pos cd, y_6, if_pos (nI_lt cd (by omega))]
      refine c4_take (K := K) (k := 40) ht h4 h7 (h31 t (by omega)) hKt (by omega) ?_ ?_
      · intro c' c4 m1 f1 g4 g7
        rw [z_u2_ap, if_neg n01, y_s1, x_t_ok c' c4, x_bd_0]
        have i1 : c4_in K V o (t + 1) N m1 := h.fr (zk_TX f1) (by omega) (by omega) g4 g7 (by rw [f1.1 _ _ _ (by omega)]; exact h9)
        have hgd := hg cd (t + 1) (by omega)
        have hz := hr cd (t + 1) N m1 i1
        rcases hq : fs (d + 1) (t + 1) with ⟨F, t2, l2⟩
        rw [hq] at hgd hz
        refine zw_b hz ?_
        rintro ⟨q, m2⟩ ⟨f2, p2, p3, p4⟩
        rw [z_u2_ap]
        have f2' : zk (sX o) m1 m2 := f2
        by_cases cF : F = 0
        · subst cF
          obtain ⟨a1, a2, a3, a4, a5⟩ := p3 rfl
          have a1' : q = 1 := a1
          subst a1'
          obtain ⟨g1, g2, g3, _⟩ := hgd.1 rfl
          have g1' : t + 1 < t2 := g1
          have g2' : t2 ≤ 400 := g2
          have e31 : m2.1 31 0 t2 = nI (K t2) := by rw [f2'.1 _ _ _ (by omega)]; exact i1.2.2.2.2.2.2.1 t2 (by omega)
          rw [if_neg n01, x_bd_0]
          refine c4_take (K := K) (k := 41) g2' p2 a2 e31 (hK t2) (by omega) ?_ ?_
          · intro c'' c4' m3 f3 r4 r7
            rw [z_u2_ap, if_neg n01, x_t_ok c'' c4', x_bd_0]
            refine zw_some.mpr ⟨zk_t (zk_TX f1) (zk_t f2' (zk_TX f3)), r4, fun _ => ⟨rfl, r7, ?_, ?_, fun a ha => ?_⟩, fun q => absurd rfl q⟩
            · rw [f3.1 _ _ _ (by omega)]; exact a3
            · exact q_cs_cong (fun i _ _ => f3.1 _ _ _ (by omega)) a4
            · rw [f3.1 _ _ _ (by omega), a5 a ha, f1.1 _ _ _ (by omega)]
          · intro F m3 hx hF f3 r4 r7
            rw [z_u2_ap, if_pos rfl, hx, x_bd_F (by omega)]
            exact zw_some.mpr (c4_post_F (m2 := m) hF (zk_t (zk_TX f1) (zk_t f2' (zk_TX f3))) r4 r7)
        · obtain ⟨b1, b2⟩ := p4 cF
          have b1' : q = 0 := b1
          subst b1'
          rw [if_pos rfl, x_bd_F cF]
          exact zw_some.mpr (c4_post_F (m2 := m) (hgd.2 cF).1 (zk_t (zk_TX f1) f2') p2 b2)
      · intro F m1 hx hF f1 g4 g7
        rw [z_u2_ap, if_pos rfl, hx, x_bd_F (by omega)]
        exact zw_some.mpr (c4_post_F (m2 := m) hF (zk_TX f1) g4 g7)
    · rw [if_neg cd, y_6, if_neg (nI_nlt (by omega) (by omega))]
      unfold f4_refuse
      simp only [z_let]
      rw [z_u2_ap, if_pos y_b0]
      exact zw_some.mpr (c4_post_F (m2 := m) (Or.inr rfl) (zk_s (zk_r m) (by omega)) (by rw [z_sI_1, if_neg (by omega)]; exact h4) (by rw [z_sI_1, if_pos ⟨rfl, rfl, rfl⟩]; rfl))
  · rw [if_neg c, if_neg (show ¬ nI (K t) = 40 by rw [show (40 : Int32) = nI 40 from rfl, y_eq (by omega) (by omega)]; exact c), show (140 : Int32) = nI 140 from rfl]
    have hs := pk_sub_toInt (a := K t) (b := 140) (by omega) (by omega)
    rw [h3]
    by_cases cl : K t < 140
    · rw [if_neg (show ¬ (140 ≤ K t ∧ K t < 149) by omega), if_pos (show nI (K t) - nI 140 < 0 by rw [y_i, hs, y_t0]; omega), p4_value ht h4, Option.bind_some]
      exact c4_word (k := 3) hK (by omega) (fun e => by rw [h33 t (by omega) e, lN_i]; rfl) h
    · rw [if_pos (show 140 ≤ K t ∧ K t < 149 by omega), if_neg (show ¬ nI (K t) - nI 140 < 0 by rw [y_i, hs, y_t0]; omega), if_pos (show nI (K t) - nI 140 < 9 by rw [y_i, hs, show (9 : Int32).toInt = 9 from rfl]; omega)]
      have key := c4_word (x := (-1 : Int32) - (nI (K t) - nI 140)) (w := (1, K t - 140)) (k := K t) hK hKt (fun _ => by rw [pk_sub (by omega)]; rfl) h
      obtain ⟨q, hq, hp⟩ := key
      refine ⟨q, ?_, hp⟩
      obtain ⟨m1, hm1, f1, _⟩ := c6_write (x := (-1 : Int32) - (nI (K t) - nI 140)) (show N ≤ 404 by omega) h9
      rw [hm1, Option.bind_some] at hq ⊢
      rw [p4_kind ht (show m1.1 4 0 4 = nI t by rw [f1.1 _ _ _ (by omega)]; exact h4), Option.bind_some, f1.1 _ _ _ (by omega), h31 t (by omega)]
      exact hq
end
