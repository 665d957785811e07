/-! READ XXI: LAWS: one reading of them; the class -/
abbrev qE (α : Type) : Type := (Nat × Nat) ⊕ (Nat × α)
def e_bd {α β : Type} (x : qE α) (f : Nat → α → qE β) : qE β := Sum.elim Sum.inl (fun p => f p.1 p.2) x
def e_t (K : Nat → Nat) (k t : Nat) : qE Unit := if K t = k then (if t < 400 then .inr (t + 1, ()) else .inl (2, t)) else .inl (1, t)
def e_s (K V : Nat → Nat) (t : Nat) : qE (List qI) := if (x_sum K V 9 0 t).1 = 0 then .inr ((x_sum K V 9 0 t).2.1, (x_sum K V 9 0 t).2.2) else .inl ((x_sum K V 9 0 t).1, (x_sum K V 9 0 t).2.1)
def x_if (K V : Nat → Nat) (t : Nat) : qE qB := e_bd (e_t K 137 t) fun t1 _ => e_bd (e_s K V t1) fun t2 u => e_bd (e_t K 60 t2) fun t3 _ => e_bd (e_s K V t3) fun t4 v => e_bd (e_t K 138 t4) fun t5 _ => e_bd (e_s K V t5) fun t6 w => e_bd (e_t K 139 t6) fun t7 _ => .inr (t7, (u, v, w))
def x_ifl (K V : Nat → Nat) : Nat → Nat → List qB → qE (List qB)
  | 0, t, bs => .inr (t, bs)
  | n + 1, t, bs => if K t = 137 then e_bd (x_if K V t) fun t1 b => x_ifl K V n t1 (bs ++ [b]) else .inr (t, bs)
def x_law (K V : Nat → Nat) (k t : Nat) : qE (List qB × List qI) := e_bd (e_t K (132 + k) t) fun t1 _ => e_bd (e_t K 61 t1) fun t2 _ => e_bd (x_ifl K V 4 t2 []) fun t3 bs => if K t3 = 137 then .inl (2, t3) else e_bd (e_s K V t3) fun t4 f => e_bd (e_t K 59 t4) fun t5 _ => .inr (t5, (bs, f))
section
variable {K V : Nat → Nat} {o t N k d F : Nat} {m m' : zMem} {l l' : List qI}
theorem e_t_ok (h : K t = k) (ht : t < 400) : e_t K k t = .inr (t + 1, ()) := by unfold e_t; rw [if_pos h, if_pos ht]
theorem e_t_x (h : x_t K k t = (F, t, [])) (hF : F ≠ 0) : e_t K k t = .inl (F, t) := by
  unfold x_t at h
  unfold e_t
  by_cases c : K t = k
  · rw [if_pos c] at h ⊢
    by_cases c4 : t < 400
    · rw [if_pos c4] at h
      exact absurd (congrArg Prod.fst h).symm hF
    · rw [if_neg c4] at h ⊢
      have : 2 = F := congrArg Prod.fst h
      rw [this]
  · rw [if_neg c] at h ⊢
    have : 1 = F := congrArg Prod.fst h
    rw [this]
theorem c4_tk {β : Type} {f : Int32 × zMem → Option β} {Q : β → Prop} (ht : t ≤ 400) (h4 : m.1 4 0 4 = nI t) (h7 : m.1 4 0 7 = 0) (h31 : m.1 31 0 t = nI (K t)) (hK : K t < 149) (hk : k < 149)
    (hok : e_t K k t = .inr (t + 1, ()) → K t = k → t < 400 → ∀ m', zk sT m m' → m'.1 4 0 4 = nI (t + 1) → m'.1 4 0 7 = 0 → zw (f (1, m')) Q)
    (hbad : ∀ F m', e_t K k t = .inl (F, t) → (F = 1 ∨ F = 2) → zk sT m m' → m'.1 4 0 4 = nI t → m'.1 4 0 7 = nI F → zw (f (0, m')) Q) : zw ((f4_take (nI k) m).bind f) Q :=
  c4_take (K := K) ht h4 h7 h31 hK hk (fun c c4 m' => hok (e_t_ok c c4) c c4 m') (fun F m' hx hF => hbad F m' (e_t_x hx (by omega)) hF)
/-- a TOKEN, among words -/
theorem c4_tkI {β : Type} {f : Int32 × zMem → Option β} {Q : β → Prop} (hK : ∀ j, K j < 149) (hk : k < 149) (h : c4_in K V o t N m)
    (hok : e_t K k t = .inr (t + 1, ()) → t < 400 → ∀ m', zk sT m m' → c4_in K V o (t + 1) N m' → zw (f (1, m')) Q)
    (hbad : ∀ F m', e_t K k t = .inl (F, t) → (F = 1 ∨ F = 2) → zk sT m m' → m'.1 4 0 4 = nI t → m'.1 4 0 7 = nI F → zw (f (0, m')) Q) : zw ((f4_take (nI k) m).bind f) Q := by
  obtain ⟨ht, hN, h3, h4, h7, h9, h31, h33⟩ := id h
  exact c4_tk (K := K) ht h4 h7 (h31 t (by omega)) (hK t) hk (fun c _ c4 m' f1 g4 g7 => hok c c4 m' f1 (h.fr (zk_TX f1) (by omega) (by omega) g4 g7 (by rw [f1.1 _ _ _ (by omega)]; exact h9))) hbad
/-- a sum, among words -/
theorem c4_sm {β : Type} {f : Int32 × zMem → Option β} {Q : β → Prop} (hK : ∀ j, K j < 149) (hV : ∀ j, K j = 3 → V j < 10000) (h : c4_in K V o t N m)
    (hok : ∀ t' l m', e_s K V t = .inr (t', l) → t < t' → t + l.length ≤ t' → q_wf 15 l 0 1 → zk (sX o) m m' → c4_in K V o t' (N + l.length) m' → q_cs (m'.1 29 o) N l → (∀ a, a < N → m'.1 29 o a = m.1 29 o a) → zw (f (1, m')) Q)
    (hbad : ∀ F t' m', e_s K V t = .inl (F, t') → (F = 1 ∨ F = 2) → t' ≤ 400 → zk (sX o) m m' → m'.1 4 0 4 = nI t' → m'.1 4 0 7 = nI F → zw (f (0, m')) Q) : zw ((f4_rs 9 0 m).bind f) Q := by
  have hg := x_sum_g hV 9 0 rfl (by omega) t h.1
  have hz := p4_sum (o := o) hK hV 9 0 rfl (by omega) t N m h
  have hN := h.2.1
  unfold e_s at hok hbad
  rcases hq : x_sum K V 9 0 t with ⟨F, t', l⟩
  rw [hq] at hg hz hok hbad
  refine zw_b (x := f4_rs 9 0 m) hz ?_
  rintro ⟨q, m1⟩ ⟨f1, p2, p3, p4⟩
  by_cases cF : F = 0
  · subst cF
    obtain ⟨a1, a2, a3, a4, a5⟩ := p3 rfl
    have a1' : q = 1 := a1
    subst a1'
    obtain ⟨g1, g2, g3, g4⟩ := hg.1 rfl
    have g3' : t + l.length ≤ t' := g3
    have g4' := g4 0
    exact hok t' l m1 (by rw [if_pos rfl]) g1 g3 g4' f1 (h.fr f1 g2 (by omega) p2 a2 a3) a4 a5
  · obtain ⟨b1, b2⟩ := p4 cF
    have b1' : q = 0 := b1
    subst b1'
    exact hbad F t' m1 (by rw [if_neg (show ¬ (F, t', l).1 = 0 from cF)]) (hg.2 cF).1 (hg.2 cF).2.2 f1 p2 b2
/-! words of branches -/
def q_bl (b : qB) : Nat := b.1.length + b.2.1.length + 1 + b.2.2.length + 1
def q_cb (c : Nat → Int32) (i : Nat) (b : qB) : Prop := q_cs c i b.1 ∧ q_cs c (i + b.1.length) b.2.1 ∧ c (i + b.1.length + b.2.1.length) = -100 - nI (i + b.1.length + b.2.1.length + 1 + b.2.2.length + 1) ∧ q_cs c (i + b.1.length + b.2.1.length + 1) b.2.2 ∧ c (i + b.1.length + b.2.1.length + 1 + b.2.2.length) = -15
def qk_cp (c : Nat → Int32) : Nat → List qB → Nat → Prop
  | i, [], j => i = j
  | i, b :: bs, j => q_cb c i b ∧ qk_cp c (i + q_bl b) bs j
def q_lwb (b : qB) : Prop := q_wf 16 b.1 0 1 ∧ q_wf 15 b.2.1 0 1 ∧ q_wf 16 b.2.2 0 1
theorem q_lw_of {f : List qI} (hf : q_wf 16 f 0 1) : ∀ {bs : List qB}, (∀ b, b ∈ bs → q_lwb b) → q_lw bs f
  | [], _ => hf
  | (u, v, w) :: bs, h => ⟨(h _ List.mem_cons_self).1, (h _ List.mem_cons_self).2.1, (h _ List.mem_cons_self).2.2, q_lw_of hf fun b hb => h b (List.mem_cons_of_mem _ hb)⟩
theorem q_cb_cong {c c' : Nat → Int32} {i : Nat} {b : qB} (h : ∀ a, i ≤ a → a < i + q_bl b → c' a = c a) (hc : q_cb c i b) : q_cb c' i b := by
  obtain ⟨h1, h2, h3, h4, h5⟩ := hc
  have hl : q_bl b = b.1.length + b.2.1.length + 1 + b.2.2.length + 1 := rfl
  exact ⟨q_cs_cong (fun a h1 h2 => h a (by omega) (by omega)) h1, q_cs_cong (fun a h1 h2 => h a (by omega) (by omega)) h2, by rw [h _ (by omega) (by omega)]; exact h3, q_cs_cong (fun a h1 h2 => h a (by omega) (by omega)) h4, by rw [h _ (by omega) (by omega)]; exact h5⟩
theorem qk_cp_le {c : Nat → Int32} : ∀ {bs : List qB} {i j : Nat}, qk_cp c i bs j → i ≤ j
  | [], i, j, h => by
    have : i = j := h
    omega
  | b :: bs, i, j, h => by
    have := qk_cp_le h.2
    omega
theorem qk_cp_cong {c c' : Nat → Int32} : ∀ {bs : List qB} {i j : Nat}, (∀ a, i ≤ a → a < j → c' a = c a) → qk_cp c i bs j → qk_cp c' i bs j
  | [], _, _, _, h => h
  | b :: bs, i, j, h, hc => by
    have := qk_cp_le hc.2
    exact ⟨q_cb_cong (fun a h1 h2 => h a h1 (by omega)) hc.1, qk_cp_cong (fun a h1 h2 => h a (by omega) h2) hc.2⟩
theorem qk_cp_app {c : Nat → Int32} {b : qB} : ∀ {bs : List qB} {i j : Nat}, qk_cp c i bs j → q_cb c j b → qk_cp c i (bs ++ [b]) (j + q_bl b)
  | [], i, j, h, hb => by
    have e : i = j := h
    subst e
    exact ⟨hb, rfl⟩
  | b' :: bs, i, j, h, hb => ⟨h.1, qk_cp_app h.2 hb⟩
theorem qk_cp_cl {c : Nat → Int32} {f : List qI} {N : Nat} : ∀ {bs : List qB} {i j : Nat}, qk_cp c i bs j → q_cs c j f → c (j + f.length) = -15 → j + f.length < N → q_cl c N i bs f
  | [], i, j, h, h1, h2, h3 => by
    have e : i = j := h
    subst e
    exact ⟨h1, h2, h3⟩
  | (u, v, w) :: bs, i, j, h, h1, h2, h3 => by
    obtain ⟨⟨a1, a2, a3, a4, a5⟩, a6⟩ := h
    have e : i + q_bl (u, v, w) = i + u.length + v.length + 1 + w.length + 1 := by
      show i + (u.length + v.length + 1 + w.length + 1) = _
      omega
    rw [e] at a6
    exact ⟨a1, a2, a3, a4, a5, qk_cp_cl a6 h1 h2 h3⟩
theorem q_cl_cong {c c' : Nat → Int32} {N N' : Nat} (hN : N ≤ N') : ∀ {bs : List qB} {f : List qI} {i : Nat}, (∀ a, a < N → c' a = c a) → q_cl c N i bs f → q_cl c' N' i bs f
  | [], f, i, h, hc => by
    obtain ⟨h1, h2, h3⟩ := hc
    exact ⟨q_cs_cong (fun a _ h2 => h a (by omega)) h1, by rw [h _ h3]; exact h2, by omega⟩
  | (u, v, w) :: bs, f, i, h, hc => by
    obtain ⟨h1, h2, h3, h4, h5, h6⟩ := hc
    have hlt := q_cl_lt h6
    exact ⟨q_cs_cong (fun a _ h2 => h a (by omega)) h1, q_cs_cong (fun a _ h2 => h a (by omega)) h2, by rw [h _ (by omega)]; exact h3, q_cs_cong (fun a _ h2 => h a (by omega)) h4, by rw [h _ (by omega)]; exact h5, q_cl_cong hN h h6⟩
/-! the class -/
def c4_pF (o : Nat) (m : zMem) (F t' : Nat) (q : Int32 × zMem) : Prop := q.1 = 0 ∧ (F = 1 ∨ F = 2) ∧ t' ≤ 400 ∧ zk (sX o) m q.2 ∧ q.2.1 4 0 4 = nI t' ∧ q.2.1 4 0 7 = nI F
def c4_pI (K V : Nat → Nat) (o t N : Nat) (m : zMem) (r : qE qB) (q : Int32 × zMem) : Prop := (∀ F t', r = .inl (F, t') → c4_pF o m F t' q) ∧ (∀ t' b, r = .inr (t', b) → q.1 = 1 ∧ zk (sX o) m q.2 ∧ c4_in K V o t' (N + q_bl b) q.2 ∧ N + q_bl b + 2 + t ≤ N + t' ∧ q_cb (q.2.1 29 o) N b ∧ q_lwb b ∧ ∀ a, a < N → q.2.1 29 o a = m.1 29 o a)
theorem c4_pI_l {r : qE qB} {q : Int32 × zMem} {t' : Nat} (hr : r = .inl (F, t')) (h : c4_pF o m F t' q) : c4_pI K V o t N m r q := ⟨fun F2 t2 e => by
    rw [hr] at e
    cases e
    exact h, fun t2 b e => by rw [hr] at e; cases e⟩
theorem p4_if (hK : ∀ j, K j < 149) (hV : ∀ j, K j = 3 → V j < 10000) (h : c4_in K V o t N m) : zw (f4_readIf m) (c4_pI K V o t N m (x_if K V t)) := by
  have ht := h.1
  have hN := h.2.1
  unfold f4_readIf x_if
  refine c4_tkI (k := 137) hK (by omega) h ?_ ?_
  · intro e1 c1 m1 f1 i1
    rw [z_u2_ap, if_neg n01, e1]
    refine c4_sm hK hV i1 ?_ ?_
    · intro t2 u m2 e2 l2 g2 w2 f2 i2 s2 b2
      rw [z_u2_ap, if_neg n01]
      refine c4_tkI (k := 60) hK (by omega) i2 ?_ ?_
      · intro e3 c3 m3 f3 i3
        rw [z_u2_ap, if_neg n01]
        refine c4_sm hK hV i3 ?_ ?_
        · intro t4 v m4 e4 l4 g4 w4 f4 i4 s4 b4
          rw [z_u2_ap, if_neg n01]
          refine c4_tkI (k := 138) hK (by omega) i4 ?_ ?_
          · intro e5 c5 m5 f5 i5
            rw [z_u2_ap, if_neg n01]
            simp only [z_let]
            rw [i5.2.2.1, i5.2.2.2.2.2.1]
            refine zw_b (c6_write (o := o) (by omega) i5.2.2.2.2.2.1) ?_
            rintro m6 ⟨f6, v6⟩
            obtain ⟨j1, j2, j3⟩ := v6 (by omega)
            have i6 : c4_in K V o (t4 + 1) (N + u.length + v.length + 1) m6 := i5.fr (zk_WX f6) (by omega) (by omega) (by rw [f6.1 _ _ _ (by omega)]; exact i5.2.2.2.1) (by rw [f6.1 _ _ _ (by omega)]; exact i5.2.2.2.2.1) j1
            refine c4_sm hK hV i6 ?_ ?_
            · intro t7 w m7 e7 l7 g7 w7 f7 i7 s7 b7
              rw [z_u2_ap, if_neg n01]
              refine c4_tkI (k := 139) hK (by omega) i7 ?_ ?_
              · intro e8 c8 m8 f8 i8
                rw [z_u2_ap, if_neg n01, i8.2.2.1]
                refine zw_b (c6_write (o := o) (by omega) i8.2.2.2.2.2.1) ?_
                rintro m9 ⟨f9, v9⟩
                obtain ⟨k1, k2, k3⟩ := v9 (by omega)
                have e43 : m9.2.2 4 0 3 = o := by rw [f9.2]; exact i8.2.2.1
                rw [e43]
                -- the jump
                have hj : f6_jumpHere o (nI (N + u.length + v.length)) m9 = some (z_sI m9 29 o (N + u.length + v.length) (-100 - nI (N + u.length + v.length + 1 + w.length + 1))) := by
                  unfold f6_jumpHere
                  rw [if_neg (nI_pos (by omega)), k1, if_pos (nI_lt (by omega) (by omega)), if_pos (y_in (by omega) (by omega)), y_cl (by omega)]
                  rfl
                rw [hj, Option.bind_some]
                obtain ⟨M, hM⟩ : ∃ M, M = z_sI m9 29 o (N + u.length + v.length) (-100 - nI (N + u.length + v.length + 1 + w.length + 1)) := ⟨_, rfl⟩
                rw [← hM]
                have fM : zk (fun c i k => c = 29 ∧ i = o ∧ k = N + u.length + v.length) m9 M := by rw [hM]; exact zk_s (zk_r m9) ⟨rfl, rfl, rfl⟩
                have MJ : M.1 29 o (N + u.length + v.length) = -100 - nI (N + u.length + v.length + 1 + w.length + 1) := by rw [hM, z_sI_1, if_pos ⟨rfl, rfl, rfl⟩]
                clear hM
                have fall : zk (sX o) m M := zk_t (zk_TX f1) (zk_t f2 (zk_t (zk_TX f3) (zk_t f4 (zk_t (zk_TX f5) (zk_t (zk_WX f6) (zk_t f7 (zk_t (zk_TX f8) (zk_t (zk_WX f9) (zk_m fM (fun c i k q => by omega))))))))))
                refine zw_some.mpr ⟨fun F t' q => ?_, fun t' b q => ?_⟩
                · rw [e_bd, Sum.elim_inr, e2, e_bd, Sum.elim_inr, e3, e_bd, Sum.elim_inr, e4, e_bd, Sum.elim_inr, e5, e_bd, Sum.elim_inr, e7, e_bd, Sum.elim_inr, e8] at q
                  cases q
                · rw [e_bd, Sum.elim_inr, e2, e_bd, Sum.elim_inr, e3, e_bd, Sum.elim_inr, e4, e_bd, Sum.elim_inr, e5, e_bd, Sum.elim_inr, e7, e_bd, Sum.elim_inr, e8, e_bd, Sum.elim_inr] at q
                  have q' : (Sum.inr (t7 + 1, (u, v, w)) : qE qB) = .inr (t', b) := q
                  cases q'
                  have hl : q_bl (u, v, w) = u.length + v.length + 1 + w.length + 1 := rfl
                  have z1 : q_cs (M.1 29 o) N u := by
                    refine q_cs_cong (fun a h1 h2 => ?_) s2
                    rw [fM.1 _ _ _ (by omega), k3 a (by omega), f8.1 _ _ _ (by omega), b7 a (by omega), j3 a (by omega), f5.1 _ _ _ (by omega), b4 a (by omega), f3.1 _ _ _ (by omega)]
                  have z2 : q_cs (M.1 29 o) (N + u.length) v := by
                    refine q_cs_cong (fun a h1 h2 => ?_) s4
                    rw [fM.1 _ _ _ (by omega), k3 a (by omega), f8.1 _ _ _ (by omega), b7 a (by omega), j3 a (by omega), f5.1 _ _ _ (by omega)]
                  have z3 : q_cs (M.1 29 o) (N + u.length + v.length + 1) w := by
                    refine q_cs_cong (fun a h1 h2 => ?_) s7
                    rw [fM.1 _ _ _ (by omega), k3 a (by omega), f8.1 _ _ _ (by omega)]
                  have z4 : M.1 29 o (N + u.length + v.length + 1 + w.length) = -15 := by
                    rw [fM.1 _ _ _ (by omega)]; exact k2
                  refine ⟨rfl, fall, ?_, by omega, ⟨z1, z2, MJ, z3, z4⟩, ⟨q_wf_more (by omega) w2, w4, q_wf_more (by omega) w7⟩, fun a ha => ?_⟩
                  · refine i8.fr (zk_t (zk_WX f9) (zk_m fM (fun c i k q => by omega))) (by omega) (by omega) ?_ ?_ ?_
                    · rw [fM.1 _ _ _ (by omega), f9.1 _ _ _ (by omega)]; exact i8.2.2.2.1
                    · rw [fM.1 _ _ _ (by omega), f9.1 _ _ _ (by omega)]; exact i8.2.2.2.2.1
                    · rw [fM.1 _ _ _ (by omega), k1]; congr 1; omega
                  · rw [fM.1 _ _ _ (by omega), k3 a (by omega), f8.1 _ _ _ (by omega), b7 a (by omega), j3 a (by omega), f5.1 _ _ _ (by omega), b4 a (by omega), f3.1 _ _ _ (by omega), b2 a (by omega), f1.1 _ _ _ (by omega)]
              · intro F m8 e8 hF f8 g4' g7'
                rw [z_u2_ap, if_pos rfl]
                refine zw_some.mpr (c4_pI_l ?_ ⟨rfl, hF, i7.1, zk_t (zk_TX f1) (zk_t f2 (zk_t (zk_TX f3) (zk_t f4 (zk_t (zk_TX f5) (zk_t (zk_WX f6) (zk_t f7 (zk_TX f8))))))), g4', g7'⟩)
                rw [e_bd, Sum.elim_inr, e2, e_bd, Sum.elim_inr, e3, e_bd, Sum.elim_inr, e4, e_bd, Sum.elim_inr, e5, e_bd, Sum.elim_inr, e7, e_bd, Sum.elim_inr, e8]; rfl
            · intro F t' m7 e7 hF ht' f7 g4' g7'
              rw [z_u2_ap, if_pos rfl]
              refine zw_some.mpr (c4_pI_l ?_ ⟨rfl, hF, ht', zk_t (zk_TX f1) (zk_t f2 (zk_t (zk_TX f3) (zk_t f4 (zk_t (zk_TX f5) (zk_t (zk_WX f6) f7))))), g4', g7'⟩)
              rw [e_bd, Sum.elim_inr, e2, e_bd, Sum.elim_inr, e3, e_bd, Sum.elim_inr, e4, e_bd, Sum.elim_inr, e5, e_bd, Sum.elim_inr, e7]; rfl
          · intro F m5 e5 hF f5 g4' g7'
            rw [z_u2_ap, if_pos rfl]
            refine zw_some.mpr (c4_pI_l ?_ ⟨rfl, hF, i4.1, zk_t (zk_TX f1) (zk_t f2 (zk_t (zk_TX f3) (zk_t f4 (zk_TX f5)))), g4', g7'⟩)
            rw [e_bd, Sum.elim_inr, e2, e_bd, Sum.elim_inr, e3, e_bd, Sum.elim_inr, e4, e_bd, Sum.elim_inr, e5]; rfl
        · intro F t' m4 e4 hF ht' f4 g4' g7'
          rw [z_u2_ap, if_pos rfl]
          refine zw_some.mpr (c4_pI_l ?_ ⟨rfl, hF, ht', zk_t (zk_TX f1) (zk_t f2 (zk_t (zk_TX f3) f4)), g4', g7'⟩)
          rw [e_bd, Sum.elim_inr, e2, e_bd, Sum.elim_inr, e3, e_bd, Sum.elim_inr, e4]; rfl
      · intro F m3 e3 hF f3 g4' g7'
        rw [z_u2_ap, if_pos rfl]
        refine zw_some.mpr (c4_pI_l ?_ ⟨rfl, hF, i2.1, zk_t (zk_TX f1) (zk_t f2 (zk_TX f3)), g4', g7'⟩)
        rw [e_bd, Sum.elim_inr, e2, e_bd, Sum.elim_inr, e3]; rfl
    · intro F t' m2 e2 hF ht' f2 g4' g7'
      rw [z_u2_ap, if_pos rfl]
      refine zw_some.mpr (c4_pI_l ?_ ⟨rfl, hF, ht', zk_t (zk_TX f1) f2, g4', g7'⟩)
      rw [e_bd, Sum.elim_inr, e2]; rfl
  · intro F m1 e1 hF f1 g4' g7'
    rw [z_u2_ap, if_pos rfl]
    refine zw_some.mpr (c4_pI_l ?_ ⟨rfl, hF, ht, zk_TX f1, g4', g7'⟩)
    rw [e1]; rfl
end
