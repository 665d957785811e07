/-! READ XXXII: the reference's sentences: doubts, names, numbers -/
abbrev l121 : Nat → Prop := fun c => c = 121
abbrev sWr : Nat → Nat → Nat → Prop := fun c i k => c = 9 ∧ i = 0 ∧ (k = 15 ∨ k = 16)
abbrev sKn : Nat → Nat → Nat → Prop := fun c i k => c = 9 ∧ i = 0 ∧ (k = 11 ∨ k = 13 ∨ k = 14 ∨ k = 15 ∨ k = 16)
section
variable {K V S : Nat → Nat} {A B : Nat → Int64} {e t k F H P p a v : Nat} {m m' : zMem} {d : Nat × Nat} {T : qT} {hn pn : Nat → Nat}
/-- the places: 2000 at most, one behind the other -/
def r9_pl (S : Nat → Nat) (e : Nat) : Prop := (∀ j, S j ≤ 2000) ∧ ∀ i j, i < j → j ≤ e → S i < S j
def r9_db (d : Nat × Nat) (m : zMem) : Prop := d.1 ≤ 5 ∧ m.1 9 0 15 = nI d.1 ∧ (d.1 ≠ 0 → d.2 ≤ 2000 ∧ m.1 9 0 16 = nI d.2)
theorem r9_db.fr (h : r9_db d m) (h15 : m'.1 9 0 15 = m.1 9 0 15) (h16 : m'.1 9 0 16 = m.1 9 0 16) : r9_db d m' := ⟨h.1, by rw [h15]; exact h.2.1, fun q => ⟨(h.2.2 q).1, by rw [h16]; exact (h.2.2 q).2⟩⟩
theorem p9_wrong (ha : a ≤ 5) (ha0 : a ≠ 0) (he : e ≤ 400) (hp : r9_pl S e) (ht : t ≤ e) (htk : r9_tk K V S e m) (h13 : m.1 9 0 13 = 0) (hd : r9_db d m) (hc : d.1 ≠ 0 → d.2 < S t ∨ (d.2 = S t ∧ d.1 ≤ a)) : zw (f9_wrong (nI a) (nI t) m) fun m' => zk sWr m m' ∧ r9_db (z_su true a (S t) d) m' := by
  obtain ⟨h5, h15, h16⟩ := id hd
  have hS := hp.1 t
  unfold f9_wrong z_su
  rw [if_pos (y_in (by omega) (by omega)), y_cl (by omega), (htk t ht).2.1]
  simp only [z_let]
  rw [h13, if_neg (show ¬ (0 : Int32) < 0 by decide), h15]
  by_cases c : d.1 = 0
  · rw [if_pos (show nI d.1 = 0 by rw [c]; rfl), decide_eq_true c]
    refine zw_some.mpr ⟨zk_s (zk_s (zk_r m) (by omega)) (by omega), ha, ?_, fun _ => ⟨hS, ?_⟩⟩
    · rw [z_sI_1, if_neg (by omega), z_sI_1, if_pos ⟨rfl, rfl, rfl⟩]; rfl
    · rw [z_sI_1, if_pos ⟨rfl, rfl, rfl⟩]; rfl
  · obtain ⟨g1, g2⟩ := h16 c
    rw [if_neg (show ¬ nI d.1 = 0 by rw [y_eq0 (by omega)]; exact c), decide_eq_false c, g2]
    rcases hc c with q | ⟨q1, q2⟩
    · rw [if_pos (nI_lt q (by omega))]
      exact zw_some.mpr ⟨zk_r m, hd⟩
    · rw [if_neg (nI_nlt (by omega) (by omega)), if_pos (show nI (S t) = nI d.2 by rw [q1]), if_neg (nI_nlt (by omega) (by omega))]
      exact zw_some.mpr ⟨zk_r m, hd⟩
theorem p9_wrongC (ha : a ≤ 5) (ha0 : a ≠ 0) (he : e ≤ 400) (hp : r9_pl S e) (ht : t ≤ e) (htk : r9_tk K V S e m) (h13 : m.1 9 0 13 = 0) (hd : r9_db d m) (hc : d.1 ≠ 0 → d.2 < S t ∨ (d.2 = S t ∧ d.1 ≤ a)) (c : Bool) {x : Option zMem} (hx : x = if c = true then (f9_wrong (nI a) (nI t) m).bind (fun q => some q) else some m) : zw x fun m' => zk sWr m m' ∧ r9_db (z_su c a (S t) d) m' := by
  rw [hx]
  cases c
  · rw [y_ff]
    exact zw_some.mpr ⟨zk_r m, hd⟩
  · rw [if_pos rfl, zw_bs]
    exact p9_wrong ha ha0 he hp ht htk h13 hd hc
/-- a FAULT: where and which -/
def r9_fl (S : Nat → Nat) (F t : Nat) (m : zMem) : Prop := (F = 1 ∨ F = 2) ∧ m.1 9 0 13 = nI F ∧ m.1 9 0 14 = nI (S t)
theorem p9_boundedF (hF : F = 1 ∨ F = 2) (h : m.1 9 0 13 = nI F) {x : Int32} : f9_bounded x m = some (0, m) := by
  unfold f9_bounded
  rw [h, if_pos (y_F hF).1, p9_failF (by rw [h]; exact (y_F hF).1)]
  rfl
theorem p9_bounded {mx : Nat} (hmx : mx < 10000) (hk : r9_kk K e) (hV : ∀ j, K j = 3 → V j < 10000) (hp : r9_pl S e) (ht : t ≤ e) (htk : r9_tk K V S e m) (h11 : m.1 9 0 11 = nI t) (h13 : m.1 9 0 13 = 0) (hd : r9_db d m) (hc : d.1 ≠ 0 → d.2 < S t) : zw (f9_bounded (nI mx) m) fun q => zk sKn m q.2 ∧ (∀ F, e_t K 3 t = .inl (F, t) → r9_fl S F t q.2) ∧ (e_t K 3 t = .inr (t + 1, ()) → q.1 = nI (V t) ∧ q.2.1 9 0 11 = nI (t + 1) ∧ q.2.1 9 0 13 = 0 ∧ r9_db (z_su (decide (mx < V t)) 5 (S t) d) q.2) := by
  have he := hk.1
  unfold f9_bounded
  rw [h13, if_neg (show ¬ (0 : Int32) < 0 by decide), p9_is (a := 2) (c := 3) hk ht htk h11 h13 (by decide) rfl, Option.bind_some]
  by_cases c : K t = 3
  · have hVt := hV t c
    rw [if_pos c, if_neg n01, h11, if_pos (y_in (by omega) (by omega)), y_cl (by omega), (htk t ht).2.2 c]
    simp only [z_let]
    refine zw_b (p9_wrongC (a := 5) (d := d) (by omega) (by omega) he hp ht htk h13 hd (fun q => Or.inl (hc q)) (decide (mx < V t)) ?_) ?_
    · by_cases cm : mx < V t
      · rw [if_pos (nI_lt cm (by omega)), decide_eq_true cm, if_pos rfl]; rfl
      · rw [if_neg (nI_nlt (by omega) (by omega)), decide_eq_false cm, y_ff]
    rintro m1 ⟨f1, db1⟩
    refine zw_b (p9_goesOn he ht (htk.fr f1 (fun c k e => by omega)) (by rw [f1.1 _ _ _ (by omega)]; exact h11) (by rw [f1.1 _ _ _ (by omega)]; exact h13)) ?_
    rintro m2 ⟨f2, g1, g2⟩
    refine zw_some.mpr ⟨zk_t (zk_m f1 (fun c i k e => by omega)) (zk_m f2 (fun c i k e => by omega)), fun F q => ?_, fun q => ?_⟩
    · by_cases c4 : t < 400
      · rw [e_t_ok c c4] at q; cases q
      · unfold e_t at q
        rw [if_pos c, if_neg c4] at q
        cases q
        exact ⟨Or.inr rfl, g2 c4⟩
    · have c4 := (e_t_r q).2.1
      exact ⟨rfl, (g1 c4).1, (g1 c4).2, db1.fr (f2.1 _ _ _ (by omega)) (f2.1 _ _ _ (by omega))⟩
  · rw [if_neg c, if_pos rfl]
    obtain ⟨m', hm', f1, g1, g2⟩ := p9_fail (F := 1) (Or.inl rfl) he ht htk h11 h13
    rw [show (1 : Int32) = nI 1 from rfl, hm', Option.bind_some]
    refine zw_some.mpr ⟨zk_m f1 (fun c i k e => by omega), fun F q => ?_, fun q => absurd (e_t_r q).1 c⟩
    unfold e_t at q
    rw [if_neg c] at q
    cases q
    exact ⟨Or.inl rfl, g1, g2⟩
/-- the names told, in their order -/
def r9_nm (B : Nat → Int64) (T : qT) (hn pn : Nat → Nat) (m : zMem) : Prop := m.1 9 0 20 = nI (tH T + tP T) ∧ ∃ od : Nat → Nat, (∀ k, k < tH T + tP T → m.1 122 0 k = nI (od k) ∧ ((od k < tH T ∧ m.2.1 121 0 k = B (hn (od k))) ∨ (10 ≤ od k ∧ od k < 10 + tP T ∧ m.2.1 121 0 k = B (pn (od k - 10))))) ∧ (∀ h, h < tH T → ∃ k, k < tH T + tP T ∧ od k = h) ∧ (∀ p, p < tP T → ∃ k, k < tH T + tP T ∧ od k = 10 + p) ∧ ∀ k k', k < k' → k' < tH T + tP T → (od k < 10 ↔ od k' < 10) → od k < od k'
theorem r9_nm.fr (h : r9_nm B T hn pn m) (h20 : m'.1 9 0 20 = m.1 9 0 20) (h122 : m'.1 122 0 = m.1 122 0) (h121 : m'.2.1 121 = m.2.1 121) : r9_nm B T hn pn m' := by
  unfold r9_nm at *
  rw [h20, h122, h121]
  exact h
theorem z_su_2 {c : Bool} (ha : a ≠ 0) : z_su true a p (z_su c a p d) = z_su true a p d := by
  unfold z_su
  cases c
  · rfl
  · by_cases e : d.1 = 0
    · rw [decide_eq_true e]
      show (if (true && decide (a = 0)) = true then (a, p) else (a, p)) = (a, p)
      rw [ite_self]
    · rw [decide_eq_false e]
      show (if (true && decide (d.1 = 0)) = true then (a, p) else d) = d
      rw [decide_eq_false e]; rfl
theorem p9_named (hk : r9_kk K e) (hp : r9_pl S e) (ht : t ≤ e) (htk : r9_tk K V S e m) (h11 : m.1 9 0 11 = nI t) (h13 : m.1 9 0 13 = 0) (hd : r9_db d m) (hc : d.1 ≠ 0 → d.2 < S t) {n : Nat} (hn : n ≤ 12) (h20 : m.1 9 0 20 = nI n) : zw (f9_named m) fun q => q.1 = nI t ∧ zk sKn m q.2 ∧ (∀ F, e_t K 2 t = .inl (F, t) → r9_fl S F t q.2) ∧ (e_t K 2 t = .inr (t + 1, ()) → q.2.1 9 0 11 = nI (t + 1) ∧ q.2.1 9 0 13 = 0 ∧ r9_db (z_su (q_se (fun j => decide (m.2.1 121 0 j = m.2.1 108 0 t)) n).isSome 3 (S t) d) q.2) := by
  have he := hk.1
  unfold f9_named
  refine r9_mu (k := 2) hk (by decide) rfl ht htk h11 h13 ?_ ?_
  · intro e1 k1 c1 m1 f1 g11 g13
    have key : zw (z_it (f9_named_L3 m) z_fu (0, m1)) fun m2 => zk sWr m1 m2 ∧ r9_db (z_su (q_se (fun j => decide (m.2.1 121 0 j = m.2.1 108 0 t)) n).isSome 3 (S t) d) m2 := by
      refine zw_for n (fun i m2 => zk sWr m1 m2 ∧ r9_db (z_su (q_se (fun j => decide (m.2.1 121 0 j = m.2.1 108 0 t)) i).isSome 3 (S t) d) m2) (by omega) ⟨zk_r m1, hd.fr (f1.1 _ _ _ (by omega)) (f1.1 _ _ _ (by omega))⟩ ?_ ?_
      · rintro i m2 hi ⟨f2, db2⟩
        have e20 : m2.1 9 0 20 = nI n := by rw [f2.1 _ _ _ (by omega), f1.1 _ _ _ (by omega)]; exact h20
        have e13 : m2.1 9 0 13 = 0 := by rw [f2.1 _ _ _ (by omega)]; exact g13
        have E2 : m2.2 = m.2 := by rw [f2.2, f1.2]
        unfold f9_named_L3
        rw [z_u2_ap, e20, if_pos (nI_lt hi (by omega)), e13, if_pos rfl, if_pos (y_in (by omega) (by omega)), h11, if_pos (y_in (by omega) (by omega)), y_cl (by omega), y_cl (by omega), E2]
        simp only [q_cmp0]
        have htk2 : r9_tk K V S e m2 := (htk.fr f1 (fun c k e => by omega)).fr f2 (fun c k e => by omega)
        have hc2 : (z_su (q_se (fun j => decide (m.2.1 121 0 j = m.2.1 108 0 t)) i).isSome 3 (S t) d).1 ≠ 0 → (z_su (q_se (fun j => decide (m.2.1 121 0 j = m.2.1 108 0 t)) i).isSome 3 (S t) d).2 < S t ∨ ((z_su (q_se (fun j => decide (m.2.1 121 0 j = m.2.1 108 0 t)) i).isSome 3 (S t) d).2 = S t ∧ (z_su (q_se (fun j => decide (m.2.1 121 0 j = m.2.1 108 0 t)) i).isSome 3 (S t) d).1 ≤ 3) := by
          unfold z_su
          by_cases ex : ((q_se (fun j => decide (m.2.1 121 0 j = m.2.1 108 0 t)) i).isSome && decide (d.1 = 0)) = true
          · rw [if_pos ex]
            exact fun _ => Or.inr ⟨rfl, Nat.le_refl _⟩
          · rw [if_neg ex]
            exact fun q => Or.inl (hc q)
        refine zw_b (p9_wrongC (a := 3) (by omega) (by omega) he hp ht htk2 e13 db2 hc2 (decide (m.2.1 121 0 i = m.2.1 108 0 t)) ?_) ?_
        · by_cases ci : m.2.1 121 0 i = m.2.1 108 0 t
          · rw [if_pos ci, decide_eq_true ci, if_pos rfl]; rfl
          · rw [if_neg ci, decide_eq_false ci, y_ff]
        rintro m3 ⟨f3, db3⟩
        refine zw_some.mpr ⟨y_s1 i, zk_t f2 f3, ?_⟩
        have es : z_su (decide (m.2.1 121 0 i = m.2.1 108 0 t)) 3 (S t) (z_su (q_se (fun j => decide (m.2.1 121 0 j = m.2.1 108 0 t)) i).isSome 3 (S t) d) = z_su (q_se (fun j => decide (m.2.1 121 0 j = m.2.1 108 0 t)) (i + 1)).isSome 3 (S t) d := by
          rw [q_se]
          rcases q_se (fun j => decide (m.2.1 121 0 j = m.2.1 108 0 t)) i with _ | j
          · cases hh : decide (m.2.1 121 0 i = m.2.1 108 0 t) <;> rfl
          · cases hh : decide (m.2.1 121 0 i = m.2.1 108 0 t)
            · rfl
            · exact z_su_2 (by omega)
        rw [es] at db3
        exact db3
      · rintro m2 ⟨f2, db2⟩
        have e20 : m2.1 9 0 20 = nI n := by rw [f2.1 _ _ _ (by omega), f1.1 _ _ _ (by omega)]; exact h20
        unfold f9_named_L3
        rw [z_u2_ap, e20, if_neg (nI_nlt (by omega) (by omega))]
        exact zw_some.mpr ⟨f2, db2⟩
    refine zw_b key ?_
    rintro m2 ⟨f2, db2⟩
    refine zw_some.mpr ⟨h11, zk_t (zk_m f1 (fun c i k e => by omega)) (zk_m f2 (fun c i k e => by omega)), fun F q => ?_, fun _ => ⟨by rw [f2.1 _ _ _ (by omega)]; exact g11, by rw [f2.1 _ _ _ (by omega)]; exact g13, db2⟩⟩
    rw [e1] at q; cases q
  · intro F m1 e1 hF f1 g13 g14
    have e3 : f9_named_L3 m (0, m1) = some (.inr m1) := by
      unfold f9_named_L3
      rw [z_u2_ap, g13, if_neg (y_F hF).2, ite_self]
    rw [show z_fu = 4999 + 1 from rfl, z_it_d e3, Option.bind_some]
    refine zw_some.mpr ⟨h11, zk_m f1 (fun c i k e => by omega), fun F2 q => ?_, fun q => ?_⟩
    · rw [e1] at q
      cases q
      exact ⟨hF, g13, g14⟩
    · rw [e1] at q; cases q
/-- a NAME of a sort -/
theorem p9_known {l n : Nat} (hl : l ≤ 10) (hk : r9_kk K e) (hp : r9_pl S e) (ht : t ≤ e) (htk : r9_tk K V S e m) (h11 : m.1 9 0 11 = nI t) (h13 : m.1 9 0 13 = 0) (hd : r9_db d m) (hc : d.1 ≠ 0 → d.2 < S t) (hn : n ≤ 12) (h20 : m.1 9 0 20 = nI n) {od : Nat → Nat} (ho : ∀ k, k < n → m.1 122 0 k = nI (od k) ∧ od k < 20) : zw (f9_known (nI l) m) fun q => zk sKn m q.2 ∧ (∀ F, e_t K 2 t = .inl (F, t) → q.1 = -1 ∧ r9_fl S F t q.2) ∧ (e_t K 2 t = .inr (t + 1, ()) → q.1 = o_i ((q_se (fun j => decide (m.2.1 121 0 j = m.2.1 108 0 t) && (decide (l ≤ od j) && decide (od j < l + 10))) n).map fun j => od j - l) ∧ q.2.1 9 0 11 = nI (t + 1) ∧ q.2.1 9 0 13 = 0 ∧ r9_db (z_su (q_se (fun j => decide (m.2.1 121 0 j = m.2.1 108 0 t) && (decide (l ≤ od j) && decide (od j < l + 10))) n).isNone 4 (S t) d) q.2) := by
  have he := hk.1
  unfold f9_known
  refine r9_mu (k := 2) hk (by decide) rfl ht htk h11 h13 ?_ ?_
  · intro e1 k1 c1 m1 f1 g11 g13
    rw [g13, if_neg (show ¬ (0 : Int32) < 0 by decide)]
    have e20 : m1.1 9 0 20 = nI n := by rw [f1.1 _ _ _ (by omega)]; exact h20
    rw [z_se (body := f9_known_L4 (nI l) m m1) (s0 := 0) (fun j => decide (m.2.1 121 0 j = m.2.1 108 0 t) && (decide (l ≤ od j) && decide (od j < l + 10))) nI n (fun j => (nI (od j - l), m1)) rfl (fun j hj => ?_) ?_ (by omega), Option.bind_some]
    · rcases eq : q_se (fun j => decide (m.2.1 121 0 j = m.2.1 108 0 t) && (decide (l ≤ od j) && decide (od j < l + 10))) n with _ | j
      · show zw ((f9_wrong 4 (m.1 9 0 11) m1).bind _) _
        rw [h11]
        refine zw_b (p9_wrong (a := 4) (d := d) (by omega) (by omega) he hp ht (htk.fr f1 (fun c k e => by omega)) g13 (hd.fr (f1.1 _ _ _ (by omega)) (f1.1 _ _ _ (by omega))) (fun q => Or.inl (hc q))) ?_
        rintro m2 ⟨f2, db2⟩
        refine zw_some.mpr ⟨zk_t (zk_m f1 (fun c i k e => by omega)) (zk_m f2 (fun c i k e => by omega)), fun F q => ?_, fun _ => ⟨rfl, by rw [f2.1 _ _ _ (by omega)]; exact g11, by rw [f2.1 _ _ _ (by omega)]; exact g13, db2⟩⟩
        rw [e1] at q; cases q
      · refine zw_some.mpr ⟨zk_m f1 (fun c i k e => by omega), fun F q => ?_, fun _ => ⟨rfl, g11, g13, hd.fr (f1.1 _ _ _ (by omega)) (f1.1 _ _ _ (by omega))⟩⟩
        rw [e1] at q; cases q
    · unfold f9_known_L4
      rw [e20, if_neg (nI_nlt (by omega) (by omega))]
    · obtain ⟨o1, o2⟩ := ho j hj
      have e122 : m1.1 122 0 j = nI (od j) := by rw [f1.1 _ _ _ (by omega)]; exact o1
      unfold f9_known_L4
      rw [e20, if_pos (nI_lt hj (by omega)), if_pos (y_in (by omega) (by omega)), h11, if_pos (y_in (by omega) (by omega)), y_cl (by omega), y_cl (by omega), f1.2, e122, show (10 : Int32) = nI 10 from rfl, nI_add]
      simp only [q_cmp0]
      by_cases cj : m.2.1 121 0 j = m.2.1 108 0 t
      · rw [if_pos cj, decide_eq_true cj, Bool.true_and]
        by_cases c2 : od j < l
        · rw [if_pos (nI_lt c2 (by omega)), decide_eq_false (show ¬ l ≤ od j by omega), Bool.false_and, y_ff, y_s1]
        · rw [if_neg (nI_nlt (by omega) (by omega)), decide_eq_true (show l ≤ od j by omega), Bool.true_and]
          by_cases c3 : od j < l + 10
          · rw [if_pos (nI_lt c3 (by omega)), decide_eq_true c3, if_pos rfl, pk_sub (by omega)]
          · rw [if_neg (nI_nlt (by omega) (by omega)), decide_eq_false c3, y_ff, y_s1]
      · rw [if_neg cj, decide_eq_false cj, Bool.false_and, y_ff, y_s1]
  · intro F m1 e1 hF f1 g13 g14
    rw [g13, if_pos (y_F hF).1]
    refine zw_some.mpr ⟨zk_m f1 (fun c i k e => by omega), fun F2 q => ?_, fun q => ?_⟩
    · rw [e1] at q
      cases q
      exact ⟨rfl, hF, g13, g14⟩
    · rw [e1] at q; cases q
theorem p9_knownF (hF : F = 1 ∨ F = 2) (h : m.1 9 0 13 = nI F) {x : Int32} : f9_known x m = some (-1, m) := by
  unfold f9_known
  rw [p9_mustF hF h, Option.bind_some, h, if_pos (y_F hF).1]
end
