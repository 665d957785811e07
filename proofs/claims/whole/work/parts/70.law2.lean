/-! LAW's loop: with read's step, the class and the reference never differ -/
section
variable {T : qT} {o v B : Nat} {r : Nat → Int32} {m m' : zMem} {y : Int32} {ρ : Type} {Q : zMem ⊕ (Int32 × zMem) → Prop}
theorem z_u2_ap {α β δ : Type} (f : α → β → δ) (a : α) (b : β) : z_u2 f (a, b) = f a b := rfl
theorem s_count (a : Int32) : qSt B (f8_count a) (f9_count a) := by
  rintro m ⟨T, o, v, r, h1, h2, h3⟩
  obtain ⟨⟨u, nx, hs, a1⟩, ⟨sf, ss, a2⟩, ⟨td, te, tf, a3⟩, n, a4⟩ := id h3
  obtain ⟨x, a8, a9⟩ := c_count (o := o) (v := v) (B := B) (r := r) h1.ok (u := u) (nx := nx) (hs := hs) (sf := sf) (ss := ss) (td := td) (te := te) (tf := tf) (n := n) a
  refine zw_mono (a8 m h1 h2 ⟨a1, a2, a3, a4⟩) ?_
  rintro ⟨y, m1⟩ ⟨ey, hf⟩
  have hf' : zk sQ m m1 := hf
  refine zw_mono (a9 m1 (q_T_q h1 hf') (q_N_q h2 hf') ⟨a1.zk hf' (fun c i k h => by omega), a2.zk hf' (fun c i k h => by omega), a3.zk hf' (fun c i k h => by omega), a4.zk hf' (fun c i k h => by omega)⟩) ?_
  rintro ⟨y2, m2⟩ ⟨ey2, hf2⟩
  have hf2' : zk sQ m1 m2 := hf2
  exact ⟨ey.trans ey2.symm, T, o, v, r, q_T_q (q_T_q h1 hf') hf2', (q_N_q (q_N_q h2 hf') hf2').mn (by omega), ((h3.zk hf').zk hf2').mn (by omega)⟩
abbrev qLp : Type := (Int32 × zMem) ⊕ (zMem ⊕ (Int32 × zMem))
abbrev q_gon (B : Nat) (y : Int32) (Q : zMem ⊕ (Int32 × zMem) → Prop) : (Int32 × zMem) ⊕ (zMem ⊕ (Int32 × zMem)) → Prop := Sum.elim (fun s => s.1 = y ∧ qInv (B + 40) s.2) Q
theorem q_stS {f8 f9 : zMem → Option (Int32 × zMem)} (h : qSt B f8 f9) (hi : qInv B m) : zw (α := qLp) ((f8 m).bind (z_u2 fun a m1 => (f9 m1).bind (z_u2 fun b m2 => if a = b then some (.inl (y, m2)) else some (.inr (.inr ((0 : Int32), m2)))))) (q_gon B y Q) := by
  refine zw_b (h m hi) ?_
  rintro ⟨a, m1⟩ ha
  rw [z_u2_ap]
  refine zw_b ha ?_
  rintro ⟨b, m2⟩ ⟨e, hq⟩
  rw [z_u2_ap]
  exact zw_t e (zw_some.mpr ⟨rfl, hq⟩)
theorem q_stP {f8 : zMem → Option Int32} {f9 : zMem → Option (Int32 × zMem)} (h : ∀ m, qInv B m → zw (f8 m) fun q => zw (f9 m) fun q' => q = q'.1 ∧ qInv (B + 40) q'.2) (hi : qInv B m) : zw (α := qLp) ((f8 m).bind (fun a => (f9 m).bind (z_u2 fun b m2 => if a = b then some (.inl (y, m2)) else some (.inr (.inr ((0 : Int32), m2)))))) (q_gon B y Q) := by
  refine zw_b (h m hi) ?_
  intro a ha
  refine zw_b ha ?_
  rintro ⟨b, m2⟩ ⟨e, hq⟩
  rw [z_u2_ap]
  exact zw_t e (zw_some.mpr ⟨rfl, hq⟩)
theorem q_stL {f8 f9 : zMem → Int32 × zMem} (h : (f8 m).1 = (f9 (f8 m).2).1 ∧ qInv (B + 40) (f9 (f8 m).2).2) : zw (α := qLp) (z_let (f8 m) (z_u2 fun a m1 => z_let (f9 m1) (z_u2 fun b m2 => if a = b then some (.inl (y, m2)) else some (.inr (.inr ((0 : Int32), m2)))))) (q_gon B y Q) := by
  simp only [z_let]
  generalize f8 m = p at *
  obtain ⟨a, m1⟩ := p
  rw [z_u2_ap]
  have h' : a = (f9 m1).1 ∧ qInv (B + 40) (f9 m1).2 := h
  generalize f9 m1 = p at *
  obtain ⟨b, m2⟩ := p
  rw [z_u2_ap]
  exact zw_t h'.1 (zw_some.mpr ⟨rfl, h'.2⟩)
theorem q_stQ (hi : qInv B m) : zw (α := qLp) (if f8_place m = f9_place m then some (.inl (y, m)) else some (.inr (.inr ((0 : Int32), m)))) (q_gon B y Q) := by
  obtain ⟨T, o, v, r, h1, h2, h3⟩ := id hi
  obtain ⟨_, _, _, n, a4⟩ := h3
  exact zw_t a4.2.2.2.2.1 (zw_some.mpr ⟨rfl, hi.mn (by omega)⟩)
theorem q_stG {c : Prop} [Decidable c] {x1 x2 : Int32} (hi : qInv B m) : zw (α := qLp) (((if c then some (0 : Int32) else some (1 : Int32)) : Option Int32).bind (fun j => (f8_give x1 x2 j m).bind (z_u2 fun a m1 => ((if c then some (0 : Int32) else some (1 : Int32)) : Option Int32).bind (fun j' => (f9_give x1 x2 j' m1).bind (z_u2 fun b m2 => if a = b then some (.inl (y, m2)) else some (.inr (.inr ((0 : Int32), m2)))))))) (q_gon B y Q) := by
  by_cases hc : c
  · simp only [if_pos hc, Option.bind_some]
    exact q_stS (s_give x1 x2 0 (Or.inl rfl)) hi
  · simp only [if_neg hc, Option.bind_some]
    exact q_stS (s_give x1 x2 1 (Or.inr rfl)) hi
theorem q_stR {x1 : Int32} (hi : qInv B m) : zw (α := qLp) ((f8_richest x1 m).bind (fun a => (f9_richest x1 m).bind (fun b => if a = b then some (.inl (y, m)) else some (.inr (.inr ((0 : Int32), m)))))) (q_gon B y Q) := by
  obtain ⟨T, o, v, r, h1, h2, h3⟩ := id hi
  obtain ⟨x, a8, a9⟩ := c_richest (o := o) (v := v) (B := B) (r := r) h1.ok x1
  refine zw_eq (a8 m h1 h2) (zw_eq (a9 m h1 h2) ?_)
  exact zw_t rfl (zw_some.mpr ⟨rfl, hi.mn (by omega)⟩)
theorem law_call (hread : ∀ B, qSt B f8_read f9_read) {sl k : Nat} {xs : Nat → Int32} (hsl : sl < 1000000) (hk : 6 * k + 6 ≤ sl) (hB : B < 800000) (hi : qInv B m) : zw (flaw_L1 sl xs (nI (6 * k), m)) (q_gon B (nI (6 * k) + 6) Q) := by
  have i0 : z_in (nI (6 * k)) sl = true := y_in (by omega) (by omega)
  have hin : ∀ d, d < 6 → z_in (nI (6 * k) + nI d) sl = true := fun d hd => by rw [nI_add]; exact y_in (by omega) (by omega)
  have i1 : z_in (nI (6 * k) + 1) sl = true := hin 1 (by omega)
  have i2 : z_in (nI (6 * k) + 2) sl = true := hin 2 (by omega)
  have i3 : z_in (nI (6 * k) + 3) sl = true := hin 3 (by omega)
  have i4 : z_in (nI (6 * k) + 4) sl = true := hin 4 (by omega)
  have i5 : z_in (nI (6 * k) + 5) sl = true := hin 5 (by omega)
  have i6 : ¬ (Int32.ofNat sl - 6 < nI (6 * k)) := by
    show ¬ (nI sl - nI 6 < nI (6 * k))
    rw [pk_sub (by omega)]
    exact nI_nlt (by omega) (by omega)
  clear hin
  generalize nI (6 * k) = x at *
  unfold flaw_L1
  rw [z_u2_ap]
  refine zw_f i6 (zw_t i0 ?_)
  refine zw_c (fun _ => zw_t i1 (zw_t i2 (zw_t i3 (zw_t i4 (zw_t i5 (q_stS (s_feed _ _ _ _ _) hi)))))) (fun _ => ?_)
  refine zw_c (fun _ => zw_t i1 (q_stL (s_back _ hi))) (fun _ => ?_)
  refine zw_c (fun _ => q_stS (hread _) hi) (fun _ => ?_)
  refine zw_c (fun _ => q_stQ hi) (fun _ => ?_)
  refine zw_c (fun _ => zw_t i1 (zw_t i2 (q_stS (q_ask fun _ _ _ _ hT => c_house hT _ _) hi))) (fun _ => ?_)
  refine zw_c (fun _ => zw_t i1 (zw_t i2 (q_stS (q_ask fun _ _ _ _ hT => c_person hT _ _) hi))) (fun _ => ?_)
  refine zw_c (fun _ => zw_t i1 (q_stS (s_send _) hi)) (fun _ => ?_)
  refine zw_c (fun _ => zw_t i1 (q_stS (s_call _) hi)) (fun _ => ?_)
  refine zw_c (fun _ => zw_t i1 (q_stS (s_bury _) hi)) (fun _ => ?_)
  refine zw_c (fun _ => zw_t i1 (zw_t i2 (zw_t i3 (q_stG hi)))) (fun _ => ?_)
  refine zw_c (fun _ => zw_t i1 (q_stS (s_years (by omega) _) hi)) (fun _ => ?_)
  refine zw_c (fun _ => q_stS s_undo hi) (fun _ => ?_)
  refine zw_c (fun _ => zw_t i1 (q_stP (q_askP fun _ _ _ _ hT => c_heir hT _) hi)) (fun _ => ?_)
  refine zw_c (fun _ => zw_t i1 (zw_t i2 (q_stS (q_ask fun _ _ _ _ hT => c_gain hT (by omega) _ _) hi))) (fun _ => ?_)
  refine zw_c (fun _ => zw_t i1 (zw_t i2 (zw_t i3 (q_stS (q_ask fun _ _ _ _ hT => c_best hT (by omega) _ _ _) hi)))) (fun _ => ?_)
  refine zw_c (fun _ => zw_t i1 (zw_t i2 (q_stS (q_ask fun _ _ _ _ hT => c_loss hT (by omega) _ _) hi))) (fun _ => ?_)
  refine zw_c (fun _ => zw_t i1 (q_stP (q_askP fun _ _ _ _ hT => c_race hT _) hi)) (fun _ => ?_)
  refine zw_c (fun _ => zw_t i1 (zw_t i2 (zw_t i3 (zw_t i4 (zw_t i5 (q_stS (q_ask fun _ _ _ _ hT => c_duel hT (by omega) _ _ _ _ _) hi)))))) (fun _ => ?_)
  refine zw_c (fun _ => zw_t i1 (zw_t i2 (zw_t i3 (q_stS (q_ask fun _ _ _ _ hT => c_rest hT (by omega) _ _ _) hi)))) (fun _ => ?_)
  refine zw_c (fun _ => zw_t i1 (q_stP (q_askP fun _ _ _ _ hT => c_fill hT _) hi)) (fun _ => ?_)
  refine zw_c (fun _ => zw_t i1 (q_stR hi)) (fun _ => ?_)
  refine zw_c (fun _ => zw_t i1 (q_stP (q_askP fun _ _ _ _ hT => c_eldest hT _) hi)) (fun _ => ?_)
  refine zw_c (fun _ => zw_t i1 (q_stP (q_askP fun _ _ _ _ hT => c_agents hT _) hi)) (fun _ => ?_)
  refine zw_c (fun _ => zw_t i1 (q_stP (q_askP fun _ _ _ _ hT => c_lords hT _) hi)) (fun _ => ?_)
  refine zw_c (fun _ => zw_t i1 (q_stP (q_askP fun _ _ _ _ hT => c_bound hT _) hi)) (fun _ => ?_)
  refine zw_c (fun _ => q_stP (q_askP fun _ _ _ _ hT => c_idle hT) hi) (fun _ => ?_)
  refine zw_c (fun _ => zw_t i1 (q_stP (q_askP fun _ _ _ _ hT => c_share hT _) hi)) (fun _ => ?_)
  refine zw_c (fun _ => zw_t i1 (zw_t i2 (q_stS (q_ask fun _ _ _ _ hT => c_lordIn hT _ _) hi))) (fun _ => ?_)
  refine zw_c (fun _ => zw_t i1 (zw_t i2 (q_stS (q_ask fun _ _ _ _ hT => c_then hT _ _) hi))) (fun _ => ?_)
  refine zw_c (fun _ => zw_t i1 (zw_t i2 (q_stS (q_ask fun _ _ _ _ hT => c_gotIn hT _ _) hi))) (fun _ => ?_)
  refine zw_c (fun _ => zw_t i1 (zw_t i2 (zw_t i3 (q_stS (q_ask fun _ _ _ _ hT => c_year hT _ _ _) hi)))) (fun _ => ?_)
  refine zw_c (fun _ => zw_t i1 (zw_t i2 (q_stS (s_tell _ _) hi))) (fun _ => ?_)
  refine zw_c (fun _ => q_stL (s_forget hi)) (fun _ => ?_)
  refine zw_c (fun _ => zw_t i1 (q_stS (q_askL fun _ _ _ _ _ _ hT hd => c_orders hT hd _) hi)) (fun _ => ?_)
  refine zw_c (fun _ => zw_t i1 (zw_t i2 (q_stS (q_askL fun _ _ _ _ _ _ hT hd => c_first hT hd _ _) hi))) (fun _ => ?_)
  refine zw_c (fun _ => zw_t i1 (zw_t i2 (q_stS (q_askL fun _ _ _ _ _ _ hT hd => c_last hT hd _ _) hi))) (fun _ => ?_)
  refine zw_c (fun _ => zw_t i1 (zw_t i2 (zw_t i3 (q_stS (q_askL fun _ _ _ _ _ _ hT hd => c_placed hT hd _ _ _) hi)))) (fun _ => ?_)
  refine zw_c (fun _ => zw_t i1 (zw_t i2 (zw_t i3 (q_stS (q_askL fun _ _ _ _ _ _ hT hd => c_before hT hd _ _ _) hi)))) (fun _ => ?_)
  refine zw_c (fun _ => zw_t i1 (zw_t i2 (q_stS (q_askL fun _ _ _ _ _ _ hT hd => c_sum hT hd _ _) hi))) (fun _ => ?_)
  refine zw_c (fun _ => zw_t i1 (zw_t i2 (q_stS (q_askL fun _ _ _ _ _ _ hT hd => c_ahead hT hd _ _) hi))) (fun _ => ?_)
  refine zw_c (fun _ => zw_t i1 (q_stS (q_askL fun _ _ _ _ _ _ hT hd => c_foremost hT hd _) hi)) (fun _ => ?_)
  refine zw_c (fun _ => zw_t i1 (q_stS (q_askL fun _ _ _ _ _ _ hT hd => c_ask hT hd _) hi)) (fun _ => ?_)
  refine zw_c (fun _ => zw_t i1 (zw_t i2 (zw_t i3 (q_stS (q_askL fun _ _ _ _ _ _ hT hd => c_order hT hd _ _ _) hi)))) (fun _ => ?_)
  refine zw_c (fun _ => zw_t i1 (q_stS (s_hold _) hi)) (fun _ => ?_)
  refine zw_c (fun _ => zw_t i1 (q_stS (s_restore _) hi)) (fun _ => ?_)
  refine zw_c (fun _ => zw_t i1 (q_stS (s_count _) hi)) (fun _ => ?_)
  exact zw_some.mpr ⟨rfl, hi.mn (by omega)⟩
theorem law_1 (hread : ∀ B, qSt B f8_read f9_read) {sl : Nat} {xs : Nat → Int32} (hsl : sl ≤ 3072) (hi : qInv 0 m) : ∃ μ', f_law sl xs m = some (1, μ') := by
  have key : zw (z_it (flaw_L1 sl xs) z_fu ((0 : Int32), m)) (fun q => ∃ m', q = .inl m') := by
    refine zw_forG (sl / 6) (fun k s => s.1 = nI (6 * k) ∧ qInv (40 * k) s.2) (by omega) ⟨rfl, hi⟩ ?_ ?_
    · rintro k ⟨x, m1⟩ hk ⟨ex, h1⟩
      have ex' : x = nI (6 * k) := ex
      subst ex'
      refine zw_mono (law_call (Q := fun q => ∃ m', q = .inl m') hread (by omega) (by omega) (by omega) h1) ?_
      rintro (⟨x, m2⟩ | q) hq
      · refine ⟨hq.1.trans ?_, hq.2⟩
        show nI (6 * k) + nI 6 = _
        rw [nI_add]; rfl
      · exact hq
    · rintro ⟨x, m1⟩ ⟨ex, h1⟩
      have ex' : x = nI (6 * (sl / 6)) := ex
      subst ex'
      unfold flaw_L1
      rw [z_u2_ap]
      refine zw_t ?_ (zw_some.mpr ⟨m1, rfl⟩)
      show nI sl - nI 6 < nI (6 * (sl / 6))
      by_cases c : 6 ≤ sl
      · rw [pk_sub c]
        exact nI_lt (by omega) (by omega)
      · rw [show 6 * (sl / 6) = 0 by omega]
        exact (by decide : ∀ n, n < 6 → nI n - nI 6 < nI 0) sl (by omega)
  obtain ⟨q, e, m', rfl⟩ := key
  unfold f_law
  exact ⟨m', by rw [e]; rfl⟩
end
