/-! LETTERS V: order -/
def q_wy (nd : Nat → Int32) (n S p : Nat) : Nat := (if q_go nd p S then q_W nd n (S + 2 ^ p) else 0).toNatClampNeg
def q_cu (nd : Nat → Int32) (n S : Nat) : Nat → Nat := q_sn (q_wy nd n S)
theorem q_sn_mn (f : Nat → Nat) (n : Nat) : ∀ d, q_sn f n ≤ q_sn f (n + d)
  | 0 => Nat.le_refl _
  | d + 1 => Nat.le_trans (q_sn_mn f n d) (Nat.le_add_right _ _)
theorem w_11 : ∀ n, n < 8 → q_pc (nI (2 ^ n - 1)) 7 = n := by decide +kernel
section
variable {nd : Nat → Int32} {n : Nat}
theorem q_wy_eq (hn : n ≤ 7) {S p : Nat} (hS : S < 2 ^ n) (hp : p < n) : (if q_go nd p S then q_W nd n (S + 2 ^ p) else 0) = nI (q_wy nd n S p) ∧ q_wy nd n S p ≤ 823543 := by
  have h128 := y_p7 hn
  unfold q_wy
  cases eg : q_go nd p S
  · rw [y_ff]; exact ⟨rfl, by decide⟩
  · obtain ⟨w, hw, ew⟩ := q_W_n (nd := nd) hn (S := S + 2 ^ p) (w_4 n (by omega) S (by omega) hS p hp (q_go_b eg))
    rw [if_pos rfl, ew, y_cl (by omega)]
    exact ⟨rfl, hw⟩
theorem q_W_cu (hn : n ≤ 7) {S : Nat} (hS : S < 2 ^ n) (hne : S ≠ 2 ^ n - 1) : q_W nd n S = nI (q_cu nd n S n) ∧ q_cu nd n S n ≤ 5764801 := by
  rw [q_W_eq nd hn hS, if_neg hne]
  refine ⟨(q_sm_cong fun p hp => (q_wy_eq hn hS hp).1).trans (q_sm_sn _ n), ?_⟩
  have h := q_sn_le (f := q_wy nd n S) (n := n) (fun p hp => (q_wy_eq hn hS hp).2)
  have : n * 823543 ≤ 7 * 823543 := Nat.mul_le_mul_right _ hn
  unfold q_cu
  omega
/-- who is next: S, how many are left, who -/
def q_nx1 (nd : Nat → Int32) (n S l : Nat) : Nat := (q_se (fun p => decide (l < q_cu nd n S (p + 1))) n).getD 0
theorem q_nx1_sp {S l : Nat} (h : l < q_cu nd n S n) : q_nx1 nd n S l < n ∧ q_cu nd n S (q_nx1 nd n S l) ≤ l ∧ l < q_cu nd n S (q_nx1 nd n S l + 1) := by
  unfold q_nx1
  rcases q_se_sp (fun p => decide (l < q_cu nd n S (p + 1))) n with ⟨_, h2⟩ | ⟨k, hk, h1, h2, h3⟩
  · exfalso
    match n, h, h2 with
    | 0, h, _ => exact absurd h (by show ¬ l < 0; omega)
    | n + 1, h, h2 =>
      have := h2 n (by omega)
      rw [decide_eq_false_iff_not] at this
      exact this h
  · rw [h1]
    refine ⟨hk, ?_, of_decide_eq_true h2⟩
    show q_cu nd n S k ≤ l
    match k, h3 with
    | 0, _ => exact Nat.zero_le _
    | k + 1, h3 =>
      have := h3 k (by omega)
      rw [decide_eq_false_iff_not] at this
      omega
variable {T : qT} {o v td : Nat} {te tf : Nat → Nat} {m m' : zMem}
theorem p2_pick (hn : n ≤ 7) (hq : qLt m nd n) {S l p : Nat} (hS : S < 2 ^ n) (hl : l < 2147483648) (hp : p < n) (h1 : q_cu nd n S p ≤ l) (h2 : l < q_cu nd n S (p + 1)) : z_it (f2_whoIsAt_L8 m (nI S)) z_fu (nI l, -1, 0) = some (nI (l - q_cu nd n S p), nI p) := by
  have h128 := y_p7 hn
  have hval : ∀ k, k < n → ((if (if q_go nd k S then (1 : Int32) else 0) = 0 then some (0 : Int32) else if z_in (nI S ||| ((1 : Int32) <<< (nI k &&& 31))) 128 = true then some (m.1 19 0 (nI S ||| ((1 : Int32) <<< (nI k &&& 31))).toNatClampNeg) else none) : Option Int32) = some (nI (q_wy nd n S k)) := fun k hk => by
    rw [← (q_wy_eq hn hS hk).1]
    cases eg : q_go nd k S
    · rw [y_ff, if_pos rfl, y_ff]
    · have hb := q_go_b eg
      obtain ⟨l1, l2, l3⟩ := w_1 S (by omega) k (by omega) hb
      have l4 := w_4 n (by omega) S (by omega) hS k hk hb
      rw [if_pos rfl, if_neg n01, l3, if_pos (y_in (by omega) (by omega)), y_cl (by omega), hq.2.2.2 _ l4, if_pos rfl]
  refine z_it_e (fun k => if k ≤ p then (nI (l - q_cu nd n S k), -1, nI k) else (nI (l - q_cu nd n S p), nI p, nI (p + 1))) (p + 1) _ (by rw [if_pos (Nat.zero_le p)]; rfl) (fun k hk => ?_) ?_ (z_fu_lt (by omega))
  · have hkn : k < n := by omega
    have hcs : q_cu nd n S (k + 1) = q_cu nd n S k + q_wy nd n S k := rfl
    have hwb := (q_wy_eq (nd := nd) hn hS hkn).2
    have hck : q_cu nd n S k ≤ q_cu nd n S p := by
      obtain ⟨d, hd⟩ := Nat.exists_eq_add_of_le (show k ≤ p by omega)
      rw [hd]; exact q_sn_mn _ k d
    rw [if_pos (show k ≤ p by omega)]
    unfold f2_whoIsAt_L8
    simp only [z_u3, hq.1]
    rw [if_pos (nI_lt hkn (by omega)), if_pos trivial, p2_canFollow hq.2.1 (by omega), Option.bind_some, hval k hkn, Option.bind_some]
    by_cases e : k = p
    · subst e
      rw [if_pos (nI_lt (by omega) (by omega)), if_neg (by omega)]
      show some (Sum.inl (_, _, nI k + 1)) = _
      rw [y_s1]
    · have hck1 : q_cu nd n S (k + 1) ≤ q_cu nd n S p := by
        obtain ⟨d, hd⟩ := Nat.exists_eq_add_of_le (show k + 1 ≤ p by omega)
        rw [hd]; exact q_sn_mn _ (k + 1) d
      rw [if_neg (nI_nlt (by omega) (by omega)), if_pos (by omega)]
      show some (Sum.inl (nI (l - q_cu nd n S k) - nI (q_wy nd n S k), -1, nI k + 1)) = _
      rw [y_s1, pk_sub (by omega), show l - q_cu nd n S k - q_wy nd n S k = l - q_cu nd n S (k + 1) by omega]
  · rw [if_neg (by omega)]
    unfold f2_whoIsAt_L8
    simp only [z_u3, hq.1]
    rw [if_neg (show ¬ nI p = -1 by rw [y_ne1 (by omega)]; exact id)]
    by_cases c : nI (p + 1) < nI n
    · rw [if_pos c]
    · rw [if_neg c]
theorem p9_pick (hn : n ≤ 7) (hq : qLm m nd n) {S l p : Nat} (hS : S < 2 ^ n) (hl : l < 2147483648) (hp : p < n) (h1 : q_cu nd n S p ≤ l) (h2 : l < q_cu nd n S (p + 1)) : z_it (f9_order_L18 m (nI S)) z_fu (nI l, 0) = some (nI (l - q_cu nd n S p), nI p) := by
  have h128 := y_p7 hn
  refine z_it_e (fun k => (nI (l - q_cu nd n S k), nI k)) p _ rfl (fun k hk => ?_) ?_ (z_fu_lt (by omega))
  · have hkn : k < n := by omega
    have hcs : q_cu nd n S (k + 1) = q_cu nd n S k + q_wy nd n S k := rfl
    have hwe := q_wy_eq (nd := nd) hn hS hkn
    have hck1 : q_cu nd n S (k + 1) ≤ q_cu nd n S p := by
      obtain ⟨d, hd⟩ := Nat.exists_eq_add_of_le (show k + 1 ≤ p by omega)
      rw [hd]; exact q_sn_mn _ (k + 1) d
    unfold f9_order_L18
    simp only [z_u2, p9_mayGo hq.1 (show k < 7 by omega), Option.bind_some]
    cases eg : q_go nd k S
    · rw [eg, y_ff] at hwe
      have hw0 : q_wy nd n S k = 0 := by unfold q_wy; rw [eg]; rfl
      rw [y_ff, if_pos rfl, if_pos rfl, Option.bind_some, y_s1, show q_cu nd n S (k + 1) = q_cu nd n S k by omega]
    · have hb := q_go_b eg
      obtain ⟨l1, l2, l3⟩ := w_1 S (by omega) k (by omega) hb
      have l4 := w_4 n (by omega) S (by omega) hS k hkn hb
      rw [eg, if_pos rfl] at hwe
      rw [if_pos rfl, if_neg n01, l3, if_pos (y_in (by omega) (by omega)), y_cl (by omega), hq.2.2 _ l4, hwe.1, if_neg (nI_nlt (by omega) (by omega)), if_neg n01]
      show some (Sum.inl (nI (l - q_cu nd n S k) - nI (q_wy nd n S k), nI k + 1)) = _
      rw [y_s1, pk_sub (by omega), show l - q_cu nd n S k - q_wy nd n S k = l - q_cu nd n S (k + 1) by omega]
  · have hcs : q_cu nd n S (p + 1) = q_cu nd n S p + q_wy nd n S p := rfl
    have hwe := q_wy_eq (nd := nd) hn hS hp
    unfold f9_order_L18
    simp only [z_u2, p9_mayGo hq.1 (show p < 7 by omega), Option.bind_some]
    cases eg : q_go nd p S
    · have hw0 : q_wy nd n S p = 0 := by unfold q_wy; rw [eg]; rfl
      omega
    · have hb := q_go_b eg
      obtain ⟨l1, l2, l3⟩ := w_1 S (by omega) p (by omega) hb
      have l4 := w_4 n (by omega) S (by omega) hS p hp hb
      rw [eg, if_pos rfl] at hwe
      rw [if_pos rfl, if_neg n01, l3, if_pos (y_in (by omega) (by omega)), y_cl (by omega), hq.2.2 _ l4, hwe.1, if_pos (nI_lt (by omega) (by omega))]
def q_os (nd : Nat → Int32) (n i : Nat) : Nat → Nat × Nat × Nat
  | 0 => (0, i, 0)
  | j + 1 => ((q_os nd n i j).1 + 2 ^ q_nx1 nd n (q_os nd n i j).1 (q_os nd n i j).2.1, (q_os nd n i j).2.1 - q_cu nd n (q_os nd n i j).1 (q_nx1 nd n (q_os nd n i j).1 (q_os nd n i j).2.1), q_nx1 nd n (q_os nd n i j).1 (q_os nd n i j).2.1)
def q_osI (nd : Nat → Int32) (n j : Nat) (s : Nat × Nat × Nat) : Prop := s.1 < 2 ^ n ∧ q_pc (nI s.1) 7 = j ∧ ∃ w, w ≤ 823543 ∧ q_W nd n s.1 = nI w ∧ s.2.1 < w
theorem q_os_st (hn : n ≤ 7) {j : Nat} {s : Nat × Nat × Nat} (hj : j < n) (h : q_osI nd n j s) : s.2.1 < q_cu nd n s.1 n ∧ s.2.1 < 2147483648 ∧ s.1.testBit (q_nx1 nd n s.1 s.2.1) = false := by
  have h128 := y_p7 hn
  obtain ⟨h1, h2, w, hw, ew, hl⟩ := h
  have hne : s.1 ≠ 2 ^ n - 1 := fun e => by
    rw [e, w_11 n (by omega)] at h2; omega
  obtain ⟨c1, c2⟩ := q_W_cu (nd := nd) hn h1 hne
  rw [ew] at c1
  have : w = q_cu nd n s.1 n := (nI_eq (by omega) (by omega)).mp c1
  have hlt : s.2.1 < q_cu nd n s.1 n := by omega
  refine ⟨hlt, by omega, ?_⟩
  obtain ⟨a1, a2, a3⟩ := q_nx1_sp hlt
  have hcs : q_cu nd n s.1 (q_nx1 nd n s.1 s.2.1 + 1) = q_cu nd n s.1 (q_nx1 nd n s.1 s.2.1) + q_wy nd n s.1 (q_nx1 nd n s.1 s.2.1) := rfl
  cases eg : q_go nd (q_nx1 nd n s.1 s.2.1) s.1
  · have hw0 : q_wy nd n s.1 (q_nx1 nd n s.1 s.2.1) = 0 := by unfold q_wy; rw [eg]; rfl
    omega
  · exact q_go_b eg
theorem q_os_ok (hn : n ≤ 7) {i w0 : Nat} (hw0 : w0 ≤ 823543) (he : q_W nd n 0 = nI w0) (hi : i < w0) : ∀ j, j ≤ n → q_osI nd n j (q_os nd n i j)
  | 0, _ => ⟨Nat.two_pow_pos n, (by decide : q_pc (nI 0) 7 = 0), w0, hw0, he, hi⟩
  | j + 1, hj => by
    have h128 := y_p7 hn
    have ih := q_os_ok hn hw0 he hi j (by omega)
    obtain ⟨hlt, _, hb⟩ := q_os_st hn (by omega) ih
    obtain ⟨a1, a2, a3⟩ := q_nx1_sp hlt
    obtain ⟨h1, h2, _⟩ := ih
    rw [q_os]
    generalize q_os nd n i j = s at *
    generalize hp : q_nx1 nd n s.1 s.2.1 = p at *
    have l4 := w_4 n (by omega) s.1 (by omega) h1 p a1 hb
    have hcs : q_cu nd n s.1 (p + 1) = q_cu nd n s.1 p + q_wy nd n s.1 p := rfl
    have hwe := q_wy_eq (nd := nd) hn h1 a1
    refine ⟨l4, ?_, q_wy nd n s.1 p, hwe.2, ?_, ?_⟩
    · show q_pc (nI (s.1 + 2 ^ p)) 7 = j + 1
      rw [w_9 s.1 (by omega) p (by omega) hb, h2]
    · cases eg : q_go nd p s.1
      · have hw0 : q_wy nd n s.1 p = 0 := by unfold q_wy; rw [eg]; rfl
        omega
      · rw [eg, if_pos rfl] at hwe
        exact hwe.1
    · show s.2.1 - q_cu nd n s.1 p < q_wy nd n s.1 p
      omega
theorem p2_who (hn : n ≤ 7) (hq : qLt m nd n) {i at' w0 : Nat} (hw0 : w0 ≤ 823543) (he : q_W nd n 0 = nI w0) (hi : i < w0) (hat : at' < n) : f2_whoIsAt (nI i) (nI at') m = some (nI (q_os nd n i (at' + 1)).2.2) := by
  have h128 := y_p7 hn
  unfold f2_whoIsAt
  have key : z_it (f2_whoIsAt_L1 (nI at') m) z_fu (0, nI i, -1, 0) = some (Sum.inl (nI (q_os nd n i (at' + 1)).2.2)) := by
    refine z_it_e (fun j => (nI (q_os nd n i j).1, nI (q_os nd n i j).2.1, (if j = 0 then -1 else nI (q_os nd n i j).2.2), nI j)) (at' + 1) _ rfl (fun j hj => ?_) ?_ (z_fu_lt (by omega))
    · have ih := q_os_ok hn hw0 he hi j (by omega)
      obtain ⟨hlt, hl2, hb⟩ := q_os_st hn (by omega) ih
      obtain ⟨a1, a2, a3⟩ := q_nx1_sp hlt
      have h1 := ih.1
      have hs : q_os nd n i (j + 1) = ((q_os nd n i j).1 + 2 ^ q_nx1 nd n (q_os nd n i j).1 (q_os nd n i j).2.1, (q_os nd n i j).2.1 - q_cu nd n (q_os nd n i j).1 (q_nx1 nd n (q_os nd n i j).1 (q_os nd n i j).2.1), q_nx1 nd n (q_os nd n i j).1 (q_os nd n i j).2.1) := rfl
      rw [hs]
      generalize q_os nd n i j = s at *
      have l3 := (w_1 s.1 (by omega) _ (by omega) hb).2.2
      unfold f2_whoIsAt_L1
      simp only [z_u4, hq.1]
      rw [if_neg (nI_nlt (by omega) (by omega)), if_pos (nI_lt (by omega) (by omega)), p2_pick hn hq h1 hl2 a1 a2 a3, Option.bind_some]
      simp only [z_u2, z_let]
      rw [if_neg (show ¬ nI (q_nx1 nd n s.1 s.2.1) = -1 by rw [y_ne1 (by omega)]; exact id), l3, y_s1]
      rfl
    · unfold f2_whoIsAt_L1
      simp only [z_u4]
      rw [if_pos (nI_lt (by omega) (by omega)), if_neg (by omega)]
  rw [key]
  rfl
theorem p9_who (hn : n ≤ 7) (hq : qLm m nd n) {i at' w0 : Nat} (hw0 : w0 ≤ 823543) (he : q_W nd n 0 = nI w0) (hi : i < w0) (hat : at' < n) : z_it (f9_order_L12 (nI at') m) z_fu (nI i, 0, 0, 0) = some (nI (q_os nd n i (at' + 1)).2.2) := by
  have h128 := y_p7 hn
  refine z_it_e (fun j => (nI (q_os nd n i j).2.1, nI (q_os nd n i j).1, nI (q_os nd n i j).2.2, nI j)) (at' + 1) _ rfl (fun j hj => ?_) ?_ (z_fu_lt (by omega))
  · have ih := q_os_ok hn hw0 he hi j (by omega)
    obtain ⟨hlt, hl2, hb⟩ := q_os_st hn (by omega) ih
    obtain ⟨a1, a2, a3⟩ := q_nx1_sp hlt
    have h1 := ih.1
    have hs : q_os nd n i (j + 1) = ((q_os nd n i j).1 + 2 ^ q_nx1 nd n (q_os nd n i j).1 (q_os nd n i j).2.1, (q_os nd n i j).2.1 - q_cu nd n (q_os nd n i j).1 (q_nx1 nd n (q_os nd n i j).1 (q_os nd n i j).2.1), q_nx1 nd n (q_os nd n i j).1 (q_os nd n i j).2.1) := rfl
    rw [hs]
    generalize q_os nd n i j = s at *
    have l3 := (w_1 s.1 (by omega) _ (by omega) hb).2.2
    unfold f9_order_L12
    simp only [z_u4]
    rw [if_neg (nI_nlt (by omega) (by omega)), p9_pick hn hq h1 hl2 a1 a2 a3, Option.bind_some]
    simp only [z_u2, z_let]
    rw [l3, y_s1]
  · unfold f9_order_L12
    simp only [z_u4]
    rw [if_pos (nI_lt (by omega) (by omega))]
theorem c_order (hT : tOk T) (htd : td ≤ 20) (a b c : Int32) : ∃ x, qAl T o v td te tf (f8_order a b c) x ∧ qAl T o v td te tf (f9_order a b c) x := by
  have hP := hT.2
  rcases y_known (T := T) (te := te) (tf := tf) htd a with hk | ⟨k, hk, rfl, hk'⟩
  · refine ⟨-1, fun m h hl => ?_, fun m h hl => ?_⟩
    · unfold f8_order
      rw [(hk m hl).1, if_pos rfl]; exact q_some m
    · unfold f9_order
      refine zw_eq (hk m hl).2 ?_
      rw [if_pos rfl]; exact q_some m
  have hin : ∀ (c : Int32) (N : Nat), N < 1000000 → f9_in c 0 (nI N - 1) = if 0 ≤ c ∧ c < nI N then 1 else 0 := fun c N hN => by
    have es : (nI N - 1).toInt = (N : Int) - 1 := pk_sub_toInt (b := 1) (by omega) (by omega)
    have et : (nI N).toInt = (N : Int) := y_ti (by omega)
    unfold f9_in
    simp only [y_i, y_il, es, et, y_t0]
    by_cases h : c.toInt < 0
    · rw [if_pos h, if_neg (by omega)]
    · rw [if_neg h]
      by_cases h2 : (N : Int) - 1 < c.toInt
      · rw [if_pos h2, if_neg (by omega)]
      · rw [if_neg h2, if_pos (by omega)]
  rcases y_is c (n := tP T) (by omega) with hc | ⟨at', hat, rfl⟩
  · refine ⟨-1, fun m h hl => ?_, fun m h hl => ?_⟩
    · unfold f8_order
      rw [(hk' m hl).1, if_neg n01, h.ox, h.P]
      by_cases c0 : c < 0
      · rw [if_pos c0]; exact q_some m
      · rw [if_neg c0]
        by_cases c1 : c < nI (tP T)
        · exact absurd ⟨by rw [y_il, y_t0]; rw [y_i, y_t0] at c0; omega, c1⟩ hc
        · rw [if_neg c1]; exact q_some m
    · unfold f9_order
      obtain ⟨hv, h9, _, h1, _⟩ := h.mx
      refine zw_eq (hk' m hl).2 ?_
      rw [if_neg n01, h9, if_pos (y_in hv (by omega)), y_cl (by omega), h1, hin _ _ (by omega), if_neg hc, if_pos rfl]
      exact q_some m
  obtain ⟨w0, hw0, ew⟩ := q_W_n (nd := q_nd te tf k) hP (Nat.two_pow_pos (tP T))
  have h8 : ∀ m, qI_T T o v m → qI_L T td te tf m → ∀ x, (b < 0 → x = -1) → (¬ b < 0 → ∀ m1, qLt m1 (q_nd te tf k) (tP T) → (if b < nI w0 then f2_whoIsAt b (nI at') m1 else some (-1)) = some x) → zw (f8_order (nI k) b (nI at') m) fun q => q.1 = x ∧ zk sQ m q.2 := fun m h hl x h1 h2 => by
    unfold f8_order f2_all
    rw [(hk' m hl).1, if_neg n01, h.ox, h.P, if_neg (nI_pos (by omega)), if_pos (nI_lt hat (by omega))]
    by_cases b0 : b < 0
    · rw [if_pos b0, h1 b0]; exact q_some m
    · rw [if_neg b0]
      refine zw_b (p2_weigh hT hl hk) ?_
      rintro m1 ⟨hf, hq⟩
      have := h2 b0 m1 hq
      rw [Option.bind_some, show (0 : Int32).toNatClampNeg = 0 from rfl, hq.2.2.2 0 (Nat.two_pow_pos _), ew]
      by_cases c1 : b < nI w0
      · rw [if_pos c1] at this ⊢
        rw [this]; exact zw_some.mpr ⟨rfl, zk_lc hf⟩
      · rw [if_neg c1] at this ⊢
        cases this
        exact zw_some.mpr ⟨rfl, zk_lc hf⟩
  have h9' : ∀ m, qI_T T o v m → qI_L T td te tf m → ∀ x, (∀ m1, qLm m1 (q_nd te tf k) (tP T) → (if (if 0 ≤ b ∧ b < nI w0 then (1 : Int32) else 0) = 0 then some (-1) else z_it (f9_order_L12 (nI at') m1) z_fu (b, 0, 0, 0)) = some x) → zw (f9_order (nI k) b (nI at') m) fun q => q.1 = x ∧ zk sQ m q.2 := fun m h hl x h1 => by
    unfold f9_order
    obtain ⟨hv, h9, _, h2, _⟩ := h.mx
    refine zw_eq (hk' m hl).2 ?_
    rw [if_neg n01, h9, if_pos (y_in hv (by omega)), y_cl (by omega), h2, hin _ _ (by omega), if_pos (y_isn hat (by omega)), if_neg n01]
    refine zw_b (p9_countsBy h hl hk) ?_
    rintro ⟨y, m1⟩ ⟨ey, hf, hq⟩
    have ey' : y = _ := ey
    have hf' : zk sQ m m1 := hf
    simp only [z_u2]
    rw [ey', ew, hin _ _ (by omega)]
    have := h1 m1 hq
    by_cases c1 : (if 0 ≤ b ∧ b < nI w0 then (1 : Int32) else 0) = 0
    · rw [if_pos c1] at this ⊢
      cases this
      exact zw_some.mpr ⟨rfl, hf'⟩
    · rw [if_neg c1] at this ⊢
      rw [this]
      exact zw_some.mpr ⟨rfl, hf'⟩
  rcases y_is b (n := w0) (by omega) with hb | ⟨i, hi, rfl⟩
  · refine ⟨-1, fun m h hl => h8 m h hl (-1) (fun _ => rfl) (fun b0 m1 hq => ?_), fun m h hl => h9' m h hl (-1) (fun m1 hq => ?_)⟩
    · rw [if_neg (fun q => hb ⟨by rw [y_il, y_t0]; rw [y_i, y_t0] at b0; omega, q⟩)]
    · rw [if_neg hb, if_pos rfl]
  · refine ⟨nI (q_os (q_nd te tf k) (tP T) i (at' + 1)).2.2, fun m h hl => h8 m h hl _ (fun b0 => absurd b0 (nI_pos (by omega))) (fun b0 m1 hq => ?_), fun m h hl => h9' m h hl _ (fun m1 hq => ?_)⟩
    · rw [if_pos (nI_lt hi (by omega))]
      exact p2_who hP hq hw0 ew hi hat
    · rw [if_pos (y_isn hi (by omega)), if_neg n01]
      exact p9_who hP hq hw0 ew hi hat
end
