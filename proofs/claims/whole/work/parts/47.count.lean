/-! COUNT -/
section
variable {T : qT} {o v B : Nat} {r : Nat → Int32} {m m' : zMem}
theorem p8_allGot (h : qI_T T o v m) (hn : qI_N B T r m) : f8_allGot m = some (q_sm (fun p => r (14 + p)) 7) := by
  have hP := h.ok.2
  have e : q_sm (fun p => r (14 + p)) 7 = q_sm (fun p => r (14 + p)) (tP T) := q_sm_to hP (fun i h1 h2 => (hn.1.2.1 i h1 h2).2.2)
  rw [e]
  unfold f8_allGot
  refine z_it_eb (fun k => (q_sm (fun p => r (14 + p)) k, nI k)) (tP T) _ rfl (fun k hk => ?_) ?_ (z_fu_lt (by omega)) rfl
  · unfold f8_allGot_L1
    simp (disch := omega) only [z_u2, h.ox, h.P, y_lt, hk, ↓reduceIte, y_in, y_cl, hn.2.1.2.2.2.2.1 _, z_let, y_s1]
    rfl
  · unfold f8_allGot_L1
    simp (disch := omega) only [z_u2, h.ox, h.P, y_lt, Nat.lt_irrefl, ↓reduceIte]
theorem p8_allGone (h : qI_T T o v m) (hn : qI_N B T r m) : f8_allGone m = some (q_sm (fun p => r (7 + p)) 7) := by
  have hP := h.ok.2
  have e : q_sm (fun p => r (7 + p)) 7 = q_sm (fun p => r (7 + p)) (tP T) := q_sm_to hP (fun i h1 h2 => (hn.1.2.1 i h1 h2).2.1)
  rw [e]
  unfold f8_allGone
  refine z_it_eb (fun k => (q_sm (fun p => r (7 + p)) k, nI k)) (tP T) _ rfl (fun k hk => ?_) ?_ (z_fu_lt (by omega)) rfl
  · unfold f8_allGone_L1
    simp (disch := omega) only [z_u2, h.ox, h.P, y_lt, hk, ↓reduceIte, y_in, y_cl, hn.2.1.2.2.2.1 _, z_let, y_s1]
    rfl
  · unfold f8_allGone_L1
    simp (disch := omega) only [z_u2, h.ox, h.P, y_lt, Nat.lt_irrefl, ↓reduceIte]
theorem p8_allRent (h : qI_T T o v m) : f8_allRent m = some (q_sm (tR T) (tH T)) := by
  have hH := h.ok.1
  unfold f8_allRent
  refine z_it_eb (fun k => (q_sm (tR T) k, nI k)) (tH T) _ rfl (fun k hk => ?_) ?_ (z_fu_lt (by omega)) rfl
  · unfold f8_allRent_L1
    simp (disch := omega) only [z_u2, h.ox, h.H, y_lt, hk, ↓reduceIte, z_l26a, y_in, y_cl, h.tx.2.2.2.1 k hk, z_let, y_s1]
    rfl
  · unfold f8_allRent_L1
    simp (disch := omega) only [z_u2, h.ox, h.H, y_lt, Nat.lt_irrefl, ↓reduceIte]
theorem p8_noRight (h : qI_T T o v m) (hn : qI_N B T r m) : f8_whoHasNoRight m = some (q_mk (fun p => !q_any (fun h => bt (r (28 + h)) p) (tH T)) (tP T)) := by
  have hH := h.ok.1
  have hP := h.ok.2
  unfold f8_whoHasNoRight
  simp only [z_let]
  rw [h.ox, h.P, p5_everybody hP]
  refine z_it_eb (fun k => (q_mk (fun p => !q_any (fun h => bt (r (28 + h)) p) k) (tP T), nI k)) (tH T) _ rfl (fun k hk => ?_) ?_ (z_fu_lt (by omega)) rfl
  · unfold f8_whoHasNoRight_L4
    simp (disch := omega) only [z_u2, h.ox, h.H, y_lt, hk, ↓reduceIte, y_in, y_cl, hn.2.1.2.2.2.2.2.2 k (by omega), z_let, y_s1]
    show some (Sum.inl (_, _)) = some (Sum.inl (_, _))
    congr 3
    refine q_mk_eq (by omega) fun i hi => ?_
    rw [b_and, b_not hi, q_mk_b _ _ (by omega) i hi]
    show (_ && !q_any _ k && !bt (r (28 + k)) i) = (_ && !(q_any (fun h => bt (r (28 + h)) i) k || bt (r (28 + k)) i))
    cases decide (i < tP T) <;> cases q_any (fun h => bt (r (28 + h)) i) k <;> cases bt (r (28 + k)) i <;> rfl
  · unfold f8_whoHasNoRight_L4
    simp (disch := omega) only [z_u2, h.ox, h.H, y_lt, Nat.lt_irrefl, ↓reduceIte]
theorem p9_sumNow (hn : qI_N B T r m) {a : Nat} (ha : a ≤ 27) : f9_sumNow (nI a) m = some (q_sm (fun p => r (a + p)) 7) := by
  unfold f9_sumNow
  refine z_it_eb (fun k => (q_sm (fun p => r (a + p)) k, nI (a + k))) 7 _ rfl (fun k hk => ?_) ?_ (by decide) rfl
  · unfold f9_sumNow_L1
    have hk' : a + k < a + 7 := by omega
    simp (disch := omega) only [z_u2, y_7, nI_add, y_lt, hk', ↓reduceIte, y_in, y_cl, hn.2.2 _, z_let, y_s1]
    rfl
  · unfold f9_sumNow_L1
    simp (disch := omega) only [z_u2, y_7, nI_add, y_lt, Nat.lt_irrefl, ↓reduceIte]
theorem p8_allRents (h : qI_T T o v m) (hn : qI_N B T r m) : zw (f8_allRents m) fun q => q.1 = q_sm (q_rt T r) (tH T) ∧ zk sQ m q.2 := by
  have hH := h.ok.1
  unfold f8_allRents
  rw [h.ox]
  refine zw_b (p1_look hn.2.1 h.ok h.tx) ?_
  rintro m1 ⟨hf, hs⟩
  have hf' := zk_lk hf
  refine zw_b (zw_for2 (Q := fun q => q.1 = q_sm (q_rt T r) (tH T) ∧ zk (sLaw 0) m1 q.2) (tH T) (fun k a m2 => a = q_sm (q_rt T r) k ∧ zk (sLaw 0) m1 m2) (by omega) ⟨rfl, zk_r m1⟩ ?_ ?_) (fun q hq => zw_some.mpr ⟨hq.1, zk_t hf' (zk_lw hq.2)⟩)
  · rintro k a m2 hk ⟨rfl, hf2⟩
    have h2 := q_T_q h (zk_t hf' (zk_lw hf2))
    unfold f8_allRents_L3
    simp (disch := omega) only [z_u3, h2.ox, h2.H, y_lt, hk, ↓reduceIte]
    refine zw_b (p1_rentsOf (q_N_q hn (zk_t hf' (zk_lw hf2))).2.1 hn.1 h.ok h.lw h2.tx h2.cl (hs.zk hf2 (fun k => by omega)) hk) ?_
    rintro ⟨x, m3⟩ ⟨ex, hf3⟩
    have ex' : x = _ := ex
    refine zw_some.mpr ⟨y_s1 k, ?_, zk_t hf2 hf3⟩
    show _ + x = q_sm (q_rt T r) k + q_rt T r k
    rw [ex']
  · rintro a m2 hI
    have h2 := q_T_q h (zk_t hf' (zk_lw hI.2))
    unfold f8_allRents_L3
    simp (disch := omega) only [z_u3, h2.ox, h2.H, y_lt, Nat.lt_irrefl, ↓reduceIte]
    exact zw_some.mpr hI
theorem p9_cRents (h : qI_T T o v m) (hr : qMr m r) : zw (z_it f9_count_L67 z_fu (0, 0, m)) fun q => q.1 = q_sm (q_rt T r) (tH T) ∧ zk sML m q.2 := by
  have hH := h.ok.1
  refine zw_for2 (tH T) (fun k a m2 => a = q_sm (q_rt T r) k ∧ zk sML m m2) (by omega) ⟨rfl, zk_r m⟩ ?_ ?_
  · rintro k a m2 hk ⟨rfl, hf2⟩
    have h2 := q_T_q h (zk_ml hf2)
    have hx := h2.mx
    obtain ⟨hv, h9, h1, _⟩ := hx
    unfold f9_count_L67
    simp (disch := omega) only [z_u3, h9, h1, y_in, y_cl, y_lt, hk, ↓reduceIte]
    refine zw_b (p9_rentsOf h2.mx h.ok h2.lw h2.ml (hr.zk hf2 (fun k => by omega)) hk) ?_
    rintro ⟨x, m3⟩ ⟨ex, hf3⟩
    have ex' : x = _ := ex
    refine zw_some.mpr ⟨y_s1 k, ?_, zk_t hf2 hf3⟩
    show _ + x = q_sm (q_rt T r) k + q_rt T r k
    rw [ex']
  · rintro a m2 hI
    obtain ⟨hv, h9, h1, _⟩ := (q_T_q h (zk_ml hI.2)).mx
    unfold f9_count_L67
    simp (disch := omega) only [z_u3, h9, h1, y_in, y_cl, y_lt, Nat.lt_irrefl, ↓reduceIte]
    exact zw_some.mpr hI
theorem p9_cRent (h : qI_T T o v m) : z_it (f9_count_L53 m) z_fu (0, 0) = some (q_sm (tR T) (tH T)) := by
  have hH := h.ok.1
  obtain ⟨hv, h9, h1, _, _, hR, _⟩ := h.mx
  refine z_it_e (fun k => (q_sm (tR T) k, nI k)) (tH T) _ rfl (fun k hk => ?_) ?_ (z_fu_lt (by omega))
  · unfold f9_count_L53
    simp (disch := omega) only [z_u2, h9, h1, y_in, y_cl, y_lt, hk, ↓reduceIte, y_5, pk_mul, nI_add, hR k hk, z_let, y_s1]
    rfl
  · unfold f9_count_L53
    simp (disch := omega) only [z_u2, h9, h1, y_in, y_cl, y_lt, Nat.lt_irrefl, ↓reduceIte]
theorem p9_cLords (h : qI_T T o v m) (hr : qMr m r) : z_it (f9_count_L18 m) z_fu (0, 0) = some (q_lords T r) := by
  have hP := h.ok.2
  obtain ⟨hv, h9, _, h1, _⟩ := h.mx
  refine z_it_e (fun k => (q_mk (fun p => q_isl T r p) k, nI k)) (tP T) _ rfl (fun k hk => ?_) ?_ (z_fu_lt (by omega))
  · unfold f9_count_L18
    simp (disch := omega) only [z_u2, h9, h1, y_in, y_cl, y_lt, hk, ↓reduceIte, p9_lordBits h.mx h.ok hr, Option.bind_some, z_let, y_s1]
    rw [q_mk]
    cases eb : q_isl T r k
    · rw [if_pos ((q_lordb0 h.ok k).mpr eb)]; rfl
    · rw [if_neg (fun q => by rw [(q_lordb0 h.ok k).mp q] at eb; exact absurd eb (by decide))]; rfl
  · unfold f9_count_L18
    simp (disch := omega) only [z_u2, h9, h1, y_in, y_cl, y_lt, Nat.lt_irrefl, ↓reduceIte]
    rfl
theorem p9_cNo (h : qI_T T o v m) (hr : qMr m r) : z_it (f9_count_L80 m) z_fu (0, 0) = some (q_mk (fun p => !q_any (fun h => bt (r (28 + h)) p) (tH T)) (tP T)) := by
  have hP := h.ok.2
  have hH := h.ok.1
  obtain ⟨hv, h9, _, h1, _⟩ := h.mx
  refine z_it_e (fun k => (q_mk (fun p => !q_any (fun h => bt (r (28 + h)) p) (tH T)) k, nI k)) (tP T) _ rfl (fun k hk => ?_) ?_ (z_fu_lt (by omega))
  · unfold f9_count_L80
    simp (disch := omega) only [z_u2, h9, h1, y_in, y_cl, y_lt, hk, ↓reduceIte, p9_rightBits h.mx h.ok hr, Option.bind_some, z_let, y_s1]
    rw [q_mk]
    have e0 := q_mk_eq0 (c := fun h => bt (r (28 + h)) k) (n := tH T) (by omega)
    cases eb : q_any (fun h => bt (r (28 + h)) k) (tH T)
    · rw [if_pos (e0.mpr eb)]; rfl
    · rw [if_neg (fun q => by rw [e0.mp q] at eb; exact absurd eb (by decide))]; rfl
  · unfold f9_count_L80
    simp (disch := omega) only [z_u2, h9, h1, y_in, y_cl, y_lt, Nat.lt_irrefl, ↓reduceIte]
/-- with what is held back besides -/
def qAr (T : qT) (o v B : Nat) (r : Nat → Int32) (R : zMem → Prop) (f : zMem → Option (Int32 × zMem)) (a : Int32) : Prop := ∀ m, qI_T T o v m → qI_N B T r m → R m → zw (f m) fun q => q.1 = a ∧ zk sQ m q.2
theorem c_count (hT : tOk T) {u nx : Nat} {hs : Nat → Nat → Int32} {sf : Nat → Bool} {ss : Nat → Nat → Int32} {td : Nat} {te tf : Nat → Nat} {n : Nat} (a : Int32) : ∃ x, qAr T o v B r (fun m => qI_U B T u nx hs m ∧ qI_S B T sf ss m ∧ qI_L T td te tf m ∧ qI_P n m) (f8_count a) x ∧ qAr T o v B r (fun m => qI_U B T u nx hs m ∧ qI_S B T sf ss m ∧ qI_L T td te tf m ∧ qI_P n m) (f9_count a) x := by
  have hH := hT.1
  have hP := hT.2
  have hI : ∀ m : zMem, ∀ m' : zMem, zk sQ m m' → (qI_U B T u nx hs m ∧ qI_S B T sf ss m ∧ qI_L T td te tf m ∧ qI_P n m) → (qI_U B T u nx hs m' ∧ qI_S B T sf ss m' ∧ qI_L T td te tf m' ∧ qI_P n m') := fun m m' hf h => ⟨h.1.zk hf (fun c i k h => by omega), h.2.1.zk hf (fun c i k h => by omega), h.2.2.1.zk hf (fun c i k h => by omega), h.2.2.2.zk hf (fun c i k h => by omega)⟩
  have n9 : ∀ {m : zMem} {x : Int32} {f : zMem → Option (Int32 × zMem)}, qI_T T o v m → qI_N B T r m → (qI_U B T u nx hs m ∧ qI_S B T sf ss m ∧ qI_L T td te tf m ∧ qI_P n m) → (∀ m', qI_T T o v m' → qI_N B T r m' → qMr m' r → (qI_U B T u nx hs m' ∧ qI_S B T sf ss m' ∧ qI_L T td te tf m' ∧ qI_P n m') → zw (f m') fun q => q.1 = x ∧ zk sQ m' q.2) → zw ((f9_copies m).bind f) fun q => q.1 = x ∧ zk sQ m q.2 := by
    intro m x f h hn hR k
    refine zw_b (p9_copiesK h.mx hn.2.2) ?_
    rintro m1 ⟨hf, hr, hs⟩
    have hf' := zk_cp hf
    exact zw_mono (k m1 (q_T_q h hf') (q_N_q hn hf') hr (hI m m1 hf' hR)) (fun q hq => ⟨hq.1, zk_t hf' hq.2⟩)
  have ws : ∀ {m : zMem}, qI_T T o v m → qI_N B T r m → ∀ x, f5_whoStands 0 o x m = if x = 0 ∨ x = 1 ∨ x = 2 then q_st T r x else -1 := fun h hn x => p5_whoStands hn.2.1 hT h.tx hn.1 x
  unfold qAr f8_count f9_count
  by_cases a0 : a = 0
  · refine ⟨nI (tH T), fun m h hn hR => ?_, fun m h hn hR => n9 h hn hR (fun m' h' hn' hr' hR' => ?_)⟩
    · rw [if_pos a0, h.ox, h.H]; exact q_some m
    · obtain ⟨hv, h9, h1, _⟩ := h'.mx
      rw [if_pos a0, h9, if_pos (y_in hv (by omega)), y_cl (by omega), h1]; exact q_some m'
  simp only [if_neg a0]
  by_cases a1 : a = 1
  · refine ⟨nI (tP T), fun m h hn hR => ?_, fun m h hn hR => n9 h hn hR (fun m' h' hn' hr' hR' => ?_)⟩
    · rw [if_pos a1, h.ox, h.P]; exact q_some m
    · obtain ⟨hv, h9, _, h1, _⟩ := h'.mx
      rw [if_pos a1, h9, if_pos (y_in hv (by omega)), y_cl (by omega), h1]; exact q_some m'
  simp only [if_neg a1]
  by_cases a2 : a = 2
  · refine ⟨r 33, fun m h hn hR => ?_, fun m h hn hR => n9 h hn hR (fun m' h' hn' hr' hR' => ?_)⟩
    · rw [if_pos a2, hn.2.1.1]; exact q_some m
    · rw [if_pos a2, show (33 : Int32).toNatClampNeg = 33 from rfl, hr' 33 (by omega)]; exact q_some m'
  simp only [if_neg a2]
  by_cases a3 : a = 3
  · refine ⟨q_st T r 0, fun m h hn hR => ?_, fun m h hn hR => n9 h hn hR (fun m' h' hn' hr' hR' => ?_)⟩
    · rw [if_pos a3, h.ox, ws h hn, a3]; exact q_some m
    · rw [if_pos a3, p9_inState h'.mx hT hr']; exact q_some m'
  simp only [if_neg a3]
  by_cases a4 : a = 4
  · refine ⟨q_st T r 1, fun m h hn hR => ?_, fun m h hn hR => n9 h hn hR (fun m' h' hn' hr' hR' => ?_)⟩
    · rw [if_pos a4, h.ox, ws h hn, a4]; exact q_some m
    · rw [if_pos a4, p9_inState h'.mx hT hr']; exact q_some m'
  simp only [if_neg a4]
  by_cases a5 : a = 5
  · refine ⟨q_st T r 2, fun m h hn hR => ?_, fun m h hn hR => n9 h hn hR (fun m' h' hn' hr' hR' => ?_)⟩
    · rw [if_pos a5, h.ox, ws h hn, a5]; exact q_some m
    · rw [if_pos a5, p9_inState h'.mx hT hr']; exact q_some m'
  simp only [if_neg a5]
  by_cases a6 : a = 6
  · refine ⟨q_lords T r, fun m h hn hR => ?_, fun m h hn hR => n9 h hn hR (fun m' h' hn' hr' hR' => ?_)⟩
    · rw [if_pos a6, h.ox, p5_allLandlords hn.2.1 hT h.tx]; exact q_some m
    · rw [if_pos a6, p9_cLords h' hr']; exact q_some m'
  simp only [if_neg a6]
  by_cases a7 : a = 7
  · refine ⟨q_sm (fun p => r (14 + p)) 7, fun m h hn hR => ?_, fun m h hn hR => n9 h hn hR (fun m' h' hn' hr' hR' => ?_)⟩
    · rw [if_pos a7, p8_allGot h hn]; exact q_some m
    · rw [if_pos a7, show (14 : Int32) = nI 14 from rfl, p9_sumNow hn' (by omega)]; exact q_some m'
  simp only [if_neg a7]
  by_cases a8 : a = 8
  · refine ⟨nI n, fun m h hn hR => ?_, fun m h hn hR => n9 h hn hR (fun m' h' hn' hr' hR' => ?_)⟩
    · rw [if_pos a8, hR.2.2.2.2.1]; exact q_some m
    · rw [if_pos a8, hR'.2.2.2.2.2.1]; exact q_some m'
  simp only [if_neg a8]
  by_cases a9 : a = 9
  · refine ⟨nI u, fun m h hn hR => ?_, fun m h hn hR => n9 h hn hR (fun m' h' hn' hr' hR' => ?_)⟩
    · rw [if_pos a9, hR.1.2.2.2.1]; exact q_some m
    · rw [if_pos a9, hR'.1.2.2.2.2.1]; exact q_some m'
  simp only [if_neg a9]
  by_cases a10 : a = 10
  · refine ⟨nI td, fun m h hn hR => ?_, fun m h hn hR => n9 h hn hR (fun m' h' hn' hr' hR' => ?_)⟩
    · rw [if_pos a10, hR.2.2.1.2.1]; exact q_some m
    · rw [if_pos a10, hR'.2.2.1.2.2.1]; exact q_some m'
  simp only [if_neg a10]
  by_cases a11 : a = 11
  · refine ⟨q_sm (fun k => if sf k then 1 else 0) 3, fun m h hn hR => ?_, fun m h hn hR => n9 h hn hR (fun m' h' hn' hr' hR' => ?_)⟩
    · have e : m.1 8 0 11 = q_mk sf 3 := q_mk_eq (by omega) hR.2.1.1
      rw [if_pos a11, e, p6_bitCount_mk _ (by omega)]; exact q_some m
    · rw [if_pos a11, show (0 : Int32).toNatClampNeg = 0 from rfl, show (1 : Int32).toNatClampNeg = 1 from rfl, show (2 : Int32).toNatClampNeg = 2 from rfl, (hR'.2.1.2 0 (by omega)).1, (hR'.2.1.2 1 (by omega)).1, (hR'.2.1.2 2 (by omega)).1]
      show zw _ fun (q : Int32 × zMem) => q.1 = (0 + (if sf 0 then 1 else 0)) + (if sf 1 then 1 else 0) + (if sf 2 then 1 else 0) ∧ _
      cases sf 0 <;> cases sf 1 <;> cases sf 2 <;> exact q_some m'
  simp only [if_neg a11]
  by_cases a12 : a = 12
  · refine ⟨q_all T r, fun m h hn hR => ?_, fun m h hn hR => n9 h hn hR (fun m' h' hn' hr' hR' => ?_)⟩
    · rw [if_pos a12, p8_allRights h hn]; exact q_some m
    · rw [if_pos a12, p9_rightsAll h' hn']; exact q_some m'
  simp only [if_neg a12]
  by_cases a13 : a = 13
  · refine ⟨q_sm (tR T) (tH T), fun m h hn hR => ?_, fun m h hn hR => n9 h hn hR (fun m' h' hn' hr' hR' => ?_)⟩
    · rw [if_pos a13, p8_allRent h]; exact q_some m
    · rw [if_pos a13, p9_cRent h']; exact q_some m'
  simp only [if_neg a13]
  by_cases a14 : a = 14
  · refine ⟨q_sm (fun p => r (7 + p)) 7, fun m h hn hR => ?_, fun m h hn hR => n9 h hn hR (fun m' h' hn' hr' hR' => ?_)⟩
    · rw [if_pos a14, p8_allGone h hn]; exact q_some m
    · rw [if_pos a14, show (7 : Int32) = nI 7 from rfl, p9_sumNow hn' (by omega)]; exact q_some m'
  simp only [if_neg a14]
  by_cases a15 : a = 15
  · refine ⟨q_sm (q_rt T r) (tH T), fun m h hn hR => ?_, fun m h hn hR => n9 h hn hR (fun m' h' hn' hr' hR' => ?_)⟩
    · rw [if_pos a15]
      exact zw_b (p8_allRents h hn) (fun q hq => zw_some.mpr hq)
    · rw [if_pos a15]
      exact zw_b (p9_cRents h' hr') (fun q hq => zw_some.mpr ⟨hq.1, zk_ml hq.2⟩)
  simp only [if_neg a15]
  by_cases a16 : a = 16
  · refine ⟨q_mk (fun p => !q_any (fun h => bt (r (28 + h)) p) (tH T)) (tP T), fun m h hn hR => ?_, fun m h hn hR => n9 h hn hR (fun m' h' hn' hr' hR' => ?_)⟩
    · rw [if_pos a16, p8_noRight h hn]; exact q_some m
    · rw [if_pos a16, p9_cNo h' hr']; exact q_some m'
  simp only [if_neg a16]
  exact ⟨-1, fun m h hn hR => q_some m, fun m h hn hR => n9 h hn hR (fun m' h' hn' hr' hR' => q_some m')⟩
end
