/-! STEPS V: the tape: feed, back -/
def q_b (a : Int32) (k : Nat) : Int32 := (a >>> (nI (24 - 8 * k) &&& 31)).toInt8.toInt32.toInt8.toInt32
theorem s_lu : ∀ n, n < 32 → (((nI n).toUInt32 &&& Int32.toUInt32 31).toBitVec % 32).toNat = n := by decide +kernel
theorem b_ushr (n : Nat) (hn : n < 32) (x : Int32) (i : Nat) : bt (x.toUInt32 >>> ((nI n).toUInt32 &&& Int32.toUInt32 31)).toInt32 i = bt x (n + i) := by
  show ((x.toUInt32 >>> ((nI n).toUInt32 &&& Int32.toUInt32 31)).toBitVec).getLsbD i = _
  rw [UInt32.toBitVec_shiftRight]
  show (x.toBitVec >>> ((((nI n).toUInt32 &&& Int32.toUInt32 31).toBitVec % 32).toNat)).getLsbD i = _
  rw [s_lu n hn, BitVec.getLsbD_ushiftRight]
  rfl
theorem q_b_8 {x y : Int32} (h : ∀ i, i < 8 → bt x i = bt y i) : x.toInt8 = y.toInt8 := by
  apply Int8.toBitVec_inj.mp
  rw [Int32.toBitVec_toInt8, Int32.toBitVec_toInt8]
  apply BitVec.eq_of_getLsbD_eq
  intro i hi
  rw [BitVec.getLsbD_signExtend, BitVec.getLsbD_signExtend, if_pos (show i < 32 by omega), if_pos (show i < 32 by omega)]
  have := h i hi
  unfold bt at this
  rw [this]
theorem q_b_u (a : Int32) {n : Nat} (hn : n ≤ 24) : (a.toUInt32 >>> ((nI n).toUInt32 &&& Int32.toUInt32 31)).toInt32.toInt8 = (a >>> (nI n &&& 31)).toInt8 := q_b_8 fun i hi => by
  rw [b_ushr n (by omega) a i, b_sshr n (by omega) a (by omega), if_pos (by omega)]
theorem q_b_by (x : Int8) : q_by x.toInt32 := by
  unfold q_by
  rw [Int8.toInt_toInt32]
  exact ⟨Int8.le_toInt x, Int8.toInt_lt x⟩
section
variable {T : qT} {o v B n : Nat} {r : Nat → Int32} {F : Nat → Int32} {m m' m1 : zMem}
def qP8 (m : zMem) (n : Nat) (F : Nat → Int32) (j : Nat) (m' : zMem) : Prop := zk (fun c i k => (c = 34 ∧ i = 0) ∨ (c = 8 ∧ k = 1)) m m' ∧ m'.1 8 0 1 = nI (n + j) ∧ (∀ k, k < j → m'.1 34 0 (n + k) = F k) ∧ ∀ k, k < n → m'.1 34 0 k = m.1 34 0 k
def qP9 (m : zMem) (n : Nat) (F : Nat → Int32) (j : Nat) (m' : zMem) : Prop := zk (fun c i k => c = 101 ∨ (c = 9 ∧ k = 2)) m m' ∧ m'.1 9 0 2 = nI (n + j) ∧ (∀ k, k < j → m'.1 101 0 (n + k) = F k) ∧ ∀ k, k < n → m'.1 101 0 k = m.1 101 0 k
def q_sh (k : Nat) : Int32 := if k < 4 then nI (24 - 8 * k) else -8
theorem q_sh_s : ∀ k, k < 4 → q_sh k + (-8) = q_sh (k + 1) := by decide +kernel
theorem p8_put {j : Nat} (h : qP8 m n F j m1) (a : Int32) (ha : ∀ k, k < 4 → F (j + k) = q_b a k) (hn : n + j + 4 ≤ 2000) : zw (f8_putBytes a m1) (qP8 m n F (j + 4)) := by
  unfold f8_putBytes
  refine zw_b (zw_forG (Q := qP8 m n F (j + 4)) 4 (fun k s => s.1 = q_sh k ∧ qP8 m n F (j + k) s.2) (by omega) ⟨rfl, h⟩ ?_ ?_) (fun m2 h2 => zw_some.mpr h2)
  · rintro k ⟨x, m2⟩ hk ⟨ex, hp⟩
    have ex' : x = q_sh k := ex
    have es : q_sh k = nI (24 - 8 * k) := if_pos hk
    obtain ⟨hf, h1, h2, h3⟩ := hp
    have h1' : m2.1 8 0 1 = nI (n + (j + k)) := h1
    subst ex'
    unfold f8_putBytes_L1
    simp only [z_u2]
    rw [show q_sh k + -8 = q_sh (k + 1) from q_sh_s k hk, es, if_neg (nI_pos (by omega)), h1', if_pos (show nI (n + (j + k)) < 2000 from nI_lt (b := 2000) (by omega) (by omega)), if_pos (y_in (by omega) (by omega)), y_cl (by omega), q_b_u a (by omega)]
    simp only [z_let]
    have g : (z_sI m2 34 0 (n + (j + k)) (a >>> (nI (24 - 8 * k) &&& 31)).toInt8.toInt32.toInt8.toInt32).1 8 0 1 = nI (n + (j + k)) := by rw [z_sI_1, if_neg (by omega)]; exact h1'
    rw [g, y_s1]
    refine zw_some.mpr ⟨rfl, zk_s (zk_s hf (by omega)) (by omega), ?_, fun i hi => ?_, fun i hi => ?_⟩
    · show (z_sI _ 8 0 1 _).1 8 0 1 = _
      rw [z_sI_1, if_pos ⟨rfl, rfl, rfl⟩]; rfl
    · show (z_sI _ 8 0 1 _).1 34 0 (n + i) = _
      rw [z_sI_1, if_neg (by omega), z_sI_1]
      by_cases e : i = j + k
      · rw [if_pos ⟨rfl, rfl, by omega⟩, e, ha k hk]; rfl
      · rw [if_neg (fun q => e (by omega))]; exact h2 i (by omega)
    · show (z_sI _ 8 0 1 _).1 34 0 i = _
      rw [z_sI_1, if_neg (by omega), z_sI_1, if_neg (by omega)]; exact h3 i hi
  · rintro ⟨x, m2⟩ ⟨ex, hp⟩
    have ex' : x = q_sh 4 := ex
    subst ex'
    unfold f8_putBytes_L1
    simp only [z_u2]
    rw [if_pos (show q_sh 4 < 0 by decide)]
    exact zw_some.mpr hp
theorem p9_put {j : Nat} (h : qP9 m n F j m1) (a : Int32) (ha : ∀ k, k < 4 → F (j + k) = q_b a k) (hn : n + j + 4 ≤ 2000) : zw (f9_put a m1) (qP9 m n F (j + 4)) := by
  unfold f9_put
  refine zw_b (zw_forG (Q := qP9 m n F (j + 4)) 4 (fun k s => s.1 = q_sh k ∧ qP9 m n F (j + k) s.2) (by omega) ⟨rfl, h⟩ ?_ ?_) (fun m2 h2 => zw_some.mpr h2)
  · rintro k ⟨x, m2⟩ hk ⟨ex, hp⟩
    have ex' : x = q_sh k := ex
    have es : q_sh k = nI (24 - 8 * k) := if_pos hk
    obtain ⟨hf, h1, h2, h3⟩ := hp
    have h1' : m2.1 9 0 2 = nI (n + (j + k)) := h1
    subst ex'
    unfold f9_put_L1
    simp only [z_u2]
    rw [show q_sh k + -8 = q_sh (k + 1) from q_sh_s k hk, es, if_neg (nI_pos (by omega)), h1', if_pos (y_in (by omega) (by omega)), y_cl (by omega)]
    simp only [z_let]
    have g : (z_sI m2 101 0 (n + (j + k)) (a >>> (nI (24 - 8 * k) &&& 31)).toInt8.toInt32.toInt8.toInt32).1 9 0 2 = nI (n + (j + k)) := by rw [z_sI_1, if_neg (by omega)]; exact h1'
    rw [g, y_s1]
    refine zw_some.mpr ⟨rfl, zk_s (zk_s hf (by omega)) (by omega), ?_, fun i hi => ?_, fun i hi => ?_⟩
    · show (z_sI _ 9 0 2 _).1 9 0 2 = _
      rw [z_sI_1, if_pos ⟨rfl, rfl, rfl⟩]; rfl
    · show (z_sI _ 9 0 2 _).1 101 0 (n + i) = _
      rw [z_sI_1, if_neg (by omega), z_sI_1]
      by_cases e : i = j + k
      · rw [if_pos ⟨rfl, rfl, by omega⟩, e, ha k hk]; rfl
      · rw [if_neg (fun q => e (by omega))]; exact h2 i (by omega)
    · show (z_sI _ 9 0 2 _).1 101 0 i = _
      rw [z_sI_1, if_neg (by omega), z_sI_1, if_neg (by omega)]; exact h3 i hi
  · rintro ⟨x, m2⟩ ⟨ex, hp⟩
    have ex' : x = q_sh 4 := ex
    subst ex'
    unfold f9_put_L1
    simp only [z_u2]
    rw [if_pos (show q_sh 4 < 0 by decide)]
    exact zw_some.mpr hp
def q_F (a b c d e : Int32) (k : Nat) : Int32 := if k < 4 then q_b a k else if k < 8 then q_b b (k - 4) else if k < 12 then q_b c (k - 8) else if k < 16 then q_b d (k - 12) else q_b e (k - 16)
theorem q_F_by (a b c d e : Int32) (k : Nat) : q_by (q_F a b c d e k) := by
  unfold q_F q_b
  by_cases h1 : k < 4
  · rw [if_pos h1]; exact q_b_by _
  by_cases h2 : k < 8
  · rw [if_neg h1, if_pos h2]; exact q_b_by _
  by_cases h3 : k < 12
  · rw [if_neg h1, if_neg h2, if_pos h3]; exact q_b_by _
  by_cases h4 : k < 16
  · rw [if_neg h1, if_neg h2, if_neg h3, if_pos h4]; exact q_b_by _
  · rw [if_neg h1, if_neg h2, if_neg h3, if_neg h4]; exact q_b_by _
abbrev sT8 : Nat → Nat → Nat → Prop := fun c i k => (c = 34 ∧ i = 0) ∨ (c = 8 ∧ k = 1)
abbrev sT9 : Nat → Nat → Nat → Prop := fun c _ k => c = 101 ∨ (c = 9 ∧ k = 2)
/-- only the tape changes -/
theorem q_closeP {m2 m3 : zMem} (h1 : qI_T T o v m) (h2 : qI_N B T r m) (h3 : qI_R B T m) {B' : Nat} (hB : B ≤ B') (hf : zk sT8 m m2) (hf' : zk sT9 m2 m3) (hp : qI_P n m3) : qInv B' m3 := by
  obtain ⟨⟨u, nx, hs, hU⟩, ⟨sf, ss, s2⟩, ⟨td, te, tf, l2⟩, _, _⟩ := h3.mn hB
  exact ⟨T, o, v, r, (h1.zk hf (fun c i k h => by omega)).zk hf' (fun c i k h => by omega), ((h2.mn hB).zk hf (fun c k h => by omega)).zk hf' (fun c k h => by omega), ⟨u, nx, hs, (hU.zk hf (fun c i k h => by omega)).zk hf' (fun c i k h => by omega)⟩, ⟨sf, ss, (s2.zk hf (fun c i k h => by omega)).zk hf' (fun c i k h => by omega)⟩, ⟨td, te, tf, (l2.zk hf (fun c i k h => by omega)).zk hf' (fun c i k h => by omega)⟩, n, hp⟩
theorem s_feed (a b c d e : Int32) : qSt B (f8_feed a b c d e) (f9_feed a b c d e) := by
  rintro m ⟨T, o, v, r, h1, h2, h3⟩
  have h3' := h3
  obtain ⟨_, _, _, n, hP⟩ := h3'
  obtain ⟨p1, p2, p3, p4, p5, p6⟩ := hP
  have e20 : nI n + 20 = nI (n + 20) := nI_add n 20
  by_cases hn : n + 20 ≤ 2000
  case neg =>
    have hlt : (2000 : Int32) < nI (n + 20) := nI_lt (a := 2000) (by omega) (by omega)
    refine q_nothing ⟨T, o, v, r, h1, h2, h3⟩ (x := -1) ?_ ?_
    · unfold f8_feed; rw [p2, e20, if_pos hlt]
    · unfold f9_feed; rw [p3, e20, if_pos hlt]
  have hnl : ¬ (2000 : Int32) < nI (n + 20) := fun q => by
    have q' : nI 2000 < nI (n + 20) := q
    rw [y_lt (by omega) (by omega)] at q'
    omega
  have f0 : ∀ k, k < 4 → q_F a b c d e (0 + k) = q_b a k := fun k hk => by unfold q_F; rw [if_pos (by omega), Nat.zero_add]
  have f1 : ∀ k, k < 4 → q_F a b c d e (4 + k) = q_b b k := fun k hk => by unfold q_F; rw [if_neg (by omega), if_pos (by omega), show 4 + k - 4 = k by omega]
  have f2 : ∀ k, k < 4 → q_F a b c d e (8 + k) = q_b c k := fun k hk => by unfold q_F; rw [if_neg (by omega), if_neg (by omega), if_pos (by omega), show 8 + k - 8 = k by omega]
  have f3 : ∀ k, k < 4 → q_F a b c d e (12 + k) = q_b d k := fun k hk => by unfold q_F; rw [if_neg (by omega), if_neg (by omega), if_neg (by omega), if_pos (by omega), show 12 + k - 12 = k by omega]
  have f4 : ∀ k, k < 4 → q_F a b c d e (16 + k) = q_b e k := fun k hk => by unfold q_F; rw [if_neg (by omega), if_neg (by omega), if_neg (by omega), if_neg (by omega), show 16 + k - 16 = k by omega]
  unfold f8_feed
  rw [p2, e20, if_neg hnl]
  refine zw_b (p8_put (m := m) (n := n) (j := 0) ⟨zk_r m, p2, fun k hk => absurd hk (by omega), fun k _ => rfl⟩ a f0 (by omega)) (fun m1 q1 => ?_)
  refine zw_b (p8_put q1 b f1 (by omega)) (fun m2 q2 => ?_)
  refine zw_b (p8_put q2 c f2 (by omega)) (fun m3 q3 => ?_)
  refine zw_b (p8_put q3 d f3 (by omega)) (fun m4 q4 => ?_)
  refine zw_b (p8_put q4 e f4 (by omega)) (fun m5 q5 => ?_)
  obtain ⟨hf5, t5, w5, o5⟩ := q5
  refine zw_some.mpr ?_
  show zw (f9_feed a b c d e m5) _
  have e2 : m5.1 9 0 2 = nI n := by rw [hf5.1 9 0 2 (by omega)]; exact p3
  unfold f9_feed
  rw [e2, e20, if_neg hnl]
  refine zw_b (p9_put (m := m5) (n := n) (j := 0) ⟨zk_r m5, e2, fun k hk => absurd hk (by omega), fun k _ => rfl⟩ a f0 (by omega)) (fun n1 r1 => ?_)
  refine zw_b (p9_put r1 b f1 (by omega)) (fun n2 r2 => ?_)
  refine zw_b (p9_put r2 c f2 (by omega)) (fun n3 r3 => ?_)
  refine zw_b (p9_put r3 d f3 (by omega)) (fun n4 r4 => ?_)
  refine zw_b (p9_put r4 e f4 (by omega)) (fun n5 r5 => ?_)
  obtain ⟨hg5, u5, x5, y5⟩ := r5
  refine zw_some.mpr ⟨by show m5.1 8 0 1 = n5.1 9 0 2; rw [t5, u5], q_closeP (n := n + 20) h1 h2 h3 (by omega) hf5 hg5 ⟨hn, by rw [hg5.1 8 0 1 (by omega)]; exact t5, u5, fun k hk => ?_, ?_, fun k hk => ?_⟩⟩
  · rw [hg5.1 34 0 k (by omega)]
    by_cases ck : k < n
    · rw [o5 k ck, y5 k ck, hf5.1 101 0 k (by omega)]; exact p4 k ck
    · have a1 := w5 (k - n) (by omega)
      have a2 := x5 (k - n) (by omega)
      rw [show n + (k - n) = k by omega] at a1 a2
      rw [a1, a2]
      exact ⟨rfl, q_F_by a b c d e _⟩
  · rw [hg5.1 4 0 8 (by omega), hg5.1 9 0 17 (by omega), hf5.1 4 0 8 (by omega), hf5.1 9 0 17 (by omega)]; exact p5
  · rw [hg5.2, hf5.2]; exact p6 k hk
theorem s_back (a : Int32) (h : qInv B m) : (f8_back a m).1 = (f9_back a (f8_back a m).2).1 ∧ qInv (B + 40) (f9_back a (f8_back a m).2).2 := by
  have hI := h
  obtain ⟨T, o, v, r, h1, h2, h3⟩ := h
  have h3' := h3
  obtain ⟨_, _, _, n, hP⟩ := h3'
  obtain ⟨p1, p2, p3, p4, p5, p6⟩ := hP
  rcases y_is a (n := n + 1) (by omega) with ha | ⟨j, hj, rfl⟩
  · have e8 : f8_back a m = (-1, m) := by
      unfold f8_back
      by_cases c0 : a < 0
      · rw [if_pos c0]
      · rw [if_neg c0, p2, if_pos]
        rcases y_or a with c | ⟨j, hj, rfl⟩
        · exact absurd c c0
        · refine nI_lt ?_ hj
          refine Classical.byContradiction fun q => ha (y_isn (by omega) (by omega))
    have e9 : f9_back a m = (-1, m) := by
      unfold f9_back
      by_cases c0 : a < 0
      · rw [if_pos c0]
      · rw [if_neg c0, p3, if_pos]
        rcases y_or a with c | ⟨j, hj, rfl⟩
        · exact absurd c c0
        · refine nI_lt ?_ hj
          refine Classical.byContradiction fun q => ha (y_isn (by omega) (by omega))
    rw [e8, e9]
    exact ⟨rfl, hI.mn (by omega)⟩
  · have e8 : f8_back (nI j) m = (nI (n - j), z_sI m 8 0 1 (nI (n - j))) := by
      unfold f8_back
      rw [if_neg (nI_pos (by omega)), p2, if_neg (nI_nlt (by omega) (by omega)), pk_sub (by omega)]
      simp only [z_let]
      rw [z_sI_1, if_pos ⟨rfl, rfl, rfl⟩]
    have hh : zk (fun c i k => c = 8 ∧ k = 1) m (z_sI m 8 0 1 (nI (n - j))) := zk_s (zk_r m) (by omega)
    have hf : zk sT8 m (z_sI m 8 0 1 (nI (n - j))) := zk_m hh (fun c i k h => by omega)
    have g8 : (z_sI m 8 0 1 (nI (n - j))).1 8 0 1 = nI (n - j) := by rw [z_sI_1, if_pos ⟨rfl, rfl, rfl⟩]
    rw [e8]
    generalize z_sI m 8 0 1 (nI (n - j)) = m1 at *
    have e2 : m1.1 9 0 2 = nI n := by rw [hf.1 9 0 2 (by omega)]; exact p3
    have e9 : f9_back (nI j) m1 = (nI (n - j), z_sI m1 9 0 2 (nI (n - j))) := by
      unfold f9_back
      rw [if_neg (nI_pos (by omega)), e2, if_neg (nI_nlt (by omega) (by omega)), pk_sub (by omega)]
      simp only [z_let]
      rw [z_sI_1, if_pos ⟨rfl, rfl, rfl⟩]
    show nI (n - j) = (f9_back (nI j) m1).1 ∧ _
    rw [e9]
    have hg : zk (fun c i k => c = 9 ∧ k = 2) m1 (z_sI m1 9 0 2 (nI (n - j))) := zk_s (zk_r m1) (by omega)
    refine ⟨rfl, q_closeP (n := n - j) h1 h2 h3 (by omega) hf (zk_m hg (fun c i k h => by omega)) ⟨by omega, by rw [hg.1 8 0 1 (by omega)]; exact g8, by rw [z_sI_1, if_pos ⟨rfl, rfl, rfl⟩], fun k hk => ?_, ?_, fun k hk => ?_⟩⟩
    · rw [hg.1 34 0 k (by omega), hg.1 101 0 k (by omega), hh.1 34 0 k (by omega), hh.1 101 0 k (by omega)]; exact p4 k (by omega)
    · rw [hg.1 4 0 8 (by omega), hg.1 9 0 17 (by omega), hf.1 4 0 8 (by omega), hf.1 9 0 17 (by omega)]; exact p5
    · rw [hg.2, hf.2]; exact p6 k hk
end
