/-! PURE ROWS: loops that are gone through, memory that is written -/
theorem z_it_from {σ ρ : Type} {body : σ → Option (σ ⊕ ρ)} (s : Nat → σ) (N : Nat) (e : ρ) (hs : ∀ k, k < N → body (s k) = some (.inl (s (k + 1)))) (he : body (s N) = some (.inr e)) : ∀ (d k n : Nat), k + d = N → d < n → z_it body n (s k) = some e
  | 0, k, n + 1, hk, _ => by
    have : k = N := by omega
    subst this
    unfold z_it
    rw [he]
  | d + 1, k, n + 1, hk, hn => by
    unfold z_it
    rw [hs k (by omega)]
    exact z_it_from s N e hs he d (k + 1) n (by omega) (by omega)
theorem z_it_run {σ ρ : Type} {body : σ → Option (σ ⊕ ρ)} (s : Nat → σ) (N : Nat) (e : ρ) (hs : ∀ k, k < N → body (s k) = some (.inl (s (k + 1)))) (he : body (s N) = some (.inr e)) (hN : N < z_fu) : z_it body z_fu (s 0) = some e := z_it_from s N e hs he N 0 z_fu (by omega) hN
/-! numbers -/
theorem z_n0 : (0 : Int32) = nI 0 := rfl
theorem z_nlt {a b : Nat} (hb : b < 2 ^ 31) (h : a < b) : nI a < nI b := nI_lt h hb
theorem z_nnl {a b : Nat} (ha : a < 2 ^ 31) (h : b ≤ a) : ¬ nI a < nI b := nI_nlt h ha
theorem z_in_n {k n : Nat} (h : k < n) (hn : n < 2 ^ 31) : z_in (nI k) n = true := by
  unfold z_in
  rw [nI_toInt (by omega)]
  simp
  omega
theorem z_in_of {j : Int32} {n : Nat} (h : z_in j n = true) (hn : n < 2 ^ 31) : ∃ k, k < n ∧ j = nI k := vp_in_of (z_in_vp h) hn
theorem z_cl {n : Nat} (h : n < 2 ^ 31) : (nI n).toNatClampNeg = n := nI_clamp h
/-! memory -/
theorem z_uI_1 {μ : zMem} {c i a b : Nat} {f : Nat → Int32} : (z_uI μ c i f).1 a b = if a = c ∧ b = i then f else μ.1 a b := rfl
theorem z_uI_ne {μ : zMem} {c i a b : Nat} {f : Nat → Int32} (h : ¬ (a = c ∧ b = i)) : (z_uI μ c i f).1 a b = μ.1 a b := if_neg h
theorem z_uI_2 {μ : zMem} {c i : Nat} {f : Nat → Int32} : (z_uI μ c i f).2 = μ.2 := rfl
theorem z_uI_self (μ : zMem) (c i : Nat) : z_uI μ c i (μ.1 c i) = μ := by
  obtain ⟨a, b⟩ := μ
  unfold z_uI
  congr 1
  funext x y
  by_cases h : x = c ∧ y = i
  · rw [if_pos h, h.1, h.2]
  · rw [if_neg h]
theorem z_uI_uI (μ : zMem) (c i : Nat) (f g : Nat → Int32) : z_uI (z_uI μ c i f) c i g = z_uI μ c i g := by
  unfold z_uI
  congr 1
  funext x y
  by_cases h : x = c ∧ y = i
  · rw [if_pos h, if_pos h]
  · rw [if_neg h, if_neg h]
    exact if_neg h
theorem z_sI_uI (μ : zMem) (c i k : Nat) (f : Nat → Int32) (x : Int32) : z_sI (z_uI μ c i f) c i k x = z_uI μ c i (upd f k x) := by
  unfold z_sI
  rw [z_uI_at, z_uI_uI]
/-- rows that a loop fills -/
def z_fl (N : Nat) (g f : Nat → Int32) : Nat → Int32 := fun j => if j < N then g j else f j
theorem z_fl_0 (g f : Nat → Int32) : z_fl 0 g f = f := by
  funext j
  unfold z_fl
  rw [if_neg (by omega)]
theorem z_fl_s (k : Nat) (g f : Nat → Int32) : upd (z_fl k g f) k (g k) = z_fl (k + 1) g f := by
  funext j
  unfold z_fl
  by_cases h : j = k
  · subst h
    rw [pk_us, if_pos (by omega)]
  · rw [pk_un h]
    by_cases h2 : j < k
    · rw [if_pos h2, if_pos (by omega)]
    · rw [if_neg h2, if_neg (by omega)]
/-- for (x = 0; x < N; x++) cell[x] = v(x), v not touched by what is written -/
theorem z_fill {body : Int32 × zMem → Option ((Int32 × zMem) ⊕ zMem)} {c i N N' : Nat} {v : zMem → Int32 → Int32} {μ : zMem} (g : Nat → Int32) (hb : ∀ x m, body (x, m) = if x < nI N then (if z_in x N' = true then some (.inl (x + 1, z_sI m c i x.toNatClampNeg (v m x))) else none) else some (.inr m)) (hg : ∀ f k, k < N → v (z_uI μ c i f) (nI k) = g k) (hN : N ≤ N') (hN' : N' < 2 ^ 31) (hf : N < z_fu) : z_it body z_fu (0, μ) = some (z_uI μ c i (z_fl N g (μ.1 c i))) := by
  have e0 : (0, μ) = (nI 0, z_uI μ c i (z_fl 0 g (μ.1 c i))) := by rw [z_fl_0, z_uI_self]; rfl
  rw [e0]
  refine z_it_run (fun k => (nI k, z_uI μ c i (z_fl k g (μ.1 c i)))) N _ (fun k hk => ?_) ?_ hf
  · rw [hb, if_pos (nI_lt hk (by omega)), if_pos (z_in_n (by omega) hN'), hg _ k hk, z_cl (by omega), z_sI_uI, z_fl_s, nI_1]
  · rw [hb, if_neg (nI_nlt (Nat.le_refl N) (by omega))]
