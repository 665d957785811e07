def zRJ0 : String := "java/lang/String"
def zRJ1 : String := "java/lang/StringLatin1"
def zRJ3 : String := "jdk/internal/util/Preconditions"
def zRJ4 : String := "java/lang/Math"
def zRJ5 : String := "java/lang/Integer"
/-! booleans, calls by what they return, copies of rows -/
theorem z_neg_1 (x : Int32) : x + Int32.ofInt (-1) = x + (-1 : Int32) := congrArg (x + ·) (by decide)
theorem z_neg_2 (x : Int32) : x + Int32.ofInt (-2) = x + (-2 : Int32) := congrArg (x + ·) (by decide)
theorem z_neg_8 (x : Int32) : x + Int32.ofInt (-8) = x + (-8 : Int32) := congrArg (x + ·) (by decide)
def z_u2 {α0 α1 δ : Type _} (f : α0 → α1 → δ) : α0 × α1 → δ
  | (a0, a1) => f a0 a1
theorem z_h2 {α0 α1 δ : Type _} {f : α0 → α1 → δ} {a0 : α0} {a1 : α1} {x : δ} (h : z_u2 f (a0, a1) = x) : f a0 a1 = x := h
theorem z_i2 {α0 α1 : Type _} {a0 b0 : α0} {a1 b1 : α1} (h : (a0, a1) = (b0, b1)) : a0 = b0 ∧ a1 = b1 := Prod.mk.inj h
def z_u3 {α0 α1 α2 δ : Type _} (f : α0 → α1 → α2 → δ) : α0 × α1 × α2 → δ
  | (a0, a1, a2) => f a0 a1 a2
theorem z_h3 {α0 α1 α2 δ : Type _} {f : α0 → α1 → α2 → δ} {a0 : α0} {a1 : α1} {a2 : α2} {x : δ} (h : z_u3 f (a0, a1, a2) = x) : f a0 a1 a2 = x := h
theorem z_i3 {α0 α1 α2 : Type _} {a0 b0 : α0} {a1 b1 : α1} {a2 b2 : α2} (h : (a0, a1, a2) = (b0, b1, b2)) : a0 = b0 ∧ a1 = b1 ∧ a2 = b2 := ⟨(Prod.mk.inj h).1, z_i2 (Prod.mk.inj h).2⟩
def z_u4 {α0 α1 α2 α3 δ : Type _} (f : α0 → α1 → α2 → α3 → δ) : α0 × α1 × α2 × α3 → δ
  | (a0, a1, a2, a3) => f a0 a1 a2 a3
theorem z_h4 {α0 α1 α2 α3 δ : Type _} {f : α0 → α1 → α2 → α3 → δ} {a0 : α0} {a1 : α1} {a2 : α2} {a3 : α3} {x : δ} (h : z_u4 f (a0, a1, a2, a3) = x) : f a0 a1 a2 a3 = x := h
theorem z_i4 {α0 α1 α2 α3 : Type _} {a0 b0 : α0} {a1 b1 : α1} {a2 b2 : α2} {a3 b3 : α3} (h : (a0, a1, a2, a3) = (b0, b1, b2, b3)) : a0 = b0 ∧ a1 = b1 ∧ a2 = b2 ∧ a3 = b3 := ⟨(Prod.mk.inj h).1, z_i3 (Prod.mk.inj h).2⟩
def z_u5 {α0 α1 α2 α3 α4 δ : Type _} (f : α0 → α1 → α2 → α3 → α4 → δ) : α0 × α1 × α2 × α3 × α4 → δ
  | (a0, a1, a2, a3, a4) => f a0 a1 a2 a3 a4
theorem z_h5 {α0 α1 α2 α3 α4 δ : Type _} {f : α0 → α1 → α2 → α3 → α4 → δ} {a0 : α0} {a1 : α1} {a2 : α2} {a3 : α3} {a4 : α4} {x : δ} (h : z_u5 f (a0, a1, a2, a3, a4) = x) : f a0 a1 a2 a3 a4 = x := h
theorem z_i5 {α0 α1 α2 α3 α4 : Type _} {a0 b0 : α0} {a1 b1 : α1} {a2 b2 : α2} {a3 b3 : α3} {a4 b4 : α4} (h : (a0, a1, a2, a3, a4) = (b0, b1, b2, b3, b4)) : a0 = b0 ∧ a1 = b1 ∧ a2 = b2 ∧ a3 = b3 ∧ a4 = b4 := ⟨(Prod.mk.inj h).1, z_i4 (Prod.mk.inj h).2⟩
def z_u6 {α0 α1 α2 α3 α4 α5 δ : Type _} (f : α0 → α1 → α2 → α3 → α4 → α5 → δ) : α0 × α1 × α2 × α3 × α4 × α5 → δ
  | (a0, a1, a2, a3, a4, a5) => f a0 a1 a2 a3 a4 a5
theorem z_h6 {α0 α1 α2 α3 α4 α5 δ : Type _} {f : α0 → α1 → α2 → α3 → α4 → α5 → δ} {a0 : α0} {a1 : α1} {a2 : α2} {a3 : α3} {a4 : α4} {a5 : α5} {x : δ} (h : z_u6 f (a0, a1, a2, a3, a4, a5) = x) : f a0 a1 a2 a3 a4 a5 = x := h
theorem z_i6 {α0 α1 α2 α3 α4 α5 : Type _} {a0 b0 : α0} {a1 b1 : α1} {a2 b2 : α2} {a3 b3 : α3} {a4 b4 : α4} {a5 b5 : α5} (h : (a0, a1, a2, a3, a4, a5) = (b0, b1, b2, b3, b4, b5)) : a0 = b0 ∧ a1 = b1 ∧ a2 = b2 ∧ a3 = b3 ∧ a4 = b4 ∧ a5 = b5 := ⟨(Prod.mk.inj h).1, z_i5 (Prod.mk.inj h).2⟩
def z_u7 {α0 α1 α2 α3 α4 α5 α6 δ : Type _} (f : α0 → α1 → α2 → α3 → α4 → α5 → α6 → δ) : α0 × α1 × α2 × α3 × α4 × α5 × α6 → δ
  | (a0, a1, a2, a3, a4, a5, a6) => f a0 a1 a2 a3 a4 a5 a6
theorem z_h7 {α0 α1 α2 α3 α4 α5 α6 δ : Type _} {f : α0 → α1 → α2 → α3 → α4 → α5 → α6 → δ} {a0 : α0} {a1 : α1} {a2 : α2} {a3 : α3} {a4 : α4} {a5 : α5} {a6 : α6} {x : δ} (h : z_u7 f (a0, a1, a2, a3, a4, a5, a6) = x) : f a0 a1 a2 a3 a4 a5 a6 = x := h
theorem z_i7 {α0 α1 α2 α3 α4 α5 α6 : Type _} {a0 b0 : α0} {a1 b1 : α1} {a2 b2 : α2} {a3 b3 : α3} {a4 b4 : α4} {a5 b5 : α5} {a6 b6 : α6} (h : (a0, a1, a2, a3, a4, a5, a6) = (b0, b1, b2, b3, b4, b5, b6)) : a0 = b0 ∧ a1 = b1 ∧ a2 = b2 ∧ a3 = b3 ∧ a4 = b4 ∧ a5 = b5 ∧ a6 = b6 := ⟨(Prod.mk.inj h).1, z_i6 (Prod.mk.inj h).2⟩
def z_u8 {α0 α1 α2 α3 α4 α5 α6 α7 δ : Type _} (f : α0 → α1 → α2 → α3 → α4 → α5 → α6 → α7 → δ) : α0 × α1 × α2 × α3 × α4 × α5 × α6 × α7 → δ
  | (a0, a1, a2, a3, a4, a5, a6, a7) => f a0 a1 a2 a3 a4 a5 a6 a7
theorem z_h8 {α0 α1 α2 α3 α4 α5 α6 α7 δ : Type _} {f : α0 → α1 → α2 → α3 → α4 → α5 → α6 → α7 → δ} {a0 : α0} {a1 : α1} {a2 : α2} {a3 : α3} {a4 : α4} {a5 : α5} {a6 : α6} {a7 : α7} {x : δ} (h : z_u8 f (a0, a1, a2, a3, a4, a5, a6, a7) = x) : f a0 a1 a2 a3 a4 a5 a6 a7 = x := h
theorem z_i8 {α0 α1 α2 α3 α4 α5 α6 α7 : Type _} {a0 b0 : α0} {a1 b1 : α1} {a2 b2 : α2} {a3 b3 : α3} {a4 b4 : α4} {a5 b5 : α5} {a6 b6 : α6} {a7 b7 : α7} (h : (a0, a1, a2, a3, a4, a5, a6, a7) = (b0, b1, b2, b3, b4, b5, b6, b7)) : a0 = b0 ∧ a1 = b1 ∧ a2 = b2 ∧ a3 = b3 ∧ a4 = b4 ∧ a5 = b5 ∧ a6 = b6 ∧ a7 = b7 := ⟨(Prod.mk.inj h).1, z_i7 (Prod.mk.inj h).2⟩
def z_u9 {α0 α1 α2 α3 α4 α5 α6 α7 α8 δ : Type _} (f : α0 → α1 → α2 → α3 → α4 → α5 → α6 → α7 → α8 → δ) : α0 × α1 × α2 × α3 × α4 × α5 × α6 × α7 × α8 → δ
  | (a0, a1, a2, a3, a4, a5, a6, a7, a8) => f a0 a1 a2 a3 a4 a5 a6 a7 a8
theorem z_h9 {α0 α1 α2 α3 α4 α5 α6 α7 α8 δ : Type _} {f : α0 → α1 → α2 → α3 → α4 → α5 → α6 → α7 → α8 → δ} {a0 : α0} {a1 : α1} {a2 : α2} {a3 : α3} {a4 : α4} {a5 : α5} {a6 : α6} {a7 : α7} {a8 : α8} {x : δ} (h : z_u9 f (a0, a1, a2, a3, a4, a5, a6, a7, a8) = x) : f a0 a1 a2 a3 a4 a5 a6 a7 a8 = x := h
theorem z_i9 {α0 α1 α2 α3 α4 α5 α6 α7 α8 : Type _} {a0 b0 : α0} {a1 b1 : α1} {a2 b2 : α2} {a3 b3 : α3} {a4 b4 : α4} {a5 b5 : α5} {a6 b6 : α6} {a7 b7 : α7} {a8 b8 : α8} (h : (a0, a1, a2, a3, a4, a5, a6, a7, a8) = (b0, b1, b2, b3, b4, b5, b6, b7, b8)) : a0 = b0 ∧ a1 = b1 ∧ a2 = b2 ∧ a3 = b3 ∧ a4 = b4 ∧ a5 = b5 ∧ a6 = b6 ∧ a7 = b7 ∧ a8 = b8 := ⟨(Prod.mk.inj h).1, z_i8 (Prod.mk.inj h).2⟩
def z_u10 {α0 α1 α2 α3 α4 α5 α6 α7 α8 α9 δ : Type _} (f : α0 → α1 → α2 → α3 → α4 → α5 → α6 → α7 → α8 → α9 → δ) : α0 × α1 × α2 × α3 × α4 × α5 × α6 × α7 × α8 × α9 → δ
  | (a0, a1, a2, a3, a4, a5, a6, a7, a8, a9) => f a0 a1 a2 a3 a4 a5 a6 a7 a8 a9
theorem z_h10 {α0 α1 α2 α3 α4 α5 α6 α7 α8 α9 δ : Type _} {f : α0 → α1 → α2 → α3 → α4 → α5 → α6 → α7 → α8 → α9 → δ} {a0 : α0} {a1 : α1} {a2 : α2} {a3 : α3} {a4 : α4} {a5 : α5} {a6 : α6} {a7 : α7} {a8 : α8} {a9 : α9} {x : δ} (h : z_u10 f (a0, a1, a2, a3, a4, a5, a6, a7, a8, a9) = x) : f a0 a1 a2 a3 a4 a5 a6 a7 a8 a9 = x := h
theorem z_i10 {α0 α1 α2 α3 α4 α5 α6 α7 α8 α9 : Type _} {a0 b0 : α0} {a1 b1 : α1} {a2 b2 : α2} {a3 b3 : α3} {a4 b4 : α4} {a5 b5 : α5} {a6 b6 : α6} {a7 b7 : α7} {a8 b8 : α8} {a9 b9 : α9} (h : (a0, a1, a2, a3, a4, a5, a6, a7, a8, a9) = (b0, b1, b2, b3, b4, b5, b6, b7, b8, b9)) : a0 = b0 ∧ a1 = b1 ∧ a2 = b2 ∧ a3 = b3 ∧ a4 = b4 ∧ a5 = b5 ∧ a6 = b6 ∧ a7 = b7 ∧ a8 = b8 ∧ a9 = b9 := ⟨(Prod.mk.inj h).1, z_i9 (Prod.mk.inj h).2⟩
def z_u11 {α0 α1 α2 α3 α4 α5 α6 α7 α8 α9 α10 δ : Type _} (f : α0 → α1 → α2 → α3 → α4 → α5 → α6 → α7 → α8 → α9 → α10 → δ) : α0 × α1 × α2 × α3 × α4 × α5 × α6 × α7 × α8 × α9 × α10 → δ
  | (a0, a1, a2, a3, a4, a5, a6, a7, a8, a9, a10) => f a0 a1 a2 a3 a4 a5 a6 a7 a8 a9 a10
theorem z_h11 {α0 α1 α2 α3 α4 α5 α6 α7 α8 α9 α10 δ : Type _} {f : α0 → α1 → α2 → α3 → α4 → α5 → α6 → α7 → α8 → α9 → α10 → δ} {a0 : α0} {a1 : α1} {a2 : α2} {a3 : α3} {a4 : α4} {a5 : α5} {a6 : α6} {a7 : α7} {a8 : α8} {a9 : α9} {a10 : α10} {x : δ} (h : z_u11 f (a0, a1, a2, a3, a4, a5, a6, a7, a8, a9, a10) = x) : f a0 a1 a2 a3 a4 a5 a6 a7 a8 a9 a10 = x := h
theorem z_i11 {α0 α1 α2 α3 α4 α5 α6 α7 α8 α9 α10 : Type _} {a0 b0 : α0} {a1 b1 : α1} {a2 b2 : α2} {a3 b3 : α3} {a4 b4 : α4} {a5 b5 : α5} {a6 b6 : α6} {a7 b7 : α7} {a8 b8 : α8} {a9 b9 : α9} {a10 b10 : α10} (h : (a0, a1, a2, a3, a4, a5, a6, a7, a8, a9, a10) = (b0, b1, b2, b3, b4, b5, b6, b7, b8, b9, b10)) : a0 = b0 ∧ a1 = b1 ∧ a2 = b2 ∧ a3 = b3 ∧ a4 = b4 ∧ a5 = b5 ∧ a6 = b6 ∧ a7 = b7 ∧ a8 = b8 ∧ a9 = b9 ∧ a10 = b10 := ⟨(Prod.mk.inj h).1, z_i10 (Prod.mk.inj h).2⟩
def z_u12 {α0 α1 α2 α3 α4 α5 α6 α7 α8 α9 α10 α11 δ : Type _} (f : α0 → α1 → α2 → α3 → α4 → α5 → α6 → α7 → α8 → α9 → α10 → α11 → δ) : α0 × α1 × α2 × α3 × α4 × α5 × α6 × α7 × α8 × α9 × α10 × α11 → δ
  | (a0, a1, a2, a3, a4, a5, a6, a7, a8, a9, a10, a11) => f a0 a1 a2 a3 a4 a5 a6 a7 a8 a9 a10 a11
theorem z_h12 {α0 α1 α2 α3 α4 α5 α6 α7 α8 α9 α10 α11 δ : Type _} {f : α0 → α1 → α2 → α3 → α4 → α5 → α6 → α7 → α8 → α9 → α10 → α11 → δ} {a0 : α0} {a1 : α1} {a2 : α2} {a3 : α3} {a4 : α4} {a5 : α5} {a6 : α6} {a7 : α7} {a8 : α8} {a9 : α9} {a10 : α10} {a11 : α11} {x : δ} (h : z_u12 f (a0, a1, a2, a3, a4, a5, a6, a7, a8, a9, a10, a11) = x) : f a0 a1 a2 a3 a4 a5 a6 a7 a8 a9 a10 a11 = x := h
theorem z_i12 {α0 α1 α2 α3 α4 α5 α6 α7 α8 α9 α10 α11 : Type _} {a0 b0 : α0} {a1 b1 : α1} {a2 b2 : α2} {a3 b3 : α3} {a4 b4 : α4} {a5 b5 : α5} {a6 b6 : α6} {a7 b7 : α7} {a8 b8 : α8} {a9 b9 : α9} {a10 b10 : α10} {a11 b11 : α11} (h : (a0, a1, a2, a3, a4, a5, a6, a7, a8, a9, a10, a11) = (b0, b1, b2, b3, b4, b5, b6, b7, b8, b9, b10, b11)) : a0 = b0 ∧ a1 = b1 ∧ a2 = b2 ∧ a3 = b3 ∧ a4 = b4 ∧ a5 = b5 ∧ a6 = b6 ∧ a7 = b7 ∧ a8 = b8 ∧ a9 = b9 ∧ a10 = b10 ∧ a11 = b11 := ⟨(Prod.mk.inj h).1, z_i11 (Prod.mk.inj h).2⟩
theorem z_bs {α β γ : Type} {o : Option (α ⊕ β)} {f : α → Option γ} {g : β → Option γ} {x : γ} (h : o.bind (Sum.elim f g) = some x) : (∃ a, o = some (.inl a) ∧ f a = some x) ∨ (∃ b, o = some (.inr b) ∧ g b = some x) := by
  cases o with
  | none => cases h
  | some y =>
    cases y with
    | inl a => exact Or.inl ⟨a, rfl, h⟩
    | inr b => exact Or.inr ⟨b, rfl, h⟩
theorem z_fitD {D k d nL : Nat} (hd : d + 1 ≤ D + k) (hn : nL ≤ 45) : z_fit (z_rm (D + k)) 0 0 d nL := ⟨hd, by show 8 + (nL + 11) + 64 * d ≤ 64 * (D + k); omega, Nat.le_refl 0, Nat.le_refl 0⟩
def z_b (x : Int32) : Bool := decide (x = 0) || decide (x = 1)
theorem z_b_ok {x : Int32} (h : z_b x = true) : narrow .boolean (.int x) = .int x := by
  unfold z_b at h
  rw [Bool.or_eq_true, decide_eq_true_iff, decide_eq_true_iff] at h
  rcases h with h | h
  · subst h; rfl
  · subst h; rfl
section ZD2
variable {P : zP} {M : zM} {R : Room} {F : zF} {n1 n2 pc : Nat} {l : List (Option zV)} {st sk : List zV} {μ : zMem}
theorem zr_callVv {pc' : Nat} {idx d n c i : Nat} {y : MethodName} {M' : zM} {av : List zV} {μ' : zMem} {q : vw_C} {o : Nat × List zFK} (hd : zD M.2.1 pc (.invokevirtual idx) 3 pc') (hM : z_MW y M' n) (hl : Cond.methodLink M.1 idx y ∈ lw_gd) (hi : Cond.instanceMethod y ∈ lw_gd) (hs : Cond.selects y.cls y y ∈ lw_gd) (hn : av.length = n) (hsk : sk = av.reverse ++ zA c i :: st) (hw : z_w st ≤ 8) (hR : z_fit R n1 n2 d M'.2.2.1) (ho : z_obj c = some o) (hq : classes[o.1]? = some q) (hqc : q.1 = y.cls) (hsp : z_Sp P y M' d (zA c i :: av) μ none μ') (kk : z_RQ P M R F n1 n2 pc' l (st) μ') : z_RQ P M R F n1 n2 pc l sk μ := zr_callV hd hM hl hi hs hn hsk hw hR ho hq hqc hsp kk
theorem zr_callSv {pc' : Nat} {idx d n : Nat} {y : MethodName} {M' : zM} {av : List zV} {μ' : zMem} (hd : zD M.2.1 pc (.invokestatic idx) 3 pc') (hM : z_MW y M' n) (hl : Cond.methodLink M.1 idx y ∈ lw_gd) (hi : Cond.static y ∈ lw_gd) (hn : av.length = n) (hsk : sk = av.reverse ++ st) (hw : z_w st ≤ 8) (hR : z_fit R n1 n2 d M'.2.2.1) (hsp : z_Sp P y M' d av μ none μ') (kk : z_RQ P M R F n1 n2 pc' l (st) μ') : z_RQ P M R F n1 n2 pc l sk μ := zr_callS hd hM hl hi hn hsk hw hR hsp kk
theorem zr_callSNv {pc' : Nat} {idx d n : Nat} {y : MethodName} {M' : zM} {host : String} {av : List zV} {μ' : zMem} (hd : zD M.2.1 pc (.invokestatic idx) 3 pc') (hM : z_MW y M' n) (hl : (M.1, idx, y, host) ∈ z_nest) (hi : Cond.static y ∈ lw_gd) (hn : av.length = n) (hsk : sk = av.reverse ++ st) (hw : z_w st ≤ 8) (hR : z_fit R n1 n2 d M'.2.2.1) (hsp : z_Sp P y M' d av μ none μ') (kk : z_RQ P M R F n1 n2 pc' l (st) μ') : z_RQ P M R F n1 n2 pc l sk μ := zr_callSN hd hM hl hi hn hsk hw hR hsp kk
theorem zr_callVi {pc' : Nat} {idx d n c i : Nat} {y : MethodName} {M' : zM} {av : List zV} {x : Int32} {μ' : zMem} {q : vw_C} {o : Nat × List zFK} (hd : zD M.2.1 pc (.invokevirtual idx) 3 pc') (hM : z_MW y M' n) (hl : Cond.methodLink M.1 idx y ∈ lw_gd) (hi : Cond.instanceMethod y ∈ lw_gd) (hs : Cond.selects y.cls y y ∈ lw_gd) (hn : av.length = n) (hsk : sk = av.reverse ++ zA c i :: st) (hw : z_w st ≤ 8) (hR : z_fit R n1 n2 d M'.2.2.1) (ho : z_obj c = some o) (hq : classes[o.1]? = some q) (hqc : q.1 = y.cls) (hsp : z_Sp P y M' d (zA c i :: av) μ (some (zI x)) μ') (kk : z_RQ P M R F n1 n2 pc' l (zI x :: st) μ') : z_RQ P M R F n1 n2 pc l sk μ := zr_callV hd hM hl hi hs hn hsk hw hR ho hq hqc hsp kk
theorem zr_callSi {pc' : Nat} {idx d n : Nat} {y : MethodName} {M' : zM} {av : List zV} {x : Int32} {μ' : zMem} (hd : zD M.2.1 pc (.invokestatic idx) 3 pc') (hM : z_MW y M' n) (hl : Cond.methodLink M.1 idx y ∈ lw_gd) (hi : Cond.static y ∈ lw_gd) (hn : av.length = n) (hsk : sk = av.reverse ++ st) (hw : z_w st ≤ 8) (hR : z_fit R n1 n2 d M'.2.2.1) (hsp : z_Sp P y M' d av μ (some (zI x)) μ') (kk : z_RQ P M R F n1 n2 pc' l (zI x :: st) μ') : z_RQ P M R F n1 n2 pc l sk μ := zr_callS hd hM hl hi hn hsk hw hR hsp kk
theorem zr_callSNi {pc' : Nat} {idx d n : Nat} {y : MethodName} {M' : zM} {host : String} {av : List zV} {x : Int32} {μ' : zMem} (hd : zD M.2.1 pc (.invokestatic idx) 3 pc') (hM : z_MW y M' n) (hl : (M.1, idx, y, host) ∈ z_nest) (hi : Cond.static y ∈ lw_gd) (hn : av.length = n) (hsk : sk = av.reverse ++ st) (hw : z_w st ≤ 8) (hR : z_fit R n1 n2 d M'.2.2.1) (hsp : z_Sp P y M' d av μ (some (zI x)) μ') (kk : z_RQ P M R F n1 n2 pc' l (zI x :: st) μ') : z_RQ P M R F n1 n2 pc l sk μ := zr_callSN hd hM hl hi hn hsk hw hR hsp kk
theorem zr_callVl {pc' : Nat} {idx d n c i : Nat} {y : MethodName} {M' : zM} {av : List zV} {x : Int64} {μ' : zMem} {q : vw_C} {o : Nat × List zFK} (hd : zD M.2.1 pc (.invokevirtual idx) 3 pc') (hM : z_MW y M' n) (hl : Cond.methodLink M.1 idx y ∈ lw_gd) (hi : Cond.instanceMethod y ∈ lw_gd) (hs : Cond.selects y.cls y y ∈ lw_gd) (hn : av.length = n) (hsk : sk = av.reverse ++ zA c i :: st) (hw : z_w st ≤ 8) (hR : z_fit R n1 n2 d M'.2.2.1) (ho : z_obj c = some o) (hq : classes[o.1]? = some q) (hqc : q.1 = y.cls) (hsp : z_Sp P y M' d (zA c i :: av) μ (some (zL x)) μ') (kk : z_RQ P M R F n1 n2 pc' l (zL x :: st) μ') : z_RQ P M R F n1 n2 pc l sk μ := zr_callV hd hM hl hi hs hn hsk hw hR ho hq hqc hsp kk
theorem zr_callSl {pc' : Nat} {idx d n : Nat} {y : MethodName} {M' : zM} {av : List zV} {x : Int64} {μ' : zMem} (hd : zD M.2.1 pc (.invokestatic idx) 3 pc') (hM : z_MW y M' n) (hl : Cond.methodLink M.1 idx y ∈ lw_gd) (hi : Cond.static y ∈ lw_gd) (hn : av.length = n) (hsk : sk = av.reverse ++ st) (hw : z_w st ≤ 8) (hR : z_fit R n1 n2 d M'.2.2.1) (hsp : z_Sp P y M' d av μ (some (zL x)) μ') (kk : z_RQ P M R F n1 n2 pc' l (zL x :: st) μ') : z_RQ P M R F n1 n2 pc l sk μ := zr_callS hd hM hl hi hn hsk hw hR hsp kk
theorem zr_callSNl {pc' : Nat} {idx d n : Nat} {y : MethodName} {M' : zM} {host : String} {av : List zV} {x : Int64} {μ' : zMem} (hd : zD M.2.1 pc (.invokestatic idx) 3 pc') (hM : z_MW y M' n) (hl : (M.1, idx, y, host) ∈ z_nest) (hi : Cond.static y ∈ lw_gd) (hn : av.length = n) (hsk : sk = av.reverse ++ st) (hw : z_w st ≤ 8) (hR : z_fit R n1 n2 d M'.2.2.1) (hsp : z_Sp P y M' d av μ (some (zL x)) μ') (kk : z_RQ P M R F n1 n2 pc' l (zL x :: st) μ') : z_RQ P M R F n1 n2 pc l sk μ := zr_callSN hd hM hl hi hn hsk hw hR hsp kk
theorem zr_callVa {pc' : Nat} {idx d n c i : Nat} {y : MethodName} {M' : zM} {av : List zV} {qc qi : Nat} {μ' : zMem} {q : vw_C} {o : Nat × List zFK} (hd : zD M.2.1 pc (.invokevirtual idx) 3 pc') (hM : z_MW y M' n) (hl : Cond.methodLink M.1 idx y ∈ lw_gd) (hi : Cond.instanceMethod y ∈ lw_gd) (hs : Cond.selects y.cls y y ∈ lw_gd) (hn : av.length = n) (hsk : sk = av.reverse ++ zA c i :: st) (hw : z_w st ≤ 8) (hR : z_fit R n1 n2 d M'.2.2.1) (ho : z_obj c = some o) (hq : classes[o.1]? = some q) (hqc : q.1 = y.cls) (hsp : z_Sp P y M' d (zA c i :: av) μ (some (zA qc qi)) μ') (kk : z_RQ P M R F n1 n2 pc' l (zA qc qi :: st) μ') : z_RQ P M R F n1 n2 pc l sk μ := zr_callV hd hM hl hi hs hn hsk hw hR ho hq hqc hsp kk
theorem zr_callSa {pc' : Nat} {idx d n : Nat} {y : MethodName} {M' : zM} {av : List zV} {qc qi : Nat} {μ' : zMem} (hd : zD M.2.1 pc (.invokestatic idx) 3 pc') (hM : z_MW y M' n) (hl : Cond.methodLink M.1 idx y ∈ lw_gd) (hi : Cond.static y ∈ lw_gd) (hn : av.length = n) (hsk : sk = av.reverse ++ st) (hw : z_w st ≤ 8) (hR : z_fit R n1 n2 d M'.2.2.1) (hsp : z_Sp P y M' d av μ (some (zA qc qi)) μ') (kk : z_RQ P M R F n1 n2 pc' l (zA qc qi :: st) μ') : z_RQ P M R F n1 n2 pc l sk μ := zr_callS hd hM hl hi hn hsk hw hR hsp kk
theorem zr_callSNa {pc' : Nat} {idx d n : Nat} {y : MethodName} {M' : zM} {host : String} {av : List zV} {qc qi : Nat} {μ' : zMem} (hd : zD M.2.1 pc (.invokestatic idx) 3 pc') (hM : z_MW y M' n) (hl : (M.1, idx, y, host) ∈ z_nest) (hi : Cond.static y ∈ lw_gd) (hn : av.length = n) (hsk : sk = av.reverse ++ st) (hw : z_w st ≤ 8) (hR : z_fit R n1 n2 d M'.2.2.1) (hsp : z_Sp P y M' d av μ (some (zA qc qi)) μ') (kk : z_RQ P M R F n1 n2 pc' l (zA qc qi :: st) μ') : z_RQ P M R F n1 n2 pc l sk μ := zr_callSN hd hM hl hi hn hsk hw hR hsp kk
theorem zr_wk2 {l' : List (Option zV)} (k : z_RQ P M R F n1 n2 pc l' st μ) (h : z_le l' l) : z_RQ P M R F n1 n2 pc l st μ := z_RQ.weak (z_le_get h) k
/-- System.arraycopy of a whole row of N ints onto another of its shape -/
theorem zr_acopy {pc' : Nat} {idx c i j N : Nat} {n : Int32} {μ' : zMem} (hd : zD M.2.1 pc (.invokestatic idx) 3 pc') (hs : z_SA c 0) (hl : Cond.methodLink M.1 idx arraycopyName ∈ lw_gd) (hw : Cond.native arraycopyName ∈ lw_gd ∧ Cond.static arraycopyName ∈ lw_gd ∧ Cond.initialized "java/lang/System" ∈ lw_gd) (hn : ¬ n < 0 ∧ n.toNatClampNeg = N) (hi : z_len c i = N) (hj : z_len c j = N) (hf : 1 ≤ R.frames) (hlo : z_w st + (nativeFrameWords "java/lang/System" "arraycopy" 5 + 11) ≤ R.locals) (hm : μ' = z_uI μ c j (va_cpy (μ.1 c i) (μ.1 c j) 0 0 N))
    (kk : z_RQ P M R F n1 n2 pc' l st μ') : z_RQ P M R F n1 n2 pc l (zI n :: zI 0 :: zA c j :: zI 0 :: zA c i :: st) μ := by
  subst hm
  obtain ⟨hd, rfl⟩ := hd
  intro p e s m args below meth c0 C H locs ls g1 g2 g3 g4
  have hei : z_ex P c i := z_h (z_t (z_t (z_t (z_t g4)))) hs.2.2
  have hej : z_ex P c j := z_h (z_t (z_t g4)) hs.2.2
  have hts := C.2.2.2.2.2.1
  have ei : ∀ k, vp_cell (z_cA P (z_el c)) (z_arr P μ c k) = vp_cell (z_cA P 0) (z_len c k, .inl (μ.1 c k)) := fun k => by unfold z_arr; rw [hs.2.1]; rfl
  have hc0 : H[z_ad P c i]? = some (vp_cell (z_cA P 0) (N, .inl (μ.1 c i))) := by have := z_at_arr g1 hei hs.1; rw [ei, hi] at this; exact this
  have hc1 : H[z_ad P c j]? = some (vp_cell (z_cA P 0) (N, .inl (μ.1 c j))) := by have := z_at_arr g1 hej hs.1; rw [ei, hj] at this; exact this
  obtain ⟨-, k0, hk0, cm0, hkk0⟩ := ((C.2.2.2.2.2.2.2.1).2 0 _ rfl).1 N (fun q => .int (μ.1 c i q))
  obtain ⟨-, k1, hk1, cm1, hkk1⟩ := ((C.2.2.2.2.2.2.2.1).2 0 _ rfl).1 N (fun q => .int (μ.1 c j q))
  have z0 : (0 : Int32).toInt = 0 := rfl
  have nn : n.toInt = (N : Int) := by
    have h0 : (0 : Int) ≤ n.toInt := by
      have := Int32.not_lt.mp hn.1
      simpa using Int32.le_iff_toInt_le.mp this
    have h1 := hn.2
    have h2 : n.toInt.toNat = N := h1
    omega
  intro T hT X
  obtain ⟨vm', X', step⟩ := X.arraycopy C.1 C.2.2.2.2.1 (hts _ hl) (hts _ hw.1) (hts _ hw.2.1) (hts _ hw.2.2) (src := z_ad P c i) (dst := z_ad P c j) (cs := vp_cell (z_cA P 0) (N, .inl (μ.1 c i))) (cd := vp_cell (z_cA P 0) (N, .inl (μ.1 c j))) (srcPos := 0) (destPos := 0) (n := n) (by rw [hT]; exact hc0) (by rw [hT]; exact hc1)
    (fun _ h => by cases h) (fun _ h => by cases h) (fun h => by cases h) (fun h => by cases h) hk0 hk1 hkk0 hkk1 (by simp [refKind]) (by decide) (by decide) hn.1
    (by rw [z0, nn]; show ¬ _ > ((arrV (z_cA P 0) N (fun q => .int (μ.1 c i q))).slots.size : Int); rw [arrV_size]; omega)
    (by rw [z0, nn]; show ¬ _ > ((arrV (z_cA P 0) N (fun q => .int (μ.1 c j q))).slots.size : Int); rw [arrV_size]; omega)
    (fun vm₁ _ q hq => by
      have e : (vp_cell (z_cA P 0) (N, .inl (μ.1 c i))).slots.getD ((0 : Int32).toNatClampNeg + q) .null = .int (μ.1 c i ((0 : Int32).toNatClampNeg + q)) := by
        show (arrV (z_cA P 0) N (fun q => .int (μ.1 c i q))).slots.getD _ _ = _
        rw [Array.getD_eq_getD_getElem?, arrV_read _ _ (by rw [hn.2] at hq; show 0 + q < N; omega)]
        rfl
      refine ⟨?_, ?_⟩
      · rw [e]
        rfl
      · rw [e]
        exact trivial)
    (g := F0 m pc ls (.int n :: .int 0 :: .ref (z_ad P c j) :: .int 0 :: .ref (z_ad P c i) :: st.map (z_cv P))) rfl (by rw [C.2.2.2.1]; exact g3.1) (rest := st.map (z_cv P)) rfl (by rw [C.2.1]; exact hd) hf (by rw [z_w_ok]; show 2 * 0 + _ + _ ≤ _; omega)
  have e1 : copied (vp_cell (z_cA P 0) (N, .inl (μ.1 c i))) (vp_cell (z_cA P 0) (N, .inl (μ.1 c j))) 0 0 n = vp_cell (z_cA P 0) (N, .inl (va_cpy (μ.1 c i) (μ.1 c j) 0 0 N)) := by
    have h := va_copied (sp := 0) (dp := 0) (n := N) (fun z => Value.int z) (z_cA P 0) (z_cA P 0) (μ.1 c i) (μ.1 c j) (n0 := N) (n1 := N) (by omega)
    rw [← hn.2] at h ⊢
    exact h
  rw [e1] at X' step
  have hlt : z_ad P c j < H.size := (Array.getElem?_eq_some_iff.mp hc1).1
  have hheap : ((T.setVm vm').setCell (z_ad P c j) (vp_cell (z_cA P 0) (N, .inl (va_cpy (μ.1 c i) (μ.1 c j) 0 0 N)))).heap = H.setIfInBounds (z_ad P c j) (vp_cell (z_cA P 0) (N, .inl (va_cpy (μ.1 c i) (μ.1 c j) 0 0 N))) := by rw [← hT]; rfl
  have oq : ∀ q : Nat, q ≠ z_ad P c j → (H.setIfInBounds (z_ad P c j) (vp_cell (z_cA P 0) (N, .inl (va_cpy (μ.1 c i) (μ.1 c j) 0 0 N))))[q]? = H[q]? := fun q hq => by simp [Array.getElem?_setIfInBounds, Ne.symm hq]
  have hA : z_A P (z_ad P c j) := C.2.2.2.2.2.2.2.2.2.2.1 c j hej
  have hwh : z_WH P (z_uI μ c j (va_cpy (μ.1 c i) (μ.1 c j) 0 0 N)) (H.setIfInBounds (z_ad P c j) (vp_cell (z_cA P 0) (N, .inl (va_cpy (μ.1 c i) (μ.1 c j) 0 0 N)))) := by
    refine g1.upd C.2.2.2.2.2.2.2.2.2 hej ?_ oq (fun a b h => z_enc_uI h) g1.2.1 (by simp)
    rw [z_enc_arr hs.1]
    show (H.setIfInBounds _ _)[z_ad P c j]? = some (vp_cell _ _)
    have e2 : vp_cell (z_cA P (z_el c)) (z_arr P (z_uI μ c j (va_cpy (μ.1 c i) (μ.1 c j) 0 0 N)) c j) = vp_cell (z_cA P 0) (N, .inl (va_cpy (μ.1 c i) (μ.1 c j) 0 0 N)) := by unfold z_arr; rw [hs.2.1, z_uI_at, hj]; rfl
    rw [e2]
    simp [Array.getElem?_setIfInBounds, hlt]
  obtain ⟨t, a1, b1⟩ := kk p e s m args below meth c0 C _ _ ls hwh ⟨by simp; exact g2.1, fun q h1 h2 => by
      rw [oq q (fun e => h2 (by rw [e]; exact hA))]
      exact g2.2.1 q h1 h2, fun q hq => by
      rcases List.mem_append.mp hq with h | h
      · exact g2.2.2 q h
      · obtain ⟨z, -, hz⟩ := List.mem_map.mp h
        rw [← hz]
        exact hA⟩ g3 (z_t (z_t (z_t (z_t (z_t g4))))) _ hheap X'
  exact ⟨t, step t a1, b1⟩
end ZD2
