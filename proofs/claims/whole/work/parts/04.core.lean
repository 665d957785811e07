/-! THE ABSTRACT MACHINE: values, memory, the world that the heap holds, and the judgement z_RQ -/
abbrev zV : Type := Int32 ⊕ (Int64 ⊕ (Nat × Nat))
abbrev zI (x : Int32) : zV := .inl x
abbrev zL (x : Int64) : zV := .inr (.inl x)
abbrev zA (c i : Nat) : zV := .inr (.inr (c, i))
abbrev zMem : Type := (Nat → Nat → Nat → Int32) × (Nat → Nat → Nat → Int64) × (Nat → Nat → Nat → Nat)
/-- launch, class numbers and slots, addresses, which cells there are, array classes, the first own cell, the script's length and ints, the heap's size -/
abbrev zP : Type := Launch × va_G × (Nat → Nat → Nat) × (Nat → Nat → Prop) × (Nat → ClassId) × Nat × Nat × (Nat → Int32) × Nat
abbrev z_l (P : zP) : Launch := P.1
abbrev z_D (P : zP) : va_G := P.2.1
abbrev z_ad (P : zP) : Nat → Nat → Nat := P.2.2.1
abbrev z_ex (P : zP) : Nat → Nat → Prop := P.2.2.2.1
abbrev z_cA (P : zP) : Nat → ClassId := P.2.2.2.2.1
abbrev z_B (P : zP) : Nat := P.2.2.2.2.2.1
abbrev z_sl (P : zP) : Nat := P.2.2.2.2.2.2.1
abbrev z_xs (P : zP) : Nat → Int32 := P.2.2.2.2.2.2.2.1
abbrev z_N (P : zP) : Nat := P.2.2.2.2.2.2.2.2
def z_A (P : zP) : Nat → Prop := fun q => z_B P ≤ q
def z_cv (P : zP) : zV → Value
  | .inl x => .int x
  | .inr (.inl x) => .long x
  | .inr (.inr q) => .ref (z_ad P q.1 q.2)
def z_ok (P : zP) : zV → Prop
  | .inl _ => True
  | .inr (.inl _) => True
  | .inr (.inr q) => (q.1 < 90 ∨ 100 ≤ q.1) → z_ex P q.1 q.2
/-- a whole row of ints, one int, one long, one reference: written -/
def z_uI (μ : zMem) (c i : Nat) (f : Nat → Int32) : zMem := (fun a b => if a = c ∧ b = i then f else μ.1 a b, μ.2)
def z_sI (μ : zMem) (c i k : Nat) (x : Int32) : zMem := z_uI μ c i (upd (μ.1 c i) k x)
def z_sL (μ : zMem) (c i k : Nat) (x : Int64) : zMem := (μ.1, fun a b => if a = c ∧ b = i then vp_updL (μ.2.1 c i) k x else μ.2.1 a b, μ.2.2)
def z_sR (μ : zMem) (c i k : Nat) (x : Nat) : zMem := (μ.1, μ.2.1, fun a b => if a = c ∧ b = i then (fun j => if j = k then x else μ.2.2 c i j) else μ.2.2 a b)
def z_fv (P : zP) (μ : zMem) (c i k : Nat) (f : zFK) : Value := if f.1 = 2 then .ref (z_ad P f.2.1 (f.2.2 i)) else if f.1 = 3 then .ref (z_ad P f.2.1 (μ.2.2 c i k)) else .int (μ.1 c i k)
def z_arr (P : zP) (μ : zMem) (c i : Nat) : vp_A := (z_len c i, if z_el c = 3 then .inr (.inl (μ.2.1 c i)) else if z_el c = 4 then .inr (.inr (.inr (.inr fun k => some (z_ad P (z_tgt c k).1 (z_tgt c k).2)))) else .inl (μ.1 c i))
def z_enc (P : zP) (μ : zMem) (c i : Nat) : va_E := match z_obj c with
  | some o => .inr (o.1, o.2.mapIdx fun k f => z_fv P μ c i k f)
  | none => .inl (z_cA P (z_el c), z_arr P μ c i)
def z_WH (P : zP) (μ : zMem) (H : Heap) : Prop := (∀ c i, z_ex P c i → va_at (z_D P) classes (z_ad P c i, z_enc P μ c i) H) ∧ (∀ (c i : Nat) (o : Nat × List zFK) (k : Nat) (f : zFK), z_ex P c i → z_obj c = some o → o.2[k]? = some f → f.1 = 3 → z_ex P f.2.1 (μ.2.2 c i k)) ∧ H.size = z_N P
/-- what is asked of the numbers -/
def z_G (P : zP) : Prop := (∀ c i c' i', z_ex P c i → z_ex P c' i' → z_ad P c i = z_ad P c' i' → c = c' ∧ i = i') ∧ (∀ c i, z_ex P c i → z_B P ≤ z_ad P c i) ∧ (∀ (c i : Nat) (o : Nat × List zFK) (k : Nat) (f : zFK), z_ex P c i → z_obj c = some o → o.2[k]? = some f → f.1 = 2 → z_ex P f.2.1 (f.2.2 i)) ∧ (∀ c i k, z_ex P c i → z_el c = 4 → k < z_len c i → z_ex P (z_tgt c k).1 (z_tgt c k).2)
def z_tys (P : zP) : List (ClassId × FieldType) := [(z_cA P 0, .int), (z_cA P 1, .byte), (z_cA P 2, .boolean), (z_cA P 3, .long), (z_cA P 4, .object zR5)]
def z_tx (i : Nat) : String := if i = 0 then "house  person right  away   goes   comes  dies   rents  seed   if     then   else   rent   age    gone   got    year   rights lord   which  home   " else ";=+-*/<()"
def z_by (i : Nat) : List Int32 := (z_tx i).toList.map fun c => Int32.ofNat c.toNat
def z_lots (j : Nat) : Int32 := if j = 0 then 8 else if j = 1 then 16 else 0
def z_nest : List (String × Nat × MethodName × String) := [("AbsentLords", 19, ⟨"AbsentLords$Reader", "<init>", "()V"⟩, "AbsentLords"), ("AbsentLords$Reader", 11, ⟨"AbsentLords$Tokens", "<init>", "()V"⟩, "AbsentLords"), ("AbsentLords", 33, ⟨"AbsentLords$State", "<init>", "()V"⟩, "AbsentLords"), ("AbsentLords$Past", 22, ⟨"AbsentLords$State", "<init>", "()V"⟩, "AbsentLords"), ("AbsentLords", 67, ⟨"AbsentLords$Court", "<init>", "()V"⟩, "AbsentLords"), ("AbsentLords", 74, ⟨"AbsentLords$Course", "<init>", "()V"⟩, "AbsentLords"), ("AbsentLords$Course", 11, ⟨"AbsentLords$Court", "<init>", "()V"⟩, "AbsentLords"), ("AbsentLords", 81, ⟨"AbsentLords$Letters", "<init>", "()V"⟩, "AbsentLords"), ("AbsentLords$Reader", 175, ⟨"AbsentLords", "has", "(II)Z"⟩, "AbsentLords"), ("AbsentLords$State", 39, ⟨"AbsentLords", "everybody", "(I)I"⟩, "AbsentLords"), ("AbsentLords$State", 58, ⟨"AbsentLords", "has", "(II)Z"⟩, "AbsentLords"), ("AbsentLords$Course", 63, ⟨"AbsentLords", "has", "(II)Z"⟩, "AbsentLords"), ("AbsentLords$Letters", 34, ⟨"AbsentLords", "everybody", "(I)I"⟩, "AbsentLords"), ("AbsentLords$Letters", 44, ⟨"AbsentLords", "has", "(II)Z"⟩, "AbsentLords")]
/-- what is read only: the lots' row, the two texts, the flag, the formatter, the script -/
def z_RO (P : zP) (U : State) : Prop :=
  (va_Z "AbsentLords$Course" "LOTS" "[I" (.ref (z_ad P 90 0)) (z_A P) U U.heap ∧ va_T .int (z_ad P 90 0) 3 (fun j => .int (z_lots j)) (z_A P) U U.heap) ∧
  (vk_S 2 [147, 9] [z_by 0, z_by 1] (z_ad P 91) (z_ad P 92) (z_A P) U U.heap ∧ vk_R "AbsentLords$Tokens" 74 (z_tx 0) (z_ad P 91 0) U ∧ vk_R "AbsentLords$Tokens" 60 (z_tx 1) (z_ad P 91 1) U) ∧
  (va_Z "java/lang/String" "COMPACT_STRINGS" "Z" (.int 1) (z_A P) U U.heap ∧ va_Zq "jdk/internal/util/Preconditions" "SIOOBE_FORMATTER" "Ljava/util/function/BiFunction;" (z_A P) U U.heap) ∧
  (va_X (z_ad P 94 0) (z_sl P) (z_xs P) U U.heap ∧ z_ad P 94 0 < U.heap.size ∧ ¬ z_A P (z_ad P 94 0)) ∧ (∀ q ∈ z_nest, va_Nw (.methodLinkNest q.1 q.2.1 q.2.2.1 q.2.2.2) U)
def z_KS (P : zP) (U : State) : Prop := va_K (z_D P) classes (z_tys P) U ∧ z_RO P U ∧ z_G P
/-- own class, bytes, locals, what is returned -/
abbrev zM : Type := String × ByteArray × Nat × Option FieldType
def z_Cx (P : zP) (M : zM) (p : Program) (s : State) (m : MethodId) (args : Array Value) (meth : Method) (c : Code) : Prop :=
  p.tables.exec = Jvm.exec ∧ c.code = M.2.1 ∧ meth.sig.returnType = M.2.2.2 ∧ c.maxLocals = M.2.2.1 ∧ s.vm.findClass M.1 = some m.cls ∧ (∀ w ∈ lw_gd, w.before args s = true) ∧ meth.locks = false ∧ z_KS P s
def z_LR (P : zP) (nL : Nat) (ls : Array Slot) (l : List (Option zV)) : Prop := ls.size = nL ∧ lv_wf ls ∧ (∀ (i : Nat) (v : zV), l[i]? = some (some v) → ls[i]? = some (Slot.val (z_cv P v)) ∧ z_ok P v)
abbrev zF : Type := State → MethodId → Array Value → List Frame → State → Prop
/-- from here, in the method M, the machine comes to its end -/
def z_RQ (P : zP) (M : zM) (R : Room) (F : zF) (n1 n2 : Nat) (pc : Nat) (l : List (Option zV)) (st : List zV) (μ : zMem) : Prop :=
  ∀ (p : Program) (e : Env) (s : State) (m : MethodId) (args : Array Value) (below : List Frame) (meth : Method) (c : Code), z_Cx P M p s m args meth c → ∀ (H : Heap) (locs : List Loc) (ls : Array Slot), z_WH P μ H → va_S (z_A P) s.heap H locs → z_LR P M.2.2.1 ls l → (∀ v ∈ st, z_ok P v) →
    W p (z_l P) e R s m args below meth c H locs n1 n2 (F s m args below) (F0 m pc ls (st.map (z_cv P)))
/-! locals -/
def z_set (l : List (Option zV)) (i : Nat) (v : zV) : List (Option zV) := (match i with
  | 0 => l
  | j + 1 => match l[j]? with
    | some (some (.inr (.inl _))) => l.set j none
    | _ => l).set i (some v)
def z_setL (l : List (Option zV)) (i : Nat) (v : zV) : List (Option zV) := (z_set l i v).set (i + 1) none
def z_pl (P : zP) (l : List (Option zV)) : List (Nat × Value) := (List.range l.length).filterMap fun i => match l[i]? with
  | some (some v) => some (i, z_cv P v)
  | _ => none
theorem z_pl_mem {P : zP} {l : List (Option zV)} {q : Nat × Value} : q ∈ z_pl P l ↔ ∃ v, l[q.1]? = some (some v) ∧ q.2 = z_cv P v := by
  unfold z_pl
  rw [List.mem_filterMap]
  constructor
  · rintro ⟨i, hi, h⟩
    split at h
    · rename_i v hv
      cases h
      exact ⟨v, hv, rfl⟩
    · cases h
  · rintro ⟨v, hv, e⟩
    refine ⟨q.1, List.mem_range.mpr (List.getElem?_eq_some_iff.mp hv).1, ?_⟩
    rw [hv]
    show some (q.1, z_cv P v) = some q
    rw [← e]
theorem z_LR.has {P : zP} {nL : Nat} {ls : Array Slot} {l : List (Option zV)} (h : z_LR P nL ls l) : lv_has ls nL (z_pl P l) := by
  refine ⟨h.1, h.2.1, fun q hq => ?_⟩
  obtain ⟨v, hv, e⟩ := z_pl_mem.mp hq
  rw [e]
  exact (h.2.2 _ _ hv).1
theorem z_set_spec {l : List (Option zV)} {i j : Nat} {v w : zV} (h : (z_set l i v)[j]? = some (some w)) : (j = i ∧ w = v) ∨ (j ≠ i ∧ l[j]? = some (some w) ∧ (j + 1 = i → ∀ x, w ≠ .inr (.inl x))) := by
  unfold z_set at h
  by_cases hj : j = i
  · subst hj
    left
    refine ⟨rfl, ?_⟩
    rw [List.getElem?_set] at h
    simp at h
    exact h.2.symm
  · right
    rw [List.getElem?_set_ne (fun q => hj q.symm)] at h
    refine ⟨hj, ?_⟩
    match i, hj, h with
    | 0, hj, h => exact ⟨h, fun q => by omega⟩
    | i + 1, hj, h =>
      simp only at h
      split at h
      · rename_i x hx
        by_cases hji : j = i
        · subst hji
          rw [List.getElem?_set] at h
          simp at h
        · rw [List.getElem?_set_ne (fun q => hji q.symm)] at h
          exact ⟨h, fun q => by omega⟩
      · rename_i hx
        refine ⟨h, fun q x e => ?_⟩
        have : j = i := by omega
        subst this
        subst e
        exact hx _ h
theorem z_cat {P : zP} {v : zV} (h : (z_cv P v).category = 2) : ∃ x, v = .inr (.inl x) := by
  match v, h with
  | .inl x, h => cases h
  | .inr (.inl x), h => exact ⟨x, rfl⟩
  | .inr (.inr q), h => cases h
theorem z_LR.set {P : zP} {nL : Nat} {ls ls' : Array Slot} {l : List (Option zV)} {i : Nat} {v : zV} (h : z_LR P nL ls l) (hv : z_ok P v) (h' : lv_has ls' nL ((i, z_cv P v) :: (z_pl P l).filter (fun q => !(q.1 == i) && !(q.1 + 1 == i && q.2.category == 2)))) : z_LR P nL ls' (z_set l i v) := by
  refine ⟨h'.1, h'.2.1, fun j w hw => ?_⟩
  rcases z_set_spec hw with ⟨rfl, rfl⟩ | ⟨hj, hl, hx⟩
  · exact ⟨h'.2.2 _ List.mem_cons_self, hv⟩
  · refine ⟨h'.2.2 (j, z_cv P w) (List.mem_cons_of_mem _ (List.mem_filter.mpr ⟨z_pl_mem.mpr ⟨w, hl, rfl⟩, ?_⟩)), (h.2.2 _ _ hl).2⟩
    simp only [Bool.and_eq_true, Bool.not_eq_true', beq_eq_false_iff_ne, ne_eq, Bool.and_eq_false_iff]
    refine ⟨hj, ?_⟩
    by_cases hji : j + 1 = i
    · right
      intro hc
      obtain ⟨x, rfl⟩ := z_cat hc
      exact hx hji x rfl
    · exact Or.inl hji
theorem z_LR.setL {P : zP} {nL : Nat} {ls ls' : Array Slot} {l : List (Option zV)} {i : Nat} {v : zV} (h : z_LR P nL ls l) (hv : z_ok P v) (h' : lv_has ls' nL ((i, z_cv P v) :: (z_pl P l).filter (fun q => !(q.1 == i) && (!(q.1 == i + 1) && !(q.1 + 1 == i && q.2.category == 2))))) : z_LR P nL ls' (z_setL l i v) := by
  refine ⟨h'.1, h'.2.1, fun j w hw => ?_⟩
  unfold z_setL at hw
  by_cases hj1 : j = i + 1
  · subst hj1
    rw [List.getElem?_set] at hw
    simp at hw
  rw [List.getElem?_set_ne (fun q => hj1 q.symm)] at hw
  rcases z_set_spec hw with ⟨rfl, rfl⟩ | ⟨hj, hl, hx⟩
  · exact ⟨h'.2.2 _ List.mem_cons_self, hv⟩
  · refine ⟨h'.2.2 (j, z_cv P w) (List.mem_cons_of_mem _ (List.mem_filter.mpr ⟨z_pl_mem.mpr ⟨w, hl, rfl⟩, ?_⟩)), (h.2.2 _ _ hl).2⟩
    simp only [Bool.and_eq_true, Bool.not_eq_true', beq_eq_false_iff_ne, ne_eq, Bool.and_eq_false_iff]
    refine ⟨hj, hj1, ?_⟩
    by_cases hji : j + 1 = i
    · right
      intro hc
      obtain ⟨x, rfl⟩ := z_cat hc
      exact hx hji x rfl
    · exact Or.inl hji
/-! the world: what is kept, what is written -/
theorem z_WH.upd {P : zP} {μ μ' : zMem} {H H1 : Heap} {c i : Nat} (hG : z_G P) (h : z_WH P μ H) (he : z_ex P c i) (h1 : va_at (z_D P) classes (z_ad P c i, z_enc P μ' c i) H1) (ho : ∀ q : Nat, q ≠ z_ad P c i → H1[q]? = H[q]?)
    (hm : ∀ a b, ¬ (a = c ∧ b = i) → z_enc P μ' a b = z_enc P μ a b) (hr : ∀ (a b : Nat) (o : Nat × List zFK) (k : Nat) (f : zFK), z_ex P a b → z_obj a = some o → o.2[k]? = some f → f.1 = 3 → z_ex P f.2.1 (μ'.2.2 a b k)) (hz : H1.size = H.size) : z_WH P μ' H1 := by
  refine ⟨fun a b hab => ?_, hr, hz.trans h.2.2⟩
  by_cases hc : a = c ∧ b = i
  · obtain ⟨rfl, rfl⟩ := hc
    exact h1
  · rw [hm a b hc]
    refine (h.1 a b hab).kept (ho _ fun q => ?_)
    exact hc (hG.1 a b c i hab he q)
theorem z_enc_uI {P : zP} {μ : zMem} {c i a b : Nat} {f : Nat → Int32} (h : ¬ (a = c ∧ b = i)) : z_enc P (z_uI μ c i f) a b = z_enc P μ a b := by
  have e : (z_uI μ c i f).1 a b = μ.1 a b := by simp [z_uI, h]
  unfold z_enc z_arr z_fv
  rw [e]
  rfl
theorem z_uI_at (μ : zMem) (c i : Nat) (f : Nat → Int32) : (z_uI μ c i f).1 c i = f := by simp [z_uI]
theorem z_enc_sL {P : zP} {μ : zMem} {c i k a b : Nat} {x : Int64} (h : ¬ (a = c ∧ b = i)) : z_enc P (z_sL μ c i k x) a b = z_enc P μ a b := by
  have e : (z_sL μ c i k x).2.1 a b = μ.2.1 a b := by simp [z_sL, h]
  unfold z_enc z_arr z_fv
  rw [e]
  rfl
theorem z_enc_sR {P : zP} {μ : zMem} {c i k a b : Nat} {x : Nat} (h : ¬ (a = c ∧ b = i)) : z_enc P (z_sR μ c i k x) a b = z_enc P μ a b := by
  have e : (z_sR μ c i k x).2.2 a b = μ.2.2 a b := by simp [z_sR, h]
  unfold z_enc z_arr z_fv
  rw [e]
  rfl
theorem z_at_arr {P : zP} {μ : zMem} {H : Heap} {c i : Nat} (h : z_WH P μ H) (he : z_ex P c i) (ho : z_obj c = none) : H[z_ad P c i]? = some (vp_cell (z_cA P (z_el c)) (z_arr P μ c i)) := by
  have := h.1 c i he
  unfold z_enc at this
  rw [ho] at this
  exact this
