/-! what the Statement gives of the start -/
def w_N : List Cond := flatC (Jvm.Cond.and given_1 narrow_1)
abbrev w_tm (i : Nat) : Term := if i = 0 then .string "AbsentLords$Tokens" 74 else .string "AbsentLords$Tokens" 60
abbrev w_tv (i : Nat) : Term := .field (w_tm i) "java/lang/String" "value" "[B"
abbrev w_lots : Term := .static "AbsentLords$Course" "LOTS" "[I"
theorem w_n1 : Cond.eq (.static "java/lang/String" "COMPACT_STRINGS" "Z") (.int 1) ∈ w_N := List.mem_of_getElem? (i := 4) (by decide +kernel)
theorem w_n2 : Cond.isRef (.static "jdk/internal/util/Preconditions" "SIOOBE_FORMATTER" "Ljava/util/function/BiFunction;") ∈ w_N := List.mem_of_getElem? (i := 5) (by decide +kernel)
theorem w_n3 : Cond.arrayOf w_lots .int ∈ w_N := List.mem_of_getElem? (i := 10) (by decide +kernel)
theorem w_n4 : Cond.eq (.length w_lots) (.int (Int32.ofNat 3)) ∈ w_N := List.mem_of_getElem? (i := 11) (by decide +kernel)
theorem w_n5 : ∀ j, j < 3 → w_N[12 + j]? = some (Cond.eq (.elem w_lots (.int (Int32.ofNat j))) (.int (z_lots j))) := by decide +kernel
theorem w_n6 : ∀ i, i < 2 → w_N[15 + 151 * i]? = some (Cond.exactly (w_tm i) "java/lang/String") := by decide +kernel
theorem w_n7 : ∀ i, i < 2 → w_N[16 + 151 * i]? = some (Cond.eq (.field (w_tm i) "java/lang/String" "coder" "B") (.int 0)) := by decide +kernel
theorem w_n8 : ∀ i, i < 2 → w_N[17 + 151 * i]? = some (Cond.arrayOf (w_tv i) .byte) := by decide +kernel
theorem w_n9 : ∀ i, i < 2 → w_N[18 + 151 * i]? = some (Cond.eq (.length (w_tv i)) (.int (Int32.ofNat (([147, 9] : List Nat).getD i 0)))) := by decide +kernel
theorem w_n10 : ∀ i, i < 2 → ∀ j, j < ([147, 9] : List Nat).getD i 0 → w_N[19 + 151 * i + j]? = some (Cond.eq (.elem (w_tv i) (.int (Int32.ofNat j))) (.int (([z_by 0, z_by 1].getD i []).getD j 0))) := by decide +kernel
theorem w_n11 : Cond.not (Cond.eq (w_tm 0) (w_tm 1)) ∈ w_N := List.mem_of_getElem? (i := 179) (by decide +kernel)
theorem w_t1 : Cond.laysStatic "java/lang/String" "COMPACT_STRINGS" "Z" ∈ lw_tbl := List.mem_append_right _ (List.mem_append_right _ (List.mem_append_left _ (List.mem_of_getElem? (i := 166) rfl)))
theorem w_t2 : Cond.laysStatic "jdk/internal/util/Preconditions" "SIOOBE_FORMATTER" "Ljava/util/function/BiFunction;" ∈ lw_tbl := List.mem_append_right _ (List.mem_append_right _ (List.mem_append_left _ (List.mem_of_getElem? (i := 186) rfl)))
theorem w_t3 : Cond.laysStatic "AbsentLords$Course" "LOTS" "[I" ∈ lw_tbl := List.mem_append_right _ (List.mem_append_right _ (List.mem_append_right _ (List.mem_append_right _ (List.mem_append_left _ (List.mem_of_getElem? (i := 67) rfl)))))
theorem w_t4 : Cond.initialized "java/lang/String" ∈ lw_tbl := List.mem_append_right _ (List.mem_append_left _ (List.mem_of_getElem? (i := 12) rfl))
theorem w_t5 : Cond.initialized "jdk/internal/util/Preconditions" ∈ lw_tbl := List.mem_append_right _ (List.mem_append_left _ (List.mem_of_getElem? (i := 14) rfl))
theorem w_t6 : Cond.initialized "AbsentLords$Course" ∈ lw_tbl := List.mem_append_right _ (List.mem_append_left _ (List.mem_of_getElem? (i := 8) rfl))
theorem w_t7 : Cond.stringRef "AbsentLords$Tokens" 74 (z_tx 0) ∈ lw_tbl := List.mem_append_right _ (List.mem_append_right _ (List.mem_append_left _ (List.mem_of_getElem? (i := 156) rfl)))
theorem w_t8 : Cond.stringRef "AbsentLords$Tokens" 60 (z_tx 1) ∈ lw_tbl := List.mem_append_right _ (List.mem_append_right _ (List.mem_append_left _ (List.mem_of_getElem? (i := 217) rfl)))
theorem w_t9 : Cond.arrayOver (.object zR5) ∈ lw_tbl := List.mem_append_right _ (List.mem_append_left _ (List.mem_of_getElem? (i := 224) rfl))
theorem w_t10 : (z_nest.all fun q => tables_1.contains (.methodLinkNest q.1 q.2.1 q.2.2.1 q.2.2.2)) = true := by decide +kernel
/-- which array class is which -/
theorem w_arr {s : State} {args : Array Value} {ty : FieldType} (hne : ∀ c, ty ≠ .object c) (h : (Cond.arrayClass ty).before args s = true) : ∃ cA : ClassId, ArrOfT s cA ty ∧ va_RA s cA ty := by
  obtain ⟨c, k, comp, h1, h2, h3⟩ := Cond.arrayClass_spec (args := args) (first := s) (o := none) (s := s) (idx := []) h
  refine ⟨c, fun N z => ⟨(fun k h => by cases h), k, h2, comp, h3⟩, ?_⟩
  cases ty with
  | object C => exact absurd rfl (hne C)
  | _ => exact h1
theorem w_arrO {s : State} {args : Array Value} {n : String} (h : (Cond.arrayOver (.object n)).before args s = true) : ∃ cA : ClassId, ArrOfT s cA (.object n) ∧ va_RA s cA (.object n) := by
  obtain ⟨comp, c, k, h1, -, h2, h3, h4⟩ := Cond.arrayOver_spec (args := args) (first := s) (o := none) (s := s) (idx := []) h
  exact ⟨c, fun N z => ⟨(fun k h => by cases h), k, h2, comp, h3⟩, k, comp, h2, h3, h1, h4⟩
theorem w_ist {ci : Nat} {q : vw_C} (h : classes[ci]? = some q) : Cond.instantiable q.1 q.2.2 ∈ lw_gd := by
  match ci, h with
  | 0, h => cases h; exact ist_0
  | 1, h => cases h; exact ist_1
  | 2, h => cases h; exact ist_2
  | 3, h => cases h; exact ist_3
  | 4, h => cases h; exact ist_4
  | 5, h => cases h; exact ist_5
  | 6, h => cases h; exact ist_6
  | 7, h => cases h; exact ist_7
  | 8, h => cases h; exact ist_8
  | 9, h => cases h; exact ist_9
  | ci + 10, h => cases h
theorem w_D {s : State} {args : Array Value} (hts : ∀ w ∈ lw_gd, w.before args s = true) : ∃ D : va_G, ∀ (c : Nat) (q : vw_C), classes[c]? = some q → u_Kn s q.1 q.2.1 q.2.2 (D.1 c) (D.2 c) := by
  have h0 : ∀ c : Nat, ∃ r : ClassId × (Nat → Nat), ∀ q : vw_C, classes[c]? = some q → u_Kn s q.1 q.2.1 q.2.2 r.1 r.2 := by
    intro c
    cases hc : classes[c]? with
    | none => exact ⟨(default, fun _ => 0), fun q h => by cases h⟩
    | some q =>
      obtain ⟨cC, iS, hk⟩ := u_known hts (z_cls hc).1 (hts _ (w_ist hc))
      exact ⟨(cC, iS), fun q' h => by cases h; exact hk⟩
  obtain ⟨r, hr⟩ := Classical.axiomOfChoice h0
  exact ⟨(fun c => (r c).1, fun c => (r c).2), hr⟩
