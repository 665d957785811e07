/-! the classes: names, fields, and where their words stand -/
def lw_gd : List Cond := lw_tbl.filter goodWord
theorem z_s {q : MethodName × Nat} (h : q ∈ lw_privs) : Cond.selects q.1.cls q.1 q.1 ∈ lw_gd := List.mem_filter.mpr ⟨List.mem_append_left _ (List.mem_map.mpr ⟨q, h, rfl⟩), rfl⟩
theorem z_m1 {w : Cond} (h : w ∈ tables_1_1) (g : goodWord w = true) : w ∈ lw_gd := by
  refine List.mem_filter.mpr ⟨List.mem_append_right _ ?_, g⟩
  exact List.mem_append_left _ h
theorem z_m2 {w : Cond} (h : w ∈ tables_1_2) (g : goodWord w = true) : w ∈ lw_gd := by
  refine List.mem_filter.mpr ⟨List.mem_append_right _ ?_, g⟩
  exact List.mem_append_right _ (List.mem_append_left _ h)
theorem z_m3 {w : Cond} (h : w ∈ tables_1_3) (g : goodWord w = true) : w ∈ lw_gd := by
  refine List.mem_filter.mpr ⟨List.mem_append_right _ ?_, g⟩
  exact List.mem_append_right _ (List.mem_append_right _ (List.mem_append_left _ h))
theorem z_m4 {w : Cond} (h : w ∈ tables_1_4) (g : goodWord w = true) : w ∈ lw_gd := by
  refine List.mem_filter.mpr ⟨List.mem_append_right _ ?_, g⟩
  exact List.mem_append_right _ (List.mem_append_right _ (List.mem_append_right _ (List.mem_append_left _ h)))
theorem z_m5 {w : Cond} (h : w ∈ tables_1_5) (g : goodWord w = true) : w ∈ lw_gd := by
  refine List.mem_filter.mpr ⟨List.mem_append_right _ ?_, g⟩
  exact List.mem_append_right _ (List.mem_append_right _ (List.mem_append_right _ (List.mem_append_right _ (List.mem_append_left _ h))))
theorem z_m6 {w : Cond} (h : w ∈ tables_1_6) (g : goodWord w = true) : w ∈ lw_gd := by
  refine List.mem_filter.mpr ⟨List.mem_append_right _ ?_, g⟩
  exact List.mem_append_right _ (List.mem_append_right _ (List.mem_append_right _ (List.mem_append_right _ (List.mem_append_right _ (List.mem_append_left _ h)))))
theorem z_m7 {w : Cond} (h : w ∈ tables_1_7) (g : goodWord w = true) : w ∈ lw_gd := by
  refine List.mem_filter.mpr ⟨List.mem_append_right _ ?_, g⟩
  exact List.mem_append_right _ (List.mem_append_right _ (List.mem_append_right _ (List.mem_append_right _ (List.mem_append_right _ (List.mem_append_right _ (List.mem_append_left _ h))))))
theorem z_m8 {w : Cond} (h : w ∈ tables_1_8) (g : goodWord w = true) : w ∈ lw_gd := by
  refine List.mem_filter.mpr ⟨List.mem_append_right _ ?_, g⟩
  exact List.mem_append_right _ (List.mem_append_right _ (List.mem_append_right _ (List.mem_append_right _ (List.mem_append_right _ (List.mem_append_right _ (List.mem_append_right _ (h)))))))
def zR0 : String := "AbsentLords$Course"
def zT0 : u_T := fun k => match k with
  | 0 => ("AbsentLords$Course", "court", "LAbsentLords$Court;", true)
  | _ => ("AbsentLords$Course", "due", "[I", true)
def zt0 : Nat → FieldType := fun k => match k with
  | 0 => .object "AbsentLords$Court"
  | _ => .array .int
theorem z_nm0 : ∀ a, a < 2 → ∀ b, b < 2 → a ≠ b → (zT0 a).2.1 ≠ (zT0 b).2.1 := by decide +kernel
theorem z_ty0 : ∀ k, k < 2 → parseFieldDescriptor (zT0 k).2.2.1 = some (zt0 k) := by decide +kernel
theorem z_w0_0 : u_lay zR0 zT0 0 ∈ lw_gd := z_m2 (List.mem_of_getElem? (i := 26) rfl) rfl
theorem z_w0_1 : u_lay zR0 zT0 1 ∈ lw_gd := z_m2 (List.mem_of_getElem? (i := 28) rfl) rfl
theorem z_in0 : ∀ w ∈ u_ws zR0 zT0 2, w ∈ lw_gd := by
  intro w hw
  obtain ⟨k, hk, rfl⟩ := List.mem_map.mp hw
  have hk := List.mem_range.mp hk
  match k, hk with
  | 0, _ => exact z_w0_0
  | 1, _ => exact z_w0_1
  | k + 2, h => exact absurd h (by omega)
def zR1 : String := "AbsentLords$Court"
def zT1 : u_T := fun k => match k with
  | 0 => ("AbsentLords$Court", "landlords", "[I", true)
  | 1 => ("AbsentLords$Court", "lordships", "[I", true)
  | 2 => ("AbsentLords$Court", "ownRents", "[I", true)
  | _ => ("AbsentLords$Court", "stack", "[I", true)
def zt1 : Nat → FieldType := fun k => match k with
  | 0 => .array .int
  | 1 => .array .int
  | 2 => .array .int
  | _ => .array .int
theorem z_nm1 : ∀ a, a < 4 → ∀ b, b < 4 → a ≠ b → (zT1 a).2.1 ≠ (zT1 b).2.1 := by decide +kernel
theorem z_ty1 : ∀ k, k < 4 → parseFieldDescriptor (zT1 k).2.2.1 = some (zt1 k) := by decide +kernel
theorem z_w1_0 : u_lay zR1 zT1 0 ∈ lw_gd := z_m2 (List.mem_of_getElem? (i := 7) rfl) rfl
theorem z_w1_1 : u_lay zR1 zT1 1 ∈ lw_gd := z_m2 (List.mem_of_getElem? (i := 9) rfl) rfl
theorem z_w1_2 : u_lay zR1 zT1 2 ∈ lw_gd := z_m2 (List.mem_of_getElem? (i := 11) rfl) rfl
theorem z_w1_3 : u_lay zR1 zT1 3 ∈ lw_gd := z_m2 (List.mem_of_getElem? (i := 13) rfl) rfl
theorem z_in1 : ∀ w ∈ u_ws zR1 zT1 4, w ∈ lw_gd := by
  intro w hw
  obtain ⟨k, hk, rfl⟩ := List.mem_map.mp hw
  have hk := List.mem_range.mp hk
  match k, hk with
  | 0, _ => exact z_w1_0
  | 1, _ => exact z_w1_1
  | 2, _ => exact z_w1_2
  | 3, _ => exact z_w1_3
  | k + 4, h => exact absurd h (by omega)
def zR2 : String := "AbsentLords$Letters"
def zT2 : u_T := fun k => match k with
  | 0 => ("AbsentLords$Letters", "earlier", "[I", true)
  | 1 => ("AbsentLords$Letters", "later", "[I", true)
  | 2 => ("AbsentLords$Letters", "told", "I", false)
  | 3 => ("AbsentLords$Letters", "people", "I", false)
  | 4 => ("AbsentLords$Letters", "musts", "[I", true)
  | 5 => ("AbsentLords$Letters", "heads", "[I", true)
  | _ => ("AbsentLords$Letters", "tails", "[I", true)
def zt2 : Nat → FieldType := fun k => match k with
  | 0 => .array .int
  | 1 => .array .int
  | 2 => .int
  | 3 => .int
  | 4 => .array .int
  | 5 => .array .int
  | _ => .array .int
theorem z_nm2 : ∀ a, a < 7 → ∀ b, b < 7 → a ≠ b → (zT2 a).2.1 ≠ (zT2 b).2.1 := by decide +kernel
theorem z_ty2 : ∀ k, k < 7 → parseFieldDescriptor (zT2 k).2.2.1 = some (zt2 k) := by decide +kernel
theorem z_w2_0 : u_lay zR2 zT2 0 ∈ lw_gd := z_m2 (List.mem_of_getElem? (i := 45) rfl) rfl
theorem z_w2_1 : u_lay zR2 zT2 1 ∈ lw_gd := z_m2 (List.mem_of_getElem? (i := 47) rfl) rfl
theorem z_w2_2 : u_lay zR2 zT2 2 ∈ lw_gd := z_m2 (List.mem_of_getElem? (i := 49) rfl) rfl
theorem z_w2_3 : u_lay zR2 zT2 3 ∈ lw_gd := z_m2 (List.mem_of_getElem? (i := 51) rfl) rfl
theorem z_w2_4 : u_lay zR2 zT2 4 ∈ lw_gd := z_m2 (List.mem_of_getElem? (i := 53) rfl) rfl
theorem z_w2_5 : u_lay zR2 zT2 5 ∈ lw_gd := z_m2 (List.mem_of_getElem? (i := 55) rfl) rfl
theorem z_w2_6 : u_lay zR2 zT2 6 ∈ lw_gd := z_m2 (List.mem_of_getElem? (i := 57) rfl) rfl
theorem z_in2 : ∀ w ∈ u_ws zR2 zT2 7, w ∈ lw_gd := by
  intro w hw
  obtain ⟨k, hk, rfl⟩ := List.mem_map.mp hw
  have hk := List.mem_range.mp hk
  match k, hk with
  | 0, _ => exact z_w2_0
  | 1, _ => exact z_w2_1
  | 2, _ => exact z_w2_2
  | 3, _ => exact z_w2_3
  | 4, _ => exact z_w2_4
  | 5, _ => exact z_w2_5
  | 6, _ => exact z_w2_6
  | k + 7, h => exact absurd h (by omega)
def zR3 : String := "AbsentLords$Past"
def zT3 : u_T := fun k => match k with
  | 0 => ("AbsentLords$Past", "states", "[LAbsentLords$State;", true)
  | 1 => ("AbsentLords$Past", "next", "I", false)
  | _ => ("AbsentLords$Past", "kept", "I", false)
def zt3 : Nat → FieldType := fun k => match k with
  | 0 => .array (.object "AbsentLords$State")
  | 1 => .int
  | _ => .int
theorem z_nm3 : ∀ a, a < 3 → ∀ b, b < 3 → a ≠ b → (zT3 a).2.1 ≠ (zT3 b).2.1 := by decide +kernel
theorem z_ty3 : ∀ k, k < 3 → parseFieldDescriptor (zT3 k).2.2.1 = some (zt3 k) := by decide +kernel
theorem z_w3_0 : u_lay zR3 zT3 0 ∈ lw_gd := z_m1 (List.mem_of_getElem? (i := 230) rfl) rfl
theorem z_w3_1 : u_lay zR3 zT3 1 ∈ lw_gd := z_m1 (List.mem_of_getElem? (i := 232) rfl) rfl
theorem z_w3_2 : u_lay zR3 zT3 2 ∈ lw_gd := z_m1 (List.mem_of_getElem? (i := 234) rfl) rfl
theorem z_in3 : ∀ w ∈ u_ws zR3 zT3 3, w ∈ lw_gd := by
  intro w hw
  obtain ⟨k, hk, rfl⟩ := List.mem_map.mp hw
  have hk := List.mem_range.mp hk
  match k, hk with
  | 0, _ => exact z_w3_0
  | 1, _ => exact z_w3_1
  | 2, _ => exact z_w3_2
  | k + 3, h => exact absurd h (by omega)
def zR4 : String := "AbsentLords$Reader"
def zT4 : u_T := fun k => match k with
  | 0 => ("AbsentLords$Reader", "tokens", "LAbsentLords$Tokens;", true)
  | 1 => ("AbsentLords$Reader", "houseNames", "[J", true)
  | 2 => ("AbsentLords$Reader", "personNames", "[J", true)
  | 3 => ("AbsentLords$Reader", "text", "LAbsentLords$Text;", false)
  | 4 => ("AbsentLords$Reader", "taken", "I", false)
  | 5 => ("AbsentLords$Reader", "rights", "I", false)
  | 6 => ("AbsentLords$Reader", "absences", "I", false)
  | 7 => ("AbsentLords$Reader", "fault", "I", false)
  | 8 => ("AbsentLords$Reader", "faultPlace", "I", false)
  | 9 => ("AbsentLords$Reader", "doubt", "I", false)
  | _ => ("AbsentLords$Reader", "doubtPlace", "I", false)
def zt4 : Nat → FieldType := fun k => match k with
  | 0 => .object "AbsentLords$Tokens"
  | 1 => .array .long
  | 2 => .array .long
  | 3 => .object "AbsentLords$Text"
  | 4 => .int
  | 5 => .int
  | 6 => .int
  | 7 => .int
  | 8 => .int
  | 9 => .int
  | _ => .int
theorem z_nm4 : ∀ a, a < 11 → ∀ b, b < 11 → a ≠ b → (zT4 a).2.1 ≠ (zT4 b).2.1 := by decide +kernel
theorem z_ty4 : ∀ k, k < 11 → parseFieldDescriptor (zT4 k).2.2.1 = some (zt4 k) := by decide +kernel
theorem z_w4_0 : u_lay zR4 zT4 0 ∈ lw_gd := z_m1 (List.mem_of_getElem? (i := 146) rfl) rfl
theorem z_w4_1 : u_lay zR4 zT4 1 ∈ lw_gd := z_m1 (List.mem_of_getElem? (i := 148) rfl) rfl
theorem z_w4_2 : u_lay zR4 zT4 2 ∈ lw_gd := z_m1 (List.mem_of_getElem? (i := 150) rfl) rfl
theorem z_w4_3 : u_lay zR4 zT4 3 ∈ lw_gd := z_m1 (List.mem_of_getElem? (i := 152) rfl) rfl
theorem z_w4_4 : u_lay zR4 zT4 4 ∈ lw_gd := z_m1 (List.mem_of_getElem? (i := 154) rfl) rfl
theorem z_w4_5 : u_lay zR4 zT4 5 ∈ lw_gd := z_m1 (List.mem_of_getElem? (i := 156) rfl) rfl
theorem z_w4_6 : u_lay zR4 zT4 6 ∈ lw_gd := z_m1 (List.mem_of_getElem? (i := 158) rfl) rfl
theorem z_w4_7 : u_lay zR4 zT4 7 ∈ lw_gd := z_m1 (List.mem_of_getElem? (i := 160) rfl) rfl
theorem z_w4_8 : u_lay zR4 zT4 8 ∈ lw_gd := z_m1 (List.mem_of_getElem? (i := 162) rfl) rfl
theorem z_w4_9 : u_lay zR4 zT4 9 ∈ lw_gd := z_m1 (List.mem_of_getElem? (i := 164) rfl) rfl
theorem z_w4_10 : u_lay zR4 zT4 10 ∈ lw_gd := z_m1 (List.mem_of_getElem? (i := 166) rfl) rfl
theorem z_in4 : ∀ w ∈ u_ws zR4 zT4 11, w ∈ lw_gd := by
  intro w hw
  obtain ⟨k, hk, rfl⟩ := List.mem_map.mp hw
  have hk := List.mem_range.mp hk
  match k, hk with
  | 0, _ => exact z_w4_0
  | 1, _ => exact z_w4_1
  | 2, _ => exact z_w4_2
  | 3, _ => exact z_w4_3
  | 4, _ => exact z_w4_4
  | 5, _ => exact z_w4_5
  | 6, _ => exact z_w4_6
  | 7, _ => exact z_w4_7
  | 8, _ => exact z_w4_8
  | 9, _ => exact z_w4_9
  | 10, _ => exact z_w4_10
  | k + 11, h => exact absurd h (by omega)
def zR5 : String := "AbsentLords$State"
def zT5 : u_T := fun k => match k with
  | 0 => ("AbsentLords$State", "year", "I", false)
  | 1 => ("AbsentLords$State", "home", "I", false)
  | 2 => ("AbsentLords$State", "away", "I", false)
  | 3 => ("AbsentLords$State", "gone", "[I", true)
  | 4 => ("AbsentLords$State", "got", "[I", true)
  | 5 => ("AbsentLords$State", "ages", "[I", true)
  | _ => ("AbsentLords$State", "holders", "[I", true)
def zt5 : Nat → FieldType := fun k => match k with
  | 0 => .int
  | 1 => .int
  | 2 => .int
  | 3 => .array .int
  | 4 => .array .int
  | 5 => .array .int
  | _ => .array .int
theorem z_nm5 : ∀ a, a < 7 → ∀ b, b < 7 → a ≠ b → (zT5 a).2.1 ≠ (zT5 b).2.1 := by decide +kernel
theorem z_ty5 : ∀ k, k < 7 → parseFieldDescriptor (zT5 k).2.2.1 = some (zt5 k) := by decide +kernel
theorem z_w5_0 : u_lay zR5 zT5 0 ∈ lw_gd := z_m1 (List.mem_of_getElem? (i := 202) rfl) rfl
theorem z_w5_1 : u_lay zR5 zT5 1 ∈ lw_gd := z_m1 (List.mem_of_getElem? (i := 204) rfl) rfl
theorem z_w5_2 : u_lay zR5 zT5 2 ∈ lw_gd := z_m1 (List.mem_of_getElem? (i := 206) rfl) rfl
theorem z_w5_3 : u_lay zR5 zT5 3 ∈ lw_gd := z_m1 (List.mem_of_getElem? (i := 208) rfl) rfl
theorem z_w5_4 : u_lay zR5 zT5 4 ∈ lw_gd := z_m1 (List.mem_of_getElem? (i := 210) rfl) rfl
theorem z_w5_5 : u_lay zR5 zT5 5 ∈ lw_gd := z_m1 (List.mem_of_getElem? (i := 212) rfl) rfl
theorem z_w5_6 : u_lay zR5 zT5 6 ∈ lw_gd := z_m1 (List.mem_of_getElem? (i := 214) rfl) rfl
theorem z_in5 : ∀ w ∈ u_ws zR5 zT5 7, w ∈ lw_gd := by
  intro w hw
  obtain ⟨k, hk, rfl⟩ := List.mem_map.mp hw
  have hk := List.mem_range.mp hk
  match k, hk with
  | 0, _ => exact z_w5_0
  | 1, _ => exact z_w5_1
  | 2, _ => exact z_w5_2
  | 3, _ => exact z_w5_3
  | 4, _ => exact z_w5_4
  | 5, _ => exact z_w5_5
  | 6, _ => exact z_w5_6
  | k + 7, h => exact absurd h (by omega)
def zR6 : String := "AbsentLords$Text"
def zT6 : u_T := fun k => match k with
  | 0 => ("AbsentLords$Text", "houses", "I", false)
  | 1 => ("AbsentLords$Text", "people", "I", false)
  | 2 => ("AbsentLords$Text", "seed", "I", false)
  | 3 => ("AbsentLords$Text", "rents", "[I", true)
  | 4 => ("AbsentLords$Text", "holders", "[I", true)
  | 5 => ("AbsentLords$Text", "ages", "[I", true)
  | 6 => ("AbsentLords$Text", "absences", "[I", true)
  | 7 => ("AbsentLords$Text", "code", "[I", true)
  | 8 => ("AbsentLords$Text", "starts", "[I", true)
  | _ => ("AbsentLords$Text", "written", "I", false)
def zt6 : Nat → FieldType := fun k => match k with
  | 0 => .int
  | 1 => .int
  | 2 => .int
  | 3 => .array .int
  | 4 => .array .int
  | 5 => .array .int
  | 6 => .array .int
  | 7 => .array .int
  | 8 => .array .int
  | _ => .int
theorem z_nm6 : ∀ a, a < 10 → ∀ b, b < 10 → a ≠ b → (zT6 a).2.1 ≠ (zT6 b).2.1 := by decide +kernel
theorem z_ty6 : ∀ k, k < 10 → parseFieldDescriptor (zT6 k).2.2.1 = some (zt6 k) := by decide +kernel
theorem z_w6_0 : u_lay zR6 zT6 0 ∈ lw_gd := z_m1 (List.mem_of_getElem? (i := 113) rfl) rfl
theorem z_w6_1 : u_lay zR6 zT6 1 ∈ lw_gd := z_m1 (List.mem_of_getElem? (i := 115) rfl) rfl
theorem z_w6_2 : u_lay zR6 zT6 2 ∈ lw_gd := z_m1 (List.mem_of_getElem? (i := 117) rfl) rfl
theorem z_w6_3 : u_lay zR6 zT6 3 ∈ lw_gd := z_m1 (List.mem_of_getElem? (i := 119) rfl) rfl
theorem z_w6_4 : u_lay zR6 zT6 4 ∈ lw_gd := z_m1 (List.mem_of_getElem? (i := 121) rfl) rfl
theorem z_w6_5 : u_lay zR6 zT6 5 ∈ lw_gd := z_m1 (List.mem_of_getElem? (i := 123) rfl) rfl
theorem z_w6_6 : u_lay zR6 zT6 6 ∈ lw_gd := z_m1 (List.mem_of_getElem? (i := 125) rfl) rfl
theorem z_w6_7 : u_lay zR6 zT6 7 ∈ lw_gd := z_m1 (List.mem_of_getElem? (i := 127) rfl) rfl
theorem z_w6_8 : u_lay zR6 zT6 8 ∈ lw_gd := z_m1 (List.mem_of_getElem? (i := 129) rfl) rfl
theorem z_w6_9 : u_lay zR6 zT6 9 ∈ lw_gd := z_m1 (List.mem_of_getElem? (i := 131) rfl) rfl
theorem z_in6 : ∀ w ∈ u_ws zR6 zT6 10, w ∈ lw_gd := by
  intro w hw
  obtain ⟨k, hk, rfl⟩ := List.mem_map.mp hw
  have hk := List.mem_range.mp hk
  match k, hk with
  | 0, _ => exact z_w6_0
  | 1, _ => exact z_w6_1
  | 2, _ => exact z_w6_2
  | 3, _ => exact z_w6_3
  | 4, _ => exact z_w6_4
  | 5, _ => exact z_w6_5
  | 6, _ => exact z_w6_6
  | 7, _ => exact z_w6_7
  | 8, _ => exact z_w6_8
  | 9, _ => exact z_w6_9
  | k + 10, h => exact absurd h (by omega)
def zR7 : String := "AbsentLords$Tokens"
def zT7 : u_T := fun k => match k with
  | 0 => ("AbsentLords$Tokens", "kinds", "[I", true)
  | 1 => ("AbsentLords$Tokens", "starts", "[I", true)
  | 2 => ("AbsentLords$Tokens", "values", "[J", true)
  | 3 => ("AbsentLords$Tokens", "tape", "[B", false)
  | 4 => ("AbsentLords$Tokens", "length", "I", false)
  | _ => ("AbsentLords$Tokens", "next", "I", false)
def zt7 : Nat → FieldType := fun k => match k with
  | 0 => .array .int
  | 1 => .array .int
  | 2 => .array .long
  | 3 => .array .byte
  | 4 => .int
  | _ => .int
theorem z_nm7 : ∀ a, a < 6 → ∀ b, b < 6 → a ≠ b → (zT7 a).2.1 ≠ (zT7 b).2.1 := by decide +kernel
theorem z_ty7 : ∀ k, k < 6 → parseFieldDescriptor (zT7 k).2.2.1 = some (zt7 k) := by decide +kernel
theorem z_w7_0 : u_lay zR7 zT7 0 ∈ lw_gd := z_m1 (List.mem_of_getElem? (i := 48) rfl) rfl
theorem z_w7_1 : u_lay zR7 zT7 1 ∈ lw_gd := z_m1 (List.mem_of_getElem? (i := 50) rfl) rfl
theorem z_w7_2 : u_lay zR7 zT7 2 ∈ lw_gd := z_m1 (List.mem_of_getElem? (i := 52) rfl) rfl
theorem z_w7_3 : u_lay zR7 zT7 3 ∈ lw_gd := z_m1 (List.mem_of_getElem? (i := 54) rfl) rfl
theorem z_w7_4 : u_lay zR7 zT7 4 ∈ lw_gd := z_m1 (List.mem_of_getElem? (i := 56) rfl) rfl
theorem z_w7_5 : u_lay zR7 zT7 5 ∈ lw_gd := z_m1 (List.mem_of_getElem? (i := 58) rfl) rfl
theorem z_in7 : ∀ w ∈ u_ws zR7 zT7 6, w ∈ lw_gd := by
  intro w hw
  obtain ⟨k, hk, rfl⟩ := List.mem_map.mp hw
  have hk := List.mem_range.mp hk
  match k, hk with
  | 0, _ => exact z_w7_0
  | 1, _ => exact z_w7_1
  | 2, _ => exact z_w7_2
  | 3, _ => exact z_w7_3
  | 4, _ => exact z_w7_4
  | 5, _ => exact z_w7_5
  | k + 6, h => exact absurd h (by omega)
def zR8 : String := "AbsentLords"
def zT8 : u_T := fun k => match k with
  | 0 => ("AbsentLords", "tape", "[B", true)
  | 1 => ("AbsentLords", "taped", "I", false)
  | 2 => ("AbsentLords", "reader", "LAbsentLords$Reader;", true)
  | 3 => ("AbsentLords", "text", "LAbsentLords$Text;", false)
  | 4 => ("AbsentLords", "now", "LAbsentLords$State;", true)
  | 5 => ("AbsentLords", "trial", "LAbsentLords$State;", true)
  | 6 => ("AbsentLords", "waiting", "LAbsentLords$State;", true)
  | 7 => ("AbsentLords", "firstGains", "[I", true)
  | 8 => ("AbsentLords", "otherGains", "[I", true)
  | 9 => ("AbsentLords", "past", "LAbsentLords$Past;", true)
  | 10 => ("AbsentLords", "slots", "[LAbsentLords$State;", true)
  | 11 => ("AbsentLords", "heldSlots", "I", false)
  | 12 => ("AbsentLords", "court", "LAbsentLords$Court;", true)
  | 13 => ("AbsentLords", "course", "LAbsentLords$Course;", true)
  | _ => ("AbsentLords", "letters", "LAbsentLords$Letters;", true)
def zt8 : Nat → FieldType := fun k => match k with
  | 0 => .array .byte
  | 1 => .int
  | 2 => .object "AbsentLords$Reader"
  | 3 => .object "AbsentLords$Text"
  | 4 => .object "AbsentLords$State"
  | 5 => .object "AbsentLords$State"
  | 6 => .object "AbsentLords$State"
  | 7 => .array .int
  | 8 => .array .int
  | 9 => .object "AbsentLords$Past"
  | 10 => .array (.object "AbsentLords$State")
  | 11 => .int
  | 12 => .object "AbsentLords$Court"
  | 13 => .object "AbsentLords$Course"
  | _ => .object "AbsentLords$Letters"
theorem z_nm8 : ∀ a, a < 15 → ∀ b, b < 15 → a ≠ b → (zT8 a).2.1 ≠ (zT8 b).2.1 := by decide +kernel
theorem z_ty8 : ∀ k, k < 15 → parseFieldDescriptor (zT8 k).2.2.1 = some (zt8 k) := by decide +kernel
theorem z_w8_0 : u_lay zR8 zT8 0 ∈ lw_gd := z_m2 (List.mem_of_getElem? (i := 75) rfl) rfl
theorem z_w8_1 : u_lay zR8 zT8 1 ∈ lw_gd := z_m2 (List.mem_of_getElem? (i := 77) rfl) rfl
theorem z_w8_2 : u_lay zR8 zT8 2 ∈ lw_gd := z_m2 (List.mem_of_getElem? (i := 79) rfl) rfl
theorem z_w8_3 : u_lay zR8 zT8 3 ∈ lw_gd := z_m2 (List.mem_of_getElem? (i := 81) rfl) rfl
theorem z_w8_4 : u_lay zR8 zT8 4 ∈ lw_gd := z_m2 (List.mem_of_getElem? (i := 83) rfl) rfl
theorem z_w8_5 : u_lay zR8 zT8 5 ∈ lw_gd := z_m2 (List.mem_of_getElem? (i := 85) rfl) rfl
theorem z_w8_6 : u_lay zR8 zT8 6 ∈ lw_gd := z_m2 (List.mem_of_getElem? (i := 87) rfl) rfl
theorem z_w8_7 : u_lay zR8 zT8 7 ∈ lw_gd := z_m2 (List.mem_of_getElem? (i := 89) rfl) rfl
theorem z_w8_8 : u_lay zR8 zT8 8 ∈ lw_gd := z_m2 (List.mem_of_getElem? (i := 91) rfl) rfl
theorem z_w8_9 : u_lay zR8 zT8 9 ∈ lw_gd := z_m2 (List.mem_of_getElem? (i := 93) rfl) rfl
theorem z_w8_10 : u_lay zR8 zT8 10 ∈ lw_gd := z_m2 (List.mem_of_getElem? (i := 95) rfl) rfl
theorem z_w8_11 : u_lay zR8 zT8 11 ∈ lw_gd := z_m2 (List.mem_of_getElem? (i := 97) rfl) rfl
theorem z_w8_12 : u_lay zR8 zT8 12 ∈ lw_gd := z_m2 (List.mem_of_getElem? (i := 99) rfl) rfl
theorem z_w8_13 : u_lay zR8 zT8 13 ∈ lw_gd := z_m2 (List.mem_of_getElem? (i := 101) rfl) rfl
theorem z_w8_14 : u_lay zR8 zT8 14 ∈ lw_gd := z_m2 (List.mem_of_getElem? (i := 103) rfl) rfl
theorem z_in8 : ∀ w ∈ u_ws zR8 zT8 15, w ∈ lw_gd := by
  intro w hw
  obtain ⟨k, hk, rfl⟩ := List.mem_map.mp hw
  have hk := List.mem_range.mp hk
  match k, hk with
  | 0, _ => exact z_w8_0
  | 1, _ => exact z_w8_1
  | 2, _ => exact z_w8_2
  | 3, _ => exact z_w8_3
  | 4, _ => exact z_w8_4
  | 5, _ => exact z_w8_5
  | 6, _ => exact z_w8_6
  | 7, _ => exact z_w8_7
  | 8, _ => exact z_w8_8
  | 9, _ => exact z_w8_9
  | 10, _ => exact z_w8_10
  | 11, _ => exact z_w8_11
  | 12, _ => exact z_w8_12
  | 13, _ => exact z_w8_13
  | 14, _ => exact z_w8_14
  | k + 15, h => exact absurd h (by omega)
def zR9 : String := "AbsentLordsModel"
def zT9 : u_T := fun k => match k with
  | 0 => ("AbsentLordsModel", "thrown", "I", false)
  | 1 => ("AbsentLordsModel", "tape", "[B", true)
  | 2 => ("AbsentLordsModel", "taped", "I", false)
  | 3 => ("AbsentLordsModel", "text", "[B", true)
  | 4 => ("AbsentLordsModel", "size", "I", false)
  | 5 => ("AbsentLordsModel", "tKind", "[I", true)
  | 6 => ("AbsentLordsModel", "tPlace", "[I", true)
  | 7 => ("AbsentLordsModel", "tValue", "[I", true)
  | 8 => ("AbsentLordsModel", "tName", "[J", true)
  | 9 => ("AbsentLordsModel", "keys", "[J", true)
  | 10 => ("AbsentLordsModel", "tokens", "I", false)
  | 11 => ("AbsentLordsModel", "t", "I", false)
  | 12 => ("AbsentLordsModel", "open", "I", false)
  | 13 => ("AbsentLordsModel", "fault", "I", false)
  | 14 => ("AbsentLordsModel", "faultPlace", "I", false)
  | 15 => ("AbsentLordsModel", "worst", "I", false)
  | 16 => ("AbsentLordsModel", "worstPlace", "I", false)
  | 17 => ("AbsentLordsModel", "place", "I", false)
  | 18 => ("AbsentLordsModel", "live", "I", false)
  | 19 => ("AbsentLordsModel", "side", "I", false)
  | 20 => ("AbsentLordsModel", "names", "I", false)
  | 21 => ("AbsentLordsModel", "nameOf", "[J", true)
  | 22 => ("AbsentLordsModel", "nameAt", "[I", true)
  | 23 => ("AbsentLordsModel", "houses", "[I", true)
  | 24 => ("AbsentLordsModel", "rentOf", "[I", true)
  | 25 => ("AbsentLordsModel", "rightsTold", "[I", true)
  | 26 => ("AbsentLordsModel", "people", "[I", true)
  | 27 => ("AbsentLordsModel", "ageOf", "[I", true)
  | 28 => ("AbsentLordsModel", "awayTold", "[I", true)
  | 29 => ("AbsentLordsModel", "rightMany", "[I", true)
  | 30 => ("AbsentLordsModel", "awayMany", "[I", true)
  | 31 => ("AbsentLordsModel", "seed", "[I", true)
  | 32 => ("AbsentLordsModel", "lawFirst", "[I", true)
  | 33 => ("AbsentLordsModel", "lawLast", "[I", true)
  | 34 => ("AbsentLordsModel", "branches", "I", false)
  | 35 => ("AbsentLordsModel", "hasTest", "[Z", true)
  | 36 => ("AbsentLordsModel", "testFrom", "[I", true)
  | 37 => ("AbsentLordsModel", "testMid", "[I", true)
  | 38 => ("AbsentLordsModel", "testTo", "[I", true)
  | 39 => ("AbsentLordsModel", "termTo", "[I", true)
  | 40 => ("AbsentLordsModel", "codes", "I", false)
  | 41 => ("AbsentLordsModel", "code", "[I", true)
  | 42 => ("AbsentLordsModel", "codeInt", "[I", true)
  | 43 => ("AbsentLordsModel", "waits", "[I", true)
  | 44 => ("AbsentLordsModel", "waiting", "I", false)
  | 45 => ("AbsentLordsModel", "variables", "[I", true)
  | 46 => ("AbsentLordsModel", "pile", "[I", true)
  | 47 => ("AbsentLordsModel", "isBroken", "Z", false)
  | 48 => ("AbsentLordsModel", "now", "[I", true)
  | 49 => ("AbsentLordsModel", "row", "[I", true)
  | 50 => ("AbsentLordsModel", "lots", "I", false)
  | 51 => ("AbsentLordsModel", "isStill", "Z", false)
  | 52 => ("AbsentLordsModel", "rentsNow", "[I", true)
  | 53 => ("AbsentLordsModel", "lordNow", "[I", true)
  | 54 => ("AbsentLordsModel", "doesNow", "[I", true)
  | 55 => ("AbsentLordsModel", "undos", "I", false)
  | 56 => ("AbsentLordsModel", "history", "[I", true)
  | 57 => ("AbsentLordsModel", "lordsFrom", "[I", true)
  | 58 => ("AbsentLordsModel", "tolds", "I", false)
  | 59 => ("AbsentLordsModel", "toldFirst", "[I", true)
  | 60 => ("AbsentLordsModel", "toldOther", "[I", true)
  | 61 => ("AbsentLordsModel", "needsOf", "[I", true)
  | 62 => ("AbsentLordsModel", "waysTo", "[I", true)
  | 63 => ("AbsentLordsModel", "waysFrom", "[I", true)
  | 64 => ("AbsentLordsModel", "isHeld", "[Z", true)
  | _ => ("AbsentLordsModel", "heldRows", "[I", true)
def zt9 : Nat → FieldType := fun k => match k with
  | 0 => .int
  | 1 => .array .byte
  | 2 => .int
  | 3 => .array .byte
  | 4 => .int
  | 5 => .array .int
  | 6 => .array .int
  | 7 => .array .int
  | 8 => .array .long
  | 9 => .array .long
  | 10 => .int
  | 11 => .int
  | 12 => .int
  | 13 => .int
  | 14 => .int
  | 15 => .int
  | 16 => .int
  | 17 => .int
  | 18 => .int
  | 19 => .int
  | 20 => .int
  | 21 => .array .long
  | 22 => .array .int
  | 23 => .array .int
  | 24 => .array .int
  | 25 => .array .int
  | 26 => .array .int
  | 27 => .array .int
  | 28 => .array .int
  | 29 => .array .int
  | 30 => .array .int
  | 31 => .array .int
  | 32 => .array .int
  | 33 => .array .int
  | 34 => .int
  | 35 => .array .boolean
  | 36 => .array .int
  | 37 => .array .int
  | 38 => .array .int
  | 39 => .array .int
  | 40 => .int
  | 41 => .array .int
  | 42 => .array .int
  | 43 => .array .int
  | 44 => .int
  | 45 => .array .int
  | 46 => .array .int
  | 47 => .boolean
  | 48 => .array .int
  | 49 => .array .int
  | 50 => .int
  | 51 => .boolean
  | 52 => .array .int
  | 53 => .array .int
  | 54 => .array .int
  | 55 => .int
  | 56 => .array .int
  | 57 => .array .int
  | 58 => .int
  | 59 => .array .int
  | 60 => .array .int
  | 61 => .array .int
  | 62 => .array .int
  | 63 => .array .int
  | 64 => .array .boolean
  | _ => .array .int
theorem z_nm9 : ∀ a, a < 66 → ∀ b, b < 66 → a ≠ b → (zT9 a).2.1 ≠ (zT9 b).2.1 := by decide +kernel
theorem z_ty9 : ∀ k, k < 66 → parseFieldDescriptor (zT9 k).2.2.1 = some (zt9 k) := by decide +kernel
theorem z_w9_0 : u_lay zR9 zT9 0 ∈ lw_gd := z_m5 (List.mem_of_getElem? (i := 214) rfl) rfl
theorem z_w9_1 : u_lay zR9 zT9 1 ∈ lw_gd := z_m5 (List.mem_of_getElem? (i := 216) rfl) rfl
theorem z_w9_2 : u_lay zR9 zT9 2 ∈ lw_gd := z_m5 (List.mem_of_getElem? (i := 218) rfl) rfl
theorem z_w9_3 : u_lay zR9 zT9 3 ∈ lw_gd := z_m5 (List.mem_of_getElem? (i := 220) rfl) rfl
theorem z_w9_4 : u_lay zR9 zT9 4 ∈ lw_gd := z_m5 (List.mem_of_getElem? (i := 222) rfl) rfl
theorem z_w9_5 : u_lay zR9 zT9 5 ∈ lw_gd := z_m5 (List.mem_of_getElem? (i := 224) rfl) rfl
theorem z_w9_6 : u_lay zR9 zT9 6 ∈ lw_gd := z_m5 (List.mem_of_getElem? (i := 226) rfl) rfl
theorem z_w9_7 : u_lay zR9 zT9 7 ∈ lw_gd := z_m5 (List.mem_of_getElem? (i := 228) rfl) rfl
theorem z_w9_8 : u_lay zR9 zT9 8 ∈ lw_gd := z_m5 (List.mem_of_getElem? (i := 230) rfl) rfl
theorem z_w9_9 : u_lay zR9 zT9 9 ∈ lw_gd := z_m5 (List.mem_of_getElem? (i := 232) rfl) rfl
theorem z_w9_10 : u_lay zR9 zT9 10 ∈ lw_gd := z_m5 (List.mem_of_getElem? (i := 234) rfl) rfl
theorem z_w9_11 : u_lay zR9 zT9 11 ∈ lw_gd := z_m5 (List.mem_of_getElem? (i := 236) rfl) rfl
theorem z_w9_12 : u_lay zR9 zT9 12 ∈ lw_gd := z_m5 (List.mem_of_getElem? (i := 238) rfl) rfl
theorem z_w9_13 : u_lay zR9 zT9 13 ∈ lw_gd := z_m6 (List.mem_of_getElem? (i := 0) rfl) rfl
theorem z_w9_14 : u_lay zR9 zT9 14 ∈ lw_gd := z_m6 (List.mem_of_getElem? (i := 2) rfl) rfl
theorem z_w9_15 : u_lay zR9 zT9 15 ∈ lw_gd := z_m6 (List.mem_of_getElem? (i := 4) rfl) rfl
theorem z_w9_16 : u_lay zR9 zT9 16 ∈ lw_gd := z_m6 (List.mem_of_getElem? (i := 6) rfl) rfl
theorem z_w9_17 : u_lay zR9 zT9 17 ∈ lw_gd := z_m6 (List.mem_of_getElem? (i := 8) rfl) rfl
theorem z_w9_18 : u_lay zR9 zT9 18 ∈ lw_gd := z_m6 (List.mem_of_getElem? (i := 10) rfl) rfl
theorem z_w9_19 : u_lay zR9 zT9 19 ∈ lw_gd := z_m6 (List.mem_of_getElem? (i := 12) rfl) rfl
theorem z_w9_20 : u_lay zR9 zT9 20 ∈ lw_gd := z_m6 (List.mem_of_getElem? (i := 14) rfl) rfl
theorem z_w9_21 : u_lay zR9 zT9 21 ∈ lw_gd := z_m6 (List.mem_of_getElem? (i := 16) rfl) rfl
theorem z_w9_22 : u_lay zR9 zT9 22 ∈ lw_gd := z_m6 (List.mem_of_getElem? (i := 18) rfl) rfl
theorem z_w9_23 : u_lay zR9 zT9 23 ∈ lw_gd := z_m6 (List.mem_of_getElem? (i := 20) rfl) rfl
theorem z_w9_24 : u_lay zR9 zT9 24 ∈ lw_gd := z_m6 (List.mem_of_getElem? (i := 22) rfl) rfl
theorem z_w9_25 : u_lay zR9 zT9 25 ∈ lw_gd := z_m6 (List.mem_of_getElem? (i := 24) rfl) rfl
theorem z_w9_26 : u_lay zR9 zT9 26 ∈ lw_gd := z_m6 (List.mem_of_getElem? (i := 26) rfl) rfl
theorem z_w9_27 : u_lay zR9 zT9 27 ∈ lw_gd := z_m6 (List.mem_of_getElem? (i := 28) rfl) rfl
theorem z_w9_28 : u_lay zR9 zT9 28 ∈ lw_gd := z_m6 (List.mem_of_getElem? (i := 30) rfl) rfl
theorem z_w9_29 : u_lay zR9 zT9 29 ∈ lw_gd := z_m6 (List.mem_of_getElem? (i := 32) rfl) rfl
theorem z_w9_30 : u_lay zR9 zT9 30 ∈ lw_gd := z_m6 (List.mem_of_getElem? (i := 34) rfl) rfl
theorem z_w9_31 : u_lay zR9 zT9 31 ∈ lw_gd := z_m6 (List.mem_of_getElem? (i := 36) rfl) rfl
theorem z_w9_32 : u_lay zR9 zT9 32 ∈ lw_gd := z_m6 (List.mem_of_getElem? (i := 38) rfl) rfl
theorem z_w9_33 : u_lay zR9 zT9 33 ∈ lw_gd := z_m6 (List.mem_of_getElem? (i := 40) rfl) rfl
theorem z_w9_34 : u_lay zR9 zT9 34 ∈ lw_gd := z_m6 (List.mem_of_getElem? (i := 42) rfl) rfl
theorem z_w9_35 : u_lay zR9 zT9 35 ∈ lw_gd := z_m6 (List.mem_of_getElem? (i := 44) rfl) rfl
theorem z_w9_36 : u_lay zR9 zT9 36 ∈ lw_gd := z_m6 (List.mem_of_getElem? (i := 46) rfl) rfl
theorem z_w9_37 : u_lay zR9 zT9 37 ∈ lw_gd := z_m6 (List.mem_of_getElem? (i := 48) rfl) rfl
theorem z_w9_38 : u_lay zR9 zT9 38 ∈ lw_gd := z_m6 (List.mem_of_getElem? (i := 50) rfl) rfl
theorem z_w9_39 : u_lay zR9 zT9 39 ∈ lw_gd := z_m6 (List.mem_of_getElem? (i := 52) rfl) rfl
theorem z_w9_40 : u_lay zR9 zT9 40 ∈ lw_gd := z_m6 (List.mem_of_getElem? (i := 54) rfl) rfl
theorem z_w9_41 : u_lay zR9 zT9 41 ∈ lw_gd := z_m6 (List.mem_of_getElem? (i := 56) rfl) rfl
theorem z_w9_42 : u_lay zR9 zT9 42 ∈ lw_gd := z_m6 (List.mem_of_getElem? (i := 58) rfl) rfl
theorem z_w9_43 : u_lay zR9 zT9 43 ∈ lw_gd := z_m6 (List.mem_of_getElem? (i := 60) rfl) rfl
theorem z_w9_44 : u_lay zR9 zT9 44 ∈ lw_gd := z_m6 (List.mem_of_getElem? (i := 62) rfl) rfl
theorem z_w9_45 : u_lay zR9 zT9 45 ∈ lw_gd := z_m6 (List.mem_of_getElem? (i := 64) rfl) rfl
theorem z_w9_46 : u_lay zR9 zT9 46 ∈ lw_gd := z_m6 (List.mem_of_getElem? (i := 66) rfl) rfl
theorem z_w9_47 : u_lay zR9 zT9 47 ∈ lw_gd := z_m6 (List.mem_of_getElem? (i := 68) rfl) rfl
theorem z_w9_48 : u_lay zR9 zT9 48 ∈ lw_gd := z_m6 (List.mem_of_getElem? (i := 70) rfl) rfl
theorem z_w9_49 : u_lay zR9 zT9 49 ∈ lw_gd := z_m6 (List.mem_of_getElem? (i := 72) rfl) rfl
theorem z_w9_50 : u_lay zR9 zT9 50 ∈ lw_gd := z_m6 (List.mem_of_getElem? (i := 74) rfl) rfl
theorem z_w9_51 : u_lay zR9 zT9 51 ∈ lw_gd := z_m6 (List.mem_of_getElem? (i := 76) rfl) rfl
theorem z_w9_52 : u_lay zR9 zT9 52 ∈ lw_gd := z_m6 (List.mem_of_getElem? (i := 78) rfl) rfl
theorem z_w9_53 : u_lay zR9 zT9 53 ∈ lw_gd := z_m6 (List.mem_of_getElem? (i := 80) rfl) rfl
theorem z_w9_54 : u_lay zR9 zT9 54 ∈ lw_gd := z_m6 (List.mem_of_getElem? (i := 82) rfl) rfl
theorem z_w9_55 : u_lay zR9 zT9 55 ∈ lw_gd := z_m6 (List.mem_of_getElem? (i := 84) rfl) rfl
theorem z_w9_56 : u_lay zR9 zT9 56 ∈ lw_gd := z_m6 (List.mem_of_getElem? (i := 86) rfl) rfl
theorem z_w9_57 : u_lay zR9 zT9 57 ∈ lw_gd := z_m6 (List.mem_of_getElem? (i := 88) rfl) rfl
theorem z_w9_58 : u_lay zR9 zT9 58 ∈ lw_gd := z_m6 (List.mem_of_getElem? (i := 90) rfl) rfl
theorem z_w9_59 : u_lay zR9 zT9 59 ∈ lw_gd := z_m6 (List.mem_of_getElem? (i := 92) rfl) rfl
theorem z_w9_60 : u_lay zR9 zT9 60 ∈ lw_gd := z_m6 (List.mem_of_getElem? (i := 94) rfl) rfl
theorem z_w9_61 : u_lay zR9 zT9 61 ∈ lw_gd := z_m6 (List.mem_of_getElem? (i := 96) rfl) rfl
theorem z_w9_62 : u_lay zR9 zT9 62 ∈ lw_gd := z_m6 (List.mem_of_getElem? (i := 98) rfl) rfl
theorem z_w9_63 : u_lay zR9 zT9 63 ∈ lw_gd := z_m6 (List.mem_of_getElem? (i := 100) rfl) rfl
theorem z_w9_64 : u_lay zR9 zT9 64 ∈ lw_gd := z_m6 (List.mem_of_getElem? (i := 102) rfl) rfl
theorem z_w9_65 : u_lay zR9 zT9 65 ∈ lw_gd := z_m6 (List.mem_of_getElem? (i := 104) rfl) rfl
theorem z_in9 : ∀ w ∈ u_ws zR9 zT9 66, w ∈ lw_gd := by
  intro w hw
  obtain ⟨k, hk, rfl⟩ := List.mem_map.mp hw
  have hk := List.mem_range.mp hk
  match k, hk with
  | 0, _ => exact z_w9_0
  | 1, _ => exact z_w9_1
  | 2, _ => exact z_w9_2
  | 3, _ => exact z_w9_3
  | 4, _ => exact z_w9_4
  | 5, _ => exact z_w9_5
  | 6, _ => exact z_w9_6
  | 7, _ => exact z_w9_7
  | 8, _ => exact z_w9_8
  | 9, _ => exact z_w9_9
  | 10, _ => exact z_w9_10
  | 11, _ => exact z_w9_11
  | 12, _ => exact z_w9_12
  | 13, _ => exact z_w9_13
  | 14, _ => exact z_w9_14
  | 15, _ => exact z_w9_15
  | 16, _ => exact z_w9_16
  | 17, _ => exact z_w9_17
  | 18, _ => exact z_w9_18
  | 19, _ => exact z_w9_19
  | 20, _ => exact z_w9_20
  | 21, _ => exact z_w9_21
  | 22, _ => exact z_w9_22
  | 23, _ => exact z_w9_23
  | 24, _ => exact z_w9_24
  | 25, _ => exact z_w9_25
  | 26, _ => exact z_w9_26
  | 27, _ => exact z_w9_27
  | 28, _ => exact z_w9_28
  | 29, _ => exact z_w9_29
  | 30, _ => exact z_w9_30
  | 31, _ => exact z_w9_31
  | 32, _ => exact z_w9_32
  | 33, _ => exact z_w9_33
  | 34, _ => exact z_w9_34
  | 35, _ => exact z_w9_35
  | 36, _ => exact z_w9_36
  | 37, _ => exact z_w9_37
  | 38, _ => exact z_w9_38
  | 39, _ => exact z_w9_39
  | 40, _ => exact z_w9_40
  | 41, _ => exact z_w9_41
  | 42, _ => exact z_w9_42
  | 43, _ => exact z_w9_43
  | 44, _ => exact z_w9_44
  | 45, _ => exact z_w9_45
  | 46, _ => exact z_w9_46
  | 47, _ => exact z_w9_47
  | 48, _ => exact z_w9_48
  | 49, _ => exact z_w9_49
  | 50, _ => exact z_w9_50
  | 51, _ => exact z_w9_51
  | 52, _ => exact z_w9_52
  | 53, _ => exact z_w9_53
  | 54, _ => exact z_w9_54
  | 55, _ => exact z_w9_55
  | 56, _ => exact z_w9_56
  | 57, _ => exact z_w9_57
  | 58, _ => exact z_w9_58
  | 59, _ => exact z_w9_59
  | 60, _ => exact z_w9_60
  | 61, _ => exact z_w9_61
  | 62, _ => exact z_w9_62
  | 63, _ => exact z_w9_63
  | 64, _ => exact z_w9_64
  | 65, _ => exact z_w9_65
  | k + 66, h => exact absurd h (by omega)
abbrev classes : List vw_C := [(zR0, zT0, 2), (zR1, zT1, 4), (zR2, zT2, 7), (zR3, zT3, 3), (zR4, zT4, 11), (zR5, zT5, 7), (zR6, zT6, 10), (zR7, zT7, 6), (zR8, zT8, 15), (zR9, zT9, 66)]
/-- what every class of the list gives -/
theorem z_cls {ci : Nat} {q : vw_C} (h : classes[ci]? = some q) : (∀ w ∈ u_ws q.1 q.2.1 q.2.2, w ∈ lw_gd) ∧ ∃ ty : Nat → FieldType, (∀ k, k < q.2.2 → parseFieldDescriptor (q.2.1 k).2.2.1 = some (ty k)) ∧ ∀ a, a < q.2.2 → ∀ b, b < q.2.2 → a ≠ b → (q.2.1 a).2.1 ≠ (q.2.1 b).2.1 := by
  match ci, h with
  | 0, h => cases h; exact ⟨z_in0, zt0, z_ty0, z_nm0⟩
  | 1, h => cases h; exact ⟨z_in1, zt1, z_ty1, z_nm1⟩
  | 2, h => cases h; exact ⟨z_in2, zt2, z_ty2, z_nm2⟩
  | 3, h => cases h; exact ⟨z_in3, zt3, z_ty3, z_nm3⟩
  | 4, h => cases h; exact ⟨z_in4, zt4, z_ty4, z_nm4⟩
  | 5, h => cases h; exact ⟨z_in5, zt5, z_ty5, z_nm5⟩
  | 6, h => cases h; exact ⟨z_in6, zt6, z_ty6, z_nm6⟩
  | 7, h => cases h; exact ⟨z_in7, zt7, z_ty7, z_nm7⟩
  | 8, h => cases h; exact ⟨z_in8, zt8, z_ty8, z_nm8⟩
  | 9, h => cases h; exact ⟨z_in9, zt9, z_ty9, z_nm9⟩
  | ci + 10, h => cases h
