/-! READ VII: the signs -/
def q_sg (x : Int32) : Bool := decide (x = 59) || decide (x = 61) || decide (x = 40) || decide (x = 41) || decide (x = 43) || decide (x = 45) || decide (x = 42) || decide (x = 47) || decide (x = 60)
theorem w_sg : ∀ k, k < 256 → (fj0_indexOf_0f7a4 1 (((((nI k - 128) &&& (255 : Int32)).toUInt32 % 65536).toInt32)) z_M0).map (fun y => decide (y < 0)) = some (!q_sg (nI k - 128)) := by decide +kernel
theorem p7_signs {x : Int32} (h : q_by x) (m : zMem) : zw (fj0_indexOf_0f7a4 1 (((x &&& (255 : Int32)).toUInt32 % 65536).toInt32) m) fun y => decide (y < 0) = !q_sg x := by
  obtain ⟨k, hk, rfl⟩ := q_by_k h
  have e := w_sg k hk
  have e' : fj0_indexOf_0f7a4 1 (((((nI k - 128) &&& (255 : Int32)).toUInt32 % 65536).toInt32)) m = fj0_indexOf_0f7a4 1 (((((nI k - 128) &&& (255 : Int32)).toUInt32 % 65536).toInt32)) z_M0 := rfl
  rw [e']
  generalize fj0_indexOf_0f7a4 1 (((((nI k - 128) &&& (255 : Int32)).toUInt32 % 65536).toInt32)) z_M0 = q at *
  cases q with
  | none => exact absurd e (by simp)
  | some y => exact zw_some.mpr (Option.some.inj e)
