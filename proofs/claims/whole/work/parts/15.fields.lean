/-! Field tables (by program). -/
def TU : u_T := fun k => match k with
  | 0 => ("FloatUnit", "registers", "[J", true)
  | 1 => ("FloatUnit", "currentMode", "I", false)
  | _ => ("FloatUnit", "raised", "I", false)
def tyU : Nat → FieldType := fun k => match k with
  | 0 => .array .long
  | 1 => .int
  | _ => .int
theorem nmU : ∀ a, a < 3 → ∀ b, b < 3 → a ≠ b → (TU a).2.1 ≠ (TU b).2.1 := by decide +kernel
theorem tyU_ok : ∀ k, k < 3 → parseFieldDescriptor (TU k).2.2.1 = some (tyU k) := by decide +kernel
theorem uwU {w0 : Cond} : ∀ w ∈ u_ws "FloatUnit" TU 3, w ∈ w0 :: bigW := by
  intro w hw
  obtain ⟨k, hk, rfl⟩ := List.mem_map.1 hw
  have hk := List.mem_range.1 hk
  refine List.mem_cons_of_mem _ ?_
  rcases (show k = 0 ∨ k = 1 ∨ k = 2 by omega) with rfl | rfl | rfl
  · exact w_21
  · exact w_23
  · exact w_25
def TM : u_T := fun k => match k with
  | 0 => ("FloatUnitModel", "row", "[I", true)
  | 1 => ("FloatUnitModel", "other", "[I", true)
  | 2 => ("FloatUnitModel", "registers", "[J", true)
  | 3 => ("FloatUnitModel", "mode", "I", false)
  | 4 => ("FloatUnitModel", "flags", "I", false)
  | 5 => ("FloatUnitModel", "err", "I", false)
  | 6 => ("FloatUnitModel", "kindX", "I", false)
  | 7 => ("FloatUnitModel", "kindY", "I", false)
  | 8 => ("FloatUnitModel", "signX", "I", false)
  | 9 => ("FloatUnitModel", "signY", "I", false)
  | 10 => ("FloatUnitModel", "powerX", "I", false)
  | 11 => ("FloatUnitModel", "powerY", "I", false)
  | 12 => ("FloatUnitModel", "partX", "J", false)
  | 13 => ("FloatUnitModel", "partY", "J", false)
  | 14 => ("FloatUnitModel", "precision", "I", false)
  | _ => ("FloatUnitModel", "bias", "I", false)
def tyM : Nat → FieldType := fun k => match k with
  | 0 => .array .int
  | 1 => .array .int
  | 2 => .array .long
  | 3 => .int
  | 4 => .int
  | 5 => .int
  | 6 => .int
  | 7 => .int
  | 8 => .int
  | 9 => .int
  | 10 => .int
  | 11 => .int
  | 12 => .long
  | 13 => .long
  | 14 => .int
  | _ => .int
theorem nmM : ∀ a, a < 16 → ∀ b, b < 16 → a ≠ b → (TM a).2.1 ≠ (TM b).2.1 := by decide +kernel
theorem tyM_ok : ∀ k, k < 16 → parseFieldDescriptor (TM k).2.2.1 = some (tyM k) := by decide +kernel
theorem uwM {w0 : Cond} : ∀ w ∈ u_ws "FloatUnitModel" TM 16, w ∈ w0 :: bigW := by
  intro w hw
  obtain ⟨k, hk, rfl⟩ := List.mem_map.1 hw
  have hk := List.mem_range.1 hk
  refine List.mem_cons_of_mem _ ?_
  rcases (show k = 0 ∨ k = 1 ∨ k = 2 ∨ k = 3 ∨ k = 4 ∨ k = 5 ∨ k = 6 ∨ k = 7 ∨ k = 8 ∨ k = 9 ∨ k = 10 ∨ k = 11 ∨ k = 12 ∨ k = 13 ∨ k = 14 ∨ k = 15 by omega) with rfl | rfl | rfl | rfl | rfl | rfl | rfl | rfl | rfl | rfl | rfl | rfl | rfl | rfl | rfl | rfl
  · exact w_372
  · exact w_374
  · exact w_376
  · exact w_378
  · exact w_380
  · exact w_382
  · exact w_384
  · exact w_386
  · exact w_388
  · exact w_390
  · exact w_392
  · exact w_394
  · exact w_396
  · exact w_398
  · exact w_400
  · exact w_402
abbrev clW : List vw_C := [("FloatUnit", TU, 3), ("FloatUnitModel", TM, 16)]
