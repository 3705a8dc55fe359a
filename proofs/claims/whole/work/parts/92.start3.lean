/-! at the start the two agree -/
theorem rl_start : RLt 0 0 0 (fun _ => 0) V0 c0h m0h := by
  refine ⟨⟨⟨0, by omega, rfl, rfl, fun i hi => by omega⟩, ⟨by omega, rfl, rfl, rfl, rfl, by decide, fun i hi => by omega⟩, fun i hi => ?_, ⟨0, by omega, rfl, rfl, fun i hi => by omega⟩, ⟨0, by omega, rfl, rfl, fun i hi => by omega⟩, ⟨⟨0, by omega, rfl, rfl⟩, ⟨0, by decide, rfl, rfl⟩, fun i hi => ⟨rfl, ?_, ?_, fun _ => rfl⟩⟩, ⟨0, by omega, rfl, rfl, fun j hj => by omega⟩, ⟨0, by omega, rfl, fun j hj => ⟨0, by omega, rfl, Or.inl rfl, Or.inr ⟨rfl, Or.inl rfl⟩⟩⟩, rule0_c rfl, rule0_m rfl, rule0_le⟩, 0, by omega, rfl, rfl, fun i hi => by omega⟩
  · rcases (show i = 0 ∨ i = 1 ∨ i = 2 by omega) with rfl | rfl | rfl <;> exact ⟨rfl, 300, by omega, rfl⟩
  · show -4 ≤ (0 : Int32).toInt
    decide
  · show (0 : Int32).toInt ≤ 4
    decide
