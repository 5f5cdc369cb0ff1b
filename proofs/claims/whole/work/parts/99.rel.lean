/-! class and reference at the start -/
theorem REL_0 {cg : sg_T} (h : clR cg (fun _ => 0)) : REL cg (3, 92, .null, []) (fun _ _ => 0) := ⟨h, ok_0, by show 3 < 101; decide, by show 92 < 101; decide, fun _ _ => rfl, Or.inl ⟨rfl, rfl⟩⟩
