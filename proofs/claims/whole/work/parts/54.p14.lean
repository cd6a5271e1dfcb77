/-! the start -/
theorem q_start : Rel σC0 σM0 := by
  refine ⟨1, 0, fun _ => 0, fun _ => 0, fun _ => -1, fun _ => -1, fun _ => 0, false, false, ⟨by omega, by omega, by omega, fun k hk => absurd hk (Nat.not_lt_zero _), fun i j hi => absurd hi (Nat.not_lt_zero _)⟩, ⟨fun k hk => absurd hk (Nat.not_lt_zero _), fun i j hi => absurd hi (Nat.not_lt_zero _)⟩, ⟨rfl, rfl, fun k hk => absurd hk (Nat.not_lt_zero _), fun k hk => absurd hk (Nat.not_lt_zero _), fun k hk => absurd hk (Nat.not_lt_zero _)⟩, ⟨rfl, rfl, rfl, fun k hk => absurd hk (Nat.not_lt_zero _), fun k hk => absurd hk (Nat.not_lt_zero _), fun k hk => absurd hk (Nat.not_lt_zero _), ?_, ?_⟩, ⟨?_, ?_⟩, ⟨rfl, rfl, fun z => by cases z⟩, ⟨rfl, rfl, fun z => by cases z⟩, fun k hk => absurd hk (Nat.not_lt_zero _), Or.inl rfl, Or.inl rfl, Or.inl rfl⟩
  · intro p _; rfl
  · intro p hp
    have e : mk (adj 0 (fun _ => 0) (fun _ => 0) p) 9 = 0 := (mk_eq0 (by omega)).mpr (fun q _ => by unfold adj anyb; simp)
    rw [e]; rfl
  · intro k _; rfl
  · intro q _; rfl
