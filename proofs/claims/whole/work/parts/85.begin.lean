section BEG
theorem ar9_v : ar9 0 = 0 ∧ ar9 1 = 0 ∧ ar9 2 = 0 ∧ ar9 3 = 3 ∧ ar9 4 = 7 ∧ ar9 5 = 0 ∧ ar9 6 = 0 ∧ ar9 7 = 0 ∧ ar9 8 = 0 ∧ ar9 9 = 0 := by decide +kernel
theorem ar9_c : ∀ c, c < 3 → ar9 (10 + 7 * c + 0) = -1 ∧ ar9 (10 + 7 * c + 1) = -1 ∧ ar9 (10 + 7 * c + 2) = -1 ∧ ar9 (10 + 7 * c + 3) = 0 ∧ ar9 (10 + 7 * c + 4) = 0 ∧ ar9 (10 + 7 * c + 5) = 0 ∧ ar9 (10 + 7 * c + 6) = 0 := by decide +kernel
theorem st0_c : ∀ c, c < 3 → St_under St0 c = -1 ∧ St_beginnings St0 c = -1 ∧ St_ends St0 c = -1 ∧ St_went St0 c = 0 ∧ St_steps St0 c = 0 ∧ St_ladders St0 c = 0 ∧ St_falls St0 c = 0 := by decide +kernel
theorem J_0 (as : Nat → Nat → Nat) : J 0 Tx0 Is0 Wa0 St0 (Hi0 as) Mo0 := by
  obtain ⟨v0, v1, v2, v3, v4, v5, v6, v7, v8, v9⟩ := ar9_v
  refine ⟨⟨0, 0, 0, 3, 7, fun _ => 0, ⟨rfl, rfl, rfl, rfl, rfl, by decide, by decide, by decide, by decide, by decide, fun w hw => by omega⟩, ?_, ⟨v0, v1, v2, v3, v4, by decide, by decide, by decide, by decide, by decide, fun w hw => by omega⟩, fun c hc => ?_, ?_⟩, ⟨0, fun _ => 0, by decide, rfl, rfl, fun i hi => by omega⟩, ⟨0, by decide, rfl, rfl, fun i hi => by omega⟩, rfl, Or.inl rfl⟩
  · intro u j hu hj
    show bt (0 : Int32) j = true ↔ _
    rw [b_0]
    exact ⟨(fun q => by cases q), fun q => by omega⟩
  · obtain ⟨a0, a1, a2, a3, a4, a5, a6⟩ := ar9_c c hc
    obtain ⟨s0, s1, s2, s3, s4, s5, s6⟩ := st0_c c hc
    refine ⟨a0.trans s0.symm, a1.trans s1.symm, a2.trans s2.symm, ?_, a4.trans s4.symm, a5.trans s5.symm, a6.trans s6.symm, Or.inl s3, Or.inl s0⟩
    rw [if_pos s0]
    exact a3
  · refine ⟨v5, v6, fun _ => 0, fun _ => 0, fun _ => 0, 0, fun c hc => ?_, v7, v8, rfl, v9, Nat.le_refl 0, ?_⟩
    · obtain ⟨s0, s1, s2, s3, s4, s5, s6⟩ := st0_c c hc
      exact ⟨s5, s4, s6⟩
    · have : ∀ c, onk St0 c 0 = 0 := fun c => by unfold onk; split <;> rfl
      rw [this, this, this]
      decide
end BEG
