section BAK
/-! the same numbers from behind: by the word and the phase at which one begins -/
def Bs (B : Nat → Nat → Prop) (t : Nat) : Nat → Nat → Prop := fun u w => B (t + u) w
section
variable {K B : Nat → Nat → Prop} {z : Nat}
/-- one turn further from w, at the phase t -/
def Nx (K B : Nat → Nat → Prop) (t w v : Nat) : Prop := (v = w ∨ (¬ B t v ∧ K w v)) ∧ ¬ B (t + 1) v
theorem Sr_first {t w : Nat} : ∀ (k u : Nat), Sr K (Bs B t) w True (k + 1) u ↔ ∃ v, Nx K B t w v ∧ Sr K (Bs B (t + 1)) v True k u := by
  intro k
  induction k with
  | zero =>
    intro u
    rw [Sr_1]
    show ((u = w ∨ ((0 < 0 ∨ True) ∧ ¬ B (t + 0) u ∧ ∃ v, v = w ∧ K v u)) ∧ ¬ B (t + (0 + 1)) u) ↔ ∃ v, Nx K B t w v ∧ u = v
    constructor
    · rintro ⟨h1 | ⟨-, h1, v, rfl, h2⟩, h3⟩
      · exact ⟨u, ⟨Or.inl h1, h3⟩, rfl⟩
      · exact ⟨u, ⟨Or.inr ⟨h1, h2⟩, h3⟩, rfl⟩
    · rintro ⟨v, ⟨h1, h2⟩, rfl⟩
      refine ⟨?_, h2⟩
      rcases h1 with h1 | ⟨h1, h3⟩
      · exact Or.inl h1
      · exact Or.inr ⟨Or.inr trivial, h1, w, rfl, h3⟩
  | succ k ih =>
    intro u
    rw [Sr_1]
    have e1 : Bs B t (k + 1) u = Bs B (t + 1) k u := by unfold Bs; rw [show t + (k + 1) = t + 1 + k by omega]
    have e2 : Bs B t (k + 1 + 1) u = Bs B (t + 1) (k + 1) u := by unfold Bs; rw [show t + (k + 1 + 1) = t + 1 + (k + 1) by omega]
    rw [e1, e2, ih]
    constructor
    · rintro ⟨⟨v, h1, h2⟩ | ⟨-, h1, v, h2, h3⟩, h4⟩
      · exact ⟨v, h1, (Sr_1 k u).mpr ⟨Or.inl h2, h4⟩⟩
      · obtain ⟨x, x1, x2⟩ := (ih v).mp h2
        exact ⟨x, x1, (Sr_1 k u).mpr ⟨Or.inr ⟨Or.inr trivial, h1, v, x2, h3⟩, h4⟩⟩
    · rintro ⟨x, x1, x2⟩
      obtain ⟨x3, x4⟩ := (Sr_1 k u).mp x2
      refine ⟨?_, x4⟩
      rcases x3 with x3 | ⟨-, x5, v, x6, x7⟩
      · exact Or.inl ⟨x, x1, x3⟩
      · exact Or.inr ⟨Or.inr trivial, x5, v, (ih v).mpr ⟨x, x1, x6⟩, x7⟩
theorem Hit_first {t w k : Nat} : Hit K (Bs B t) w True z (k + 1) ↔ ∃ v, Nx K B t w v ∧ Hit K (Bs B (t + 1)) v True z k := by
  have e1 : Bs B t (k + 1) z = Bs B (t + 1) k z := by unfold Bs; rw [show t + (k + 1) = t + 1 + k by omega]
  unfold Hit
  rw [e1]
  constructor
  · rintro ⟨-, h1, v, h2, h3⟩
    obtain ⟨x, x1, x2⟩ := (Sr_first k v).mp h2
    exact ⟨x, x1, Or.inr trivial, h1, v, x2, h3⟩
  · rintro ⟨x, x1, -, h1, v, h2, h3⟩
    exact ⟨Or.inr trivial, h1, v, (Sr_first k v).mpr ⟨x, x1, h2⟩, h3⟩
theorem Hit_0 {t w : Nat} : Hit K (Bs B t) w True z 0 ↔ ¬ B t z ∧ K w z := by
  unfold Hit
  constructor
  · rintro ⟨-, h1, v, rfl, h3⟩; exact ⟨h1, h3⟩
  · rintro ⟨h1, h2⟩; exact ⟨Or.inr trivial, h1, w, rfl, h2⟩
/-- who has gone in this turn -/
theorem Sr_went {w : Nat} : ∀ (k u : Nat), Sr K B w False (k + 1) u ↔ ¬ B 1 w ∧ Sr K (Bs B 1) w True k u := by
  intro k
  induction k with
  | zero =>
    intro u
    rw [Sr_1]
    show ((u = w ∨ ((0 < 0 ∨ False) ∧ ¬ B 0 u ∧ ∃ v, v = w ∧ K v u)) ∧ ¬ B (0 + 1) u) ↔ ¬ B 1 w ∧ u = w
    constructor
    · rintro ⟨rfl | ⟨h1, -⟩, h2⟩
      · exact ⟨h2, rfl⟩
      · simp at h1
    · rintro ⟨h1, rfl⟩
      exact ⟨Or.inl rfl, h1⟩
  | succ k ih =>
    intro u
    have e1 : B (k + 1) u = Bs B 1 k u := by unfold Bs; rw [show 1 + k = k + 1 by omega]
    have e2 : B (k + 1 + 1) u = Bs B 1 (k + 1) u := by unfold Bs; rw [show 1 + (k + 1) = k + 1 + 1 by omega]
    rw [Sr_1 (B := B) (k + 1) u, Sr_1 (B := Bs B 1) k u, e1, e2]
    simp only [ih]
    constructor
    · rintro ⟨⟨h1, h2⟩ | ⟨-, h1, v, ⟨h2, h3⟩, h4⟩, h5⟩
      · exact ⟨h1, Or.inl h2, h5⟩
      · exact ⟨h2, Or.inr ⟨Or.inr trivial, h1, v, h3, h4⟩, h5⟩
    · rintro ⟨h0, h1 | ⟨-, h1, v, h2, h3⟩, h5⟩
      · exact ⟨Or.inl ⟨h0, h1⟩, h5⟩
      · exact ⟨Or.inr ⟨Or.inl (by omega), h1, v, ⟨h0, h2⟩, h3⟩, h5⟩
theorem Hit_went {w k : Nat} : Hit K B w False z (k + 1) ↔ ¬ B 1 w ∧ Hit K (Bs B 1) w True z k := by
  have e1 : B (k + 1) z = Bs B 1 k z := by unfold Bs; rw [show 1 + k = k + 1 by omega]
  unfold Hit
  rw [e1]
  constructor
  · rintro ⟨-, h1, v, h2, h3⟩
    obtain ⟨x1, x2⟩ := (Sr_went k v).mp h2
    exact ⟨x1, Or.inr trivial, h1, v, x2, h3⟩
  · rintro ⟨x1, -, h1, v, h2, h3⟩
    exact ⟨Or.inl (by omega), h1, v, (Sr_went k v).mpr ⟨x1, h2⟩, h3⟩
theorem Hit_went0 {w : Nat} : ¬ Hit K B w False z 0 := fun h => by rcases h.1 with q | q; omega; exact q
/-- the words with just k turns to go, at the phase t -/
def Ly (K B : Nat → Nat → Prop) (z t k w : Nat) : Prop := w ≠ z ∧ Hit K (Bs B t) w True z k ∧ ∀ j, j < k → ¬ Hit K (Bs B t) w True z j
theorem Ly_0 {t w : Nat} (hself : ¬ K z z) : Ly K B z t 0 w ↔ ¬ B t z ∧ K w z := by
  unfold Ly
  rw [Hit_0]
  constructor
  · exact fun h => h.2.1
  · intro h
    refine ⟨fun e => ?_, h, fun j hj => by omega⟩
    rw [e] at h
    exact hself h.2
theorem Ly_step {t k w : Nat} : Ly K B z t (k + 1) w ↔ (∃ v, Nx K B t w v ∧ Ly K B z (t + 1) k v) ∧ (∀ j, j ≤ k → ¬ Ly K B z t j w) ∧ w ≠ z := by
  constructor
  · rintro ⟨h1, h2, h3⟩
    refine ⟨?_, fun j hj q => h3 j (by omega) q.2.1, h1⟩
    obtain ⟨v, v1, v2⟩ := Hit_first.mp h2
    refine ⟨v, v1, fun e => ?_, v2, fun j hj q => h3 (j + 1) (by omega) (Hit_first.mpr ⟨v, v1, q⟩)⟩
    rw [e] at v1
    rcases v1.1 with q | q
    · exact h1 q.symm
    · exact h3 0 (by omega) (Hit_0.mpr q)
  · rintro ⟨⟨v, v1, v2⟩, h2, h3⟩
    refine ⟨h3, Hit_first.mpr ⟨v, v1, v2.2.1⟩, ?_⟩
    intro j
    induction j using Nat.strongRecOn with
    | _ j ih =>
      intro hj q
      exact h2 j (by omega) ⟨h3, q, fun i hi => ih i hi (by omega)⟩
/-- no word has k turns to go at any phase: none has more -/
theorem Ly_none {k : Nat} (h : ∀ t w, ¬ Ly K B z t k w) : ∀ d t w, ¬ Ly K B z t (k + d) w
  | 0, t, w => h t w
  | d + 1, t, w => fun q => by
    rw [show k + (d + 1) = (k + d) + 1 by omega, Ly_step] at q
    obtain ⟨v, -, v2⟩ := q.1
    exact Ly_none h d (t + 1) v v2
theorem Hit_Ly {t w : Nat} (hw : w ≠ z) : ∀ k, Hit K (Bs B t) w True z k → ∃ j, j ≤ k ∧ Ly K B z t j w := by
  intro k
  induction k using Nat.strongRecOn with
  | _ k ih =>
    intro h
    by_cases e : ∃ j, j < k ∧ Hit K (Bs B t) w True z j
    · obtain ⟨j, j1, j2⟩ := e
      obtain ⟨i, i1, i2⟩ := ih j j1 j2
      exact ⟨i, by omega, i2⟩
    · exact ⟨k, Nat.le_refl k, hw, h, fun j hj q => e ⟨j, hj, q⟩⟩
end
end BAK
