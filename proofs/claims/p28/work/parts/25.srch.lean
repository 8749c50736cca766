section SRC
/-! ways by turns: K who is linked, B who is barred behind how many turns; both sides search the same -/
/-- the least k below 800 with P, or -1 -/
def IsMin (P : Nat → Prop) (r : Int32) : Prop := (∃ k, k < 800 ∧ P k ∧ (∀ j, j < k → ¬ P j) ∧ r = nI k) ∨ ((∀ k, k < 800 → ¬ P k) ∧ r = -1)
theorem IsMin.uniq {P : Nat → Prop} {r q : Int32} (h1 : IsMin P r) (h2 : IsMin P q) : r = q := by
  rcases h1 with ⟨k, a1, a2, a3, rfl⟩ | ⟨a1, rfl⟩ <;> rcases h2 with ⟨j, b1, b2, b3, rfl⟩ | ⟨b1, rfl⟩
  · have : k = j := by
      rcases Nat.lt_trichotomy k j with h | h | h
      · exact absurd a2 (b3 k h)
      · exact h
      · exact absurd b2 (a3 j h)
    rw [this]
  · exact absurd a2 (b1 k a1)
  · exact absurd b2 (a1 j b1)
  · rfl
/-- who can be reached behind t turns from a -/
def Sr (K B : Nat → Nat → Prop) (a : Nat) (go : Prop) : Nat → Nat → Prop
  | 0 => fun w => w = a
  | t + 1 => fun w => (Sr K B a go t w ∨ ((0 < t ∨ go) ∧ ¬ B t w ∧ ∃ v, Sr K B a go t v ∧ K v w)) ∧ ¬ B (t + 1) w
def Hit (K B : Nat → Nat → Prop) (a : Nat) (go : Prop) (z t : Nat) : Prop := (0 < t ∨ go) ∧ ¬ B t z ∧ ∃ v, Sr K B a go t v ∧ K v z
/-- the same, but each word once a phase: who is new, and who is known at a phase -/
def Hk (K B : Nat → Nat → Prop) (a : Nat) (go : Prop) : Nat → (Nat → Prop) × (Nat → Nat → Prop)
  | 0 => (fun w => w = a, fun ph w => ph = 0 ∧ go ∧ w = a)
  | t + 1 => (fun w => ((Hk K B a go t).1 w ∨ ((0 < t ∨ go) ∧ ¬ B t w ∧ ∃ v, (Hk K B a go t).1 v ∧ K v w)) ∧ ¬ B (t + 1) w ∧ ¬ (Hk K B a go t).2 ((t + 1) % 32) w,
      fun ph w => (Hk K B a go t).2 ph w ∨ (ph = (t + 1) % 32 ∧ ((Hk K B a go t).1 w ∨ ((0 < t ∨ go) ∧ ¬ B t w ∧ ∃ v, (Hk K B a go t).1 v ∧ K v w)) ∧ ¬ B (t + 1) w ∧ ¬ (Hk K B a go t).2 ((t + 1) % 32) w))
section
variable {K B : Nat → Nat → Prop} {a z : Nat} {go : Prop}
theorem Hk_1 (t w : Nat) : (Hk K B a go (t + 1)).1 w ↔ ((Hk K B a go t).1 w ∨ ((0 < t ∨ go) ∧ ¬ B t w ∧ ∃ v, (Hk K B a go t).1 v ∧ K v w)) ∧ ¬ B (t + 1) w ∧ ¬ (Hk K B a go t).2 ((t + 1) % 32) w := Iff.rfl
theorem Hk_2 (t ph w : Nat) : (Hk K B a go (t + 1)).2 ph w ↔ (Hk K B a go t).2 ph w ∨ (ph = (t + 1) % 32 ∧ (Hk K B a go (t + 1)).1 w) := Iff.rfl
theorem Sr_1 (t w : Nat) : Sr K B a go (t + 1) w ↔ (Sr K B a go t w ∨ ((0 < t ∨ go) ∧ ¬ B t w ∧ ∃ v, Sr K B a go t v ∧ K v w)) ∧ ¬ B (t + 1) w := Iff.rfl
def Cit (K B : Nat → Nat → Prop) (a : Nat) (go : Prop) (z t : Nat) : Prop := (0 < t ∨ go) ∧ ¬ B t z ∧ ∃ v, (Hk K B a go t).1 v ∧ K v z
theorem Hk_Sr : ∀ (t w : Nat), (Hk K B a go t).1 w → Sr K B a go t w
  | 0, _, h => h
  | t + 1, w, h => by
    rw [Hk_1] at h
    rw [Sr_1]
    refine ⟨?_, h.2.1⟩
    rcases h.1 with h1 | ⟨h1, h2, v, h3, h4⟩
    · exact Or.inl (Hk_Sr t w h1)
    · exact Or.inr ⟨h1, h2, v, Hk_Sr t v h3, h4⟩
theorem Cit.hit {t : Nat} (h : Cit K B a go z t) : Hit K B a go z t := by
  obtain ⟨h1, h2, v, h3, h4⟩ := h
  exact ⟨h1, h2, v, Hk_Sr t v h3, h4⟩
theorem Hk_known : ∀ (t ph w : Nat), (Hk K B a go t).2 ph w ↔ ∃ j, j ≤ t ∧ j % 32 = ph ∧ (0 < j ∨ go) ∧ (Hk K B a go j).1 w := by
  intro t
  induction t with
  | zero =>
    intro ph w
    constructor
    · rintro ⟨rfl, h1, h2⟩
      exact ⟨0, Nat.le_refl 0, rfl, Or.inr h1, h2⟩
    · rintro ⟨j, h1, h2, h3, h4⟩
      have : j = 0 := by omega
      subst this
      exact ⟨h2.symm, h3.resolve_left (by omega), h4⟩
  | succ t ih =>
    intro ph w
    rw [Hk_2, ih]
    constructor
    · rintro (⟨j, h1, h2⟩ | ⟨h1, h2⟩)
      · exact ⟨j, by omega, h2⟩
      · exact ⟨t + 1, Nat.le_refl _, h1.symm, Or.inl (by omega), h2⟩
    · rintro ⟨j, h1, h2, h3, h4⟩
      by_cases e : j = t + 1
      · subst e
        exact Or.inr ⟨h2.symm, h4⟩
      · exact Or.inl ⟨j, by omega, h2, h3, h4⟩
theorem B_congr (hB : ∀ t w, B (t % 32) w ↔ B t w) {i j : Nat} (e : i % 32 = j % 32) (w : Nat) : B i w ↔ B j w := by rw [← hB i, ← hB j, e]
theorem Sr_known (hB : ∀ t w, B (t % 32) w ↔ B t w) : ∀ (t w : Nat), (0 < t ∨ go) → Sr K B a go t w → (Hk K B a go t).2 (t % 32) w := by
  intro t
  induction t with
  | zero => intro w h1 h2; exact ⟨rfl, h1.resolve_left (by omega), h2⟩
  | succ t ih =>
    intro w _ h2
    rw [Sr_1] at h2
    rw [Hk_2]
    by_cases hk : (Hk K B a go t).2 ((t + 1) % 32) w
    · exact Or.inl hk
    · by_cases h0 : 0 < t ∨ go
      · -- from a word that is known at this phase
        have main : ∀ v, Sr K B a go t v → (w = v ∨ (¬ B t w ∧ K v w)) → (Hk K B a go (t + 1)).2 ((t + 1) % 32) w := by
          intro v hv hvw
          obtain ⟨j, j1, j2, j3, j4⟩ := (Hk_known t _ v).mp (ih v h0 hv)
          by_cases e : (Hk K B a go j).2 ((j + 1) % 32) w
          · obtain ⟨i, i1, i2, i3, i4⟩ := (Hk_known j _ w).mp e
            exact (Hk_known (t + 1) _ w).mpr ⟨i, by omega, by omega, i3, i4⟩
          · refine (Hk_known (t + 1) _ w).mpr ⟨j + 1, by omega, by omega, Or.inl (by omega), ?_⟩
            rw [Hk_1]
            refine ⟨?_, fun q => h2.2 ((B_congr hB (by omega) w).mp q), e⟩
            rcases hvw with rfl | ⟨q1, q2⟩
            · exact Or.inl j4
            · exact Or.inr ⟨j3, fun q => q1 ((B_congr hB (by omega) w).mp q), v, j4, q2⟩
        rcases h2.1 with h1 | ⟨-, h1, v, h3, h4⟩
        · exact main w h1 (Or.inl rfl)
        · exact main v h3 (Or.inr ⟨h1, h4⟩)
      · have ht : t = 0 := by omega
        subst ht
        refine Or.inr ⟨rfl, ?_⟩
        rw [Hk_1]
        refine ⟨?_, h2.2, hk⟩
        rcases h2.1 with h1 | ⟨h1, -⟩
        · exact Or.inl h1
        · exact absurd h1 h0
theorem Hit_cit (hB : ∀ t w, B (t % 32) w ↔ B t w) {t : Nat} (h : Hit K B a go z t) : ∃ j, j ≤ t ∧ Cit K B a go z j := by
  obtain ⟨h1, h2, v, h3, h4⟩ := h
  obtain ⟨j, j1, j2, j3, j4⟩ := (Hk_known t _ v).mp (Sr_known hB t v h1 h3)
  exact ⟨j, j1, j3, fun q => h2 ((B_congr hB (by omega) z).mp q), v, j4, h4⟩
theorem Hk_ne {t : Nat} (h : ∃ w, (Hk K B a go (t + 1)).1 w) : ∃ w, (Hk K B a go t).1 w := by
  obtain ⟨w, h⟩ := h
  rw [Hk_1] at h
  rcases h.1 with h1 | ⟨-, -, v, h3, -⟩
  · exact ⟨w, h1⟩
  · exact ⟨v, h3⟩
theorem Hk_nes {t : Nat} : ∀ d, (∃ w, (Hk K B a go (t + d)).1 w) → ∃ w, (Hk K B a go t).1 w
  | 0, h => h
  | d + 1, h => Hk_nes d (Hk_ne h)
theorem Hk_lt (ha : a < 24) (hK : ∀ v w, K v w → w < 24) : ∀ (t w : Nat), (Hk K B a go t).1 w → w < 24
  | 0, w, h => by rw [show w = a from h]; exact ha
  | t + 1, w, h => by
    rw [Hk_1] at h
    rcases h.1 with h1 | ⟨-, -, v, -, h4⟩
    · exact Hk_lt ha hK t w h1
    · exact hK v w h4
theorem Hk_many (ha : a < 24) (hK : ∀ v w, K v w → w < 24) {k : Nat} (h : ∃ w, (Hk K B a go k).1 w) : k ≤ 768 := by
  have hne : ∀ i, ∃ w, i < k → (Hk K B a go (i + 1)).1 w := by
    intro i
    by_cases hi : i < k
    · obtain ⟨w, hw⟩ := Hk_nes (t := i + 1) (k - (i + 1)) (by rw [show i + 1 + (k - (i + 1)) = k by omega]; exact h)
      exact ⟨w, fun _ => hw⟩
    · exact ⟨0, fun q => absurd q hi⟩
  obtain ⟨W, hW⟩ := Classical.axiomOfChoice hne
  refine fb_holes 768 k (fun i => ((i + 1) % 32) * 24 + W i) (fun i hi => ?_) (fun i j hij hj e => ?_)
  · have := Hk_lt ha hK _ _ (hW i hi)
    show ((i + 1) % 32) * 24 + W i < 768
    omega
  · have e : ((i + 1) % 32) * 24 + W i = ((j + 1) % 32) * 24 + W j := e
    have h1 := Hk_lt ha hK _ _ (hW i (by omega))
    have h2 := Hk_lt ha hK _ _ (hW j hj)
    have h3 : W i = W j := by omega
    have h4 := hW j hj
    rw [Hk_1] at h4
    refine h4.2.2 ((Hk_known j _ _).mpr ⟨i + 1, by omega, by omega, Or.inl (by omega), ?_⟩)
    rw [← h3]
    exact hW i (by omega)
theorem Cit_le (ha : a < 24) (hK : ∀ v w, K v w → w < 24) {k : Nat} (h : Cit K B a go z k) : k ≤ 768 := by
  obtain ⟨-, -, v, h3, -⟩ := h
  exact Hk_many ha hK ⟨v, h3⟩
theorem IsMin_hit (hB : ∀ t w, B (t % 32) w ↔ B t w) (ha : a < 24) (hK : ∀ v w, K v w → w < 24) {r : Int32} (h : (∃ k, Cit K B a go z k ∧ (∀ j, j < k → ¬ Cit K B a go z j) ∧ r = nI k) ∨ ((∀ k, k ≤ 769 → ¬ Cit K B a go z k) ∧ r = -1)) : IsMin (Hit K B a go z) r := by
  rcases h with ⟨k, h1, h2, h3⟩ | ⟨h1, h2⟩
  · refine Or.inl ⟨k, ?_, h1.hit, fun j hj q => ?_, h3⟩
    · have := Cit_le ha hK h1; omega
    · obtain ⟨i, i1, i2⟩ := Hit_cit hB q
      exact h2 i (by omega) i2
  · refine Or.inr ⟨fun k _ q => ?_, h2⟩
    obtain ⟨i, i1, i2⟩ := Hit_cit hB q
    have := Cit_le ha hK i2
    exact h1 i (by omega) i2
end
end SRC
