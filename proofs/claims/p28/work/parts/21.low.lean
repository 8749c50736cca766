section LOW
theorem pu_ck {β : Type} (x : Option β) : ck true x = x := rfl
theorem pu_bd {α β : Type} (a : α) (f : α → Option β) : bd (some a) f = f a := rfl
theorem pu_pl {α β : Type} (a : α) (f : α → Option β) : pl a f = f a := rfl
theorem pu_bd2 {α1 α2 β : Type} (a : α1) (b : α2) (f : α1 → α2 → Option β) : bd2 (some (a, b)) f = f a b := rfl
theorem pu_bd3 {α1 α2 α3 β : Type} (a : α1) (b : α2) (c : α3) (f : α1 → α2 → α3 → Option β) : bd3 (some (a, b, c)) f = f a b c := rfl
theorem pu_bd4 {α1 α2 α3 α4 β : Type} (a : α1) (b : α2) (c : α3) (d : α4) (f : α1 → α2 → α3 → α4 → Option β) : bd4 (some (a, b, c, d)) f = f a b c d := rfl
theorem pu_bd5 {α1 α2 α3 α4 α5 β : Type} (a : α1) (b : α2) (c : α3) (d : α4) (e : α5) (f : α1 → α2 → α3 → α4 → α5 → Option β) : bd5 (some (a, b, c, d, e)) f = f a b c d e := rfl
/-! single bits of an int, as the class and the reference test and set them -/
theorem pu_b1 (i : Nat) (hi : i < 32) : bt 1 i = decide (i = 0) := (by decide +kernel : ∀ i, i < 32 → bt 1 i = decide (i = 0)) i hi
theorem pu_if (b : Bool) (i : Nat) (hi : i < 32) : bt (if b = true then 1 else 0) i = (b && decide (i = 0)) := by
  cases b
  · rw [if_neg (by decide), b_0, Bool.false_and]
  · rw [if_pos rfl, pu_b1 i hi, Bool.true_and]
theorem pu_sh {l : Nat} (hl : l < 32) (x : Int32) : ((x >>> (nI l &&& 31)) &&& 1) = if bt x l = true then 1 else 0 := by
  apply b_ext
  intro i hi
  rw [b_and, b_sshr l hl x hi, pu_b1 i hi, pu_if _ i hi]
  by_cases h : i = 0
  · subst h; simp [hl]
  · simp [h]
theorem pu_ush {l : Nat} (hl : l < 32) (x : Int32) : ((x.toUInt32 >>> ((nI l).toUInt32 &&& Int32.toUInt32 31)).toInt32 &&& 1) = if bt x l = true then 1 else 0 := by
  apply b_ext
  intro i hi
  rw [b_and, b_ushr l hl x i, pu_b1 i hi, pu_if _ i hi]
  by_cases h : i = 0
  · subst h; simp
  · simp [h]
theorem pu_one {l i : Nat} (hl : l < 32) (hi : i < 32) : bt ((1 : Int32) <<< (nI l &&& 31)) i = decide (i = l) := by
  rw [b_shl l hl 1 hi, pu_b1 (i - l) (by omega)]
  by_cases h : i = l
  · subst h; simp
  · rw [decide_eq_false h]
    by_cases h2 : l ≤ i
    · rw [decide_eq_false (by omega : ¬ i - l = 0), Bool.and_false]
    · rw [decide_eq_false h2, Bool.false_and]
theorem pu_not (x : Int32) {i : Nat} (hi : i < 32) : bt (x ^^^ (-1)) i = !bt x i := by rw [b_xor, b_m1 i hi, Bool.xor_true]
theorem pu_01 (b : Bool) : ((if b = true then (1 : Int32) else 0) = 0) ↔ b = false := by cases b <;> decide
theorem pu_11 (b : Bool) : ((if b = true then (1 : Int32) else 0) = 1) ↔ b = true := by cases b <;> decide
theorem pu_p01 (c : Prop) [Decidable c] : ((if c then (1 : Int32) else 0) = 0) ↔ ¬ c := by by_cases h : c <;> simp [h]
theorem pu_p11 (c : Prop) [Decidable c] : ((if c then (1 : Int32) else 0) = 1) ↔ c := by by_cases h : c <;> simp [h]
theorem pu_zero {x : Int32} : x = 0 ↔ ∀ i, i < 32 → bt x i = false := by
  constructor
  · rintro rfl i _; exact b_0 i
  · intro h; exact b_ext fun i hi => by rw [h i hi, b_0]
theorem pu_nz {x : Int32} (h : ¬ x = 0) : ∃ i, i < 32 ∧ bt x i = true := by
  apply Classical.byContradiction
  intro q
  refine h (pu_zero.mpr fun i hi => ?_)
  cases e : bt x i
  · rfl
  · exact absurd ⟨i, hi, e⟩ q
/-! small ints -/
theorem pu_m1_ne {k : Nat} (h : k < 2 ^ 31) : ¬ nI k = -1 := by
  intro e
  have := congrArg Int32.toInt e
  rw [nI_toInt h] at this
  have h2 : (-1 : Int32).toInt = -1 := by decide
  omega
theorem pu_m1_ne' {k : Nat} (h : k < 2 ^ 31) : ¬ (-1 : Int32) = nI k := fun e => pu_m1_ne h e.symm
theorem pu_inb {k n : Nat} (h : k < n) (hn : n < 2 ^ 31) : inb (nI k) n = true := by
  have := nI_toInt (n := k) (by omega)
  exact decide_eq_true (by rw [this]; omega)
theorem pu_cl {k : Nat} (h : k < 2 ^ 31) : (nI k).toNatClampNeg = k := nI_clamp h
theorem pu_lt0 (k : Nat) (h : k < 2 ^ 31) : (nI k < 0) = False := by simp [nI_pos h]
theorem pu_of (x : Int32) (n : Nat) (hn : n < 2 ^ 31) : (x < 0 ∨ nI n ≤ x) ∨ ∃ j, j < n ∧ x = nI j := by
  rcases pk_ix x hn with h | h | h
  · exact Or.inl (Or.inl h)
  · exact Or.inl (Or.inr h)
  · exact Or.inr h
/-! words as sets -/
theorem pu_has {x : Int32} {w : Nat} (hw : w < 24) : fX5_has x (nI w) = some (if bt x w = true then 1 else 0) := by
  unfold fX5_has
  rw [if_neg (nI_pos (by omega)), if_neg (show ¬ (24 : Int32) ≤ nI w from nI_ge (b := 24) hw (by omega)), pu_ush (by omega)]
  cases bt x w <;> rfl
theorem pu_hasm (x : Int32) : fX5_has x (-1) = some 0 := by
  unfold fX5_has
  rw [if_pos (by decide)]
end LOW
