section PLN
/-! links alone: who is reached by at most k links, and who by k at the least -/
def Rk (K : Nat → Nat → Prop) (a : Nat) : Nat → Nat → Prop
  | 0 => fun w => w = a
  | k + 1 => fun w => Rk K a k w ∨ ∃ v, Rk K a k v ∧ K v w
def Fk (K : Nat → Nat → Prop) (a : Nat) : Nat → Nat → Prop
  | 0 => fun w => w = a
  | k + 1 => fun w => Rk K a (k + 1) w ∧ ¬ Rk K a k w
def Cl (K : Nat → Nat → Prop) (a w : Nat) : Prop := ∃ k, Rk K a k w
section
variable {K : Nat → Nat → Prop} {a : Nat}
theorem Rk_1 (k w : Nat) : Rk K a (k + 1) w ↔ Rk K a k w ∨ ∃ v, Rk K a k v ∧ K v w := Iff.rfl
theorem Fk_1 (k w : Nat) : Fk K a (k + 1) w ↔ Rk K a (k + 1) w ∧ ¬ Rk K a k w := Iff.rfl
theorem Rk_up {k w : Nat} (h : Rk K a k w) : ∀ d, Rk K a (k + d) w
  | 0 => h
  | d + 1 => Or.inl (Rk_up h d)
theorem Rk_le {k j w : Nat} (h : Rk K a k w) (hj : k ≤ j) : Rk K a j w := by
  have := Rk_up h (j - k)
  rw [show k + (j - k) = j by omega] at this
  exact this
theorem Fk_Rk {k w : Nat} (h : Fk K a k w) : Rk K a k w := by
  cases k with
  | zero => exact h
  | succ k => exact h.1
theorem Fk_not {k j w : Nat} (h : Fk K a k w) (hj : j < k) : ¬ Rk K a j w := by
  cases k with
  | zero => omega
  | succ k => exact fun q => h.2 (Rk_le q (by omega))
theorem Rk_Fk (k w : Nat) : Rk K a (k + 1) w ↔ Rk K a k w ∨ Fk K a (k + 1) w := by
  rw [Fk_1]
  constructor
  · intro h
    by_cases e : Rk K a k w
    · exact Or.inl e
    · exact Or.inr ⟨h, e⟩
  · rintro (h | h)
    · exact Or.inl h
    · exact h.1
theorem Fk_step (k w : Nat) : Fk K a (k + 1) w ↔ (∃ v, Fk K a k v ∧ K v w) ∧ ¬ Rk K a k w := by
  rw [Fk_1, Rk_1]
  constructor
  · rintro ⟨h1 | ⟨v, h1, h2⟩, h3⟩
    · exact absurd h1 h3
    · refine ⟨⟨v, ?_, h2⟩, h3⟩
      cases k with
      | zero => exact h1
      | succ k =>
        refine ⟨h1, fun q => h3 ?_⟩
        exact Or.inr ⟨v, q, h2⟩
  · rintro ⟨⟨v, h1, h2⟩, h3⟩
    exact ⟨Or.inr ⟨v, Fk_Rk h1, h2⟩, h3⟩
theorem Fk_ne {k : Nat} (h : ∃ w, Fk K a (k + 1) w) : ∃ w, Fk K a k w := by
  obtain ⟨w, h⟩ := h
  obtain ⟨v, h1, -⟩ := ((Fk_step k w).mp h).1
  exact ⟨v, h1⟩
theorem Fk_nes {k : Nat} : ∀ d, (∃ w, Fk K a (k + d) w) → ∃ w, Fk K a k w
  | 0, h => h
  | d + 1, h => Fk_nes d (Fk_ne h)
theorem Rk_lt {n : Nat} (ha : a < n) (hK : ∀ v w, K v w → w < n) : ∀ {k w : Nat}, Rk K a k w → w < n := by
  intro k
  induction k with
  | zero => intro w h; rw [show w = a from h]; exact ha
  | succ k ih =>
    intro w h
    rcases h with h | ⟨v, -, h⟩
    · exact ih h
    · exact hK v w h
theorem Fk_many {n k : Nat} (ha : a < n) (hK : ∀ v w, K v w → w < n) (h : ∃ w, Fk K a k w) : k < n := by
  have hne : ∀ i, ∃ w, i < k + 1 → Fk K a i w := by
    intro i
    by_cases hi : i < k + 1
    · obtain ⟨w, hw⟩ := Fk_nes (k := i) (k - i) (by rw [show i + (k - i) = k by omega]; exact h)
      exact ⟨w, fun _ => hw⟩
    · exact ⟨0, fun q => absurd q hi⟩
  obtain ⟨W, hW⟩ := Classical.axiomOfChoice hne
  refine fb_holes n (k + 1) W (fun i hi => Rk_lt ha hK (Fk_Rk (hW i hi))) (fun i j hij hj e => ?_)
  have h1 := hW i (by omega)
  have h2 := hW j hj
  rw [← e] at h2
  exact Fk_not h2 hij (Fk_Rk h1)
/-- no new word: all that can be reached is there -/
theorem Rk_stop {k : Nat} (h : ∀ w, ¬ Fk K a (k + 1) w) : ∀ d w, Rk K a (k + d) w → Rk K a k w := by
  intro d
  induction d with
  | zero => exact fun w q => q
  | succ d ih =>
    intro w q
    rcases q with q | ⟨v, q1, q2⟩
    · exact ih w q
    · have := ih v q1
      by_cases e : Rk K a k w
      · exact e
      · exact absurd ⟨Or.inr ⟨v, this, q2⟩, e⟩ (h w)
theorem Cl_stop {k w : Nat} (h : ∀ w, ¬ Fk K a (k + 1) w) : Cl K a w ↔ Rk K a k w := by
  constructor
  · rintro ⟨j, h1⟩
    exact Rk_stop h j w (Rk_le h1 (by omega))
  · exact fun q => ⟨k, q⟩
theorem Cl_self : Cl K a a := ⟨0, rfl⟩
theorem Cl_next {v w : Nat} (h : Cl K a v) (hk : K v w) : Cl K a w := by
  obtain ⟨k, h⟩ := h
  exact ⟨k + 1, Or.inr ⟨v, h, hk⟩⟩
theorem Cl_trans {b w : Nat} (h : Cl K a b) (h2 : Cl K b w) : Cl K a w := by
  obtain ⟨k, h2⟩ := h2
  have : ∀ k w, Rk K b k w → Cl K a w := by
    intro k
    induction k with
    | zero => intro w q; rw [show w = b from q]; exact h
    | succ k ih =>
      intro w q
      rcases q with q | ⟨v, q1, q2⟩
      · exact ih w q
      · exact Cl_next (ih v q1) q2
  exact this k w h2
theorem Cl_symm (hs : ∀ v w, K v w → K w v) {w : Nat} (h : Cl K a w) : Cl K w a := by
  obtain ⟨k, h⟩ := h
  have : ∀ k w, Rk K a k w → Cl K w a := by
    intro k
    induction k with
    | zero => intro w q; rw [show w = a from q]; exact Cl_self
    | succ k ih =>
      intro w q
      rcases q with q | ⟨v, q1, q2⟩
      · exact ih w q
      · exact Cl_trans (Cl_next Cl_self (hs v w q2)) (ih v q1)
  exact this k w h
theorem Cl_lt {n w : Nat} (ha : a < n) (hK : ∀ v w, K v w → w < n) (h : Cl K a w) : w < n := by
  obtain ⟨k, h⟩ := h
  exact Rk_lt ha hK h
end
/-- the fewest links between two words -/
theorem Lst_cut {P : Nat → Prop} {N M : Nat} {y : Int32} (hNM : N ≤ M) (h : Lst N P y) (hP : ∀ k, N ≤ k → k < M → P k → ∃ j, j < N ∧ P j) : Lst M P y := by
  rcases h with ⟨k, h1, h2, h3, h4⟩ | ⟨h1, h2⟩
  · exact Or.inl ⟨k, by omega, h2, h3, h4⟩
  · refine Or.inr ⟨fun k hk q => ?_, h2⟩
    by_cases e : k < N
    · exact h1 k e q
    · obtain ⟨j, j1, j2⟩ := hP k (by omega) hk q
      exact h1 j j1 j2
theorem Rk_first {K : Nat → Nat → Prop} {a w : Nat} : ∀ {k : Nat}, Rk K a k w → ∃ j, j ≤ k ∧ Fk K a j w := by
  intro k
  induction k with
  | zero => exact fun h => ⟨0, Nat.le_refl 0, h⟩
  | succ k ih =>
    intro h
    rcases (Rk_Fk k w).mp h with h | h
    · obtain ⟨j, j1, j2⟩ := ih h
      exact ⟨j, by omega, j2⟩
    · exact ⟨k + 1, Nat.le_refl _, h⟩
theorem pu_bla_L {st : St} {n p l s r a z : Nat} {cd : Nat → Nat} (h : Base st n p l s r cd) (hl : Lks (St_links st) n r cd) (ha : a < n) (hz : z < n) : ∀ (d k f : Nat) (x y : Int32), k + d = 24 → d < f → (∀ j, j < 32 → (bt x j = true ↔ Fk (Kw n r cd) a k j)) → (∀ j, j < 32 → (bt y j = true ↔ Rk (Kw n r cd) a k j)) → (∀ j, j < k → ¬ Rk (Kw n r cd) a j z) → ∃ v, fX4_byLinksAlone_L12 st (nI z) f x y (nI k) = some v ∧ Lst 24 (fun k => Rk (Kw n r cd) a k z) v := by
  have hn := h.2.2.2.2.2.1
  intro d
  induction d with
  | zero =>
    intro k f x y hk hf hx hy g
    obtain ⟨f, rfl, -⟩ := pu_fuel hf
    refine ⟨-1, ?_, Or.inr ⟨fun j hj => g j (by omega), rfl⟩⟩
    rw [fX4_byLinksAlone_L12, if_pos (show (24 : Int32) ≤ nI k from nI_le (a := 24) (by omega) (by omega))]
  | succ d ih =>
    intro k f x y hk hf hx hy g
    obtain ⟨f, rfl, hf⟩ := pu_fuel hf
    rw [fX4_byLinksAlone_L12, if_neg (show ¬ (24 : Int32) ≤ nI k from nI_ge (b := 24) (by omega) (by omega))]
    by_cases hx0 : x = 0
    · rw [if_pos hx0]
      refine ⟨-1, rfl, Or.inr ⟨fun j hj q => ?_, rfl⟩⟩
      obtain ⟨i, i1, i2⟩ := Rk_first q
      by_cases e : i < k
      · exact g i e (Fk_Rk i2)
      · obtain ⟨w, hw⟩ := Fk_nes (k := k) (i - k) ⟨z, by rw [show k + (i - k) = i by omega]; exact i2⟩
        have hw24 := Rk_lt ha (fun v w q => q.2.1) (Fk_Rk hw)
        have := (hx w (by omega)).mpr hw
        rw [hx0, b_0] at this
        cases this
    · rw [if_neg hx0, pu_has (by omega)]
      simp only [pu_bd]
      have hxz := hx z (by omega)
      cases hb : bt x z
      · rw [if_pos (show (if false = true then (1 : Int32) else 0) = 0 by decide)]
        obtain ⟨q, e1, e2⟩ := pu_loaK hn hl hx
        rw [e1]
        simp only [pu_bd, pu_pl, nI_1]
        have hx' : ∀ j, j < 32 → (bt (q &&& (y ^^^ (-1 : Int32))) j = true ↔ Fk (Kw n r cd) a (k + 1) j) := fun j hj => by
          rw [Fk_step, b_and, pu_not _ hj, ← e2 j hj, ← hy j hj]
          simp
        refine ih (k + 1) f _ _ (by omega) (by omega) hx' (fun j hj => ?_) (fun j hj q => ?_)
        · rw [Rk_Fk, ← hx' j hj, ← hy j hj, b_or, Bool.or_eq_true]
        · by_cases e : j < k
          · exact g j e q
          · have : j = k := by omega
            subst this
            obtain ⟨i, i1, i2⟩ := Rk_first q
            by_cases e : i = j
            · subst e
              rw [hb] at hxz
              cases hxz.mpr i2
            · exact g i (by omega) (Fk_Rk i2)
      · rw [if_neg (show ¬ (if true = true then (1 : Int32) else 0) = 0 by decide)]
        exact ⟨_, rfl, Or.inl ⟨k, by omega, Fk_Rk (hxz.mp hb), g, rfl⟩⟩
theorem pu_bla {st : St} {n p l s r a z : Nat} {cd : Nat → Nat} (h : Base st n p l s r cd) (hl : Lks (St_links st) n r cd) (ha : a < n) (hz : z < n) (wa : Wa) : ∃ v, fX4_byLinksAlone wa st (nI a) (nI z) = some v ∧ Lst 24 (fun k => Rk (Kw n r cd) a k z) v := by
  have hn := h.2.2.2.2.2.1
  have h0 : ∀ j, j < 32 → (bt ((1 : Int32) <<< (nI a &&& 31)) j = true ↔ j = a) := fun j hj => by
    rw [pu_one (by omega) hj, decide_eq_true_eq]
  exact pu_bla_L h hl ha hz 24 0 1000 _ _ rfl (by decide) h0 h0 (fun j hj => by omega)
/-- the island of a word, as the class walks it -/
theorem pu_around_L {st : St} {n p l s r a : Nat} {cd : Nat → Nat} (h : Base st n p l s r cd) (hl : Lks (St_links st) n r cd) (ha : a < n) : ∀ (d k f : Nat) (y x : Int32), k + d = 24 → d < f → (∀ j, j < 32 → (bt x j = true ↔ Fk (Kw n r cd) a k j)) → (∀ j, j < 32 → (bt y j = true ↔ Rk (Kw n r cd) a k j)) → ∃ v, fX1_around_L10 st f y x (nI k) = some v ∧ ∀ j, j < 32 → (bt v j = true ↔ Cl (Kw n r cd) a j) := by
  have hn := h.2.2.2.2.2.1
  have hK : ∀ v w, Kw n r cd v w → w < n := fun v w q => q.2.1
  intro d
  induction d with
  | zero =>
    intro k f y x hk hf hx hy
    obtain ⟨f, rfl, -⟩ := pu_fuel hf
    refine ⟨y, ?_, fun j hj => ?_⟩
    · rw [fX1_around_L10, if_pos (show (24 : Int32) ≤ nI k from nI_le (a := 24) (by omega) (by omega))]
    · rw [hy j hj, Cl_stop (k := k) (fun w q => by have := Fk_many ha hK ⟨w, q⟩; omega)]
  | succ d ih =>
    intro k f y x hk hf hx hy
    obtain ⟨f, rfl, hf⟩ := pu_fuel hf
    rw [fX1_around_L10, if_neg (show ¬ (24 : Int32) ≤ nI k from nI_ge (b := 24) (by omega) (by omega))]
    by_cases hx0 : x = 0
    · rw [if_pos hx0]
      refine ⟨y, rfl, fun j hj => ?_⟩
      rw [hy j hj, Cl_stop (k := k) (fun w q => ?_)]
      obtain ⟨v, hv⟩ := Fk_ne ⟨w, q⟩
      have hv24 := Rk_lt ha hK (Fk_Rk hv)
      have := (hx v (by omega)).mpr hv
      rw [hx0, b_0] at this
      cases this
    · rw [if_neg hx0]
      obtain ⟨q, e1, e2⟩ := pu_loaK hn hl hx
      rw [e1]
      simp only [pu_bd, pu_pl, nI_1]
      have hx' : ∀ j, j < 32 → (bt (q &&& (y ^^^ (-1 : Int32))) j = true ↔ Fk (Kw n r cd) a (k + 1) j) := fun j hj => by
        rw [Fk_step, b_and, pu_not _ hj, ← e2 j hj, ← hy j hj]
        simp
      refine ih (k + 1) f _ _ (by omega) (by omega) hx' (fun j hj => ?_)
      rw [Rk_Fk, ← hx' j hj, ← hy j hj, b_or, Bool.or_eq_true]
theorem pu_around {st : St} {n p l s r a : Nat} {cd : Nat → Nat} (h : Base st n p l s r cd) (hl : Lks (St_links st) n r cd) (ha : a < n) (is : Is) : ∃ v, fX1_around is st (nI a) = some v ∧ ∀ j, j < 32 → (bt v j = true ↔ Cl (Kw n r cd) a j) := by
  have hn := h.2.2.2.2.2.1
  have h0 : ∀ j, j < 32 → (bt ((1 : Int32) <<< (nI a &&& 31)) j = true ↔ j = a) := fun j hj => by
    rw [pu_one (by omega) hj, decide_eq_true_eq]
  obtain ⟨v, e1, e2⟩ := pu_around_L h hl ha 24 0 1000 _ _ rfl (by decide) h0 h0
  refine ⟨v, ?_, e2⟩
  unfold fX1_around
  simp only [pu_pl]
  have e1' : fX1_around_L10 st 1000 ((1 : Int32) <<< (nI a &&& 31)) ((1 : Int32) <<< (nI a &&& 31)) (0 : Int32) = some v := e1
  rw [e1']
  rfl
end PLN
