section LNK
/-! which words are linked -/
def pu_d (a b : Nat) : Nat := if a < b then b - a else a - b
theorem pu_d_comm (a b : Nat) : pu_d a b = pu_d b a := by unfold pu_d; split <;> split <;> omega
theorem pu_d0 {a b : Nat} : pu_d a b = 0 ↔ a = b := by unfold pu_d; split <;> omega
theorem pu_d8 {a b : Nat} (ha : a < 8) (hb : b < 8) : pu_d a b < 8 := by unfold pu_d; split <;> omega
/-- how many of the last k places are unlike; how far apart their letters are together; is each near -/
def pu_un (c e : Nat) : Nat → Nat
  | 0 => 0
  | k + 1 => (if pu_l c (3 - k) = pu_l e (3 - k) then 0 else 1) + pu_un c e k
def pu_fa (c e : Nat) : Nat → Nat
  | 0 => 0
  | k + 1 => pu_d (pu_l c (3 - k)) (pu_l e (3 - k)) + pu_fa c e k
def pu_nr (c e r : Nat) : Nat → Prop
  | 0 => True
  | k + 1 => pu_d (pu_l c (3 - k)) (pu_l e (3 - k)) ≤ r ∧ pu_nr c e r k
theorem pu_un_comm (c e : Nat) : ∀ k, pu_un c e k = pu_un e c k
  | 0 => rfl
  | k + 1 => by rw [pu_un, pu_un, pu_un_comm c e k]; simp only [eq_comm]
theorem pu_fa_comm (c e : Nat) : ∀ k, pu_fa c e k = pu_fa e c k
  | 0 => rfl
  | k + 1 => by rw [pu_fa, pu_fa, pu_fa_comm c e k, pu_d_comm]
theorem pu_un_self (c : Nat) : ∀ k, pu_un c c k = 0
  | 0 => rfl
  | k + 1 => by rw [pu_un, pu_un_self c k, if_pos rfl]
theorem pu_fa_lt (c e : Nat) : ∀ k, pu_fa c e k ≤ 7 * k
  | 0 => Nat.le_refl 0
  | k + 1 => by
    have := pu_fa_lt c e k
    have := pu_d8 (pu_l_lt c (3 - k)) (pu_l_lt e (3 - k))
    rw [pu_fa]; omega
theorem pu_un_lt (c e : Nat) : ∀ k, pu_un c e k ≤ k
  | 0 => Nat.le_refl 0
  | k + 1 => by
    have := pu_un_lt c e k
    rw [pu_un]; split <;> omega
theorem pu_un0 {c e r : Nat} : ∀ k, pu_un c e k = 0 → pu_fa c e k = 0 ∧ pu_nr c e r k
  | 0, _ => ⟨rfl, trivial⟩
  | k + 1, h => by
    rw [pu_un] at h
    by_cases q : pu_l c (3 - k) = pu_l e (3 - k)
    · rw [if_pos q] at h
      obtain ⟨h1, h2⟩ := pu_un0 (c := c) (e := e) (r := r) k (by omega)
      have := pu_d0.mpr q
      exact ⟨by rw [pu_fa, this, h1], by rw [pu_nr, this]; exact ⟨Nat.zero_le r, h2⟩⟩
    · rw [if_neg q] at h; omega
theorem pu_un1 {c e r : Nat} : ∀ k, pu_un c e k = 1 → (pu_nr c e r k ↔ pu_fa c e k ≤ r)
  | 0, h => by cases h
  | k + 1, h => by
    rw [pu_un] at h
    by_cases q : pu_l c (3 - k) = pu_l e (3 - k)
    · rw [if_pos q] at h
      have h1 := pu_un1 (c := c) (e := e) (r := r) k (by omega)
      have := pu_d0.mpr q
      rw [pu_nr, pu_fa, this, h1, Nat.zero_add]
      exact ⟨fun z => z.2, fun z => ⟨Nat.zero_le r, z⟩⟩
    · rw [if_neg q] at h
      obtain ⟨h1, h2⟩ := pu_un0 (c := c) (e := e) (r := r) k (by omega)
      rw [pu_nr, pu_fa, h1, Nat.add_zero]
      exact ⟨fun z => z.1, fun z => ⟨z, h2⟩⟩
/-- two codes are linked at the nearness r -/
def Lkc (r c e : Nat) : Prop := pu_un c e 4 = 1 ∧ pu_fa c e 4 ≤ r
theorem Lkc.symm {r c e : Nat} (h : Lkc r c e) : Lkc r e c := ⟨by rw [pu_un_comm]; exact h.1, by rw [pu_fa_comm]; exact h.2⟩
theorem Lkc_comm (r c e : Nat) : Lkc r c e ↔ Lkc r e c := ⟨Lkc.symm, Lkc.symm⟩
theorem Lkc_self (r c : Nat) : ¬ Lkc r c c := fun h => by have := h.1; rw [pu_un_self] at this; cases this
theorem Lkc_near {r c e : Nat} : Lkc r c e ↔ pu_nr c e r 4 ∧ pu_un c e 4 = 1 := by
  unfold Lkc
  constructor
  · rintro ⟨h1, h2⟩; exact ⟨(pu_un1 4 h1).mpr h2, h1⟩
  · rintro ⟨h1, h2⟩; exact ⟨h2, (pu_un1 4 h2).mp h1⟩
theorem pu_abs : ∀ a, a < 8 → ∀ b, b < 8 → (if (0 : Int32) ≤ (nI a - nI b) then (nI a - nI b) else (0 : Int32) - (nI a - nI b)) = nI (pu_d a b) := by decide +kernel
theorem pu_are_L {st : St} {n p l s r a b : Nat} {cd : Nat → Nat} (h : Base st n p l s r cd) (ha : a < n) (hb : b < n) : ∀ (d i f u : Nat), i + d = 4 → d < f → u ≤ i → ∃ y, fX2_areLinked_L23 st (nI a) (nI b) f (nI u) (nI i) = some y ∧ ((y = 1 ∧ pu_nr (cd a) (cd b) r d ∧ u + pu_un (cd a) (cd b) d = 1) ∨ (y = 0 ∧ ¬ (pu_nr (cd a) (cd b) r d ∧ u + pu_un (cd a) (cd b) d = 1))) := by
  intro d
  induction d with
  | zero =>
    intro i f u hi hf hu
    obtain ⟨f, rfl, -⟩ := pu_fuel hf
    rw [fX2_areLinked_L23, if_pos (show (4 : Int32) ≤ nI i from nI_le (a := 4) (by omega) (by omega))]
    by_cases e : u = 1
    · subst e
      exact ⟨1, if_pos rfl, Or.inl ⟨rfl, trivial, rfl⟩⟩
    · exact ⟨0, if_neg (show ¬ nI u = nI 1 by rw [nI_eq (by omega) (by omega)]; exact e), Or.inr ⟨rfl, fun q => e q.2⟩⟩
  | succ d ih =>
    intro i f u hi hf hu
    obtain ⟨f, rfl, hf⟩ := pu_fuel hf
    have hr := h.2.2.2.2.2.2.2.2.2.1
    have hid : 3 - d = i := by omega
    rw [fX2_areLinked_L23, if_neg (show ¬ (4 : Int32) ≤ nI i from nI_ge (b := 4) (by omega) (by omega)), pu_letterAt h ha (by omega), pu_letterAt h hb (by omega)]
    simp only [pu_bd, pu_pl]
    have h1 := pu_l_lt (cd a) i
    have h2 := pu_l_lt (cd b) i
    have h3 := pu_d8 h1 h2
    rw [pu_abs _ h1 _ h2, h.2.2.2.2.1]
    have eN : pu_nr (cd a) (cd b) r (d + 1) = (pu_d (pu_l (cd a) i) (pu_l (cd b) i) ≤ r ∧ pu_nr (cd a) (cd b) r d) := by rw [pu_nr, hid]
    have eU : pu_un (cd a) (cd b) (d + 1) = (if pu_l (cd a) i = pu_l (cd b) i then 0 else 1) + pu_un (cd a) (cd b) d := by rw [pu_un, hid]
    rw [eN, eU]
    by_cases e : pu_d (pu_l (cd a) i) (pu_l (cd b) i) ≤ r
    · rw [if_pos (nI_le e (by omega))]
      by_cases e2 : pu_l (cd a) i = pu_l (cd b) i
      · rw [if_pos (show nI (pu_d (pu_l (cd a) i) (pu_l (cd b) i)) = 0 by rw [pu_d0.mpr e2]; rfl), nI_1, if_pos e2]
        obtain ⟨y, h5, h6⟩ := ih (i + 1) f u (by omega) (by omega) (by omega)
        refine ⟨y, h5, ?_⟩
        rw [Nat.zero_add]
        rcases h6 with ⟨k1, k2, k3⟩ | ⟨k1, k2⟩
        · exact Or.inl ⟨k1, ⟨e, k2⟩, k3⟩
        · exact Or.inr ⟨k1, fun q => k2 ⟨q.1.2, q.2⟩⟩
      · rw [if_neg (nI_ne0 (by have := mt pu_d0.mp e2; omega) (by omega)), nI_1, nI_1, if_neg e2]
        obtain ⟨y, h5, h6⟩ := ih (i + 1) f (u + 1) (by omega) (by omega) (by omega)
        refine ⟨y, h5, ?_⟩
        rw [show u + (1 + pu_un (cd a) (cd b) d) = u + 1 + pu_un (cd a) (cd b) d by omega]
        rcases h6 with ⟨k1, k2, k3⟩ | ⟨k1, k2⟩
        · exact Or.inl ⟨k1, ⟨e, k2⟩, k3⟩
        · exact Or.inr ⟨k1, fun q => k2 ⟨q.1.2, q.2⟩⟩
    · rw [if_neg (nI_ge (Nat.lt_of_not_le e) (by omega))]
      exact ⟨0, rfl, Or.inr ⟨rfl, fun q => e q.1.1⟩⟩
theorem pu_are {st : St} {n p l s r a b : Nat} {cd : Nat → Nat} (h : Base st n p l s r cd) (ha : a < n) (hb : b < n) : ∃ y, fX2_areLinked st (nI a) (nI b) = some y ∧ ((y = 1 ∧ Lkc r (cd a) (cd b)) ∨ (y = 0 ∧ ¬ Lkc r (cd a) (cd b))) := by
  obtain ⟨y, h1, h2⟩ := pu_are_L h ha hb 4 0 1000 0 rfl (by decide) (Nat.le_refl 0)
  refine ⟨y, ?_, ?_⟩
  · unfold fX2_areLinked
    rw [pu_hasWord h ha, pu_hasWord h hb]
    simp only [pu_bd]
    rw [if_neg (by decide), if_neg (by decide)]
    exact h1
  · rw [Lkc_near]
    rw [Nat.zero_add] at h2
    exact h2
/-! the links kept -/
theorem pu_lwe_L {st : St} {n p l s r w : Nat} {cd : Nat → Nat} (h : Base st n p l s r cd) (hw : w < n) : ∀ (d v f : Nat) (A : AI), v + d = w → d < f → ∃ A' : AI, fX2_linkWithEarlier_L18 (nI w) f (nI v) (St_set_links st A) = some (St_set_links st A') ∧ ∀ u j, j < 32 → (bt (A' u) j = true ↔ (if u = w then bt (A w) j = true ∨ (v ≤ j ∧ j < w ∧ Lkc r (cd j) (cd w)) else if v ≤ u ∧ u < w ∧ j = w then Lkc r (cd u) (cd w) else bt (A u) j = true)) := by
  have hn := h.2.2.2.2.2.1
  intro d
  induction d with
  | zero =>
    intro v f A hv hf
    obtain ⟨f, rfl, -⟩ := pu_fuel hf
    refine ⟨A, ?_, fun u j hj => ?_⟩
    · rw [fX2_linkWithEarlier_L18, if_pos (nI_le (by omega) (by omega))]
    · by_cases e : u = w
      · subst e
        rw [if_pos rfl]
        exact ⟨Or.inl, fun q => q.elim id (fun q => by omega)⟩
      · rw [if_neg e, if_neg (by omega)]
  | succ d ih =>
    intro v f A hv hf
    obtain ⟨f, rfl, hf⟩ := pu_fuel hf
    have hvw : v < w := by omega
    rw [fX2_linkWithEarlier_L18, if_neg (nI_ge hvw (by omega)), pu_inb (by omega) (by omega), pu_cl (by omega)]
    simp only [pu_ck, pu_pl]
    generalize hA1 : upd (St_links (St_set_links st A)) v (St_links (St_set_links st A) v &&& (((1 : Int32) <<< (nI w &&& 31)) ^^^ (-1))) = A1
    have h1 : Base (St_set_links st A1) n p l s r cd := h
    obtain ⟨y, e1, e2⟩ := pu_are h1 (a := v) (b := w) (by omega) hw
    have e1' : fX2_areLinked (St_set_links (St_set_links st A) A1) (nI v) (nI w) = some y := e1
    rw [e1']
    simp only [pu_bd]
    have b1 : ∀ u j, j < 32 → (bt (A1 u) j = true ↔ if u = v then (bt (A v) j = true ∧ j ≠ w) else bt (A u) j = true) := by
      intro u j hj
      rw [← hA1]
      by_cases e : u = v
      · subst e
        rw [pk_us, if_pos rfl, b_and, pu_not _ hj, pu_one (by omega) hj]
        show (bt (A u) j && !decide (j = w)) = true ↔ _
        simp
      · rw [pk_un e, if_neg e]
        exact Iff.rfl
    rcases e2 with ⟨rfl, k2⟩ | ⟨rfl, k2⟩
    · rw [if_neg (by decide)]
      generalize hA2 : upd (St_links (St_set_links (St_set_links st A) A1)) v _ = A2
      rw [pu_inb (k := w) (by omega) (by omega), pu_cl (k := w) (by omega)]
      simp only [pu_ck, nI_1]
      generalize hA3 : upd _ w _ = A3
      obtain ⟨A', f1, f2⟩ := ih (v + 1) f A3 (by omega) (by omega)
      refine ⟨A', f1, fun u j hj => ?_⟩
      have b2 : ∀ u j, j < 32 → (bt (A2 u) j = true ↔ if u = v ∧ j = w then True else bt (A1 u) j = true) := by
        intro u j hj
        rw [← hA2]
        by_cases e : u = v
        · subst e
          rw [pk_us, b_or, pu_one (by omega) hj]
          show (bt (A1 u) j || decide (j = w)) = true ↔ _
          grind
        · rw [pk_un e, if_neg (fun q => e q.1)]
          exact Iff.rfl
      have b3 : ∀ u j, j < 32 → (bt (A3 u) j = true ↔ if u = w ∧ j = v then True else bt (A2 u) j = true) := by
        intro u j hj
        rw [← hA3]
        by_cases e : u = w
        · subst e
          rw [pk_us, b_or, pu_one (by omega) hj]
          show (bt (A2 u) j || decide (j = v)) = true ↔ _
          grind
        · rw [pk_un e, if_neg (fun q => e q.1)]
          exact Iff.rfl
      rw [f2 u j hj]
      have c1 := b1 u j hj
      have c2 := b2 u j hj
      have c3 := b3 u j hj
      have c3w := b3 w j hj
      have c2w := b2 w j hj
      have c1w := b1 w j hj
      by_cases e : u = w
      · subst e
        rw [if_pos rfl, if_pos rfl]
        have : j = v → Lkc r (cd j) (cd u) := fun q => q ▸ k2
        grind
      · rw [if_neg e, if_neg e]
        have : u = v → Lkc r (cd u) (cd w) := fun q => q ▸ k2
        grind
    · rw [if_pos rfl, nI_1]
      obtain ⟨A', f1, f2⟩ := ih (v + 1) f A1 (by omega) (by omega)
      refine ⟨A', f1, fun u j hj => ?_⟩
      rw [f2 u j hj]
      by_cases e : u = w
      · subst e
        rw [if_pos rfl, if_pos rfl, b1 u j hj, if_neg (by omega)]
        have : Lkc r (cd j) (cd u) → j ≠ v := fun q e => k2 (e ▸ q)
        grind
      · rw [if_neg e, if_neg e, b1 u j hj]
        have : Lkc r (cd u) (cd w) → u ≠ v := fun q e => k2 (e ▸ q)
        grind
end LNK
