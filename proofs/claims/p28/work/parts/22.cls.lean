section CLS
theorem pu_ex {P : Nat → Prop} {i n : Nat} (h : i < n) : (∃ w, i ≤ w ∧ w < n ∧ P w) ↔ P i ∨ ∃ w, i + 1 ≤ w ∧ w < n ∧ P w := by
  constructor
  · rintro ⟨w, h1, h2, h3⟩
    rcases Nat.eq_or_lt_of_le h1 with e | e
    · exact Or.inl (e ▸ h3)
    · exact Or.inr ⟨w, e, h2, h3⟩
  · rintro (h1 | ⟨w, h1, h2, h3⟩)
    · exact ⟨i, Nat.le_refl i, h, h1⟩
    · exact ⟨w, by omega, h2, h3⟩
theorem pu_ex0 {P : Nat → Prop} {i n : Nat} (h : n ≤ i) : (∃ w, i ≤ w ∧ w < n ∧ P w) ↔ False := ⟨fun ⟨w, h1, h2, _⟩ => by omega, False.elim⟩
theorem pu_fuel {f d : Nat} (h : d < f) : ∃ g, f = g + 1 ∧ d ≤ g := ⟨f - 1, by omega, by omega⟩
theorem pu_loa_L {st : St} {x : Int32} : ∀ (d i f : Nat) (acc : Int32), i + d = 24 → d < f → ∃ y, fX2_linksOfAll_L4 st x f acc (nI i) = some y ∧ ∀ j, bt y j = true ↔ (bt acc j = true ∨ ∃ w, i ≤ w ∧ w < 24 ∧ bt x w = true ∧ bt (St_links st w) j = true) := by
  intro d
  induction d with
  | zero =>
    intro i f acc h hf
    obtain ⟨f, rfl, -⟩ := pu_fuel hf
    refine ⟨acc, ?_, fun j => ?_⟩
    · rw [fX2_linksOfAll_L4, if_pos (show (24 : Int32) ≤ nI i from nI_le (a := 24) (by omega) (by omega))]
    · rw [pu_ex0 (by omega), or_false]
  | succ d ih =>
    intro i f acc h hf
    obtain ⟨f, rfl, hf⟩ := pu_fuel hf
    have hi : i < 24 := by omega
    rw [fX2_linksOfAll_L4, if_neg (show ¬ (24 : Int32) ≤ nI i from nI_ge (b := 24) hi (by omega))]
    by_cases hz : (x.toUInt32 >>> ((nI i).toUInt32 &&& Int32.toUInt32 31)).toInt32 = 0
    · rw [if_pos hz]
      refine ⟨acc, rfl, fun j => ⟨Or.inl, ?_⟩⟩
      rintro (h1 | ⟨w, h1, h2, h3, -⟩)
      · exact h1
      · have := b_ushr i (by omega) x (w - i)
        rw [hz, b_0, show i + (w - i) = w by omega, h3] at this
        cases this
    · rw [if_neg hz, pu_has hi]
      simp only [bd, pl, nI_1]
      cases hb : bt x i
      · rw [if_pos (show (if false = true then (1 : Int32) else 0) = 0 by decide)]
        obtain ⟨y, h1, h2⟩ := ih (i + 1) f acc (by omega) (by omega)
        refine ⟨y, h1, fun j => ?_⟩
        rw [h2, pu_ex hi]
        simp [hb]
      · rw [if_neg (show ¬ (if true = true then (1 : Int32) else 0) = 0 by decide), pu_inb hi (by omega), pu_cl (by omega)]
        obtain ⟨y, h1, h2⟩ := ih (i + 1) f (acc ||| St_links st i) (by omega) (by omega)
        refine ⟨y, h1, fun j => ?_⟩
        rw [h2, pu_ex hi, b_or]
        simp [hb, or_assoc]
theorem pu_loa (st : St) (x : Int32) : ∃ y, fX2_linksOfAll st x = some y ∧ ∀ j, bt y j = true ↔ ∃ w, w < 24 ∧ bt x w = true ∧ bt (St_links st w) j = true := by
  obtain ⟨y, h1, h2⟩ := pu_loa_L (st := st) (x := x) 24 0 1000 0 rfl (by omega)
  refine ⟨y, ?_, fun j => ?_⟩
  · show bd (fX2_linksOfAll_L4 st x 1000 0 (nI 0)) (fun v => some v) = some y
    rw [h1]
    rfl
  · rw [h2, b_0]
    simp
/-- the letter of a code at a place -/
def pu_l (c q : Nat) : Nat := c / 2 ^ (3 * (3 - q)) % 8
theorem pu_l_lt (c q : Nat) : pu_l c q < 8 := Nat.mod_lt _ (by decide)
theorem pu_q4 {q : Nat} (h : q < 4) : q = 0 ∨ q = 1 ∨ q = 2 ∨ q = 3 := by omega
theorem pu_letterIn {c q : Nat} (hc : c < 4096) (hq : q < 4) : fX2_letterIn (nI c) (nI q) = some (nI (pu_l c q)) := by
  have h9 : ∀ k, c / 2 ^ k < 2 ^ 32 := fun k => Nat.lt_of_le_of_lt (Nat.div_le_self _ _) (by omega)
  unfold fX2_letterIn
  rcases pu_q4 hq with rfl | rfl | rfl | rfl
  · rw [pk_shrN (by omega) _ 9 (by decide), pk_andN (h9 9) 3 (by decide)]; rfl
  · rw [pk_shrN (by omega) _ 6 (by decide), pk_andN (h9 6) 3 (by decide)]; rfl
  · rw [pk_shrN (by omega) _ 3 (by decide), pk_andN (h9 3) 3 (by decide)]; rfl
  · rw [pk_shrN (by omega) _ 0 (by decide), pk_andN (h9 0) 3 (by decide)]; rfl
/-- n words of codes cd, the bar at place p and letter l, the step s, the nearness r -/
def Base (st : St) (n p l s r : Nat) (cd : Nat → Nat) : Prop := St_words st = nI n ∧ St_place st = nI p ∧ St_letter st = nI l ∧ St_letterStep st = nI s ∧ St_nearness st = nI r ∧ n ≤ 24 ∧ p < 4 ∧ l < 8 ∧ s < 8 ∧ r < 8 ∧ ∀ w, w < n → St_codes st w = nI (cd w) ∧ cd w < 4096
theorem pu_barLetter {st : St} {n p l s r m : Nat} {cd : Nat → Nat} (h : Base st n p l s r cd) (hm : m < 2 ^ 20) : fX2_barLetterAfter st (nI m) = some (nI ((l + m / 4 * s) % 8)) := by
  obtain ⟨-, -, h3, h4, -, -, -, h8, h9, -⟩ := h
  have hb : m / 4 * s ≤ m / 4 * 8 := Nat.mul_le_mul_left _ (by omega)
  unfold fX2_barLetterAfter
  rw [h3, h4]
  simp (disch := omega) only [fa_lit, pk_div, pk_mul, nI_add, pk_sub]
  refine congrArg (fun z => some (nI z)) ?_
  omega
theorem pu_hasWord {st : St} {n p l s r w : Nat} {cd : Nat → Nat} (h : Base st n p l s r cd) (hw : w < n) : fX2_hasWord st (nI w) = some 1 := by
  obtain ⟨h1, -, -, -, -, h2, -⟩ := h
  unfold fX2_hasWord
  rw [h1]
  simp (disch := omega) only [fa_lit, nI_ltI, nI_leI]
  rw [if_neg (by omega), if_neg (by omega), if_neg (by omega)]
theorem pu_letterAt {st : St} {n p l s r w q : Nat} {cd : Nat → Nat} (h : Base st n p l s r cd) (hw : w < n) (hq : q < 4) : fX2_letterAt st (nI w) (nI q) = some (nI (pu_l (cd w) q)) := by
  have h2 := h.2.2.2.2.2.1
  obtain ⟨h3, h4⟩ := h.2.2.2.2.2.2.2.2.2.2 w hw
  unfold fX2_letterAt
  rw [pu_hasWord h hw]
  simp only [bd]
  rw [if_neg (by decide), if_neg (nI_pos (by omega)), if_pos (show nI q < (4 : Int32) from nI_lt (b := 4) hq (by omega)), pu_inb (by omega) (by omega), pu_cl (by omega), h3, pu_letterIn h4 hq]
  rfl
/-! what is barred -/
/-- the word w of codes cd is barred behind t turns -/
def Bar (n p l s : Nat) (cd : Nat → Nat) (t w : Nat) : Prop := w < n ∧ pu_l (cd w) ((p + t) % 4) = (l + (p + t) / 4 * s) % 8
theorem Bar_32 {n p l s : Nat} {cd : Nat → Nat} (t w : Nat) : Bar n p l s cd (t + 32) w ↔ Bar n p l s cd t w := by
  unfold Bar
  rw [show (p + (t + 32)) % 4 = (p + t) % 4 by omega, show (p + (t + 32)) / 4 = (p + t) / 4 + 8 by omega, Nat.add_mul, show (l + ((p + t) / 4 * s + 8 * s)) % 8 = (l + (p + t) / 4 * s) % 8 by omega]
theorem Bar_mod {n p l s : Nat} {cd : Nat → Nat} (t w : Nat) : Bar n p l s cd (t % 32) w ↔ Bar n p l s cd t w := by
  have : ∀ k r, Bar n p l s cd (r + 32 * k) w ↔ Bar n p l s cd r w := by
    intro k
    induction k with
    | zero => intro r; exact Iff.rfl
    | succ k ih => intro r; rw [show r + 32 * (k + 1) = (r + 32 * k) + 32 by omega, Bar_32, ih]
  have h := this (t / 32) (t % 32)
  rw [Nat.mod_add_div] at h
  exact h.symm
theorem pu_rem4 (m : Nat) (h : m < 2 ^ 20) : nI m - nI m / (4 : Int32) * (4 : Int32) = nI (m % 4) := pk_rem (d := 4) (by omega) (by decide) (by decide)
theorem pu_barred_L {st : St} {n p l s r m : Nat} {cd : Nat → Nat} (h : Base st n p l s r cd) (hm : m < 2 ^ 20) (v : Nat) (hv : v < 8) : ∀ (d i f : Nat) (acc : Int32), i + d = n → d < f → ∃ y, fX2_barredAfter_L19 st (nI m) (nI v) f acc (nI i) = some y ∧ ∀ j, j < 32 → (bt y j = true ↔ (bt acc j = true ∨ ∃ w, i ≤ w ∧ w < n ∧ (pu_l (cd w) (m % 4) = v ∧ w = j))) := by
  have h1 := h.1
  have h2 := h.2.2.2.2.2.1
  intro d
  induction d with
  | zero =>
    intro i f acc hi hf
    obtain ⟨f, rfl, -⟩ := pu_fuel hf
    refine ⟨acc, ?_, fun j _ => ?_⟩
    · rw [fX2_barredAfter_L19, h1, if_pos (nI_le (a := n) (by omega) (by omega))]
    · rw [pu_ex0 (by omega), or_false]
  | succ d ih =>
    intro i f acc hi hf
    obtain ⟨f, rfl, hf⟩ := pu_fuel hf
    have hin : i < n := by omega
    obtain ⟨h3, h4⟩ := h.2.2.2.2.2.2.2.2.2.2 i hin
    rw [fX2_barredAfter_L19, h1, if_neg (nI_ge hin (by omega)), if_neg (show ¬ (24 : Int32) ≤ nI i from nI_ge (b := 24) (by omega) (by omega)), pu_inb (by omega) (by omega), pu_cl (by omega), h3, pu_rem4 m hm, pu_letterIn h4 (by omega)]
    simp only [bd, pl, ck, nI_1]
    have h8 := pu_l_lt (cd i) (m % 4)
    by_cases he : pu_l (cd i) (m % 4) = v
    · rw [if_pos (by rw [he])]
      obtain ⟨y, h5, h6⟩ := ih (i + 1) f (acc ||| ((1 : Int32) <<< (nI i &&& 31))) (by omega) (by omega)
      refine ⟨y, h5, fun j hj => ?_⟩
      rw [h6 j hj, pu_ex hin, b_or, pu_one (by omega) hj]
      simp only [Bool.or_eq_true, decide_eq_true_eq, he, true_and, or_assoc]
      rw [eq_comm (a := j)]
    · rw [if_neg (by rw [nI_eq (by omega) (by omega)]; exact he)]
      obtain ⟨y, h5, h6⟩ := ih (i + 1) f acc (by omega) (by omega)
      refine ⟨y, h5, fun j hj => ?_⟩
      rw [h6 j hj, pu_ex hin]
      simp only [he, false_and, false_or]
theorem pu_barred {st : St} {n p l s r t : Nat} {cd : Nat → Nat} (h : Base st n p l s r cd) (ht : t < 2 ^ 19) : ∃ y, fX2_barredAfter st (nI t) = some y ∧ ∀ j, j < 32 → (bt y j = true ↔ Bar n p l s cd t j) := by
  have hp := h.2.2.2.2.2.2.1
  have hn := h.2.2.2.2.2.1
  obtain ⟨y, h1, h2⟩ := pu_barred_L h (m := p + t) (by omega) ((l + (p + t) / 4 * s) % 8) (Nat.mod_lt _ (by decide)) n 0 1000 0 (by omega) (by omega)
  refine ⟨y, ?_, fun j hj => ?_⟩
  · unfold fX2_barredAfter
    rw [h.2.1, nI_add]
    simp only [pl]
    rw [pu_barLetter h (by omega)]
    show bd (fX2_barredAfter_L19 st (nI (p + t)) (nI ((l + (p + t) / 4 * s) % 8)) 1000 0 (nI 0)) (fun v => some v) = some y
    rw [h1]
    rfl
  · rw [h2 j hj, b_0]
    unfold Bar
    constructor
    · rintro (h3 | ⟨w, -, h4, h5, rfl⟩)
      · cases h3
      · exact ⟨h4, h5⟩
    · rintro ⟨h3, h4⟩
      exact Or.inr ⟨j, by omega, h3, h4, rfl⟩
theorem pu_isBarred {st : St} {n p l s r t w : Nat} {cd : Nat → Nat} (h : Base st n p l s r cd) (ht : t < 2 ^ 19) (hw : w < n) : ∃ y, fX2_isBarredAfter st (nI w) (nI t) = some y ∧ ((y = 1 ∧ Bar n p l s cd t w) ∨ (y = 0 ∧ ¬ Bar n p l s cd t w)) := by
  have hp := h.2.2.2.2.2.2.1
  unfold fX2_isBarredAfter
  rw [h.2.1, nI_add]
  simp only [pl]
  rw [pu_rem4 _ (by omega), pu_letterAt h hw (by omega), pu_barLetter h (by omega)]
  simp only [bd]
  have h8 := pu_l_lt (cd w) ((p + t) % 4)
  have h9 : (l + (p + t) / 4 * s) % 8 < 8 := Nat.mod_lt _ (by decide)
  by_cases e : pu_l (cd w) ((p + t) % 4) = (l + (p + t) / 4 * s) % 8
  · rw [if_pos (by rw [e])]
    exact ⟨1, rfl, Or.inl ⟨rfl, hw, e⟩⟩
  · rw [if_neg (by rw [nI_eq (by omega) (by omega)]; exact e)]
    exact ⟨0, rfl, Or.inr ⟨rfl, fun q => e q.2⟩⟩
end CLS
