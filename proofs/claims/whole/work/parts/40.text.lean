section TXT
/-! the buffer as both sides read it -/
def dI (k : Nat) : Int32 := if k = 6 then -1 else nI k
def isL (c : Nat) : Prop := 97 ≤ c ∧ c ≤ 104
def dl (what k c : Nat) : Nat := if k = 6 then 6 else if k = 0 then (if c = (if what = 1 then 44 else 59) then 5 else 6) else if k = 5 then (if what = 1 then (if 97 ≤ c ∧ c ≤ 104 then 3 else 6) else if c = 116 then 0 else if 48 ≤ c ∧ c < 51 then 4 else 6) else if 97 ≤ c ∧ c ≤ 104 then k - 1 else 6
set_option maxRecDepth 100000 in
theorem dl_due : ∀ what, what < 2 → ∀ k, k < 7 → ∀ c, c < 128 → fX3_dueAfter (dI k) (nI c) (nI what) = some (dI (dl what k c)) := by decide +kernel
theorem dl_lt {what k c : Nat} (h : k < 7) : dl what k c < 7 := by unfold dl; split <;> (try split) <;> (try split) <;> (try split) <;> (try split) <;> (try split) <;> omega
def dS (what : Nat) (c : Nat → Nat) : Nat → Nat
  | 0 => 5
  | i + 1 => dl what (dS what c i) (c i)
theorem dS_1 (what : Nat) (c : Nat → Nat) (i : Nat) : dS what c (i + 1) = dl what (dS what c i) (c i) := rfl
theorem dS_lt (what : Nat) (c : Nat → Nat) : ∀ i, dS what c i < 7
  | 0 => Nat.lt_of_sub_eq_succ rfl
  | i + 1 => dl_lt (dS_lt what c i)
theorem dS_dead {what : Nat} {c : Nat → Nat} {i : Nat} (h : dS what c i = 6) : ∀ d, dS what c (i + d) = 6
  | 0 => h
  | d + 1 => by
    rw [← Nat.add_assoc, dS_1, dS_dead h d]
    rfl
theorem dI_dead {k : Nat} (h : k < 7) : dI k = -1 ↔ k = 6 := (by decide +kernel : ∀ k, k < 7 → (dI k = -1 ↔ k = 6)) k h
theorem dI_0 {k : Nat} (h : k < 7) : dI k = 0 ↔ k = 0 := (by decide +kernel : ∀ k, k < 7 → (dI k = 0 ↔ k = 0)) k h
theorem dl_letter {what k c : Nat} (h1 : 1 ≤ k) (h2 : k ≤ 4) : dl what k c = if 97 ≤ c ∧ c ≤ 104 then k - 1 else 6 := by
  unfold dl
  rw [if_neg (by omega), if_neg (by omega), if_neg (by omega)]
theorem dl_word {c : Nat} : dl 1 5 c = if 97 ≤ c ∧ c ≤ 104 then 3 else 6 := rfl
theorem dl_climb {c : Nat} : dl 0 5 c = if c = 116 then 0 else if 48 ≤ c ∧ c < 51 then 4 else 6 := rfl
theorem dl_sep {what c : Nat} : dl what 0 c = if c = (if what = 1 then 44 else 59) then 5 else 6 := rfl
/-- the buffer of both sides -/
def TB (tx : Tx) (mo : Mo) (len : Nat) (c : Nat → Nat) : Prop := len ≤ 60 ∧ Tx_length tx = nI len ∧ Mo_length mo = nI len ∧ ∀ i, i < len → Tx_codes tx i = nI (c i) ∧ Mo_buffer mo i = nI (c i) ∧ 33 ≤ c i ∧ c i ≤ 126
section
variable {tx : Tx} {mo : Mo} {len : Nat} {c : Nat → Nat}
theorem tx_codeAt (h : TB tx mo len c) {i : Nat} (hi : i < len) : fX3_codeAt tx (nI i) = some (nI (c i)) := by
  obtain ⟨h1, h2, -, h3⟩ := h
  unfold fX3_codeAt
  rw [if_neg (nI_pos (by omega)), h2, if_neg (nI_ge hi (by omega)), if_neg (show ¬ (60 : Int32) ≤ nI i from nI_ge (b := 60) (by omega) (by omega)), pu_inb (by omega) (by decide), pu_cl (by omega), (h3 i hi).1]
  rfl
theorem tx_err_L (h : TB tx mo len c) {what : Nat} (hw : what < 2) : ∀ (d i f : Nat), i + d = len → d < f → (∀ j, j < i → dS what c (j + 1) ≠ 6) → ∃ y, fX3_errorIndex_L4 tx (nI what) f (dI (dS what c i)) (nI i) = some y ∧ ((∃ j, j < len ∧ dS what c (j + 1) = 6 ∧ (∀ i, i < j → dS what c (i + 1) ≠ 6) ∧ y = nI j) ∨ ((∀ j, j < len → dS what c (j + 1) ≠ 6) ∧ y = nI len)) := by
  intro d
  induction d with
  | zero =>
    intro i f hi hf g
    obtain ⟨f, rfl, -⟩ := pu_fuel hf
    refine ⟨nI len, ?_, Or.inr ⟨fun j hj => g j (by omega), rfl⟩⟩
    rw [fX3_errorIndex_L4, h.2.1, if_pos (nI_le (by omega) (by have := h.1; omega))]
  | succ d ih =>
    intro i f hi hf g
    obtain ⟨f, rfl, hf⟩ := pu_fuel hf
    have hl := h.1
    have hc := h.2.2.2 i (by omega)
    rw [fX3_errorIndex_L4, h.2.1, if_neg (nI_ge (by omega) (by omega)), tx_codeAt h (by omega), pu_bd, dl_due what hw _ (dS_lt _ _ _) _ (by omega), pu_bd, ← dS_1]
    by_cases e : dS what c (i + 1) = 6
    · rw [if_pos ((dI_dead (dS_lt _ _ _)).mpr e)]
      exact ⟨nI i, rfl, Or.inl ⟨i, by omega, e, g, rfl⟩⟩
    · rw [if_neg (fun q => e ((dI_dead (dS_lt _ _ _)).mp q)), pu_pl, nI_1]
      exact ih (i + 1) f (by omega) (by omega) (fun j hj => by
        by_cases e2 : j = i
        · subst e2; exact e
        · exact g j (by omega))
theorem tx_whole_L (h : TB tx mo len c) {what : Nat} (hw : what < 2) : ∀ (d i f : Nat), i + d = len → d < f → fX3_isWhole_L4 tx (nI what) f (dI (dS what c i)) (nI i) = some (dI (dS what c len)) := by
  intro d
  induction d with
  | zero =>
    intro i f hi hf
    obtain ⟨f, rfl, -⟩ := pu_fuel hf
    have : i = len := hi
    subst this
    rw [fX3_isWhole_L4, h.2.1, if_pos (nI_le (Nat.le_refl _) (by have := h.1; omega))]
  | succ d ih =>
    intro i f hi hf
    obtain ⟨f, rfl, hf⟩ := pu_fuel hf
    have hl := h.1
    have hc := h.2.2.2 i (by omega)
    rw [fX3_isWhole_L4, h.2.1, if_neg (nI_ge (by omega) (by omega)), tx_codeAt h (by omega), pu_bd, dl_due what hw _ (dS_lt _ _ _) _ (by omega), pu_bd, ← dS_1, pu_pl, nI_1]
    exact ih (i + 1) f (by omega) (by omega)
theorem tx_whole (h : TB tx mo len c) {what : Nat} (hw : what < 2) : fX3_isWhole tx (nI what) = some (if dS what c len = 0 then 1 else 0) := by
  have hl := h.1
  have e : fX3_isWhole_L4 tx (nI what) 1000 (5 : Int32) (0 : Int32) = some (dI (dS what c len)) := tx_whole_L h hw len 0 1000 (by omega) (by omega)
  unfold fX3_isWhole
  rw [e, pu_bd]
  by_cases q : dS what c len = 0
  · rw [if_pos ((dI_0 (dS_lt _ _ _)).mpr q), if_pos q]
  · rw [if_neg (fun z => q ((dI_0 (dS_lt _ _ _)).mp z)), if_neg q]
end
/-! the reference's reading -/
def Tsame (a b : Mo) : Prop := ∃ A C W, b = Mo_set_readWord (Mo_set_readClimber (Mo_set_at a A) C) W
theorem Tsame.refl (a : Mo) : Tsame a a := ⟨Mo_at a, Mo_readClimber a, Mo_readWord a, rfl⟩
theorem Tsame.trans {a b c : Mo} (h1 : Tsame a b) (h2 : Tsame b c) : Tsame a c := by
  obtain ⟨L, P, T, rfl⟩ := h1
  obtain ⟨L2, P2, T2, rfl⟩ := h2
  exact ⟨L2, P2, T2, rfl⟩
theorem Tsame_at (a : Mo) (A : Int32) : Tsame a (Mo_set_at a A) := ⟨A, Mo_readClimber a, Mo_readWord a, rfl⟩
theorem Tsame_rw (a : Mo) (W : Int32) : Tsame a (Mo_set_readWord a W) := ⟨Mo_at a, Mo_readClimber a, W, rfl⟩
theorem Tsame_rc (a : Mo) (C : Int32) : Tsame a (Mo_set_readClimber a C) := ⟨Mo_at a, C, Mo_readWord a, rfl⟩
theorem Tsame.state {a b : Mo} (h : Tsame a b) : Mo_state b = Mo_state a := by
  obtain ⟨L, P, T, rfl⟩ := h
  rfl
theorem Tsame.text {a b : Mo} (h : Tsame a b) : Mo_length b = Mo_length a ∧ Mo_buffer b = Mo_buffer a := by
  obtain ⟨L, P, T, rfl⟩ := h
  exact ⟨rfl, rfl⟩
/-- the reference's buffer alone -/
def MT (mo : Mo) (len : Nat) (c : Nat → Nat) : Prop := len ≤ 60 ∧ Mo_length mo = nI len ∧ ∀ i, i < len → Mo_buffer mo i = nI (c i) ∧ 33 ≤ c i ∧ c i ≤ 126
theorem TB.mt {tx : Tx} {mo : Mo} {len : Nat} {c : Nat → Nat} (h : TB tx mo len c) : MT mo len c := ⟨h.1, h.2.2.1, fun i hi => (h.2.2.2 i hi).2⟩
theorem MT.same {a b : Mo} {len : Nat} {c : Nat → Nat} (h : MT a len c) (hs : Tsame a b) : MT b len c := by
  obtain ⟨h1, h2⟩ := hs.text
  unfold MT
  rw [h1, h2]
  exact h
/-- the character at an index, 0 behind the end -/
def ch (len : Nat) (c : Nat → Nat) (i : Nat) : Nat := if i < len then c i else 0
theorem mt_next {mo : Mo} {len i : Nat} {c : Nat → Nat} (h : MT mo len c) (ha : Mo_at mo = nI i) (hi : i ≤ len) : fX6_next mo = some (nI (ch len c i)) := by
  have hl := h.1
  unfold fX6_next ch
  rw [h.2.1, ha]
  by_cases e : i < len
  · rw [if_neg (nI_ge e (by omega)), if_pos e, pu_inb (by omega) (by decide), pu_cl (by omega), (h.2.2 i e).1]
    rfl
  · rw [if_pos (nI_le (by omega) (by omega)), if_neg e]
    rfl
theorem ch_lt {mo : Mo} {len : Nat} {c : Nat → Nat} (h : MT mo len c) (i : Nat) : ch len c i < 128 := by
  unfold ch
  by_cases e : i < len
  · have := h.2.2 i e
    rw [if_pos e]; omega
  · rw [if_neg e]; omega
theorem mt_within {x : Nat} (hx : x < 128) (a b : Nat) (ha : a < 128) (hb : b < 128) : fX6_within (nI x) (nI a) (nI b) = some (if a ≤ x ∧ x ≤ b then 1 else 0) := by
  unfold fX6_within
  by_cases e1 : x < a
  · rw [if_pos (nI_lt e1 (by omega)), if_neg (by omega)]
  · rw [if_neg (nI_nlt (by omega) (by omega))]
    by_cases e2 : b < x
    · rw [if_pos (nI_lt e2 (by omega)), if_neg (by omega)]
    · rw [if_neg (nI_nlt (by omega) (by omega)), if_pos (by omega)]
/-- four letters from i on, as a number; k of them -/
def wcd (c : Nat → Nat) (i : Nat) : Nat → Nat
  | 0 => 0
  | k + 1 => 8 * wcd c i k + (c (i + k) - 97)
theorem wcd_lt {c : Nat → Nat} {i : Nat} : ∀ k, (∀ j, j < k → 97 ≤ c (i + j) ∧ c (i + j) ≤ 104) → wcd c i k < 8 ^ k
  | 0, _ => Nat.one_pos
  | k + 1, h => by
    have h1 := wcd_lt k (fun j hj => h j (by omega))
    have h2 := h k (by omega)
    rw [wcd, Nat.pow_succ]
    omega
theorem mt_letters_L {len i : Nat} {c : Nat → Nat} : ∀ (d k f : Nat) (mo : Mo), k + d = 4 → d < f → MT mo len c → Mo_at mo = nI (i + k) → i + k ≤ len → Mo_readWord mo = nI (wcd c i k) → (∀ j, j < k → 97 ≤ c (i + j) ∧ c (i + j) ≤ 104) → ∃ y mo', fX6_readsLetters_L7 f (nI k) mo = some (y, mo') ∧ Tsame mo mo' ∧ Mo_readClimber mo' = Mo_readClimber mo ∧ ((y = 1 ∧ i + 4 ≤ len ∧ (∀ j, j < 4 → 97 ≤ c (i + j) ∧ c (i + j) ≤ 104) ∧ Mo_at mo' = nI (i + 4) ∧ Mo_readWord mo' = nI (wcd c i 4)) ∨ (y = 0 ∧ ∃ q, q < 4 ∧ i + q ≤ len ∧ (∀ j, j < q → 97 ≤ c (i + j) ∧ c (i + j) ≤ 104) ∧ Mo_at mo' = nI (i + q) ∧ (i + q < len → ¬ (97 ≤ c (i + q) ∧ c (i + q) ≤ 104)))) := by
  intro d
  induction d with
  | zero =>
    intro k f mo hk hf h ha hi hr g
    obtain ⟨f, rfl, -⟩ := pu_fuel hf
    have : k = 4 := hk
    subst this
    refine ⟨1, mo, ?_, Tsame.refl mo, rfl, Or.inl ⟨rfl, hi, g, ha, hr⟩⟩
    rw [fX6_readsLetters_L7, if_pos (show (4 : Int32) ≤ nI 4 from nI_le (a := 4) (by omega) (by omega))]
  | succ d ih =>
    intro k f mo hk hf h ha hi hr g
    obtain ⟨f, rfl, hf⟩ := pu_fuel hf
    have hl := h.1
    have hx := ch_lt h (i + k)
    rw [fX6_readsLetters_L7, if_neg (show ¬ (4 : Int32) ≤ nI k from nI_ge (b := 4) (by omega) (by omega)), mt_next h ha hi, pu_bd, show fX6_within (nI (ch len c (i + k))) (97 : Int32) (104 : Int32) = _ from mt_within hx 97 104 (by decide) (by decide), pu_bd]
    by_cases e : 97 ≤ ch len c (i + k) ∧ ch len c (i + k) ≤ 104
    · rw [if_pos e, if_neg (show ¬ (1 : Int32) = 0 by decide), pu_bd]
      have e0 : i + k < len := by
        refine Nat.lt_of_not_le fun q => ?_
        unfold ch at e
        rw [if_neg (by omega)] at e
        omega
      have e1 : ch len c (i + k) = c (i + k) := if_pos e0
      rw [e1] at e ⊢
      have hw := wcd_lt (c := c) (i := i) k g
      have hw2 : 8 ^ k ≤ 8 ^ 4 := Nat.pow_le_pow_right (by decide) (by omega)
      rw [hr, pu_pl, pu_pl, pu_pl, nI_1]
      have hr' : ((8 : Int32) * nI (wcd c i k) + nI (c (i + k))) - (97 : Int32) = nI (wcd c i (k + 1)) := by
        rw [show (8 : Int32) = nI 8 from rfl, pk_mul, nI_add, show (97 : Int32) = nI 97 from rfl, pk_sub (by omega), wcd]
        exact congrArg nI (by omega)
      rw [hr', show Mo_at (Mo_set_readWord mo (nI (wcd c i (k + 1)))) = nI (i + k) from ha, nI_1]
      have s1 : Tsame mo (Mo_set_at (Mo_set_readWord mo (nI (wcd c i (k + 1)))) (nI (i + k + 1))) := (Tsame_rw mo _).trans (Tsame_at _ _)
      obtain ⟨y, mo', k1, k2, k3, k4⟩ := ih (k + 1) f _ (by omega) (by omega) (h.same s1) rfl (by omega) rfl (fun j hj => by
        by_cases e2 : j = k
        · subst e2; exact e
        · exact g j (by omega))
      exact ⟨y, mo', k1, s1.trans k2, k3, k4⟩
    · rw [if_neg e, if_pos (show (0 : Int32) = 0 from rfl)]
      refine ⟨0, mo, rfl, Tsame.refl mo, rfl, Or.inr ⟨rfl, k, by omega, hi, g, ha, fun q => ?_⟩⟩
      unfold ch at e
      rw [if_pos q] at e
      exact e
theorem mt_letters {mo : Mo} {len i : Nat} {c : Nat → Nat} (h : MT mo len c) (ha : Mo_at mo = nI i) (hi : i ≤ len) : ∃ y mo', fX6_readsLetters mo = some (y, mo') ∧ Tsame mo mo' ∧ Mo_readClimber mo' = Mo_readClimber mo ∧ ((y = 1 ∧ i + 4 ≤ len ∧ (∀ j, j < 4 → 97 ≤ c (i + j) ∧ c (i + j) ≤ 104) ∧ Mo_at mo' = nI (i + 4) ∧ Mo_readWord mo' = nI (wcd c i 4)) ∨ (y = 0 ∧ ∃ q, q < 4 ∧ i + q ≤ len ∧ (∀ j, j < q → 97 ≤ c (i + j) ∧ c (i + j) ≤ 104) ∧ Mo_at mo' = nI (i + q) ∧ (i + q < len → ¬ (97 ≤ c (i + q) ∧ c (i + q) ≤ 104)))) := by
  have s1 := Tsame_rw mo 0
  obtain ⟨y, mo', k1, k2, k3, k4⟩ := mt_letters_L (i := i) 4 0 1000 (Mo_set_readWord mo 0) rfl (by decide) (h.same s1) ha hi rfl (fun j hj => by omega)
  exact ⟨y, mo', k1, s1.trans k2, k3, k4⟩
end TXT
