section ADT
def dI (k : Nat) : Int32 := if k = 6 then -1 else nI k
def dl (what k c : Nat) : Nat := if k = 6 then 6 else if k = 0 then (if c = (if what = 1 then 44 else 59) then 5 else 6) else if k = 5 then (if what = 1 then (if 97 ≤ c ∧ c ≤ 104 then 3 else 6) else if c = 116 then 0 else if 48 ≤ c ∧ c < 51 then 4 else 6) else if 97 ≤ c ∧ c ≤ 104 then k - 1 else 6
set_option maxRecDepth 100000 in
theorem dl_due : ∀ what, what < 2 → ∀ k, k < 7 → ∀ c, c < 128 → fX3_dueAfter (dI k) (nI c) (nI what) = some (dI (dl what k c)) := by decide +kernel
theorem dl_lt {what k c : Nat} (h : k < 7) : dl what k c < 7 := by unfold dl; split <;> (try split) <;> (try split) <;> (try split) <;> (try split) <;> (try split) <;> omega
def dS (what : Nat) (c : Nat → Nat) : Nat → Nat
  | 0 => 5
  | i + 1 => dl what (dS what c i) (c i)
theorem dS_1 (what : Nat) (c : Nat → Nat) (i : Nat) : dS what c (i + 1) = dl what (dS what c i) (c i) := rfl
theorem dS_lt (what : Nat) (c : Nat → Nat) : ∀ i, dS what c i < 7
  | 0 => Nat.lt_of_sub_eq_succ rfl
  | i + 1 => dl_lt (dS_lt what c i)
theorem dS_dead {what : Nat} {c : Nat → Nat} {i : Nat} (h : dS what c i = 6) : ∀ d, dS what c (i + d) = 6
  | 0 => h
  | d + 1 => by
    rw [← Nat.add_assoc, dS_1, dS_dead h d]
    rfl
theorem dI_0 {k : Nat} (h : k < 7) : dI k = 0 ↔ k = 0 := (by decide +kernel : ∀ k, k < 7 → (dI k = 0 ↔ k = 0)) k h
theorem dl_letter {what k c : Nat} (h1 : 1 ≤ k) (h2 : k ≤ 4) : dl what k c = if 97 ≤ c ∧ c ≤ 104 then k - 1 else 6 := by
  unfold dl
  rw [if_neg (by omega), if_neg (by omega), if_neg (by omega)]
theorem dl_word {c : Nat} : dl 1 5 c = if 97 ≤ c ∧ c ≤ 104 then 3 else 6 := rfl
theorem dl_sep {what c : Nat} : dl what 0 c = if c = (if what = 1 then 44 else 59) then 5 else 6 := rfl
theorem dS_wlet {i : Nat} {c : Nat → Nat} (h : dS 1 c i = 5) : ∀ q, 1 ≤ q → q ≤ 4 → (∀ j, j < q → 97 ≤ c (i + j) ∧ c (i + j) ≤ 104) → dS 1 c (i + q) = 4 - q
  | 0, h0, _, _ => by omega
  | q + 1, h0, h1, h2 => by
    by_cases e : q = 0
    · subst e
      have : 97 ≤ c i ∧ c i ≤ 104 := h2 0 (by omega)
      show dS 1 c (i + 1) = 3
      rw [dS_1, h, dl_word, if_pos this]
    · have h3 := dS_wlet h q (by omega) (by omega) (fun j hj => h2 j (by omega))
      rw [← Nat.add_assoc, dS_1, h3, dl_letter (by omega) (by omega), if_pos (h2 q (by omega))]
      omega
def wcd (c : Nat → Nat) (i : Nat) : Nat → Nat
  | 0 => 0
  | k + 1 => 8 * wcd c i k + (c (i + k) - 97)
theorem wcd_lt {c : Nat → Nat} {i : Nat} : ∀ k, (∀ j, j < k → 97 ≤ c (i + j) ∧ c (i + j) ≤ 104) → wcd c i k < 8 ^ k
  | 0, _ => Nat.one_pos
  | k + 1, h => by
    have h1 := wcd_lt k (fun j hj => h j (by omega))
    have h2 := h k (by omega)
    rw [wcd, Nat.pow_succ]
    omega
/-- the buffer: len characters, told by c -/
def TX (tx : Tx) (len : Nat) (c : Nat → Nat) : Prop := len ≤ 60 ∧ Tx_length tx = nI len ∧ ∀ i, i < len → Tx_codes tx i = nI (c i) ∧ c i < 128
section TXS
variable {tx : Tx} {len : Nat} {c : Nat → Nat}
theorem tx_codeAt (h : TX tx len c) {i : Nat} (hi : i < len) : fX3_codeAt tx (nI i) = some (nI (c i)) := by
  obtain ⟨h1, h2, h3⟩ := h
  unfold fX3_codeAt
  rw [if_neg (nI_pos (by omega)), h2, if_neg (nI_ge hi (by omega)), if_neg (show ¬ (60 : Int32) ≤ nI i from nI_ge (b := 60) (by omega) (by omega)), pu_inb (by omega) (by decide), pu_cl (by omega), (h3 i hi).1]
  rfl
theorem tx_whole_L (h : TX tx len c) {what : Nat} (hw : what < 2) : ∀ (d i f : Nat), i + d = len → d < f → fX3_isWhole_L4 tx (nI what) f (dI (dS what c i)) (nI i) = some (dI (dS what c len)) := by
  intro d
  induction d with
  | zero =>
    intro i f hi hf
    obtain ⟨f, rfl, -⟩ := pu_fuel hf
    have : i = len := hi
    subst this
    rw [fX3_isWhole_L4, h.2.1, if_pos (nI_le (Nat.le_refl _) (by have := h.1; omega))]
  | succ d ih =>
    intro i f hi hf
    obtain ⟨f, rfl, hf⟩ := pu_fuel hf
    have hl := h.1
    have hc := h.2.2 i (by omega)
    rw [fX3_isWhole_L4, h.2.1, if_neg (nI_ge (by omega) (by omega)), tx_codeAt h (by omega), pu_bd, dl_due what hw _ (dS_lt _ _ _) _ (by omega), pu_bd, ← dS_1, pu_pl, nI_1]
    exact ih (i + 1) f (by omega) (by omega)
theorem tx_whole (h : TX tx len c) {what : Nat} (hw : what < 2) : fX3_isWhole tx (nI what) = some (if dS what c len = 0 then 1 else 0) := by
  have hl := h.1
  have e : fX3_isWhole_L4 tx (nI what) 1000 (5 : Int32) (0 : Int32) = some (dI (dS what c len)) := tx_whole_L h hw len 0 1000 (by omega) (by omega)
  unfold fX3_isWhole
  rw [e, pu_bd]
  by_cases q : dS what c len = 0
  · rw [if_pos ((dI_0 (dS_lt _ _ _)).mpr q), if_pos q]
  · rw [if_neg (fun z => q ((dI_0 (dS_lt _ _ _)).mp z)), if_neg q]
theorem tx_wc_L {i : Nat} (h : TX tx len c) (hi : i + 4 ≤ len) (hL : ∀ j, j < 4 → 97 ≤ c (i + j) ∧ c (i + j) ≤ 104) : ∀ (d k f : Nat), k + d = 4 → d < f → fX3_wordCode_L4 tx (nI i) f (nI (wcd c i k)) (nI k) = some (nI (wcd c i 4)) := by
  have hl := h.1
  intro d
  induction d with
  | zero =>
    intro k f hk hf
    obtain ⟨f, rfl, -⟩ := pu_fuel hf
    have : k = 4 := hk
    subst this
    rw [fX3_wordCode_L4, if_pos (show (4 : Int32) ≤ nI 4 from nI_le (a := 4) (by omega) (by omega))]
  | succ d ih =>
    intro k f hk hf
    obtain ⟨f, rfl, hf⟩ := pu_fuel hf
    have hw := wcd_lt (c := c) (i := i) k (fun j hj => hL j (by omega))
    have hw2 : 8 ^ k ≤ 8 ^ 4 := Nat.pow_le_pow_right (by decide) (by omega)
    have h1 := hL k (by omega)
    rw [fX3_wordCode_L4, if_neg (show ¬ (4 : Int32) ≤ nI k from nI_ge (b := 4) (by omega) (by omega)), nI_add, tx_codeAt h (by omega), pu_bd, pu_pl, pu_pl, nI_1]
    have e : (nI (wcd c i k) <<< ((3 : Int32) &&& 31)) ||| ((nI (c (i + k)) - (97 : Int32)) &&& (7 : Int32)) = nI (wcd c i (k + 1)) := by
      rw [pk_shlN _ 3 (by decide) (by omega), show nI (c (i + k)) - (97 : Int32) = nI (c (i + k) - 97) from pk_sub (b := 97) (by omega), pk_andN (by omega) 3 (by decide), Nat.mod_eq_of_lt (by omega), Nat.mul_comm, fa_or_sum _ (by omega), wcd]
    rw [e]
    exact ih (k + 1) f (by omega) (by omega)
theorem tx_wc {i : Nat} (h : TX tx len c) (hi : i + 4 ≤ len) (hL : ∀ j, j < 4 → 97 ≤ c (i + j) ∧ c (i + j) ≤ 104) : fX3_wordCode tx (nI i) = some (nI (wcd c i 4)) := by
  have e : fX3_wordCode_L4 tx (nI i) 1000 (0 : Int32) (0 : Int32) = some (nI (wcd c i 4)) := tx_wc_L h hi hL 4 0 1000 rfl (by decide)
  unfold fX3_wordCode
  rw [e, pu_bd]
end TXS
theorem tx_append {tx : Tx} {len : Nat} {c : Nat → Nat} (h : TX tx len c) (hl : len < 60) (hv : 33 ≤ c len ∧ c len ≤ 126) (is : Is) (wa : Wa) (st : St) (hi : Hi) : ∃ r tx', fL_append tx is wa st hi (nI (c len)) = some (r, tx') ∧ TX tx' (len + 1) c := by
  obtain ⟨h1, h2, h3⟩ := h
  refine ⟨nI (len + 1), Tx_set_length (Tx_set_codes tx (upd (Tx_codes tx) len (nI (c len)))) (nI (len + 1)), ?_, ⟨by omega, rfl, fun i hi => ?_⟩⟩
  · unfold fL_append fX5_append fX3_isFull fX3_take
    rw [if_neg (show ¬ nI (c len) < (33 : Int32) from nI_nlt (b := 33) (by omega) (by omega)), if_pos (show nI (c len) ≤ (126 : Int32) from nI_le (b := 126) (by omega) (by omega)), h2, if_pos (show nI len < (60 : Int32) from nI_lt (b := 60) hl (by omega)), pu_bd, if_pos rfl, if_neg (nI_pos (by omega)), if_neg (show ¬ (60 : Int32) ≤ nI len from nI_ge (b := 60) hl (by omega)), pu_inb hl (by decide), pu_cl (by omega), pu_ck, pu_pl, show Tx_length (Tx_set_codes tx (upd (Tx_codes tx) len (nI (c len)))) = nI len from h2, nI_1, pu_pl, pu_bd]
    rfl
  · show upd (Tx_codes tx) len (nI (c len)) i = _ ∧ _
    by_cases e : i = len
    · subst e; exact ⟨pk_us, by omega⟩
    · rw [pk_un e]; exact h3 i (by omega)
/-! what the law types: the words W 0 .. W K -/
def tc (W : Nat → Nat) (i : Nat) : Nat := if i % 5 = 4 then 44 else 97 + pu_l (W (i / 5)) (i % 5)
theorem tc_l {W : Nat → Nat} {k j : Nat} (hj : j < 4) : tc W (5 * k + j) = 97 + pu_l (W k) j := by
  unfold tc
  rw [if_neg (by omega), show (5 * k + j) / 5 = k by omega, show (5 * k + j) % 5 = j by omega]
theorem tc_s {W : Nat → Nat} {k : Nat} : tc W (5 * k + 4) = 44 := if_pos (by omega)
theorem tc_let {W : Nat → Nat} {k : Nat} : ∀ j, j < 4 → 97 ≤ tc W (5 * k + j) ∧ tc W (5 * k + j) ≤ 104 := fun j hj => by
  rw [tc_l hj]
  have := pu_l_lt (W k) j
  omega
theorem tc_lt (W : Nat → Nat) (i : Nat) : tc W i < 128 := by
  unfold tc
  split
  · omega
  · have := pu_l_lt (W (i / 5)) (i % 5); omega
theorem tc_dS (W : Nat → Nat) : ∀ k, dS 1 (tc W) (5 * k) = 5 ∧ dS 1 (tc W) (5 * k + 4) = 0 := by
  have step : ∀ k, dS 1 (tc W) (5 * k) = 5 → dS 1 (tc W) (5 * k + 4) = 0 := fun k h => dS_wlet h 4 (by decide) (by decide) tc_let
  intro k
  induction k with
  | zero => exact ⟨rfl, step 0 rfl⟩
  | succ k ih =>
    have h : dS 1 (tc W) (5 * (k + 1)) = 5 := by
      rw [show 5 * (k + 1) = 5 * k + 4 + 1 by omega, dS_1, ih.2, tc_s]
      decide
    exact ⟨h, step _ h⟩
theorem tc_wcd {W : Nat → Nat} {k : Nat} (h : W k < 4096) : wcd (tc W) (5 * k) 4 = W k := by
  rw [wcd, wcd, wcd, wcd, wcd, tc_l (by decide), tc_l (by decide), tc_l (by decide), tc_l (by decide)]
  unfold pu_l
  simp only [show 2 ^ (3 * (3 - 0)) = 512 from rfl, show 2 ^ (3 * (3 - 1)) = 64 from rfl, show 2 ^ (3 * (3 - 2)) = 8 from rfl, show 2 ^ (3 * (3 - 3)) = 1 from rfl]
  generalize W k = w at *
  have q1 : w / 8 / 8 = w / 64 := Nat.div_div_eq_div_mul _ _ _
  have q2 : w / 64 / 8 = w / 512 := Nat.div_div_eq_div_mul _ _ _
  omega
theorem low_bits {x : Int32} {n : Nat} (h : 0 < n) (hn : n < 2 ^ 31) : ∃ j, j < n ∧ fL_low x (nI n) = some (nI j) := lw_low x h hn
theorem lw_wordOf (a : Int32) (k : Nat) : ∃ c, c < 4096 ∧ fL_wordOf a (nI k) = some (nI c) := by
  unfold fL_wordOf
  rw [pu_pl]
  generalize (a / (7 : Int32)) + ((613 : Int32) * nI k) = v
  obtain ⟨j1, a1, a2⟩ := lw_low v (n := 3) (by decide) (by decide)
  obtain ⟨j2, b1, b2⟩ := lw_low (v >>> ((2 : Int32) &&& 31)) (n := 2) (by decide) (by decide)
  obtain ⟨j3, c1, c2⟩ := lw_low (v >>> ((3 : Int32) &&& 31)) (n := 4) (by decide) (by decide)
  obtain ⟨j4, d1, d2⟩ := lw_low (v >>> ((9 : Int32) &&& 31)) (n := 4) (by decide) (by decide)
  have a2' : fL_low v (3 : Int32) = some (nI j1) := a2
  have b2' : fL_low (v >>> ((2 : Int32) &&& 31)) (2 : Int32) = some (nI j2) := b2
  have c2' : fL_low (v >>> ((3 : Int32) &&& 31)) (4 : Int32) = some (nI j3) := c2
  have d2' : fL_low (v >>> ((9 : Int32) &&& 31)) (4 : Int32) = some (nI j4) := d2
  have last : ∃ j5, j5 < 8 ∧ (bd (if nI j4 = (0 : Int32) then some (8 : Int32) else some (2 : Int32)) fun (j6 : Int32) => fL_low (v >>> ((5 : Int32) &&& 31)) j6) = some (nI j5) := by
    by_cases e : nI j4 = (0 : Int32)
    · obtain ⟨j5, e1, e2⟩ := lw_low (v >>> ((5 : Int32) &&& 31)) (n := 8) (by decide) (by decide)
      rw [if_pos e, pu_bd]
      exact ⟨j5, e1, e2⟩
    · obtain ⟨j5, e1, e2⟩ := lw_low (v >>> ((5 : Int32) &&& 31)) (n := 2) (by decide) (by decide)
      rw [if_neg e, pu_bd]
      exact ⟨j5, by omega, e2⟩
  obtain ⟨j5, e1, e2⟩ := last
  obtain ⟨j6, f1, f2⟩ := bd_ex e2
  rw [a2', pu_bd, b2', pu_bd, c2', pu_bd, d2', pu_bd, f1, pu_bd, f2, pu_bd]
  refine ⟨512 * j1 + (64 * j2 + (8 * j3 + j5)), by omega, ?_⟩
  rw [pk_shlN _ 9 (by decide) (by omega), pk_shlN _ 6 (by decide) (by omega), pk_shlN _ 3 (by decide) (by omega)]
  rw [show j1 * 2 ^ 9 = 2 ^ 9 * j1 by omega, fa_or_sum (k := 9) j1 (by omega)]
  rw [show 2 ^ 9 * j1 + j2 * 2 ^ 6 = 2 ^ 6 * (8 * j1 + j2) by omega, fa_or_sum (k := 6) _ (by omega)]
  rw [show 2 ^ 6 * (8 * j1 + j2) + j3 * 2 ^ 3 = 2 ^ 3 * (64 * j1 + 8 * j2 + j3) by omega, fa_or_sum (k := 3) _ (by omega)]
  refine congrArg (fun z => some (nI z)) ?_
  omega
theorem words_of (a : Int32) : ∃ W : Nat → Nat, ∀ k, W k < 4096 ∧ fL_wordOf a (nI k) = some (nI (W k)) := Classical.axiomOfChoice (lw_wordOf a)
theorem adds_L37 {is : Is} {wa : Wa} {st : St} {hi : Hi} {W : Nat → Nat} {k : Nat} (hk : k < 5) (hW : W k < 4096) : ∀ (d j f : Nat) (tx : Tx), j + d = 4 → d < f → TX tx (5 * k + j) (tc W) → ∃ tx', fL_adds_L37 is wa st hi (nI (W k)) f (nI j) tx = some tx' ∧ TX tx' (5 * k + 4) (tc W) := by
  intro d
  induction d with
  | zero =>
    intro j f tx hj hf h
    obtain ⟨f, rfl, -⟩ := pu_fuel hf
    have : j = 4 := hj
    subst this
    exact ⟨tx, by rw [fL_adds_L37, if_pos (show (4 : Int32) ≤ nI 4 from nI_le (a := 4) (by omega) (by omega))], h⟩
  | succ d ih =>
    intro j f tx hj hf h
    obtain ⟨f, rfl, hf⟩ := pu_fuel hf
    obtain ⟨r, tx1, e1, e2⟩ := tx_append h (by omega) (by have := tc_let (W := W) (k := k) j (by omega); omega) is wa st hi
    rw [tc_l (by omega)] at e1
    have e97 : (97 : Int32) + nI (pu_l (W k) j) = nI (97 + pu_l (W k) j) := nI_add 97 _
    rw [fL_adds_L37, if_neg (show ¬ (4 : Int32) ≤ nI j from nI_ge (b := 4) (by omega) (by omega)), lw_letter hW (by omega), pu_bd, e97, e1, pu_bd2, pu_pl, nI_1]
    exact ih (j + 1) f tx1 (by omega) (by omega) e2
theorem adds_L7 {is : Is} {wa : Wa} {st : St} {hi : Hi} {W : Nat → Nat} {a b : Int32} {K : Nat} (hK : K < 5) (hb : fL_low b (5 : Int32) = some (nI K)) (hW : ∀ k, W k < 4096 ∧ fL_wordOf a (nI k) = some (nI (W k))) : ∀ (d k f : Nat) (tx : Tx), k + d = K + 1 → d < f → TX tx (5 * k - 1) (tc W) → ∃ tx', fL_adds_L7 is wa st hi a b f (nI k) tx = some tx' ∧ TX tx' (5 * K + 4) (tc W) := by
  intro d
  induction d with
  | zero =>
    intro k f tx hk hf h
    obtain ⟨f, rfl, -⟩ := pu_fuel hf
    have : k = K + 1 := hk
    subst this
    exact ⟨tx, by rw [fL_adds_L7, hb, pu_bd, if_pos (nI_lt (by omega) (by omega))], by rw [show 5 * (K + 1) - 1 = 5 * K + 4 by omega] at h; exact h⟩
  | succ d ih =>
    intro k f tx hk hf h
    obtain ⟨f, rfl, hf⟩ := pu_fuel hf
    rw [fL_adds_L7, hb, pu_bd, if_neg (nI_nlt (by omega) (by omega))]
    have sep : ∃ tx1, (if nI k ≤ (0 : Int32) then (some tx) else (bd2 (fL_append tx is wa st hi (44 : Int32)) fun (r21 : Int32) (tx22 : Tx) => (some tx22))) = some tx1 ∧ TX tx1 (5 * k + 0) (tc W) := by
      by_cases e : k = 0
      · subst e
        exact ⟨tx, by rw [if_pos (by decide)], h⟩
      · have e5 : 5 * k - 1 = 5 * (k - 1) + 4 := by omega
        obtain ⟨r, tx1, e1, e2⟩ := tx_append h (by omega) (by rw [e5, tc_s]; omega) is wa st hi
        rw [e5, tc_s] at e1
        have e1' : fL_append tx is wa st hi (44 : Int32) = some (r, tx1) := e1
        refine ⟨tx1, by rw [if_neg (nI_nle (by omega) (by omega)), e1', pu_bd2], ?_⟩
        rw [show 5 * k - 1 + 1 = 5 * k + 0 by omega] at e2
        exact e2
    obtain ⟨tx1, s1, s2⟩ := sep
    obtain ⟨tx2, t1, t2⟩ := adds_L37 (is := is) (wa := wa) (st := st) (hi := hi) (k := k) (by omega) (hW k).1 4 0 1000 tx1 rfl (by decide) s2
    have t1' : fL_adds_L37 is wa st hi (nI (W k)) 1000 (0 : Int32) tx1 = some tx2 := t1
    rw [s1, pu_bd, (hW k).2, pu_bd, t1', pu_bd, pu_pl, nI_1]
    exact ih (k + 1) f tx2 (by omega) (by omega) (by rw [show 5 * (k + 1) - 1 = 5 * k + 4 by omega]; exact t2)
theorem new_L {vq vw : AI} {n p l s r q : Nat} {cd : Nat → Nat} (h : LQ vq vw n p l s r cd) (hq : q < 4096) : ∀ (d i f : Nat) (b : Int32), i + d = n → d < f → ((b = 1 ∧ ∀ v, v < i → cd v ≠ q) ∨ (b = 0 ∧ ∃ v, v < i ∧ cd v = q)) → ∃ y, fL_due_L34 vq vw (nI q) f b (nI i) = some y ∧ ((y = 1 ∧ ∀ v, v < n → cd v ≠ q) ∨ (y = 0 ∧ ∃ v, v < n ∧ cd v = q)) := by
  have q0 := h.1
  have hn := h.2.2.2.2.2.1
  intro d
  induction d with
  | zero =>
    intro i f b hi hf hb
    obtain ⟨f, rfl, -⟩ := pu_fuel hf
    have : i = n := hi
    subst this
    exact ⟨b, by rw [fL_due_L34, z10_0, q0, if_pos (nI_le (Nat.le_refl _) (by omega))], hb⟩
  | succ d ih =>
    intro i f b hi hf hb
    obtain ⟨f, rfl, hf⟩ := pu_fuel hf
    have hin : i < n := by omega
    obtain ⟨ci, ci2⟩ := h.2.2.2.2.2.2.2.2.2.2 i hin
    rw [fL_due_L34, z10_0, q0, if_neg (nI_ge hin (by omega)), pu_inb (by omega) (by decide), pu_cl (by omega), ci]
    rcases hb with ⟨rfl, g⟩ | ⟨rfl, v, v1, v2⟩
    · rw [if_neg (show ¬ (1 : Int32) = 0 by decide), pu_ck]
      by_cases e : cd i = q
      · rw [if_pos (by rw [e]), pu_bd, pu_pl, nI_1]
        exact ih (i + 1) f 0 (by omega) (by omega) (Or.inr ⟨rfl, i, by omega, e⟩)
      · rw [if_neg (by rw [nI_eq (by omega) (by omega)]; exact e), pu_bd, pu_pl, nI_1]
        exact ih (i + 1) f 1 (by omega) (by omega) (Or.inl ⟨rfl, fun v hv => by
          by_cases e2 : v = i
          · rw [e2]; exact e
          · exact g v (by omega)⟩)
    · rw [if_pos rfl, pu_bd, pu_pl, nI_1]
      exact ih (i + 1) f 0 (by omega) (by omega) (Or.inr ⟨rfl, v, by omega, v2⟩)
theorem cs_take {st st' : St} {A : AI} {m n p l s r q : Nat} {cd : Nat → Nat} (h : CSx st A m n p l s r cd) (hq : q < 4096) (hn24 : n < 24) (hB' : Base st' (n + 1) p l s r (cd_add n q cd)) (hL' : Lks (St_links st') (n + 1) r (cd_add n q cd)) (hsame : ∃ C W L, st' = St_set_links (St_set_words (St_set_codes st C) W) L) : CSx st' (upd (upd A (31 + n) (nI q)) 0 (nI (n + 1))) m (n + 1) p l s r (cd_add n q cd) := by
  obtain ⟨C, W, L, rfl⟩ := hsame
  obtain ⟨hB, hL, hM, hC, h5, h6, la, sp, fa, dn, k1, k2, k3, k4, k5, k6, k7⟩ := h
  obtain ⟨a1, a2, a3, a4, a5, a6, a7, a8, a9, a10, a11⟩ := hM
  have hX : ∀ j, j ≠ 0 → j ≠ 31 + n → upd (upd A (31 + n) (nI q)) 0 (nI (n + 1)) j = A j := fun j z1 z2 => by rw [pk_un z1, pk_un z2]
  refine ⟨hB', hL', ?_, fun e he => ?_, ?_⟩
  · unfold MB
    rw [pk_us, hX 1 (by omega) (by omega), hX 2 (by omega) (by omega), hX 3 (by omega) (by omega), hX 4 (by omega) (by omega)]
    refine ⟨rfl, a2, a3, a4, a5, by omega, a7, a8, a9, a10, fun w hw => ?_⟩
    unfold cd_add
    by_cases e : w = n
    · subst e
      rw [pk_un (by omega), pk_us, if_pos rfl]
      exact ⟨rfl, hq⟩
    · rw [hX _ (by omega) (by omega), if_neg e]
      exact a11 w (by omega)
  · obtain ⟨c0, c1, c2, c3, c4, c5, c6, c7, c8⟩ := hC e he
    unfold Cl1
    rw [hX _ (by omega) (by omega), hX _ (by omega) (by omega), hX _ (by omega) (by omega), hX _ (by omega) (by omega), hX _ (by omega) (by omega), hX _ (by omega) (by omega), hX _ (by omega) (by omega)]
    refine ⟨c0, c1, c2, c3, c4, c5, c6, c7, ?_⟩
    rcases c8 with c8 | ⟨a, z, z1, z2, z3, z4, z5⟩
    · exact Or.inl c8
    · exact Or.inr ⟨a, z, by omega, by omega, z3, z4, z5⟩
  · refine ⟨?_, ?_, la, sp, fa, dn, k1, ?_, ?_, k4, ?_, k6, k7⟩
    · rw [hX _ (by omega) (by omega)]; exact h5
    · rw [hX _ (by omega) (by omega)]; exact h6
    · rw [hX _ (by omega) (by omega)]; exact k2
    · rw [hX _ (by omega) (by omega)]; exact k3
    · rw [hX _ (by omega) (by omega)]; exact k5
theorem add_L {tx : Tx} {W : Nat → Nat} {a b : Int32} {K n0 : Nat} {vc : AI} {m p l s r : Nat} (hK : K < 5) (hb : fL_low b (5 : Int32) = some (nI K)) (hW : ∀ k, W k < 4096 ∧ fL_wordOf a (nI k) = some (nI (W k))) (hT : TX tx (5 * K + 4) (tc W)) : ∀ (d k f g : Nat) (st : St) (vq vw : AI) (n : Nat) (cd : Nat → Nat), k + d = K + 1 → d < f → d < g → CSx st (AA vq vw vc) m n p l s r cd → n0 ≤ n → ∃ n' cd' st' vq' vw', fX5_takeInWords_L10 tx (nI n0) f (nI (5 * k)) st = some (nI (n' - n0), st') ∧ fL_due_L10 vc a b g (nI (n - n0)) (nI k) vq vw = some (nI (n' - n0), vq', vw', vc) ∧ CSx st' (AA vq' vw' vc) m n' p l s r cd' := by
  intro d
  induction d with
  | zero =>
    intro k f g st vq vw n cd hk hf hg h hn0
    obtain ⟨f, rfl, -⟩ := pu_fuel hf
    obtain ⟨g, rfl, -⟩ := pu_fuel hg
    have hn := h.1.2.2.2.2.2.1
    have : k = K + 1 := hk
    subst this
    refine ⟨n, cd, st, vq, vw, ?_, ?_, h⟩
    · rw [fX5_takeInWords_L10, hT.2.1, if_pos (nI_le (by omega) (by omega)), h.1.1, pk_sub hn0]
    · rw [fL_due_L10, hb, pu_bd, if_pos (nI_lt (by omega) (by omega))]
  | succ d ih =>
    intro k f g st vq vw n cd hk hf hg h hn0
    obtain ⟨f, rfl, hf⟩ := pu_fuel hf
    obtain ⟨g, rfl, hg⟩ := pu_fuel hg
    have hn := h.1.2.2.2.2.2.1
    have hQ := h.2.2.1.lq
    have q0 := hQ.1
    obtain ⟨w1, w2⟩ := hW k
    have ewc : fX3_wordCode tx (nI (5 * k)) = some (nI (W k)) := by
      have := tx_wc (i := 5 * k) hT (by omega) tc_let
      rwa [tc_wcd w1] at this
    have e5 : nI (5 * k) + (5 : Int32) = nI (5 * (k + 1)) := by rw [show (5 : Int32) = nI 5 from rfl, nI_add]; rfl
    obtain ⟨y, y1, y2⟩ := new_L hQ w1 n 0 1000 1 (by omega) (by omega) (Or.inl ⟨rfl, fun v hv => by omega⟩)
    have y1' : fL_due_L34 vq vw (nI (W k)) 1000 (1 : Int32) (0 : Int32) = some y := y1
    rw [fX5_takeInWords_L10, hT.2.1, if_neg (nI_ge (by omega) (by omega)), ewc, pu_bd]
    rw [fL_due_L10, hb, pu_bd, if_neg (nI_nlt (by omega) (by omega)), w2, pu_bd, y1', pu_bd, z10_0, q0]
    rcases pu_takeIn h.1 h.2.1 w1 with ⟨⟨v, v1, v2⟩, t1⟩ | ⟨t0, t24, t1⟩ | ⟨t0, t24, A', t1, t2, t3⟩
    · rcases y2 with ⟨rfl, z⟩ | ⟨rfl, z⟩
      · exact absurd v2 (z v v1)
      · rw [t1, pu_bd2, if_neg (by decide), pu_pl, e5, if_pos rfl, if_pos rfl, pu_bd3, pu_pl, nI_1]
        exact ih (k + 1) f g st vq vw n cd (by omega) (by omega) (by omega) h hn0
    · rcases y2 with ⟨rfl, z⟩ | ⟨rfl, z, z1, z2⟩
      · rw [t1, pu_bd2, if_pos rfl, if_neg (show ¬ (1 : Int32) = 0 by decide), if_pos (show nI n = (24 : Int32) by rw [t24]; rfl), h.1.1, pk_sub hn0]
        exact ⟨n, cd, st, vq, vw, rfl, rfl, h⟩
      · exact absurd z2 (t0 z z1)
    · rcases y2 with ⟨rfl, z⟩ | ⟨rfl, z, z1, z2⟩
      · rw [t1, pu_bd2, if_neg (by decide), pu_pl, e5, if_neg (show ¬ (1 : Int32) = 0 by decide), if_neg (show ¬ nI n = (24 : Int32) by rw [show (24 : Int32) = nI 24 from rfl, nI_eq (by omega) (by decide)]; omega), if_neg (show ¬ (1 : Int32) = 0 by decide), pu_inb t24 (by decide), pu_cl (by omega), pu_ck, pu_pl, i10_0, pu_ck, pu_pl, pu_pl, pu_bd3, pu_pl, nI_1, nI_1, nI_1]
        have h2 := cs_take h w1 t24 t3 t2 ⟨_, _, _, rfl⟩
        rw [← AA_uw, ← AA_uq (by decide)] at h2
        have := ih (k + 1) f g _ (upd vq 0 (nI (n + 1))) (upd vw n (nI (W k))) (n + 1) _ (by omega) (by omega) (by omega) h2 (by omega)
        rwa [show n + 1 - n0 = n - n0 + 1 by omega] at this
      · exact absurd z2 (t0 z z1)
theorem step_add {tx : Tx} {is : Is} {wa : Wa} {st : St} {hi : Hi} {vq vw vc vl : AI} {m n p l s r : Nat} {cd : Nat → Nat} (h : CSx st (AA vq vw vc) m n p l s r cd) (hh : HOK hi) (a b e : Int32) : StepR tx is wa st hi vq vw vc vl m 0 a b e := by
  obtain ⟨W, hW⟩ := words_of a
  obtain ⟨K, hK, hb⟩ := lw_low b (n := 5) (by decide) (by decide)
  have hb' : fL_low b (5 : Int32) = some (nI K) := hb
  have hn := h.1.2.2.2.2.2.1
  obtain ⟨tx1, t1, t2⟩ := adds_L7 (is := is) (wa := wa) (st := st) (hi := hi) hK hb' hW (K + 1) 0 1000 (Tx_set_length tx 0) (by omega) (by omega) ⟨by decide, rfl, fun i hi => by omega⟩
  have t1' : fL_adds_L7 is wa st hi a b 1000 (0 : Int32) (Tx_set_length tx 0) = some tx1 := t1
  obtain ⟨hi', q1, q2⟩ := hs1 (st := st) hh
  obtain ⟨n', cd', st', vq', vw', k1, k2, k3⟩ := add_L hK hb' hW t2 (K + 1) 0 1000 1000 st vq vw n cd (by omega) (by omega) (by omega) h (Nat.le_refl n)
  have k1' : fX5_takeInWords_L10 tx1 (nI n) 1000 (0 : Int32) st = some (nI (n' - n), st') := k1
  have k2' : fL_due_L10 vc a b 1000 (0 : Int32) (0 : Int32) vq vw = some (nI (n' - n), vq', vw', vc) := by
    have := k2
    rw [Nat.sub_self] at this
    exact this
  have hn' := k3.1.2.2.2.2.2.1
  have hw : fX3_isWhole tx1 (1 : Int32) = some 1 := by
    have := tx_whole t2 (what := 1) (by decide)
    rw [if_pos (tc_dS W K).2] at this
    exact this
  refine ⟨nI (n' - n), Tx_set_length tx1 0, wa, st', hi', vq', vw', vc, n', p, l, s, r, cd', ?_, ?_, k3.mono (by omega), q2.1, Or.inr ⟨ge100 (by omega), q2⟩⟩
  · unfold fL_call fL_adds fX5_clearBuffer fX3_empty fL_add fX5_add fX5_takeInWords fX3_empty
    rw [if_pos rfl, pu_pl, pu_pl, pu_bd, pu_bd2, t1', pu_bd, hw, pu_bd, if_neg (by decide), q1, pu_bd, pu_pl, h.1.1, k1', pu_bd2, pu_pl, pu_bd]
    rfl
  · unfold fL_due
    rw [if_pos rfl, k2']
end ADT
