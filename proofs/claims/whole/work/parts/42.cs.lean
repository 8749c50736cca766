section CSS
theorem tx_wc_L {tx : Tx} {mo : Mo} {len i : Nat} {c : Nat → Nat} (h : TB tx mo len c) (hi : i + 4 ≤ len) (hL : ∀ j, j < 4 → 97 ≤ c (i + j) ∧ c (i + j) ≤ 104) : ∀ (d k f : Nat), k + d = 4 → d < f → fX3_wordCode_L4 tx (nI i) f (nI (wcd c i k)) (nI k) = some (nI (wcd c i 4)) := by
  have hl := h.1
  intro d
  induction d with
  | zero =>
    intro k f hk hf
    obtain ⟨f, rfl, -⟩ := pu_fuel hf
    have : k = 4 := hk
    subst this
    rw [fX3_wordCode_L4, if_pos (show (4 : Int32) ≤ nI 4 from nI_le (a := 4) (by omega) (by omega))]
  | succ d ih =>
    intro k f hk hf
    obtain ⟨f, rfl, hf⟩ := pu_fuel hf
    have hw := wcd_lt (c := c) (i := i) k (fun j hj => hL j (by omega))
    have hw2 : 8 ^ k ≤ 8 ^ 4 := Nat.pow_le_pow_right (by decide) (by omega)
    have h1 := hL k (by omega)
    rw [fX3_wordCode_L4, if_neg (show ¬ (4 : Int32) ≤ nI k from nI_ge (b := 4) (by omega) (by omega)), nI_add, tx_codeAt h (by omega), pu_bd, pu_pl, pu_pl, nI_1]
    have e : (nI (wcd c i k) <<< ((3 : Int32) &&& 31)) ||| ((nI (c (i + k)) - (97 : Int32)) &&& (7 : Int32)) = nI (wcd c i (k + 1)) := by
      rw [pk_shlN _ 3 (by decide) (by omega), show nI (c (i + k)) - (97 : Int32) = nI (c (i + k) - 97) from pk_sub (b := 97) (by omega), pk_andN (by omega) 3 (by decide), Nat.mod_eq_of_lt (by omega), Nat.mul_comm, fa_or_sum _ (by omega), wcd]
    rw [e]
    exact ih (k + 1) f (by omega) (by omega)
theorem tx_wc {tx : Tx} {mo : Mo} {len i : Nat} {c : Nat → Nat} (h : TB tx mo len c) (hi : i + 4 ≤ len) (hL : ∀ j, j < 4 → 97 ≤ c (i + j) ∧ c (i + j) ≤ 104) : fX3_wordCode tx (nI i) = some (nI (wcd c i 4)) := by
  have e : fX3_wordCode_L4 tx (nI i) 1000 (0 : Int32) (0 : Int32) = some (nI (wcd c i 4)) := tx_wc_L h hi hL 4 0 1000 rfl (by decide)
  unfold fX3_wordCode
  rw [e, pu_bd]
theorem wcd4 {c : Nat → Nat} {i : Nat} (hL : ∀ j, j < 4 → 97 ≤ c (i + j) ∧ c (i + j) ≤ 104) : wcd c i 4 < 4096 := wcd_lt 4 hL
/-! the two states -/
def Cl1 (st : St) (A : AI) (n c : Nat) : Prop := A (10 + 7 * c + 0) = St_under st c ∧ A (10 + 7 * c + 1) = St_beginnings st c ∧ A (10 + 7 * c + 2) = St_ends st c ∧ A (10 + 7 * c + 3) = (if St_under st c = -1 then 0 else St_went st c) ∧ A (10 + 7 * c + 4) = St_steps st c ∧ A (10 + 7 * c + 5) = St_ladders st c ∧ A (10 + 7 * c + 6) = St_falls st c ∧ (St_went st c = 0 ∨ St_went st c = 1) ∧ (St_under st c = -1 ∨ ∃ a z, a < n ∧ z < n ∧ a ≠ z ∧ St_under st c = nI a ∧ St_ends st c = nI z)
def onk (st : St) (c k : Nat) : Nat := if St_under st c = -1 then 0 else k
def Cnt (st : St) (A : AI) (m : Nat) : Prop := A 5 = St_turns st ∧ A 6 = St_climbs st ∧ ∃ (la sp fa : Nat → Nat) (dn : Nat), (∀ c, c < 3 → St_ladders st c = nI (la c) ∧ St_steps st c = nI (sp c) ∧ St_falls st c = nI (fa c)) ∧ A 7 = nI (la 0 + la 1 + la 2) ∧ A 8 = nI (fa 0 + fa 1 + fa 2) ∧ St_ladderClimbs st = nI dn ∧ A 9 = nI dn ∧ la 0 + la 1 + la 2 ≤ dn ∧ dn + (onk st 0 (sp 0) + onk st 1 (sp 1) + onk st 2 (sp 2)) ≤ m
def CSx (st : St) (A : AI) (m n p l s r : Nat) (cd : Nat → Nat) : Prop := Base st n p l s r cd ∧ Lks (St_links st) n r cd ∧ MB A n p l s r cd ∧ (∀ c, c < 3 → Cl1 st A n c) ∧ Cnt st A m
def CS (st : St) (A : AI) (m : Nat) : Prop := ∃ n p l s r cd, CSx st A m n p l s r cd
theorem CS.cong {st : St} {A B : AI} {m : Nat} (h : CS st A m) (hAB : ∀ k, k < 55 → B k = A k) : CS st B m := by
  obtain ⟨n, p, l, s, r, cd, h1, h2, h3, h4, h5⟩ := h
  have hn := h1.2.2.2.2.2.1
  refine ⟨n, p, l, s, r, cd, h1, h2, ?_, fun c hc => ?_, ?_⟩
  · unfold MB
    rw [hAB 0 (by decide), hAB 1 (by decide), hAB 2 (by decide), hAB 3 (by decide), hAB 4 (by decide)]
    obtain ⟨a1, a2, a3, a4, a5, a6, a7, a8, a9, a10, a11⟩ := h3
    exact ⟨a1, a2, a3, a4, a5, a6, a7, a8, a9, a10, fun w hw => by rw [hAB (31 + w) (by omega)]; exact a11 w hw⟩
  · unfold Cl1
    rw [hAB (10 + 7 * c + 0) (by omega), hAB (10 + 7 * c + 1) (by omega), hAB (10 + 7 * c + 2) (by omega), hAB (10 + 7 * c + 3) (by omega), hAB (10 + 7 * c + 4) (by omega), hAB (10 + 7 * c + 5) (by omega), hAB (10 + 7 * c + 6) (by omega)]
    exact h4 c hc
  · unfold Cnt
    rw [hAB 5 (by decide), hAB 6 (by decide), hAB 7 (by decide), hAB 8 (by decide), hAB 9 (by decide)]
    exact h5
theorem Cnt.mono {st : St} {A : AI} {m k : Nat} (h : Cnt st A m) (hk : m ≤ k) : Cnt st A k := by
  obtain ⟨h1, h2, la, sp, fa, dn, h3, h4, h5, h6, h7, h8, h9⟩ := h
  exact ⟨h1, h2, la, sp, fa, dn, h3, h4, h5, h6, h7, h8, by omega⟩
theorem CS.mono {st : St} {A : AI} {m k : Nat} (h : CS st A m) (hk : m ≤ k) : CS st A k := by
  obtain ⟨n, p, l, s, r, cd, h1, h2, h3, h4, h5⟩ := h
  exact ⟨n, p, l, s, r, cd, h1, h2, h3, h4, h5.mono hk⟩
theorem pu_c3 {c : Nat} (h : c < 3) : c = 0 ∨ c = 1 ∨ c = 2 := by omega
theorem pu_clm {c : Nat} (h : c < 3) : fX5_isClimber (nI c) = some 1 := by
  unfold fX5_isClimber
  rw [if_neg (nI_pos (by omega)), if_neg (show ¬ (3 : Int32) ≤ nI c from nI_ge (b := 3) h (by omega))]
theorem pu_under {st : St} {c : Nat} (h : c < 3) : fX2_wordUnder st (nI c) = some (St_under st c) := by
  unfold fX2_wordUnder
  rw [pu_clm h, pu_bd, if_neg (by decide), pu_inb h (by decide), pu_cl (by omega)]
  rfl
theorem pu_fact3 {st : St} {c : Nat} (h : c < 3) : fX2_climberFact st (nI c) (3 : Int32) = some (if St_under st c = -1 then 0 else St_went st c) := by
  unfold fX2_climberFact
  rw [pu_clm h, pu_bd, if_neg (by decide), if_neg (by decide), if_neg (by decide), if_neg (by decide), if_pos rfl, pu_inb h (by decide), pu_cl (by omega)]
  simp only [pu_ck]
  split <;> rfl
theorem pu_con_L {st : St} {x : Int32} : ∀ (d i f : Nat), i + d = 3 → d < f → (∀ c, c < i → St_under st c ≠ x) → ∃ y, fX2_climberOn_L2 st x f (nI i) = some y ∧ ((∃ c, c < 3 ∧ St_under st c = x ∧ (∀ e, e < c → St_under st e ≠ x) ∧ y = nI c) ∨ ((∀ c, c < 3 → St_under st c ≠ x) ∧ y = -1)) := by
  intro d
  induction d with
  | zero =>
    intro i f hi hf g
    obtain ⟨f, rfl, -⟩ := pu_fuel hf
    refine ⟨-1, ?_, Or.inr ⟨fun c hc => g c (by omega), rfl⟩⟩
    rw [fX2_climberOn_L2, if_pos (show (3 : Int32) ≤ nI i from nI_le (a := 3) (by omega) (by omega))]
  | succ d ih =>
    intro i f hi hf g
    obtain ⟨f, rfl, hf⟩ := pu_fuel hf
    rw [fX2_climberOn_L2, if_neg (show ¬ (3 : Int32) ≤ nI i from nI_ge (b := 3) (by omega) (by omega)), pu_inb (by omega) (by decide), pu_cl (by omega), pu_ck]
    by_cases e : St_under st i = x
    · rw [if_pos e]
      exact ⟨_, rfl, Or.inl ⟨i, by omega, e, g, rfl⟩⟩
    · rw [if_neg e, pu_pl, nI_1]
      exact ih (i + 1) f (by omega) (by omega) (fun c hc => by
        by_cases q : c = i
        · rw [q]; exact e
        · exact g c (by omega))
theorem pu_con (st : St) (x : Int32) : ∃ y, fX2_climberOn st x = some y ∧ ((∃ c, c < 3 ∧ St_under st c = x ∧ (∀ e, e < c → St_under st e ≠ x) ∧ y = nI c) ∨ ((∀ c, c < 3 → St_under st c ≠ x) ∧ y = -1)) := pu_con_L 3 0 1000 rfl (by decide) (fun c hc => by omega)
theorem pm_con_L {mo : Mo} {st : St} {x : Int32} (h : ∀ c, c < 3 → Mo_state mo (10 + 7 * c + 0) = St_under st c) : ∀ (d i f : Nat), i + d = 3 → d < f → (∀ c, c < i → St_under st c ≠ x) → ∃ y, fX6_climberOn_L2 mo x f (nI i) = some y ∧ ((∃ c, c < 3 ∧ St_under st c = x ∧ (∀ e, e < c → St_under st e ≠ x) ∧ y = nI c) ∨ ((∀ c, c < 3 → St_under st c ≠ x) ∧ y = -1)) := by
  intro d
  induction d with
  | zero =>
    intro i f hi hf g
    obtain ⟨f, rfl, -⟩ := pu_fuel hf
    refine ⟨-1, ?_, Or.inr ⟨fun c hc => g c (by omega), rfl⟩⟩
    rw [fX6_climberOn_L2, if_pos (show (3 : Int32) ≤ nI i from nI_le (a := 3) (by omega) (by omega))]
  | succ d ih =>
    intro i f hi hf g
    obtain ⟨f, rfl, hf⟩ := pu_fuel hf
    have o : fX6_of mo (nI i) (0 : Int32) = some (St_under st i) := by rw [← h i (by omega)]; exact pm_of (k := 0) (by omega) (by decide)
    rw [fX6_climberOn_L2, if_neg (show ¬ (3 : Int32) ≤ nI i from nI_ge (b := 3) (by omega) (by omega)), o, pu_bd]
    by_cases e : St_under st i = x
    · rw [if_pos e]
      exact ⟨_, rfl, Or.inl ⟨i, by omega, e, g, rfl⟩⟩
    · rw [if_neg e, pu_pl, nI_1]
      exact ih (i + 1) f (by omega) (by omega) (fun c hc => by
        by_cases q : c = i
        · rw [q]; exact e
        · exact g c (by omega))
/-- who is on a word: both tell the same -/
theorem cs_con {mo : Mo} {st : St} (x : Int32) (h : ∀ c, c < 3 → Mo_state mo (10 + 7 * c + 0) = St_under st c) : ∃ y, fX2_climberOn st x = some y ∧ fX6_climberOn mo x = some y ∧ ((∃ c, c < 3 ∧ St_under st c = x ∧ y = nI c) ∨ ((∀ c, c < 3 → St_under st c ≠ x) ∧ y = -1)) := by
  obtain ⟨y, e1, e2⟩ := pu_con st x
  obtain ⟨z, f1, f2⟩ := pm_con_L (mo := mo) (x := x) h 3 0 1000 rfl (by decide) (fun c hc => by omega)
  have : y = z := by
    rcases e2 with ⟨c, a1, a2, a3, rfl⟩ | ⟨a1, rfl⟩ <;> rcases f2 with ⟨e, b1, b2, b3, rfl⟩ | ⟨b1, rfl⟩
    · have : c = e := by
        rcases Nat.lt_trichotomy c e with q | q | q
        · exact absurd a2 (b3 c q)
        · exact q
        · exact absurd b2 (a3 e q)
      rw [this]
    · exact absurd a2 (b1 c a1)
    · exact absurd b2 (a1 e b1)
    · rfl
  subst this
  refine ⟨y, e1, f1, ?_⟩
  rcases e2 with ⟨c, a1, a2, a3, a4⟩ | q
  · exact Or.inl ⟨c, a1, a2, a4⟩
  · exact Or.inr q
/-- why a climber can not go: both tell the same -/
theorem cs_why {st : St} {mo : Mo} {m n p l s r c w : Nat} {cd : Nat → Nat} (h : CSx st (Mo_state mo) m n p l s r cd) (hc : c < 3) (hw : w < n) : ∃ y mo', fX2_hindrance st (nI c) (nI w) = some y ∧ fX6_reason mo (nI c) (nI w) = some (y, mo') ∧ Same mo mo' ∧ (y = 0 → St_under st c ≠ -1) := by
  obtain ⟨hB, hL, hM, hC, -⟩ := h
  have hn := hB.2.2.2.2.2.1
  obtain ⟨c0, c1, c2, c3, c4, c5, c6, c7, c8⟩ := hC c hc
  have o0 : fX6_of mo (nI c) (0 : Int32) = some (St_under st c) := by rw [← c0]; exact pm_of (k := 0) hc (by decide)
  have o3 : fX6_of mo (nI c) (3 : Int32) = some (if St_under st c = -1 then 0 else St_went st c) := by rw [← c3]; exact pm_of (k := 3) hc (by decide)
  unfold fX2_hindrance fX6_reason
  rw [pu_under hc, o0, pu_bd, pu_bd, pu_fact3 hc, o3]
  by_cases e : St_under st c = -1
  · rw [if_pos e, if_pos e]
    exact ⟨1, mo, rfl, rfl, Same.refl mo, fun q => absurd q (by decide)⟩
  · rcases c8 with c8 | ⟨a, z, c8, c9, c10, c11, c12⟩
    · exact absurd c8 e
    · rw [if_neg e, if_neg e, if_neg e, pu_bd, pu_bd]
      by_cases e1 : St_went st c = 1
      · rw [if_pos e1, if_pos e1]
        exact ⟨2, mo, rfl, rfl, Same.refl mo, fun q => absurd q (by decide)⟩
      · rw [if_neg e1, if_neg e1, c11, pu_linksOf hB c8, pu_bd, pu_has (by omega), pu_bd]
        obtain ⟨y, f1, f2⟩ := pm_are hM c8 hw
        rw [f1, pu_bd]
        have hl := hL a w (by omega) (by omega)
        rcases f2 with ⟨rfl, k⟩ | ⟨rfl, k⟩
        · have hb := hl.mpr ⟨c8, hw, k⟩
          rw [hb, if_neg (show ¬ (if true = true then (1 : Int32) else 0) = 0 by decide), if_neg (show ¬ (1 : Int32) = 0 by decide)]
          obtain ⟨y, g1, g2⟩ := pu_isBarred hB (t := 0) (by decide) hw
          obtain ⟨y6, mo1, k1, k2, -, k4⟩ := pm_isBarred hM hw
          have g1' : fX2_isBarredAfter st (nI w) (0 : Int32) = some y := g1
          rw [g1', pu_bd, k1, pu_bd2]
          rcases g2 with ⟨rfl, q⟩ | ⟨rfl, q⟩ <;> rcases k4 with ⟨rfl, q2⟩ | ⟨rfl, q2⟩
          · rw [if_neg (by decide), if_neg (by decide)]
            exact ⟨4, mo1, rfl, rfl, k2, fun q => absurd q (by decide)⟩
          · exact absurd q q2
          · exact absurd q2 q
          · rw [if_pos (show (0 : Int32) = 0 from rfl), if_pos (show (0 : Int32) = 0 from rfl)]
            obtain ⟨y, m1, m2, m3⟩ := cs_con (mo := mo1) (st := st) (nI w) (fun c hc => by rw [k2.state]; exact (hC c hc).1)
            rw [m1, m2, pu_bd, pu_bd]
            by_cases e5 : y = -1
            · rw [if_pos e5, if_pos e5]
              exact ⟨0, mo1, rfl, rfl, k2, fun _ => by rw [← c11]; exact e⟩
            · rw [if_neg e5, if_neg e5]
              exact ⟨5, mo1, rfl, rfl, k2, fun q => absurd q (by decide)⟩
        · have hb : bt (St_links st a) w = false := by
            cases hb : bt (St_links st a) w
            · rfl
            · exact absurd (hl.mp hb).2.2 k
          rw [hb, if_pos (show (if false = true then (1 : Int32) else 0) = 0 by decide), if_pos (show (0 : Int32) = 0 from rfl)]
          exact ⟨3, mo, rfl, rfl, Same.refl mo, fun q => absurd q (by decide)⟩

theorem pm_o0 {mo : Mo} {A : AI} {c : Nat} (hc : c < 3) : fX6_of (Mo_set_state mo A) (nI c) (0 : Int32) = some (A (10 + 7 * c + 0)) := pm_of (mo := Mo_set_state mo A) (k := 0) hc (by decide)
theorem pm_s0 {mo : Mo} {A : AI} {c : Nat} {x : Int32} (hc : c < 3) : fX6_setOf (Mo_set_state mo A) (nI c) (0 : Int32) x = some (Mo_set_state mo (upd A (10 + 7 * c + 0) x)) := pm_setOf (mo := Mo_set_state mo A) (k := 0) hc (by decide)
theorem pm_o1 {mo : Mo} {A : AI} {c : Nat} (hc : c < 3) : fX6_of (Mo_set_state mo A) (nI c) (1 : Int32) = some (A (10 + 7 * c + 1)) := pm_of (mo := Mo_set_state mo A) (k := 1) hc (by decide)
theorem pm_s1 {mo : Mo} {A : AI} {c : Nat} {x : Int32} (hc : c < 3) : fX6_setOf (Mo_set_state mo A) (nI c) (1 : Int32) x = some (Mo_set_state mo (upd A (10 + 7 * c + 1) x)) := pm_setOf (mo := Mo_set_state mo A) (k := 1) hc (by decide)
theorem pm_o2 {mo : Mo} {A : AI} {c : Nat} (hc : c < 3) : fX6_of (Mo_set_state mo A) (nI c) (2 : Int32) = some (A (10 + 7 * c + 2)) := pm_of (mo := Mo_set_state mo A) (k := 2) hc (by decide)
theorem pm_s2 {mo : Mo} {A : AI} {c : Nat} {x : Int32} (hc : c < 3) : fX6_setOf (Mo_set_state mo A) (nI c) (2 : Int32) x = some (Mo_set_state mo (upd A (10 + 7 * c + 2) x)) := pm_setOf (mo := Mo_set_state mo A) (k := 2) hc (by decide)
theorem pm_o3 {mo : Mo} {A : AI} {c : Nat} (hc : c < 3) : fX6_of (Mo_set_state mo A) (nI c) (3 : Int32) = some (A (10 + 7 * c + 3)) := pm_of (mo := Mo_set_state mo A) (k := 3) hc (by decide)
theorem pm_s3 {mo : Mo} {A : AI} {c : Nat} {x : Int32} (hc : c < 3) : fX6_setOf (Mo_set_state mo A) (nI c) (3 : Int32) x = some (Mo_set_state mo (upd A (10 + 7 * c + 3) x)) := pm_setOf (mo := Mo_set_state mo A) (k := 3) hc (by decide)
theorem pm_o4 {mo : Mo} {A : AI} {c : Nat} (hc : c < 3) : fX6_of (Mo_set_state mo A) (nI c) (4 : Int32) = some (A (10 + 7 * c + 4)) := pm_of (mo := Mo_set_state mo A) (k := 4) hc (by decide)
theorem pm_s4 {mo : Mo} {A : AI} {c : Nat} {x : Int32} (hc : c < 3) : fX6_setOf (Mo_set_state mo A) (nI c) (4 : Int32) x = some (Mo_set_state mo (upd A (10 + 7 * c + 4) x)) := pm_setOf (mo := Mo_set_state mo A) (k := 4) hc (by decide)
theorem pm_o5 {mo : Mo} {A : AI} {c : Nat} (hc : c < 3) : fX6_of (Mo_set_state mo A) (nI c) (5 : Int32) = some (A (10 + 7 * c + 5)) := pm_of (mo := Mo_set_state mo A) (k := 5) hc (by decide)
theorem pm_s5 {mo : Mo} {A : AI} {c : Nat} {x : Int32} (hc : c < 3) : fX6_setOf (Mo_set_state mo A) (nI c) (5 : Int32) x = some (Mo_set_state mo (upd A (10 + 7 * c + 5) x)) := pm_setOf (mo := Mo_set_state mo A) (k := 5) hc (by decide)
theorem pm_o6 {mo : Mo} {A : AI} {c : Nat} (hc : c < 3) : fX6_of (Mo_set_state mo A) (nI c) (6 : Int32) = some (A (10 + 7 * c + 6)) := pm_of (mo := Mo_set_state mo A) (k := 6) hc (by decide)
theorem pm_s6 {mo : Mo} {A : AI} {c : Nat} {x : Int32} (hc : c < 3) : fX6_setOf (Mo_set_state mo A) (nI c) (6 : Int32) x = some (Mo_set_state mo (upd A (10 + 7 * c + 6) x)) := pm_setOf (mo := Mo_set_state mo A) (k := 6) hc (by decide)
end CSS

