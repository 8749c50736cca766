section CSS
def MB (A : AI) (n p l s r : Nat) (cd : Nat → Nat) : Prop := A 0 = nI n ∧ A 1 = nI p ∧ A 2 = nI l ∧ A 3 = nI s ∧ A 4 = nI r ∧ n ≤ 24 ∧ p < 4 ∧ l < 8 ∧ s < 8 ∧ r < 8 ∧ ∀ w, w < n → A (31 + w) = nI (cd w) ∧ cd w < 4096
theorem pu_tub_L {st : St} {n p l s r w : Nat} {cd : Nat → Nat} (h : Base st n p l s r cd) (hw : w < n) : ∀ (d t f : Nat), t + d = 32 → d < f → (∀ j, j < t → ¬ Bar n p l s cd j w) → ∃ y, fX2_turnsUntilBarred_L2 st (nI w) f (nI t) = some y ∧ Lst 32 (fun t => Bar n p l s cd t w) y := by
  intro d
  induction d with
  | zero =>
    intro t f ht hf g
    obtain ⟨f, rfl, -⟩ := pu_fuel hf
    refine ⟨-1, ?_, Or.inr ⟨fun j hj => g j (by omega), rfl⟩⟩
    rw [fX2_turnsUntilBarred_L2, if_pos (show (32 : Int32) ≤ nI t from nI_le (a := 32) (by omega) (by omega))]
  | succ d ih =>
    intro t f ht hf g
    obtain ⟨f, rfl, hf⟩ := pu_fuel hf
    obtain ⟨y, f1, f2⟩ := pu_isBarred h (t := t) (by omega) hw
    rw [fX2_turnsUntilBarred_L2, if_neg (show ¬ (32 : Int32) ≤ nI t from nI_ge (b := 32) (by omega) (by omega)), f1]
    simp only [pu_bd]
    rcases f2 with ⟨rfl, k⟩ | ⟨rfl, k⟩
    · rw [if_neg (by decide)]
      exact ⟨nI t, rfl, Or.inl ⟨t, by omega, k, g, rfl⟩⟩
    · rw [if_pos rfl]
      simp only [pu_pl, nI_1]
      exact ih (t + 1) f (by omega) (by omega) (fun j hj q => by
        by_cases e : j = t
        · subst e; exact k q
        · exact g j (by omega) q)
theorem pu_tub {st : St} {n p l s r w : Nat} {cd : Nat → Nat} (h : Base st n p l s r cd) (hw : w < n) : ∃ y, fX2_turnsUntilBarred st (nI w) = some y ∧ Lst 32 (fun t => Bar n p l s cd t w) y := pu_tub_L h hw 32 0 1000 rfl (by decide) (fun j hj => by omega)

/-! the law's numbers in one row: q, then c, then w -/
def AA (vq vw vc : AI) : AI := fun k => if k < 10 then vq k else if k < 31 then vc (k - 10) else vw (k - 31)
theorem AA_q {vq vw vc : AI} {k : Nat} (h : k < 10) : AA vq vw vc k = vq k := if_pos h
theorem AA_c {vq vw vc : AI} {k : Nat} (h : k < 21) : AA vq vw vc (10 + k) = vc k := by
  unfold AA
  rw [if_neg (by omega), if_pos (by omega), show 10 + k - 10 = k by omega]
theorem AA_c7 {vq vw vc : AI} {c k : Nat} (hc : c < 3) (hk : k < 7) : AA vq vw vc (10 + 7 * c + k) = vc (7 * c + k) := by
  rw [show 10 + 7 * c + k = 10 + (7 * c + k) by omega]
  exact AA_c (by omega)
theorem AA_w {vq vw vc : AI} (k : Nat) : AA vq vw vc (31 + k) = vw k := by
  unfold AA
  rw [if_neg (by omega), if_neg (by omega), show 31 + k - 31 = k by omega]
theorem AA_uq {vq vw vc : AI} {k : Nat} {x : Int32} (h : k < 10) : AA (upd vq k x) vw vc = upd (AA vq vw vc) k x := funext fun j => by
  by_cases e : j = k
  · subst e; rw [pk_us, AA_q h, pk_us]
  · rw [pk_un e]
    unfold AA
    rw [pk_un e]
theorem AA_uc {vq vw vc : AI} {k : Nat} {x : Int32} (h : k < 21) : AA vq vw (upd vc k x) = upd (AA vq vw vc) (10 + k) x := funext fun j => by
  by_cases e : j = 10 + k
  · subst e; rw [pk_us, AA_c h, pk_us]
  · rw [pk_un e]
    unfold AA
    by_cases a : j < 10
    · rw [if_pos a, if_pos a]
    · rw [if_neg a, if_neg a]
      by_cases b : j < 31
      · rw [if_pos b, if_pos b, pk_un (by omega)]
      · rw [if_neg b, if_neg b]
theorem AA_uc7 {vq vw vc : AI} {c k : Nat} {x : Int32} (hc : c < 3) (hk : k < 7) : AA vq vw (upd vc (7 * c + k) x) = upd (AA vq vw vc) (10 + 7 * c + k) x := by
  rw [AA_uc (by omega), show 10 + (7 * c + k) = 10 + 7 * c + k by omega]
theorem AA_uw {vq vw vc : AI} {k : Nat} {x : Int32} : AA vq (upd vw k x) vc = upd (AA vq vw vc) (31 + k) x := funext fun j => by
  by_cases e : j = 31 + k
  · subst e; rw [pk_us, AA_w, pk_us]
  · rw [pk_un e]
    unfold AA
    by_cases a : j < 10
    · rw [if_pos a, if_pos a]
    · rw [if_neg a, if_neg a]
      by_cases b : j < 31
      · rw [if_pos b, if_pos b]
      · rw [if_neg b, if_neg b, pk_un (by omega)]
theorem MB.lq {vq vw vc : AI} {n p l s r : Nat} {cd : Nat → Nat} (h : MB (AA vq vw vc) n p l s r cd) : LQ vq vw n p l s r cd := by
  obtain ⟨a0, a1, a2, a3, a4, b1, b2, b3, b4, b5, b6⟩ := h
  rw [AA_q (by decide)] at a0 a1 a2 a3 a4
  exact ⟨a0, a1, a2, a3, a4, b1, b2, b3, b4, b5, fun w hw => by rw [← AA_w (vq := vq) (vw := vw) (vc := vc) w]; exact b6 w hw⟩
def Cl1 (st : St) (A : AI) (n c : Nat) : Prop := A (10 + 7 * c + 0) = St_under st c ∧ A (10 + 7 * c + 1) = St_beginnings st c ∧ A (10 + 7 * c + 2) = St_ends st c ∧ A (10 + 7 * c + 3) = (if St_under st c = -1 then 0 else St_went st c) ∧ A (10 + 7 * c + 4) = St_steps st c ∧ A (10 + 7 * c + 5) = St_ladders st c ∧ A (10 + 7 * c + 6) = St_falls st c ∧ (St_went st c = 0 ∨ St_went st c = 1) ∧ (St_under st c = -1 ∨ ∃ a z, a < n ∧ z < n ∧ a ≠ z ∧ St_under st c = nI a ∧ St_ends st c = nI z)
def onk (st : St) (c k : Nat) : Nat := if St_under st c = -1 then 0 else k
def Cnt (st : St) (A : AI) (m : Nat) : Prop := A 5 = St_turns st ∧ A 6 = St_climbs st ∧ ∃ (la sp fa : Nat → Nat) (dn : Nat), (∀ c, c < 3 → St_ladders st c = nI (la c) ∧ St_steps st c = nI (sp c) ∧ St_falls st c = nI (fa c)) ∧ A 7 = nI (la 0 + la 1 + la 2) ∧ A 8 = nI (fa 0 + fa 1 + fa 2) ∧ St_ladderClimbs st = nI dn ∧ A 9 = nI dn ∧ la 0 + la 1 + la 2 ≤ dn ∧ dn + (onk st 0 (sp 0) + onk st 1 (sp 1) + onk st 2 (sp 2)) ≤ m
def CSx (st : St) (A : AI) (m n p l s r : Nat) (cd : Nat → Nat) : Prop := Base st n p l s r cd ∧ Lks (St_links st) n r cd ∧ MB A n p l s r cd ∧ (∀ c, c < 3 → Cl1 st A n c) ∧ Cnt st A m
theorem Cnt.mono {st : St} {A : AI} {m k : Nat} (h : Cnt st A m) (hk : m ≤ k) : Cnt st A k := by
  obtain ⟨h1, h2, la, sp, fa, dn, h3, h4, h5, h6, h7, h8, h9⟩ := h
  exact ⟨h1, h2, la, sp, fa, dn, h3, h4, h5, h6, h7, h8, by omega⟩
theorem pu_c3 {c : Nat} (h : c < 3) : c = 0 ∨ c = 1 ∨ c = 2 := by omega
theorem pu_clm {c : Nat} (h : c < 3) : fX5_isClimber (nI c) = some 1 := by
  unfold fX5_isClimber
  rw [if_neg (nI_pos (by omega)), if_neg (show ¬ (3 : Int32) ≤ nI c from nI_ge (b := 3) h (by omega))]
theorem pu_under {st : St} {c : Nat} (h : c < 3) : fX2_wordUnder st (nI c) = some (St_under st c) := by
  unfold fX2_wordUnder
  rw [pu_clm h, pu_bd, if_neg (by decide), pu_inb h (by decide), pu_cl (by omega)]
  rfl
theorem pu_fact3 {st : St} {c : Nat} (h : c < 3) : fX2_climberFact st (nI c) (3 : Int32) = some (if St_under st c = -1 then 0 else St_went st c) := by
  unfold fX2_climberFact
  rw [pu_clm h, pu_bd, if_neg (by decide), if_neg (by decide), if_neg (by decide), if_neg (by decide), if_pos rfl, pu_inb h (by decide), pu_cl (by omega)]
  simp only [pu_ck]
  split <;> rfl
theorem pu_con_L {st : St} {x : Int32} : ∀ (d i f : Nat), i + d = 3 → d < f → (∀ c, c < i → St_under st c ≠ x) → ∃ y, fX2_climberOn_L2 st x f (nI i) = some y ∧ ((∃ c, c < 3 ∧ St_under st c = x ∧ (∀ e, e < c → St_under st e ≠ x) ∧ y = nI c) ∨ ((∀ c, c < 3 → St_under st c ≠ x) ∧ y = -1)) := by
  intro d
  induction d with
  | zero =>
    intro i f hi hf g
    obtain ⟨f, rfl, -⟩ := pu_fuel hf
    refine ⟨-1, ?_, Or.inr ⟨fun c hc => g c (by omega), rfl⟩⟩
    rw [fX2_climberOn_L2, if_pos (show (3 : Int32) ≤ nI i from nI_le (a := 3) (by omega) (by omega))]
  | succ d ih =>
    intro i f hi hf g
    obtain ⟨f, rfl, hf⟩ := pu_fuel hf
    rw [fX2_climberOn_L2, if_neg (show ¬ (3 : Int32) ≤ nI i from nI_ge (b := 3) (by omega) (by omega)), pu_inb (by omega) (by decide), pu_cl (by omega), pu_ck]
    by_cases e : St_under st i = x
    · rw [if_pos e]
      exact ⟨_, rfl, Or.inl ⟨i, by omega, e, g, rfl⟩⟩
    · rw [if_neg e, pu_pl, nI_1]
      exact ih (i + 1) f (by omega) (by omega) (fun c hc => by
        by_cases q : c = i
        · rw [q]; exact e
        · exact g c (by omega))
theorem pu_con (st : St) (x : Int32) : ∃ y, fX2_climberOn st x = some y ∧ ((∃ c, c < 3 ∧ St_under st c = x ∧ (∀ e, e < c → St_under st e ≠ x) ∧ y = nI c) ∨ ((∀ c, c < 3 → St_under st c ≠ x) ∧ y = -1)) := pu_con_L 3 0 1000 rfl (by decide) (fun c hc => by omega)
end CSS
section MOV
def S3 (f : Nat → Nat) : Nat := f 0 + f 1 + f 2
theorem S3_upd (f : Nat → Nat) {c : Nat} (hc : c < 3) (v : Nat) : S3 (fun e => if e = c then v else f e) + f c = S3 f + v := by
  unfold S3
  rcases pu_c3 hc with rfl | rfl | rfl
  · simp; omega
  · simp; omega
  · simp; omega
theorem S3_cong {f g : Nat → Nat} (h : ∀ e, e < 3 → f e = g e) : S3 f = S3 g := by
  unfold S3
  rw [h 0 (by decide), h 1 (by decide), h 2 (by decide)]
theorem S3_part (f : Nat → Nat) {c : Nat} (hc : c < 3) : f c ≤ S3 f := by
  unfold S3
  rcases pu_c3 hc with rfl | rfl | rfl <;> omega
def Oth (st st' : St) (c : Nat) : Prop := ∀ e, e ≠ c → St_under st' e = St_under st e ∧ St_beginnings st' e = St_beginnings st e ∧ St_ends st' e = St_ends st e ∧ St_went st' e = St_went st e ∧ St_steps st' e = St_steps st e ∧ St_ladders st' e = St_ladders st e ∧ St_falls st' e = St_falls st e
def Otha (A A' : AI) (c : Nat) : Prop := ∀ k, (k < 5 ∨ 10 ≤ k) → (k < 10 + 7 * c ∨ 10 + 7 * c + 7 ≤ k) → A' k = A k
theorem Cl1.oth {st st' : St} {A A' : AI} {n c e : Nat} (h : Cl1 st A n e) (h1 : Oth st st' c) (h2 : Otha A A' c) (hec : e ≠ c) (he : e < 3) (hc : c < 3) : Cl1 st' A' n e := by
  obtain ⟨a1, a2, a3, a4, a5, a6, a7⟩ := h1 e hec
  unfold Cl1
  rw [a1, a2, a3, a4, a5, a6, a7, h2 (10 + 7 * e + 0) (by omega) (by omega), h2 (10 + 7 * e + 1) (by omega) (by omega), h2 (10 + 7 * e + 2) (by omega) (by omega), h2 (10 + 7 * e + 3) (by omega) (by omega), h2 (10 + 7 * e + 4) (by omega) (by omega), h2 (10 + 7 * e + 5) (by omega) (by omega), h2 (10 + 7 * e + 6) (by omega) (by omega)]
  exact h
theorem MB.cong {A B : AI} {n p l s r : Nat} {cd : Nat → Nat} (h : MB A n p l s r cd) (hAB : ∀ k, (k < 5 ∨ 31 ≤ k) → B k = A k) : MB B n p l s r cd := by
  unfold MB
  rw [hAB 0 (by omega), hAB 1 (by omega), hAB 2 (by omega), hAB 3 (by omega), hAB 4 (by omega)]
  obtain ⟨a1, a2, a3, a4, a5, a6, a7, a8, a9, a10, a11⟩ := h
  exact ⟨a1, a2, a3, a4, a5, a6, a7, a8, a9, a10, fun w hw => by rw [hAB (31 + w) (by omega)]; exact a11 w hw⟩
theorem CSx.put {st st' : St} {A A' : AI} {m m' n p l s r c : Nat} {cd : Nat → Nat} (h : CSx st A m n p l s r cd) (hc : c < 3) (hB : Base st' n p l s r cd) (hL : Lks (St_links st') n r cd) (h1 : Oth st st' c) (h2 : Otha A A' c) (h3 : Cl1 st' A' n c) (h4 : Cnt st' A' m') : CSx st' A' m' n p l s r cd :=
  ⟨hB, hL, h.2.2.1.cong (fun k hk => h2 k (by omega) (by omega)), fun e he => by
    by_cases q : e = c
    · subst q; exact h3
    · exact (h.2.2.2.1 e he).oth h1 h2 q he hc, h4⟩
theorem onk_on {st : St} {c k : Nat} (h : St_under st c ≠ -1) : onk st c k = k := if_neg h
theorem onk_off {st : St} {c k : Nat} (h : St_under st c = -1) : onk st c k = 0 := if_pos h
theorem onk_cong {st st' : St} {c k : Nat} (h : St_under st' c = St_under st c) : onk st' c k = onk st c k := by unfold onk; rw [h]
theorem mv_ends (st : St) (x y z : AI) (u : Int32) : St_ends (St_set_climbs (St_set_steps (St_set_went (St_set_under st x) y) z) u) = St_ends st := rfl
/-- places of the law's rows -/
theorem i21 {c k : Nat} (hc : c < 3) (hk : k < 7) : inb (((7 : Int32) * nI c) + nI k) 21 = true ∧ (((7 : Int32) * nI c) + nI k).toNatClampNeg = 7 * c + k := by
  rw [show ((7 : Int32) * nI c) + nI k = nI (7 * c + k) by rw [show (7 : Int32) = nI 7 from rfl, pk_mul, nI_add]]
  exact ⟨pu_inb (by omega) (by decide), pu_cl (by omega)⟩
theorem i21_0 {c : Nat} (hc : c < 3) : inb ((7 : Int32) * nI c) 21 = true ∧ ((7 : Int32) * nI c).toNatClampNeg = 7 * c + 0 := by
  rw [show (7 : Int32) * nI c = nI (7 * c + 0) by rw [show (7 : Int32) = nI 7 from rfl, pk_mul]; rfl]
  exact ⟨pu_inb (by omega) (by decide), pu_cl (by omega)⟩
theorem on_L {vc : AI} {x : Int32} : ∀ (d i f : Nat), i + d = 3 → d < f → (∀ c, c < i → vc (7 * c + 0) ≠ x) → ∃ y, fL_on_L2 vc x f (nI i) = some y ∧ ((∃ c, c < 3 ∧ vc (7 * c + 0) = x ∧ (∀ e, e < c → vc (7 * e + 0) ≠ x) ∧ y = nI c) ∨ ((∀ c, c < 3 → vc (7 * c + 0) ≠ x) ∧ y = -1)) := by
  intro d
  induction d with
  | zero =>
    intro i f hi hf g
    obtain ⟨f, rfl, -⟩ := pu_fuel hf
    refine ⟨-1, ?_, Or.inr ⟨fun c hc => g c (by omega), rfl⟩⟩
    rw [fL_on_L2, if_pos (show (3 : Int32) ≤ nI i from nI_le (a := 3) (by omega) (by omega))]
  | succ d ih =>
    intro i f hi hf g
    obtain ⟨f, rfl, hf⟩ := pu_fuel hf
    obtain ⟨i1, i2⟩ := i21_0 (c := i) (by omega)
    rw [fL_on_L2, if_neg (show ¬ (3 : Int32) ≤ nI i from nI_ge (b := 3) (by omega) (by omega)), i1, i2, pu_ck]
    by_cases e : vc (7 * i + 0) = x
    · rw [if_pos e]
      exact ⟨_, rfl, Or.inl ⟨i, by omega, e, g, rfl⟩⟩
    · rw [if_neg e, pu_pl, nI_1]
      exact ih (i + 1) f (by omega) (by omega) (fun c hc => by
        by_cases q : c = i
        · rw [q]; exact e
        · exact g c (by omega))
/-- who is on a word: both tell the same -/
theorem cs_con {vc : AI} {st : St} (x : Int32) (h : ∀ c, c < 3 → vc (7 * c + 0) = St_under st c) : ∃ y, fX2_climberOn st x = some y ∧ fL_on vc x = some y ∧ ((∃ c, c < 3 ∧ St_under st c = x ∧ y = nI c) ∨ ((∀ c, c < 3 → St_under st c ≠ x) ∧ y = -1)) := by
  obtain ⟨y, e1, e2⟩ := pu_con st x
  obtain ⟨z, f1, f2⟩ := on_L (vc := vc) (x := x) 3 0 1000 rfl (by decide) (fun c hc => by omega)
  have : y = z := by
    rcases e2 with ⟨c, a1, a2, a3, rfl⟩ | ⟨a1, rfl⟩ <;> rcases f2 with ⟨e, b1, b2, b3, rfl⟩ | ⟨b1, rfl⟩
    · have : c = e := by
        rcases Nat.lt_trichotomy c e with q | q | q
        · exact absurd ((h c a1).trans a2) (b3 c q)
        · exact q
        · exact absurd ((h e b1).symm.trans b2) (a3 e q)
      rw [this]
    · exact absurd ((h c a1).trans a2) (b1 c a1)
    · exact absurd ((h e b1).symm.trans b2) (a1 e b1)
    · rfl
  subst this
  refine ⟨y, e1, f1, ?_⟩
  rcases e2 with ⟨c, a1, a2, a3, a4⟩ | q
  · exact Or.inl ⟨c, a1, a2, a4⟩
  · exact Or.inr q
theorem cl_row {st : St} {vq vw vc : AI} {n c : Nat} (h : Cl1 st (AA vq vw vc) n c) (hc : c < 3) : vc (7 * c + 0) = St_under st c ∧ vc (7 * c + 1) = St_beginnings st c ∧ vc (7 * c + 2) = St_ends st c ∧ vc (7 * c + 3) = (if St_under st c = -1 then 0 else St_went st c) ∧ vc (7 * c + 4) = St_steps st c ∧ vc (7 * c + 5) = St_ladders st c ∧ vc (7 * c + 6) = St_falls st c := by
  obtain ⟨c0, c1, c2, c3, c4, c5, c6, -, -⟩ := h
  rw [AA_c7 hc (by decide)] at c0 c1 c2 c3 c4 c5 c6
  exact ⟨c0, c1, c2, c3, c4, c5, c6⟩
theorem m1_neg : ¬ (0 : Int32) ≤ -1 := by decide
/-- why a climber can not go: both tell the same -/
theorem cs_why {st : St} {vq vw vc : AI} {m n p l s r c w : Nat} {cd : Nat → Nat} (h : CSx st (AA vq vw vc) m n p l s r cd) (hc : c < 3) (hw : w < n) : ∃ y, fX2_hindrance st (nI c) (nI w) = some y ∧ fL_whyNot vq vw vc (nI c) (nI w) = some y ∧ (y = 0 → St_under st c ≠ -1) := by
  obtain ⟨hB, hL, hM, hC, -⟩ := h
  have hQ := hM.lq
  have hn := hB.2.2.2.2.2.1
  have hr := hB.2.2.2.2.2.2.2.2.2.1
  obtain ⟨c0, c1, c2, c3, c4, c5, c6⟩ := cl_row (hC c hc) hc
  have c8 := (hC c hc).2.2.2.2.2.2.2.2
  obtain ⟨i1, i2⟩ := i21_0 hc
  obtain ⟨j1, j2⟩ := i21 (k := 3) hc (by decide)
  have j1' : inb (((7 : Int32) * nI c) + (3 : Int32)) 21 = true := j1
  have j2' : (((7 : Int32) * nI c) + (3 : Int32)).toNatClampNeg = 7 * c + 3 := j2
  have q4 := hQ.2.2.2.2.1
  have hcd := hQ.2.2.2.2.2.2.2.2.2.2
  unfold fX2_hindrance fL_whyNot
  rw [pu_under hc, pu_bd, pu_fact3 hc, i1, i2, c0, pu_ck, pu_pl, j1', j2', c3, pu_ck]
  by_cases e : St_under st c = -1
  · rw [if_pos e, e, if_neg m1_neg, pu_bd]
    exact ⟨1, rfl, rfl, fun q => absurd q (by decide)⟩
  · rcases c8 with c8 | ⟨a, z, c8, c9, c10, c11, c12⟩
    · exact absurd c8 e
    · rw [if_neg e, if_neg e, pu_bd, if_pos (show (0 : Int32) ≤ St_under st c by rw [c11]; exact nI_pos' (by omega))]
      by_cases e1 : St_went st c = 1
      · rw [if_pos e1, if_pos e1, pu_bd]
        exact ⟨2, rfl, rfl, fun q => absurd q (by decide)⟩
      · rw [if_neg e1, if_neg e1, c11, pu_linksOf hB c8, pu_bd, pu_has (by omega), pu_bd, pu_inb (k := a) (by omega) (by decide), pu_cl (k := a) (by omega), pu_ck, pu_inb (k := w) (by omega) (by decide), pu_cl (k := w) (by omega), pu_ck, z10_4, q4, (hcd a c8).1, (hcd w hw).1]
        obtain ⟨y, f1, f2⟩ := lw_linked (hcd a c8).2 (hcd w hw).2 hr
        rw [f1, pu_bd]
        have hl := hL a w (by omega) (by omega)
        rcases f2 with ⟨rfl, k⟩ | ⟨rfl, k⟩
        · have hb := hl.mpr ⟨c8, hw, k⟩
          rw [hb, if_neg (show ¬ (if true = true then (1 : Int32) else 0) = 0 by decide), if_neg (show ¬ (1 : Int32) = 0 by decide), pu_ck]
          obtain ⟨y, g1, g2⟩ := pu_isBarred hB (t := 0) (by decide) hw
          obtain ⟨y6, k1, k4⟩ := lw_isBarred hQ hw (t := 0) (by decide)
          have g1' : fX2_isBarredAfter st (nI w) (0 : Int32) = some y := g1
          have k1' : fL_isBarred vq (nI (cd w)) (0 : Int32) = some y6 := k1
          rw [g1', pu_bd, k1', pu_bd]
          rcases g2 with ⟨rfl, q⟩ | ⟨rfl, q⟩ <;> rcases k4 with ⟨rfl, q2⟩ | ⟨rfl, q2⟩
          · rw [if_neg (by decide), if_neg (by decide), pu_bd]
            exact ⟨4, rfl, rfl, fun q => absurd q (by decide)⟩
          · exact absurd q q2
          · exact absurd q2 q
          · rw [if_pos (show (0 : Int32) = 0 from rfl), if_pos (show (0 : Int32) = 0 from rfl)]
            obtain ⟨y, m1, m2, m3⟩ := cs_con (vc := vc) (st := st) (nI w) (fun c hc => (cl_row (hC c hc) hc).1)
            rw [m1, m2, pu_bd, pu_bd]
            rcases m3 with ⟨c', m4, m5, rfl⟩ | ⟨m4, rfl⟩
            · rw [if_neg (pu_m1_ne (by omega)), if_neg (nI_pos (by omega)), pu_bd]
              exact ⟨5, rfl, rfl, fun q => absurd q (by decide)⟩
            · rw [if_pos rfl, if_pos (show (-1 : Int32) < 0 by decide), pu_bd]
              exact ⟨0, rfl, rfl, fun _ => by rw [← c11]; exact e⟩
        · have hb : bt (St_links st a) w = false := by
            cases hb : bt (St_links st a) w
            · rfl
            · exact absurd (hl.mp hb).2.2 k
          rw [hb, if_pos (show (if false = true then (1 : Int32) else 0) = 0 by decide), if_pos (show (0 : Int32) = 0 from rfl), pu_bd]
          exact ⟨3, rfl, rfl, fun q => absurd q (by decide)⟩
end MOV
