section CNT
theorem pm_island_L {mo : Mo} {n p l s r a : Nat} {cd : Nat → Nat} (h : MB (Mo_state mo) n p l s r cd) (hl : Lk6 (Mo_links mo) n r cd) (ha : a < n) : ∀ (d k f : Nat) (x m : Int32), k + d = 24 → d < f → (∀ j, j < 32 → (bt x j = true ↔ Rk (Kw n r cd) a k j)) → (∀ j, j < 32 → (bt m j = true ↔ Fk (Kw n r cd) a (k + 1) j)) → ∃ v, fX6_island_L14 mo f x m = some v ∧ ∀ j, j < 32 → (bt v j = true ↔ Cl (Kw n r cd) a j) := by
  have hn := h.2.2.2.2.2.1
  have hK : ∀ v w, Kw n r cd v w → w < n := fun v w q => q.2.1
  have stop : ∀ (k : Nat) (x m : Int32), m = 0 → (∀ j, j < 32 → (bt x j = true ↔ Rk (Kw n r cd) a k j)) → (∀ j, j < 32 → (bt m j = true ↔ Fk (Kw n r cd) a (k + 1) j)) → ∀ j, j < 32 → (bt x j = true ↔ Cl (Kw n r cd) a j) := by
    intro k x m hm hx hy j hj
    rw [hx j hj, Cl_stop (k := k) (fun w q => ?_)]
    have hw := Rk_lt ha hK (Fk_Rk q)
    have := (hy w (by omega)).mpr q
    rw [hm, b_0] at this
    cases this
  intro d
  induction d with
  | zero =>
    intro k f x m hk hf hx hm
    obtain ⟨f, rfl, -⟩ := pu_fuel hf
    have hm0 : m = 0 := pu_zero.mpr fun j hj => by
      cases hb : bt m j
      · rfl
      · have := Fk_many ha hK ⟨j, (hm j hj).mp hb⟩; omega
    refine ⟨x, ?_, stop k x m hm0 hx hm⟩
    rw [fX6_island_L14, if_pos hm0]
  | succ d ih =>
    intro k f x m hk hf hx hm
    obtain ⟨f, rfl, hf⟩ := pu_fuel hf
    rw [fX6_island_L14]
    by_cases hm0 : m = 0
    · rw [if_pos hm0]
      exact ⟨x, rfl, stop k x m hm0 hx hm⟩
    · have hx' : ∀ j, j < 32 → (bt (x ||| m) j = true ↔ Rk (Kw n r cd) a (k + 1) j) := fun j hj => by
        rw [Rk_Fk, ← hx j hj, ← hm j hj, b_or, Bool.or_eq_true]
      obtain ⟨y, e1, e2⟩ := pm_beside h hl hx'
      rw [if_neg hm0]
      simp only [pu_pl]
      rw [e1]
      simp only [pu_bd]
      refine ih (k + 1) f _ _ (by omega) (by omega) hx' (fun j hj => ?_)
      rw [Fk_1, Rk_1, b_and, pu_not _ hj, ← e2 j hj, ← hx' j hj]
      simp only [Bool.and_eq_true, Bool.not_eq_true']
      cases bt (x ||| m) j <;> simp
theorem pm_island {mo : Mo} {n p l s r a : Nat} {cd : Nat → Nat} (h : MB (Mo_state mo) n p l s r cd) (hl : Lk6 (Mo_links mo) n r cd) (ha : a < n) : ∃ v, fX6_island mo (nI a) = some v ∧ ∀ j, j < 32 → (bt v j = true ↔ Cl (Kw n r cd) a j) := by
  have hn := h.2.2.2.2.2.1
  have h0 : ∀ j, j < 32 → (bt ((1 : Int32) <<< (nI a &&& 31)) j = true ↔ Rk (Kw n r cd) a 0 j) := fun j hj => by
    rw [pu_one (by omega) hj, decide_eq_true_eq]
    exact Iff.rfl
  obtain ⟨y, e1, e2⟩ := pm_beside h hl h0
  obtain ⟨v, f1, f2⟩ := pm_island_L h hl ha 24 0 1000 ((1 : Int32) <<< (nI a &&& 31)) (y &&& (((1 : Int32) <<< (nI a &&& 31)) ^^^ (-1 : Int32))) rfl (by decide) h0 (fun j hj => by
    rw [Fk_1, Rk_1, b_and, pu_not _ hj, ← e2 j hj, ← h0 j hj]
    simp only [Bool.and_eq_true, Bool.not_eq_true']
    cases bt ((1 : Int32) <<< (nI a &&& 31)) j <;> simp)
  refine ⟨v, ?_, f2⟩
  unfold fX6_island
  simp only [pu_pl]
  rw [e1]
  simp only [pu_bd]
  rw [f1, pu_bd]
/-- the lowest of an island -/
theorem pu_lowCl {n r a : Nat} {cd : Nat → Nat} {x : Int32} (hn : n ≤ 24) (ha : a < n) (hx : ∀ j, j < 32 → (bt x j = true ↔ Cl (Kw n r cd) a j)) : ∃ k, k < 24 ∧ bt x k = true ∧ (∀ j, j < k → bt x j = false) ∧ Cl (Kw n r cd) a k ∧ ∀ j, j < k → ¬ Cl (Kw n r cd) a j := by
  obtain ⟨k, k1, k2⟩ := pk_least (fun k => Cl (Kw n r cd) a k) ⟨a, Cl_self⟩
  have hk := Cl_lt ha (fun v w q => q.2.1) k1
  refine ⟨k, by omega, (hx k (by omega)).mpr k1, fun j hj => ?_, k1, k2⟩
  cases hb : bt x j
  · rfl
  · exact absurd ((hx j (by omega)).mp hb) (k2 j hj)
theorem pm_islands_L {mo : Mo} {n p l s r : Nat} {cd : Nat → Nat} (h : MB (Mo_state mo) n p l s r cd) (hl : Lk6 (Mo_links mo) n r cd) {q : Nat → Bool} (hq : ∀ w, (q w = true ↔ First (Kw n r cd) w)) : ∀ (d w f : Nat), w + d = n → d < f → fX6_islands_L8 mo f (nI (fb_ct q w)) (nI w) = some (nI (fb_ct q n)) := by
  have hn := h.2.2.2.2.2.1
  intro d
  induction d with
  | zero =>
    intro w f hw hf
    obtain ⟨f, rfl, -⟩ := pu_fuel hf
    have : w = n := hw
    subst this
    rw [fX6_islands_L8, i55_0, c55_0, h.1]
    simp only [pu_ck]
    rw [if_pos (nI_le (Nat.le_refl w) (by omega))]
  | succ d ih =>
    intro w f hw hf
    obtain ⟨f, rfl, hf⟩ := pu_fuel hf
    have hwn : w < n := by omega
    obtain ⟨v, e1, e2⟩ := pm_island h hl hwn
    obtain ⟨k, k1, k2, k3, k4, k5⟩ := pu_lowCl hn hwn e2
    have e := ih (w + 1) f (by omega) (by omega)
    rw [fb_ct_succ] at e
    rw [fX6_islands_L8, i55_0, c55_0, h.1]
    simp only [pu_ck]
    rw [if_neg (nI_ge hwn (by omega)), e1]
    simp only [pu_bd]
    rw [pu_low6 (by omega) k2 k3]
    simp only [pu_bd]
    have hs : ∀ v w, Kw n r cd v w → Kw n r cd w v := fun v w q => Kw_symm q
    by_cases ek : k = w
    · have hqw : q w = true := (hq w).mpr (fun u hu q2 => k5 u (by omega) (Cl_symm hs q2))
      rw [hqw] at e
      rw [if_pos (by rw [ek])]
      simp only [pu_pl, nI_1]
      exact e
    · have hkw : k < w := by
        refine Nat.lt_of_not_le fun q2 => ?_
        exact k5 w (by omega) Cl_self
      have hqw : q w = false := by
        cases hc : q w
        · rfl
        · exact absurd (Cl_symm hs k4) ((hq w).mp hc k hkw)
      rw [hqw] at e
      rw [if_neg (by rw [nI_eq (by omega) (by omega)]; exact ek), show nI (fb_ct q w) + (0 : Int32) = nI (fb_ct q w + 0) from nI_add _ 0]
      simp only [pu_pl, nI_1]
      exact e
theorem pm_islands {mo : Mo} {n p l s r : Nat} {cd : Nat → Nat} (h : MB (Mo_state mo) n p l s r cd) : ∃ y mo', fX6_islands mo = some (y, mo') ∧ Same mo mo' ∧ IsCnt (Kw n r cd) n y := by
  have hn := h.2.2.2.2.2.1
  obtain ⟨A, e1, e2⟩ := pm_lay h
  obtain ⟨q, hq⟩ := First_q (Kw n r cd)
  have h1 : MB (Mo_state (Mo_set_links mo A)) n p l s r cd := h
  have h2 : Lk6 (Mo_links (Mo_set_links mo A)) n r cd := e2
  have f : fX6_islands_L8 (Mo_set_links mo A) 1000 (0 : Int32) (0 : Int32) = some (nI (fb_ct q n)) := pm_islands_L h1 h2 hq n 0 1000 (by omega) (by omega)
  refine ⟨nI (fb_ct q n), Mo_set_links mo A, ?_, Same_links mo A, q, fun w _ => hq w, rfl⟩
  unfold fX6_islands
  rw [e1, pu_bd, f, pu_bd]
/-! links told alone -/
theorem pm_plain_L {mo : Mo} {n p l s r a z : Nat} {cd : Nat → Nat} (h : MB (Mo_state mo) n p l s r cd) (hl : Lk6 (Mo_links mo) n r cd) (hz : z < n) : ∀ (d k f : Nat) (x : Int32), k + d = n → d < f → (∀ j, j < 32 → (bt x j = true ↔ Rk (Kw n r cd) a k j)) → (∀ j, j < k → ¬ Rk (Kw n r cd) a j z) → ∃ v, fX6_tellsPlain_L11 (nI z) mo f x (nI k) = some (v, mo) ∧ Lst n (fun k => Rk (Kw n r cd) a k z) v := by
  have hn := h.2.2.2.2.2.1
  intro d
  induction d with
  | zero =>
    intro k f x hk hf hx g
    obtain ⟨f, rfl, -⟩ := pu_fuel hf
    refine ⟨-1, ?_, Or.inr ⟨fun j hj => g j (by omega), rfl⟩⟩
    rw [fX6_tellsPlain_L11, i55_0, c55_0, h.1]
    simp only [pu_ck]
    rw [if_pos (nI_le (by omega) (by omega))]
  | succ d ih =>
    intro k f x hk hf hx g
    obtain ⟨f, rfl, hf⟩ := pu_fuel hf
    rw [fX6_tellsPlain_L11, i55_0, c55_0, h.1]
    simp only [pu_ck]
    rw [if_neg (nI_ge (by omega) (by omega)), pu_sh (by omega)]
    have hxz := hx z (by omega)
    cases hb : bt x z
    · rw [hb] at hxz
      rw [if_neg (show ¬ (if false = true then (1 : Int32) else 0) = 1 by decide)]
      obtain ⟨y, e1, e2⟩ := pm_beside h hl hx
      rw [e1]
      simp only [pu_bd, pu_pl, nI_1]
      refine ih (k + 1) f _ (by omega) (by omega) (fun j hj => ?_) (fun j hj q => ?_)
      · rw [Rk_1, ← hx j hj, ← e2 j hj, b_or, Bool.or_eq_true]
      · by_cases e : j = k
        · subst e; cases hxz.mpr q
        · exact g j (by omega) q
    · rw [if_pos (show (if true = true then (1 : Int32) else 0) = 1 by decide)]
      exact ⟨nI k, rfl, Or.inl ⟨k, by omega, hxz.mp hb, g, rfl⟩⟩
theorem pm_plain {mo : Mo} {n p l s r a z : Nat} {cd : Nat → Nat} (h : MB (Mo_state mo) n p l s r cd) (ha : a < n) (hz : z < n) : ∃ y mo', fX6_tellsPlain mo (nI a) (nI z) = some (y, mo') ∧ Same mo mo' ∧ Lst 24 (fun k => Rk (Kw n r cd) a k z) y := by
  have hn := h.2.2.2.2.2.1
  obtain ⟨A, e1, e2⟩ := pm_lay h
  have h1 : MB (Mo_state (Mo_set_links mo A)) n p l s r cd := h
  have h2 : Lk6 (Mo_links (Mo_set_links mo A)) n r cd := e2
  obtain ⟨v, f1, f2⟩ := pm_plain_L (a := a) h1 h2 hz n 0 1000 ((1 : Int32) <<< (nI a &&& 31)) (by omega) (by omega) (fun j hj => by
    rw [pu_one (by omega) hj, decide_eq_true_eq]
    exact Iff.rfl) (fun j hj => by omega)
  refine ⟨v, Mo_set_links mo A, ?_, Same_links mo A, Lst_cut hn f2 (fun k k1 k2 q => ?_)⟩
  · unfold fX6_tellsPlain
    rw [e1, pu_bd, pu_pl]
    exact f1
  · obtain ⟨j, j1, j2⟩ := Rk_first q
    have := Fk_many ha (fun v w q => q.2.1) ⟨z, j2⟩
    exact ⟨j, this, Fk_Rk j2⟩
/-! pairs -/
def IsPr (n r : Nat) (cd : Nat → Nat) (y : Int32) : Prop := ∃ A : AI, Lk6 A n r cd ∧ y = nI (fb_sm (fun w => Ct (A w)) n / 2)
theorem IsPr.uniq {n r : Nat} {cd : Nat → Nat} {x y : Int32} (h1 : IsPr n r cd x) (h2 : IsPr n r cd y) : x = y := by
  obtain ⟨A, a1, a2⟩ := h1
  obtain ⟨B, b1, b2⟩ := h2
  rw [a2, b2]
  refine congrArg (fun z => nI (z / 2)) (fb_sm_cong fun k hk => Ct_cong fun j hj => ?_)
  rw [a1 k j hk (by omega), b1 k j hk (by omega)]
theorem IsPr.small {n r : Nat} {cd : Nat → Nat} {x : Int32} (hn : n ≤ 24) (h : IsPr n r cd x) : ∃ k, k ≤ 288 ∧ x = nI k := by
  obtain ⟨A, a1, a2⟩ := h
  refine ⟨_, ?_, a2⟩
  have := fb_sm_bound (f := fun w => Ct (A w)) (c := 24) (n := n) (fun k _ => Ct_le _)
  have : n * 24 ≤ 24 * 24 := Nat.mul_le_mul_right _ hn
  omega
theorem Lks_6 {A : AI} {n r : Nat} {cd : Nat → Nat} (hn : n ≤ 24) (h : Lks A n r cd) : Lk6 A n r cd := fun u j hu hj => by
  rw [h u j (by omega) hj]
  exact ⟨fun q => q.2, fun q => ⟨hu, q⟩⟩
theorem Lks_hi {A : AI} {n r w : Nat} {cd : Nat → Nat} (hn : n ≤ 24) (hw : w < 24) (h : Lks A n r cd) : ∀ j, 24 ≤ j → j < 32 → bt (A w) j = false := fun j h1 h2 => by
  cases hb : bt (A w) j
  · rfl
  · have := ((h w j hw h2).mp hb).2.1; omega
theorem pu_pairs_L {st : St} {n r : Nat} {cd : Nat → Nat} (hn : n ≤ 24) (hl : Lks (St_links st) n r cd) : ∀ (d i f : Nat), i + d = 24 → d < f → fX2_linkedPairs_L4 st f (nI (fb_sm (fun w => Ct (St_links st w)) i)) (nI i) = some (nI (fb_sm (fun w => Ct (St_links st w)) 24)) := by
  intro d
  induction d with
  | zero =>
    intro i f hi hf
    obtain ⟨f, rfl, -⟩ := pu_fuel hf
    have : i = 24 := hi
    subst this
    rw [fX2_linkedPairs_L4, if_pos (show (24 : Int32) ≤ nI 24 from nI_le (a := 24) (by omega) (by omega))]
  | succ d ih =>
    intro i f hi hf
    obtain ⟨f, rfl, hf⟩ := pu_fuel hf
    rw [fX2_linkedPairs_L4, if_neg (show ¬ (24 : Int32) ≤ nI i from nI_ge (b := 24) (by omega) (by omega)), pu_inb (by omega) (by decide), pu_cl (by omega), pu_bc (Lks_hi hn (by omega) hl)]
    simp only [pu_ck, pu_bd, pu_pl, nI_1, nI_add]
    exact ih (i + 1) f (by omega) (by omega)
theorem pu_pairs {st : St} {n p l s r : Nat} {cd : Nat → Nat} (h : Base st n p l s r cd) (hl : Lks (St_links st) n r cd) : ∃ y, fX2_linkedPairs st = some y ∧ IsPr n r cd y := by
  have hn := h.2.2.2.2.2.1
  have e : fX2_linkedPairs_L4 st 1000 (0 : Int32) (0 : Int32) = some (nI (fb_sm (fun w => Ct (St_links st w)) 24)) := pu_pairs_L hn hl 24 0 1000 rfl (by decide)
  have hb := fb_sm_bound (f := fun w => Ct (St_links st w)) (c := 24) (n := 24) (fun k _ => Ct_le _)
  have hs : fb_sm (fun w => Ct (St_links st w)) 24 = fb_sm (fun w => Ct (St_links st w)) n := by
    have h1 := fb_sm_split (fun w => Ct (St_links st w)) n (24 - n)
    rw [show n + (24 - n) = 24 by omega] at h1
    have h2 := fb_sm_bound (f := fun k => Ct (St_links st (n + k))) (c := 0) (n := 24 - n) (fun k hk => by
      refine Nat.le_of_eq (fb_ct_zero.mpr fun j hj => ?_)
      cases hb : bt (St_links st (n + k)) j
      · rfl
      · have := ((hl (n + k) j (by omega) (by omega)).mp hb).1; omega)
    omega
  refine ⟨nI (fb_sm (fun w => Ct (St_links st w)) n / 2), ?_, St_links st, Lks_6 hn hl, rfl⟩
  unfold fX2_linkedPairs
  rw [e]
  simp only [pu_bd]
  rw [show (2 : Int32) = nI 2 from rfl, pk_div (by omega) (by decide) (by decide), hs]
theorem pm_pairs_L {mo : Mo} {n p l s r : Nat} {cd : Nat → Nat} (h : MB (Mo_state mo) n p l s r cd) : ∀ (d i f : Nat), i + d = n → d < f → fX6_linkedPairs_L8 mo f (nI (fb_sm (fun w => Ct (Mo_links mo w)) i)) (nI i) = some (nI (fb_sm (fun w => Ct (Mo_links mo w)) n)) := by
  have hn := h.2.2.2.2.2.1
  intro d
  induction d with
  | zero =>
    intro i f hi hf
    obtain ⟨f, rfl, -⟩ := pu_fuel hf
    have : i = n := hi
    subst this
    rw [fX6_linkedPairs_L8, i55_0, c55_0, h.1]
    simp only [pu_ck]
    rw [if_pos (nI_le (Nat.le_refl i) (by omega))]
  | succ d ih =>
    intro i f hi hf
    obtain ⟨f, rfl, hf⟩ := pu_fuel hf
    rw [fX6_linkedPairs_L8, i55_0, c55_0, h.1]
    simp only [pu_ck]
    rw [if_neg (nI_ge (by omega) (by omega)), pu_inb (by omega) (by decide), pu_cl (by omega), pu_ones]
    simp only [pu_ck, pu_bd, pu_pl, nI_1, nI_add]
    exact ih (i + 1) f (by omega) (by omega)
theorem pm_pairs {mo : Mo} {n p l s r : Nat} {cd : Nat → Nat} (h : MB (Mo_state mo) n p l s r cd) : ∃ y mo', fX6_linkedPairs mo = some (y, mo') ∧ Same mo mo' ∧ IsPr n r cd y := by
  have hn := h.2.2.2.2.2.1
  obtain ⟨A, e1, e2⟩ := pm_lay h
  have h1 : MB (Mo_state (Mo_set_links mo A)) n p l s r cd := h
  have f : fX6_linkedPairs_L8 (Mo_set_links mo A) 1000 (0 : Int32) (0 : Int32) = some (nI (fb_sm (fun w => Ct (A w)) n)) := pm_pairs_L h1 n 0 1000 (by omega) (by omega)
  have hb := fb_sm_bound (f := fun w => Ct (A w)) (c := 24) (n := n) (fun k _ => Ct_le _)
  have : n * 24 ≤ 24 * 24 := Nat.mul_le_mul_right _ hn
  refine ⟨nI (fb_sm (fun w => Ct (A w)) n / 2), Mo_set_links mo A, ?_, Same_links mo A, A, e2, rfl⟩
  unfold fX6_linkedPairs
  rw [e1, pu_bd, f, pu_bd, show (2 : Int32) = nI 2 from rfl, pk_div (by omega) (by decide) (by decide)]
/-! how many are barred now -/
theorem pu_bmany {st : St} {mo : Mo} {n p l s r : Nat} {cd : Nat → Nat} (h : Base st n p l s r cd) (h6 : MB (Mo_state mo) n p l s r cd) : ∃ x y mo', fX2_barredAfter st (0 : Int32) = some x ∧ fJ6_bitCount_0f7a4 x = some y ∧ fX6_barredMany mo = some (y, mo') ∧ Same mo mo' := by
  have hn := h.2.2.2.2.2.1
  obtain ⟨x, e1, e2⟩ := pu_barred h (t := 0) (by decide)
  obtain ⟨mo1, f1, f2, f3, f4⟩ := pm_barNow h6
  obtain ⟨b, g1, g2⟩ := pm_barred (mo := mo1) (by rw [f2.state]; exact h6) f4
  have hx : ∀ j, 24 ≤ j → j < 32 → bt x j = false := fun j h1 h2 => by
    cases hb : bt x j
    · rfl
    · have := ((e2 j h2).mp hb).1; omega
  refine ⟨x, _, mo1, e1, pu_bc hx, ?_, f2⟩
  unfold fX6_barredMany
  rw [f1]
  simp only [pu_bd]
  rw [g1]
  simp only [pu_bd]
  rw [pu_ones, pu_bd, Ct_cong (x := x) (y := b) (fun j hj => by rw [e2 j (by omega), g2 j (by omega)])]
end CNT
