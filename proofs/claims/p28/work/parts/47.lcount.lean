section CNT
def Lk6 (A : AI) (n r : Nat) (cd : Nat → Nat) : Prop := ∀ u j, u < n → j < 32 → (bt (A u) j = true ↔ j < n ∧ Lkc r (cd u) (cd j))
def IsPr (n r : Nat) (cd : Nat → Nat) (y : Int32) : Prop := ∃ A : AI, Lk6 A n r cd ∧ y = nI (fb_sm (fun w => Ct (A w)) n / 2)
theorem Lks_6 {A : AI} {n r : Nat} {cd : Nat → Nat} (hn : n ≤ 24) (h : Lks A n r cd) : Lk6 A n r cd := fun u j hu hj => by
  rw [h u j (by omega) hj]
  exact ⟨fun q => q.2, fun q => ⟨hu, q⟩⟩
theorem Lks_hi {A : AI} {n r w : Nat} {cd : Nat → Nat} (hn : n ≤ 24) (hw : w < 24) (h : Lks A n r cd) : ∀ j, 24 ≤ j → j < 32 → bt (A w) j = false := fun j h1 h2 => by
  cases hb : bt (A w) j
  · rfl
  · have := ((h w j hw h2).mp hb).2.1; omega
theorem pu_pairs_L {st : St} {n r : Nat} {cd : Nat → Nat} (hn : n ≤ 24) (hl : Lks (St_links st) n r cd) : ∀ (d i f : Nat), i + d = 24 → d < f → fX2_linkedPairs_L4 st f (nI (fb_sm (fun w => Ct (St_links st w)) i)) (nI i) = some (nI (fb_sm (fun w => Ct (St_links st w)) 24)) := by
  intro d
  induction d with
  | zero =>
    intro i f hi hf
    obtain ⟨f, rfl, -⟩ := pu_fuel hf
    have : i = 24 := hi
    subst this
    rw [fX2_linkedPairs_L4, if_pos (show (24 : Int32) ≤ nI 24 from nI_le (a := 24) (by omega) (by omega))]
  | succ d ih =>
    intro i f hi hf
    obtain ⟨f, rfl, hf⟩ := pu_fuel hf
    rw [fX2_linkedPairs_L4, if_neg (show ¬ (24 : Int32) ≤ nI i from nI_ge (b := 24) (by omega) (by omega)), pu_inb (by omega) (by decide), pu_cl (by omega), pu_bc (Lks_hi hn (by omega) hl)]
    simp only [pu_ck, pu_bd, pu_pl, nI_1, nI_add]
    exact ih (i + 1) f (by omega) (by omega)
theorem pu_pairs {st : St} {n p l s r : Nat} {cd : Nat → Nat} (h : Base st n p l s r cd) (hl : Lks (St_links st) n r cd) : ∃ y, fX2_linkedPairs st = some y ∧ IsPr n r cd y := by
  have hn := h.2.2.2.2.2.1
  have e : fX2_linkedPairs_L4 st 1000 (0 : Int32) (0 : Int32) = some (nI (fb_sm (fun w => Ct (St_links st w)) 24)) := pu_pairs_L hn hl 24 0 1000 rfl (by decide)
  have hb := fb_sm_bound (f := fun w => Ct (St_links st w)) (c := 24) (n := 24) (fun k _ => Ct_le _)
  have hs : fb_sm (fun w => Ct (St_links st w)) 24 = fb_sm (fun w => Ct (St_links st w)) n := by
    have h1 := fb_sm_split (fun w => Ct (St_links st w)) n (24 - n)
    rw [show n + (24 - n) = 24 by omega] at h1
    have h2 := fb_sm_bound (f := fun k => Ct (St_links st (n + k))) (c := 0) (n := 24 - n) (fun k hk => by
      refine Nat.le_of_eq (fb_ct_zero.mpr fun j hj => ?_)
      cases hb : bt (St_links st (n + k)) j
      · rfl
      · have := ((hl (n + k) j (by omega) (by omega)).mp hb).1; omega)
    omega
  refine ⟨nI (fb_sm (fun w => Ct (St_links st w)) n / 2), ?_, St_links st, Lks_6 hn hl, rfl⟩
  unfold fX2_linkedPairs
  rw [e]
  simp only [pu_bd]
  rw [show (2 : Int32) = nI 2 from rfl, pk_div (by omega) (by decide) (by decide), hs]
theorem sum3_L {st : St} {la : Nat → Nat} (h : ∀ c, c < 3 → St_ladders st c = nI (la c)) : ∀ (d i f : Nat), i + d = 3 → d < f → fX2_laddersSoFar_L4 st f (nI (fb_sm la i)) (nI i) = some (nI (fb_sm la 3)) := by
  intro d
  induction d with
  | zero =>
    intro i f hi hf
    obtain ⟨f, rfl, -⟩ := pu_fuel hf
    have : i = 3 := hi
    subst this
    rw [fX2_laddersSoFar_L4, if_pos (show (3 : Int32) ≤ nI 3 from nI_le (a := 3) (by omega) (by omega))]
  | succ d ih =>
    intro i f hi hf
    obtain ⟨f, rfl, hf⟩ := pu_fuel hf
    rw [fX2_laddersSoFar_L4, if_neg (show ¬ (3 : Int32) ≤ nI i from nI_ge (b := 3) (by omega) (by omega)), pu_inb (by omega) (by decide), pu_cl (by omega), h i (by omega), pu_ck, pu_pl, pu_pl, nI_1, nI_add]
    exact ih (i + 1) f (by omega) (by omega)
theorem sum3 {st : St} {la : Nat → Nat} (h : ∀ c, c < 3 → St_ladders st c = nI (la c)) : fX2_laddersSoFar st = some (nI (la 0 + la 1 + la 2)) := by
  unfold fX2_laddersSoFar
  have e : fX2_laddersSoFar_L4 st 1000 (0 : Int32) (0 : Int32) = some (nI (fb_sm la 3)) := sum3_L h 3 0 1000 rfl (by decide)
  rw [e, pu_bd]
  simp only [fb_sm, Nat.zero_add]
theorem sumf_L {st : St} {la : Nat → Nat} (h : ∀ c, c < 3 → St_falls st c = nI (la c)) : ∀ (d i f : Nat), i + d = 3 → d < f → fX2_fallsSoFar_L4 st f (nI (fb_sm la i)) (nI i) = some (nI (fb_sm la 3)) := by
  intro d
  induction d with
  | zero =>
    intro i f hi hf
    obtain ⟨f, rfl, -⟩ := pu_fuel hf
    have : i = 3 := hi
    subst this
    rw [fX2_fallsSoFar_L4, if_pos (show (3 : Int32) ≤ nI 3 from nI_le (a := 3) (by omega) (by omega))]
  | succ d ih =>
    intro i f hi hf
    obtain ⟨f, rfl, hf⟩ := pu_fuel hf
    rw [fX2_fallsSoFar_L4, if_neg (show ¬ (3 : Int32) ≤ nI i from nI_ge (b := 3) (by omega) (by omega)), pu_inb (by omega) (by decide), pu_cl (by omega), h i (by omega), pu_ck, pu_pl, pu_pl, nI_1, nI_add]
    exact ih (i + 1) f (by omega) (by omega)
theorem sumf {st : St} {la : Nat → Nat} (h : ∀ c, c < 3 → St_falls st c = nI (la c)) : fX2_fallsSoFar st = some (nI (la 0 + la 1 + la 2)) := by
  unfold fX2_fallsSoFar
  have e : fX2_fallsSoFar_L4 st 1000 (0 : Int32) (0 : Int32) = some (nI (fb_sm la 3)) := sumf_L h 3 0 1000 rfl (by decide)
  rw [e, pu_bd]
  simp only [fb_sm, Nat.zero_add]
theorem sumc_L {st : St} : ∀ (d i f : Nat), i + d = 3 → d < f → fX2_climbersOnWords_L4 st f (nI (fb_sm (fun c => if St_under st c = -1 then 0 else 1) i)) (nI i) = some (nI (fb_sm (fun c => if St_under st c = -1 then 0 else 1) 3)) := by
  intro d
  induction d with
  | zero =>
    intro i f hi hf
    obtain ⟨f, rfl, -⟩ := pu_fuel hf
    have : i = 3 := hi
    subst this
    rw [fX2_climbersOnWords_L4, if_pos (show (3 : Int32) ≤ nI 3 from nI_le (a := 3) (by omega) (by omega))]
  | succ d ih =>
    intro i f hi hf
    obtain ⟨f, rfl, hf⟩ := pu_fuel hf
    have e := ih (i + 1) f (by omega) (by omega)
    rw [fb_sm_succ] at e
    rw [fX2_climbersOnWords_L4, if_neg (show ¬ (3 : Int32) ≤ nI i from nI_ge (b := 3) (by omega) (by omega)), pu_inb (by omega) (by decide), pu_cl (by omega), pu_ck]
    by_cases q : St_under st i = -1
    · rw [if_pos q] at e ⊢
      rw [pu_pl, nI_1]
      exact e
    · rw [if_neg q] at e ⊢
      rw [pu_pl, pu_pl, nI_1, nI_1]
      exact e
/-! what is counted, as numbers -/
def lkb (r c e : Nat) : Bool := decide (pu_un c e 4 = 1 ∧ pu_fa c e 4 ≤ r)
theorem lkb_iff {r c e : Nat} : lkb r c e = true ↔ Lkc r c e := decide_eq_true_iff
def PR (n r : Nat) (cd : Nat → Nat) : Nat := fb_sm (fun a => fb_ct (fun b => lkb r (cd a) (cd b)) a) n
noncomputable def fsb (K : Nat → Nat → Prop) (w : Nat) : Bool := @decide (First K w) (Classical.propDecidable _)
theorem fsb_iff {K : Nat → Nat → Prop} {w : Nat} : fsb K w = true ↔ First K w := by
  unfold fsb
  exact @decide_eq_true_iff _ (Classical.propDecidable _)
noncomputable def IS (K : Nat → Nat → Prop) (n : Nat) : Nat := fb_ct (fsb K) n
noncomputable def brb (n p l s : Nat) (cd : Nat → Nat) (w : Nat) : Bool := @decide (Bar n p l s cd 0 w) (Classical.propDecidable _)
theorem brb_iff {n p l s w : Nat} {cd : Nat → Nat} : brb n p l s cd w = true ↔ Bar n p l s cd 0 w := by
  unfold brb
  exact @decide_eq_true_iff _ (Classical.propDecidable _)
noncomputable def BM (n p l s : Nat) (cd : Nat → Nat) : Nat := fb_ct (brb n p l s cd) n
def onW (st : St) : Nat := fb_sm (fun c => if St_under st c = -1 then 0 else 1) 3
theorem sm_ind (f : Nat → Bool) : ∀ n, fb_sm (fun a => if f a = true then 1 else 0) n = fb_ct f n
  | 0 => rfl
  | n + 1 => by
    rw [fb_sm_succ, fb_ct_succ, sm_ind f n]
theorem sm_twice (f : Nat → Nat → Bool) (hs : ∀ a b, f a b = f b a) (h0 : ∀ a, f a a = false) : ∀ n, fb_sm (fun a => fb_ct (f a) n) n = 2 * fb_sm (fun a => fb_ct (f a) a) n
  | 0 => rfl
  | n + 1 => by
    have e1 : fb_sm (fun a => fb_ct (f a) (n + 1)) n = fb_sm (fun a => fb_ct (f a) n) n + fb_ct (fun a => f a n) n := by
      rw [← sm_ind (fun a => f a n) n, ← fb_sm_add]
      exact fb_sm_cong fun k _ => fb_ct_succ (f k) n
    have e2 : fb_ct (fun a => f a n) n = fb_ct (f n) n := fb_ct_cong fun k _ => hs k n
    have e3 : fb_ct (f n) (n + 1) = fb_ct (f n) n := by
      rw [fb_ct_succ, h0 n]
      rfl
    rw [fb_sm_succ, fb_sm_succ, e1, e2, e3, sm_twice f hs h0 n]
    omega
theorem ct_n {x : Int32} {n : Nat} {f : Nat → Bool} (hn : n ≤ 24) (h : ∀ j, j < 32 → (bt x j = true ↔ j < n ∧ f j = true)) : Ct x = fb_ct f n := by
  unfold Ct
  have h1 := fb_ct_split (bt x) n (24 - n)
  rw [show n + (24 - n) = 24 by omega] at h1
  have h2 : fb_ct (fun k => bt x (n + k)) (24 - n) = 0 := fb_ct_zero.mpr fun k hk => by
    cases hb : bt x (n + k)
    · rfl
    · have := ((h (n + k) (by omega)).mp hb).1; omega
  have h3 : fb_ct (bt x) n = fb_ct f n := fb_ct_cong fun k hk => Bool.eq_iff_iff.mpr (by
    rw [h k (by omega)]
    exact ⟨fun q => q.2, fun q => ⟨hk, q⟩⟩)
  omega
theorem IsPr.val {n r : Nat} {cd : Nat → Nat} {y : Int32} (hn : n ≤ 24) (h : IsPr n r cd y) : y = nI (PR n r cd) := by
  obtain ⟨A, h1, rfl⟩ := h
  have e1 : fb_sm (fun w => Ct (A w)) n = fb_sm (fun a => fb_ct (fun b => lkb r (cd a) (cd b)) n) n := fb_sm_cong fun k hk => ct_n hn (fun j hj => by rw [h1 k j hk hj, lkb_iff])
  have e2 := sm_twice (fun a b => lkb r (cd a) (cd b)) (fun a b => Bool.eq_iff_iff.mpr (by rw [lkb_iff, lkb_iff, Lkc_comm])) (fun a => by
    cases hb : lkb r (cd a) (cd a)
    · rfl
    · exact absurd (lkb_iff.mp hb) (Lkc_self _ _)) n
  refine congrArg nI ?_
  unfold PR
  rw [e1, e2]
  omega
theorem IsCnt.val {K : Nat → Nat → Prop} {n : Nat} {y : Int32} (h : IsCnt K n y) : y = nI (IS K n) := by
  obtain ⟨q, h1, rfl⟩ := h
  refine congrArg nI (fb_ct_cong fun k hk => Bool.eq_iff_iff.mpr ?_)
  rw [h1 k hk, fsb_iff]
theorem PR_le {n r : Nat} {cd : Nat → Nat} (hn : n ≤ 24) : PR n r cd ≤ n * (n - 1) / 2 := by
  have e2 := sm_twice (fun a b => lkb r (cd a) (cd b)) (fun a b => Bool.eq_iff_iff.mpr (by rw [lkb_iff, lkb_iff, Lkc_comm])) (fun a => by
    cases hb : lkb r (cd a) (cd a)
    · rfl
    · exact absurd (lkb_iff.mp hb) (Lkc_self _ _)) n
  have e3 : fb_sm (fun a => fb_ct (fun b => lkb r (cd a) (cd b)) n) n ≤ n * (n - 1) := fb_sm_bound fun a ha => by
    have h3 : fb_ct (fun b => lkb r (cd a) (cd b)) n ≤ fb_ct (fun k => if k = a then false else true) n := fb_ct_sub fun k hk q => by
      by_cases e : k = a
      · subst e
        exact absurd (lkb_iff.mp q) (Lkc_self _ _)
      · exact if_neg e
    have h4 := fb_ct_upd (fun _ => true) false ha
    have h5 : fb_ct (fun _ => true) n = n := fb_ct_all.mpr fun _ _ => rfl
    rw [h5] at h4
    simp only [if_true, if_false, Bool.false_eq_true] at h4
    omega
  unfold PR
  omega
theorem climbing_v (st : St) : fX2_climbersOnWords st = some (nI (onW st)) := by
  have e1 : fX2_climbersOnWords_L4 st 1000 (0 : Int32) (0 : Int32) = some (nI (fb_sm (fun c => if St_under st c = -1 then 0 else 1) 3)) := sumc_L (st := st) 3 0 1000 rfl (by decide)
  unfold fX2_climbersOnWords
  rw [e1, pu_bd]
  rfl
theorem bars_v {st : St} {n p l s r : Nat} {cd : Nat → Nat} (h : Base st n p l s r cd) : ∃ x, fX2_barredAfter st (0 : Int32) = some x ∧ fJ6_bitCount_0f7a4 x = some (nI (BM n p l s cd)) := by
  have hn := h.2.2.2.2.2.1
  obtain ⟨x, e1, e2⟩ := pu_barred h (t := 0) (by decide)
  have hx : ∀ j, 24 ≤ j → j < 32 → bt x j = false := fun j h1 h2 => by
    cases hb : bt x j
    · rfl
    · have := ((e2 j h2).mp hb).1; omega
  refine ⟨x, e1, ?_⟩
  rw [pu_bc hx, ct_n (n := n) (f := brb n p l s cd) hn (fun j hj => by rw [e2 j hj, brb_iff]; exact ⟨fun q => ⟨q.1, q⟩, fun q => q.2⟩)]
  rfl
/-- what count tells, by its number -/
noncomputable def CVL (st : St) (A : AI) (n p l s r : Nat) (cd : Nat → Nat) (k : Nat) : Int32 :=
  if k = 0 then A 0 else if k = 1 then nI (PR n r cd) else if k = 2 then nI (IS (Kw n r cd) n) else if k = 3 then nI (IS (Kw n r cd) n) else if k = 4 then A 1 else if k = 5 then A 2 else if k = 6 then A 5 else if k = 7 then nI (BM n p l s cd) else if k = 8 then nI (onW st) else if k = 9 then A 7 else if k = 10 then A 8 else A 6
theorem cnt_v {st : St} {A : AI} {m n p l s r k : Nat} {cd : Nat → Nat} (h : CSx st A m n p l s r cd) (hk : k < 12) (tx : Tx) (is : Is) (wa : Wa) (hi : Hi) : ∃ is', fL_count tx is wa st hi (nI k) = some (CVL st A n p l s r cd k, is') := by
  obtain ⟨hB, hL, hM, hC, h5, h6, la, sp, fa, dn, k1, k2, k3, k4, k5, k6, k7⟩ := h
  have hn := hB.2.2.2.2.2.1
  have key : ∃ is', fX5_countNumber tx is wa st hi (nI k) = some (CVL st A n p l s r cd k, is') := by
    unfold fX5_countNumber CVL
    rcases (show k = 0 ∨ k = 1 ∨ k = 2 ∨ k = 3 ∨ k = 4 ∨ k = 5 ∨ k = 6 ∨ k = 7 ∨ k = 8 ∨ k = 9 ∨ k = 10 ∨ k = 11 by omega) with rfl | rfl | rfl | rfl | rfl | rfl | rfl | rfl | rfl | rfl | rfl | rfl
    · rw [if_pos (show nI 0 = (0 : Int32) from rfl)]
      rw [hB.1, hM.1]
      exact ⟨is, rfl⟩
    · rw [if_neg (show ¬ nI 1 = (0 : Int32) by decide), if_pos (show nI 1 = (1 : Int32) from rfl)]
      obtain ⟨y, f1, f2⟩ := pu_pairs hB hL
      rw [f1, pu_bd, f2.val hn]
      exact ⟨is, rfl⟩
    · rw [if_neg (show ¬ nI 2 = (0 : Int32) by decide), if_neg (show ¬ nI 2 = (1 : Int32) by decide), if_pos (show nI 2 = (2 : Int32) from rfl)]
      obtain ⟨y, is1, f1, f2⟩ := pu_joining hB hL is
      rw [f1, pu_bd2, f2.val]
      exact ⟨is1, rfl⟩
    · rw [if_neg (show ¬ nI 3 = (0 : Int32) by decide), if_neg (show ¬ nI 3 = (1 : Int32) by decide), if_neg (show ¬ nI 3 = (2 : Int32) by decide), if_pos (show nI 3 = (3 : Int32) from rfl)]
      obtain ⟨y, f1, f2⟩ := pu_walk hB hL is
      rw [f1, pu_bd, f2.val]
      exact ⟨is, rfl⟩
    · rw [if_neg (show ¬ nI 4 = (0 : Int32) by decide), if_neg (show ¬ nI 4 = (1 : Int32) by decide), if_neg (show ¬ nI 4 = (2 : Int32) by decide), if_neg (show ¬ nI 4 = (3 : Int32) by decide), if_pos (show nI 4 = (4 : Int32) from rfl)]
      rw [hB.2.1, hM.2.1]
      exact ⟨is, rfl⟩
    · rw [if_neg (show ¬ nI 5 = (0 : Int32) by decide), if_neg (show ¬ nI 5 = (1 : Int32) by decide), if_neg (show ¬ nI 5 = (2 : Int32) by decide), if_neg (show ¬ nI 5 = (3 : Int32) by decide), if_neg (show ¬ nI 5 = (4 : Int32) by decide), if_pos (show nI 5 = (5 : Int32) from rfl)]
      rw [hB.2.2.1, hM.2.2.1]
      exact ⟨is, rfl⟩
    · rw [if_neg (show ¬ nI 6 = (0 : Int32) by decide), if_neg (show ¬ nI 6 = (1 : Int32) by decide), if_neg (show ¬ nI 6 = (2 : Int32) by decide), if_neg (show ¬ nI 6 = (3 : Int32) by decide), if_neg (show ¬ nI 6 = (4 : Int32) by decide), if_neg (show ¬ nI 6 = (5 : Int32) by decide), if_pos (show nI 6 = (6 : Int32) from rfl)]
      rw [h5]
      exact ⟨is, rfl⟩
    · rw [if_neg (show ¬ nI 7 = (0 : Int32) by decide), if_neg (show ¬ nI 7 = (1 : Int32) by decide), if_neg (show ¬ nI 7 = (2 : Int32) by decide), if_neg (show ¬ nI 7 = (3 : Int32) by decide), if_neg (show ¬ nI 7 = (4 : Int32) by decide), if_neg (show ¬ nI 7 = (5 : Int32) by decide), if_neg (show ¬ nI 7 = (6 : Int32) by decide), if_pos (show nI 7 = (7 : Int32) from rfl)]
      obtain ⟨x, f1, f2⟩ := bars_v hB
      rw [f1, pu_bd, f2, pu_bd]
      exact ⟨is, rfl⟩
    · rw [if_neg (show ¬ nI 8 = (0 : Int32) by decide), if_neg (show ¬ nI 8 = (1 : Int32) by decide), if_neg (show ¬ nI 8 = (2 : Int32) by decide), if_neg (show ¬ nI 8 = (3 : Int32) by decide), if_neg (show ¬ nI 8 = (4 : Int32) by decide), if_neg (show ¬ nI 8 = (5 : Int32) by decide), if_neg (show ¬ nI 8 = (6 : Int32) by decide), if_neg (show ¬ nI 8 = (7 : Int32) by decide), if_pos (show nI 8 = (8 : Int32) from rfl)]
      rw [climbing_v st, pu_bd]
      exact ⟨is, rfl⟩
    · rw [if_neg (show ¬ nI 9 = (0 : Int32) by decide), if_neg (show ¬ nI 9 = (1 : Int32) by decide), if_neg (show ¬ nI 9 = (2 : Int32) by decide), if_neg (show ¬ nI 9 = (3 : Int32) by decide), if_neg (show ¬ nI 9 = (4 : Int32) by decide), if_neg (show ¬ nI 9 = (5 : Int32) by decide), if_neg (show ¬ nI 9 = (6 : Int32) by decide), if_neg (show ¬ nI 9 = (7 : Int32) by decide), if_neg (show ¬ nI 9 = (8 : Int32) by decide), if_pos (show nI 9 = (9 : Int32) from rfl)]
      rw [sum3 (fun c hc => (k1 c hc).1), pu_bd, k2]
      exact ⟨is, rfl⟩
    · rw [if_neg (show ¬ nI 10 = (0 : Int32) by decide), if_neg (show ¬ nI 10 = (1 : Int32) by decide), if_neg (show ¬ nI 10 = (2 : Int32) by decide), if_neg (show ¬ nI 10 = (3 : Int32) by decide), if_neg (show ¬ nI 10 = (4 : Int32) by decide), if_neg (show ¬ nI 10 = (5 : Int32) by decide), if_neg (show ¬ nI 10 = (6 : Int32) by decide), if_neg (show ¬ nI 10 = (7 : Int32) by decide), if_neg (show ¬ nI 10 = (8 : Int32) by decide), if_neg (show ¬ nI 10 = (9 : Int32) by decide), if_pos (show nI 10 = (10 : Int32) from rfl)]
      rw [sumf (fun c hc => (k1 c hc).2.2), pu_bd, k3]
      exact ⟨is, rfl⟩
    · rw [if_neg (show ¬ nI 11 = (0 : Int32) by decide), if_neg (show ¬ nI 11 = (1 : Int32) by decide), if_neg (show ¬ nI 11 = (2 : Int32) by decide), if_neg (show ¬ nI 11 = (3 : Int32) by decide), if_neg (show ¬ nI 11 = (4 : Int32) by decide), if_neg (show ¬ nI 11 = (5 : Int32) by decide), if_neg (show ¬ nI 11 = (6 : Int32) by decide), if_neg (show ¬ nI 11 = (7 : Int32) by decide), if_neg (show ¬ nI 11 = (8 : Int32) by decide), if_neg (show ¬ nI 11 = (9 : Int32) by decide), if_neg (show ¬ nI 11 = (10 : Int32) by decide), if_pos (show nI 11 = (11 : Int32) from rfl)]
      rw [h6]
      exact ⟨is, rfl⟩
  obtain ⟨is', e⟩ := key
  refine ⟨is', ?_⟩
  unfold fL_count fX5_count
  rw [if_neg (nI_pos (by omega)), if_pos (show nI k ≤ (12 : Int32) from nI_le (b := 12) (by omega) (by omega)), e, pu_bd2]
  rfl
theorem set_v {st : St} {A : AI} {m n p l s r : Nat} {cd : Nat → Nat} (h : CSx st A m n p l s r cd) (tx : Tx) (is : Is) (wa : Wa) (hi : Hi) : fL_setting tx is wa st hi (0 : Int32) = some (A 3) ∧ fL_setting tx is wa st hi (1 : Int32) = some (A 4) := by
  obtain ⟨hB, hL, hM, -⟩ := h
  unfold fL_setting fX5_setting fX2_settingOf
  constructor
  · rw [if_pos rfl, if_pos rfl, pu_bd, hB.2.2.2.1, hM.2.2.2.1]
    rfl
  · rw [if_neg (by decide), if_pos rfl, if_neg (by decide), pu_bd, hB.2.2.2.2.1, hM.2.2.2.2.1]
    rfl
/-! the law's own counts -/
theorem Rk_24 {K : Nat → Nat → Prop} {n a w : Nat} (hn : n ≤ 24) (ha : a < n) (hK : ∀ v w, K v w → w < n) : Cl K a w ↔ ∃ k, k < 24 ∧ Rk K a k w := by
  constructor
  · rintro ⟨k, hk⟩
    obtain ⟨j, j1, j2⟩ := Rk_first hk
    have := Fk_many ha hK ⟨w, j2⟩
    exact ⟨j, by omega, Fk_Rk j2⟩
  · rintro ⟨k, -, hk⟩
    exact ⟨k, hk⟩
theorem lad_cl {vq vw vl : AI} {n p l s r a z : Nat} {cd : Nat → Nat} (h : LQ vq vw n p l s r cd) (hl : LL vl n r cd) (ha : a < n) (hz : z < n) : ∃ y, fL_ladder vq vl (nI a) (nI z) = some y ∧ ((0 : Int32) ≤ y ↔ Cl (Kw n r cd) a z) := by
  have hn := h.2.2.2.2.2.1
  obtain ⟨y, e1, e2⟩ := lw_ladder h hl ha hz
  refine ⟨y, e1, ?_⟩
  rw [Rk_24 hn ha (fun v w q => q.2.1)]
  rcases e2 with ⟨k, k1, k2, -, rfl⟩ | ⟨k1, rfl⟩
  · exact ⟨fun _ => ⟨k, k1, k2⟩, fun _ => nI_pos' (by omega)⟩
  · exact ⟨fun q => absurd q m1_neg, fun ⟨k, k2, k3⟩ => absurd k3 (k1 k k2)⟩
theorem so_L48 {vq vw vl : AI} {n p l s r a : Nat} {cd : Nat → Nat} (h : LQ vq vw n p l s r cd) (hl : LL vl n r cd) (ha : a < n) {c0 : Nat} : ∀ (d b f : Nat) (y : Int32), b + d = a → d < f → ((y = 1 ∧ ∀ v, v < b → ¬ Cl (Kw n r cd) a v) ∨ (y = 0 ∧ ∃ v, v < b ∧ Cl (Kw n r cd) a v)) → ∃ y', fL_isSo_L48 vq vw vl (nI a) f (nI (c0 + fb_ct (fun b => lkb r (cd a) (cd b)) b)) y (nI b) = some (nI (c0 + fb_ct (fun b => lkb r (cd a) (cd b)) a), y') ∧ ((y' = 1 ∧ First (Kw n r cd) a) ∨ (y' = 0 ∧ ¬ First (Kw n r cd) a)) := by
  have hn := h.2.2.2.2.2.1
  have hr := h.2.2.2.2.2.2.2.2.2.1
  have hcd := h.2.2.2.2.2.2.2.2.2.2
  have sy : ∀ v, Cl (Kw n r cd) a v ↔ Cl (Kw n r cd) v a := fun v => ⟨fun q => Cl_symm (fun v w k => Kw_symm k) q, fun q => Cl_symm (fun v w k => Kw_symm k) q⟩
  intro d
  induction d with
  | zero =>
    intro b f y hb hf hy
    obtain ⟨f, rfl, -⟩ := pu_fuel hf
    have : b = a := hb
    subst this
    refine ⟨y, by rw [fL_isSo_L48, if_pos (nI_le (Nat.le_refl _) (by omega))], ?_⟩
    rcases hy with ⟨rfl, q⟩ | ⟨rfl, v, v1, v2⟩
    · exact Or.inl ⟨rfl, fun v hv k => q v hv ((sy v).mpr k)⟩
    · exact Or.inr ⟨rfl, fun q => q v v1 ((sy v).mp v2)⟩
  | succ d ih =>
    intro b f y hb hf hy
    obtain ⟨f, rfl, hf⟩ := pu_fuel hf
    have hba : b < a := by omega
    obtain ⟨x, x1, x2⟩ := lw_linked (hcd a ha).2 (hcd b (by omega)).2 hr
    have q4 := h.2.2.2.2.1
    rw [fL_isSo_L48, if_neg (nI_ge hba (by omega)), pu_inb (k := a) (by omega) (by decide), pu_inb (k := b) (by omega) (by decide), pu_cl (k := a) (by omega), pu_cl (k := b) (by omega), pu_ck, pu_ck, (hcd a ha).1, (hcd b (by omega)).1, z10_4, q4, x1, pu_bd]
    have hx : (if x = (0 : Int32) then (some (0 : Int32)) else (some (1 : Int32))) = some (nI (if lkb r (cd a) (cd b) = true then 1 else 0)) := by
      rcases x2 with ⟨rfl, q⟩ | ⟨rfl, q⟩
      · rw [if_neg (by decide), if_pos (lkb_iff.mpr q)]; rfl
      · rw [if_pos rfl, if_neg (fun z => q (lkb_iff.mp z))]; rfl
    have hsum : nI (c0 + fb_ct (fun b => lkb r (cd a) (cd b)) b) + nI (if lkb r (cd a) (cd b) = true then 1 else 0) = nI (c0 + fb_ct (fun b => lkb r (cd a) (cd b)) (b + 1)) := by rw [nI_add, fb_ct_succ, Nat.add_assoc]
    rw [hx, pu_bd, hsum, pu_pl]
    rcases hy with ⟨rfl, q⟩ | ⟨rfl, v, v1, v2⟩
    · obtain ⟨z, z1, z2⟩ := lad_cl h hl ha (show b < n by omega)
      rw [if_neg (by decide), z1, pu_bd]
      by_cases e : (0 : Int32) ≤ z
      · rw [if_pos e, pu_bd, pu_pl, nI_1]
        exact ih (b + 1) f 0 (by omega) (by omega) (Or.inr ⟨rfl, b, by omega, z2.mp e⟩)
      · rw [if_neg e, pu_bd, pu_pl, nI_1]
        exact ih (b + 1) f 1 (by omega) (by omega) (Or.inl ⟨rfl, fun v hv k => by
          by_cases e2 : v = b
          · subst e2; exact e (z2.mpr k)
          · exact q v (by omega) k⟩)
    · rw [if_pos rfl, pu_bd, pu_pl, nI_1]
      exact ih (b + 1) f 0 (by omega) (by omega) (Or.inr ⟨rfl, v, by omega, v2⟩)
theorem so_L12 {vq vw vl : AI} {n p l s r : Nat} {cd : Nat → Nat} (h : LQ vq vw n p l s r cd) (hl : LL vl n r cd) : ∀ (d a f : Nat), a + d = n → d < f → fL_isSo_L12 vq vw vl f (nI (PR a r cd)) (nI (fb_ct (fsb (Kw n r cd)) a)) (nI (fb_ct (brb n p l s cd) a)) (nI a) = some (nI (PR n r cd), nI (IS (Kw n r cd) n), nI (BM n p l s cd)) := by
  have hn := h.2.2.2.2.2.1
  have hcd := h.2.2.2.2.2.2.2.2.2.2
  have q0 := h.1
  intro d
  induction d with
  | zero =>
    intro a f ha hf
    obtain ⟨f, rfl, -⟩ := pu_fuel hf
    have : a = n := ha
    subst this
    rw [fL_isSo_L12, z10_0, q0, if_pos (nI_le (Nat.le_refl _) (by omega))]
    rfl
  | succ d ih =>
    intro a f ha hf
    obtain ⟨f, rfl, hf⟩ := pu_fuel hf
    have han : a < n := by omega
    obtain ⟨x, x1, x2⟩ := lw_isBarred h han (t := 0) (by decide)
    have x1' : fL_isBarred vq (nI (cd a)) (0 : Int32) = some x := x1
    have hx : (if x = (0 : Int32) then (some (0 : Int32)) else (some (1 : Int32))) = some (nI (if brb n p l s cd a = true then 1 else 0)) := by
      rcases x2 with ⟨rfl, q⟩ | ⟨rfl, q⟩
      · rw [if_neg (by decide), if_pos (brb_iff.mpr q)]; rfl
      · rw [if_pos rfl, if_neg (fun z => q (brb_iff.mp z))]; rfl
    obtain ⟨y, y1, y2⟩ := so_L48 (c0 := PR a r cd) h hl han a 0 1000 1 (by omega) (by omega) (Or.inl ⟨rfl, fun v hv => by omega⟩)
    have y1' : fL_isSo_L48 vq vw vl (nI a) 1000 (nI (PR a r cd)) (1 : Int32) (0 : Int32) = some (nI (PR (a + 1) r cd), y) := y1
    have hy : (if y = (0 : Int32) then (some (0 : Int32)) else (some (1 : Int32))) = some (nI (if fsb (Kw n r cd) a = true then 1 else 0)) := by
      rcases y2 with ⟨rfl, q⟩ | ⟨rfl, q⟩
      · rw [if_neg (by decide), if_pos (fsb_iff.mpr q)]; rfl
      · rw [if_pos rfl, if_neg (fun z => q (fsb_iff.mp z))]; rfl
    rw [fL_isSo_L12, z10_0, q0, if_neg (nI_ge han (by omega)), pu_inb (by omega) (by decide), pu_cl (by omega), pu_ck, (hcd a han).1, x1', pu_bd, hx, pu_bd, nI_add, ← fb_ct_succ, pu_pl, y1', pu_bd2, hy, pu_bd, nI_add, ← fb_ct_succ, pu_pl, pu_pl, nI_1]
    exact ih (a + 1) f (by omega) (by omega)
theorem so_12 {vq vw vl : AI} {n p l s r : Nat} {cd : Nat → Nat} (h : LQ vq vw n p l s r cd) (hl : LL vl n r cd) : fL_isSo_L12 vq vw vl 1000 (0 : Int32) (0 : Int32) (0 : Int32) (0 : Int32) = some (nI (PR n r cd), nI (IS (Kw n r cd) n), nI (BM n p l s cd)) := by
  have hn := h.2.2.2.2.2.1
  exact so_L12 h hl n 0 1000 (by omega) (by omega)
end CNT
