section ISL
/-! islands: by walking, by joining -/
def First (K : Nat → Nat → Prop) (w : Nat) : Prop := ∀ v, v < w → ¬ Cl K v w
def IsCnt (K : Nat → Nat → Prop) (n : Nat) (y : Int32) : Prop := ∃ q : Nat → Bool, (∀ w, w < n → (q w = true ↔ First K w)) ∧ y = nI (fb_ct q n)
theorem IsCnt.uniq {K : Nat → Nat → Prop} {n : Nat} {x y : Int32} (h1 : IsCnt K n x) (h2 : IsCnt K n y) : x = y := by
  obtain ⟨q, q1, q2⟩ := h1
  obtain ⟨p, p1, p2⟩ := h2
  rw [q2, p2]
  exact congrArg nI (fb_ct_cong fun k hk => Bool.eq_iff_iff.mpr ((q1 k hk).trans (p1 k hk).symm))
theorem First_q (K : Nat → Nat → Prop) : ∃ q : Nat → Bool, ∀ w, (q w = true ↔ First K w) := ⟨fun w => @decide (First K w) (Classical.propDecidable _), fun w => by
  have := Classical.propDecidable (First K w)
  exact @decide_eq_true_iff (First K w) (Classical.propDecidable _)⟩
theorem pu_walk_L {st : St} {n p l s r : Nat} {cd : Nat → Nat} (h : Base st n p l s r cd) (hl : Lks (St_links st) n r cd) (is : Is) {q : Nat → Bool} (hq : ∀ w, (q w = true ↔ First (Kw n r cd) w)) : ∀ (d w f : Nat) (x : Int32), w + d = n → d < f → (∀ j, j < 32 → (bt x j = true ↔ ∃ v, v < w ∧ Cl (Kw n r cd) v j)) → fX1_byWalking_L7 is st f x (nI (fb_ct q w)) (nI w) = some (nI (fb_ct q n)) := by
  have hn := h.2.2.2.2.2.1
  intro d
  induction d with
  | zero =>
    intro w f x hw hf hx
    obtain ⟨f, rfl, -⟩ := pu_fuel hf
    have : w = n := hw
    subst this
    rw [fX1_byWalking_L7, h.1, if_pos (nI_le (Nat.le_refl w) (by omega))]
  | succ d ih =>
    intro w f x hw hf hx
    obtain ⟨f, rfl, hf⟩ := pu_fuel hf
    have hwn : w < n := by omega
    have hxw := hx w (by omega)
    have e := ih (w + 1) f
    rw [fX1_byWalking_L7, h.1, if_neg (nI_ge hwn (by omega)), pu_has (by omega)]
    simp only [pu_bd]
    rw [fb_ct_succ] at e
    cases hb : bt x w
    · rw [if_pos (show (if false = true then (1 : Int32) else 0) = 0 by decide)]
      obtain ⟨v, e1, e2⟩ := pu_around h hl hwn is
      rw [e1]
      simp only [pu_bd, pu_pl, nI_1]
      have hqw : q w = true := (hq w).mpr (fun v hv q2 => by rw [hb] at hxw; cases hxw.mpr ⟨v, hv, q2⟩)
      rw [hqw] at e
      refine e _ (by omega) (by omega) (fun j hj => ?_)
      rw [b_or, Bool.or_eq_true, hx j hj, e2 j hj]
      constructor
      · rintro (⟨u, u1, u2⟩ | u)
        · exact ⟨u, by omega, u2⟩
        · exact ⟨w, by omega, u⟩
      · rintro ⟨u, u1, u2⟩
        by_cases e3 : u = w
        · exact Or.inr (e3 ▸ u2)
        · exact Or.inl ⟨u, by omega, u2⟩
    · rw [if_neg (show ¬ (if true = true then (1 : Int32) else 0) = 0 by decide)]
      simp only [pu_pl, nI_1]
      obtain ⟨u0, u1, u2⟩ := hxw.mp hb
      have hqw : q w = false := by
        cases hc : q w
        · rfl
        · exact absurd u2 ((hq w).mp hc u0 u1)
      rw [hqw] at e
      refine e x (by omega) (by omega) (fun j hj => ?_)
      rw [hx j hj]
      constructor
      · rintro ⟨u, k1, k2⟩
        exact ⟨u, by omega, k2⟩
      · rintro ⟨u, k1, k2⟩
        by_cases e3 : u = w
        · subst e3
          exact ⟨u0, u1, Cl_trans u2 k2⟩
        · exact ⟨u, by omega, k2⟩
theorem pu_walk {st : St} {n p l s r : Nat} {cd : Nat → Nat} (h : Base st n p l s r cd) (hl : Lks (St_links st) n r cd) (is : Is) : ∃ y, fX1_byWalking is st = some y ∧ IsCnt (Kw n r cd) n y := by
  have hn := h.2.2.2.2.2.1
  obtain ⟨q, hq⟩ := First_q (Kw n r cd)
  refine ⟨nI (fb_ct q n), ?_, q, fun w _ => hq w, rfl⟩
  unfold fX1_byWalking
  have e : fX1_byWalking_L7 is st 1000 (0 : Int32) (0 : Int32) (0 : Int32) = some (nI (fb_ct q n)) := pu_walk_L h hl is hq n 0 1000 0 (by omega) (by omega) (fun j hj => by
    rw [b_0]
    exact ⟨(fun k => by cases k), fun ⟨v, v1, _⟩ => by omega⟩)
  rw [e]
  rfl
theorem fb_inj {p q : Nat → Bool} {n : Nat} {g : Nat → Nat} (hg : ∀ i, i < n → p i = true → g i < n ∧ q (g i) = true) (hi : ∀ i j, i < n → j < n → p i = true → p j = true → g i = g j → i = j) : fb_ct p n ≤ fb_ct q n := by
  have hne : ∀ k, ∃ i, k < fb_ct p n → i < n ∧ p i = true ∧ fb_ct p i = k := by
    intro k
    by_cases e : k < fb_ct p n
    · obtain ⟨i, i1⟩ := fb_ct_kth e
      exact ⟨i, fun _ => i1⟩
    · exact ⟨0, fun z => absurd z e⟩
  obtain ⟨W, hW⟩ := Classical.axiomOfChoice hne
  refine fb_holes (fb_ct q n) (fb_ct p n) (fun k => fb_ct q (g (W k))) (fun i h => ?_) (fun i j hij hj e => ?_)
  · obtain ⟨w1, w2, w3⟩ := hW i h
    obtain ⟨g1, g2⟩ := hg _ w1 w2
    have := fb_ct_mono q (m := g (W i) + 1) (n := n) (by omega)
    rw [fb_ct_succ, g2, if_pos rfl] at this
    show fb_ct q (g (W i)) < fb_ct q n
    omega
  · have e : fb_ct q (g (W i)) = fb_ct q (g (W j)) := e
    obtain ⟨w1, w2, w3⟩ := hW i (by omega)
    obtain ⟨v1, v2, v3⟩ := hW j hj
    have h1 := fb_ct_kth_one (hg _ w1 w2).2 (hg _ v1 v2).2 e
    have h2 := hi _ _ w1 v1 w2 v2 h1
    rw [h2] at w3
    omega
/-- the forest of Islands: parents, roots, depths, behind j joins -/
def UF (K : Nat → Nat → Prop) (n j : Nat) (par : AI) (pf rt dp : Nat → Nat) : Prop := (∀ w, w < 24 → par w = nI (pf w) ∧ pf w < 24 ∧ rt w < 24 ∧ rt (pf w) = rt w ∧ rt (rt w) = rt w ∧ (pf w = w ↔ rt w = w) ∧ (pf w ≠ w → dp (pf w) < dp w) ∧ dp w ≤ j ∧ Cl K w (rt w) ∧ (n ≤ w → rt w = w) ∧ (rt w = w → dp w = 0)) ∧ fb_ct (fun w => decide (rt w = w)) n + j = n
theorem UF_j {K : Nat → Nat → Prop} {n j : Nat} {par : AI} {pf rt dp : Nat → Nat} (h : UF K n j par pf rt dp) (hK : ∀ v w, K v w → w < n) (hn : n ≤ 24) (h0 : 0 < n) : j < n := by
  obtain ⟨h1, h2⟩ := h
  obtain ⟨-, -, a3, -, a5, -, -, -, a9, -⟩ := h1 0 (by omega)
  have : 0 < fb_ct (fun w => decide (rt w = w)) n := fb_ct_pos.mpr ⟨rt 0, Cl_lt h0 hK a9, by simp [a5]⟩
  omega
theorem pu_root_L {K : Nat → Nat → Prop} {n j : Nat} {par : AI} {pf rt dp : Nat → Nat} (h : UF K n j par pf rt dp) : ∀ (d i f w : Nat), w < 24 → dp w ≤ d → i + d < 24 → d < f → fX1_rootOf_L4 par f (nI w) (nI i) = some (nI (rt w)) := by
  intro d
  induction d with
  | zero =>
    intro i f w hw hd hi hf
    obtain ⟨f, rfl, -⟩ := pu_fuel hf
    obtain ⟨a1, a2, a3, a4, a5, a6, a7, a8, a9, a10, a11⟩ := h.1 w hw
    have e : pf w = w := by
      by_cases e : pf w = w
      · exact e
      · have := a7 e; omega
    rw [fX1_rootOf_L4, if_neg (show ¬ (24 : Int32) ≤ nI i from nI_ge (b := 24) (by omega) (by omega)), if_neg (nI_pos (by omega)), if_neg (show ¬ (24 : Int32) ≤ nI w from nI_ge (b := 24) (by omega) (by omega)), pu_inb hw (by decide), pu_cl (by omega), show Is_parents par = par from rfl, a1, e]
    simp only [pu_ck]
    rw [if_pos trivial, a6.mp e]
  | succ d ih =>
    intro i f w hw hd hi hf
    obtain ⟨f, rfl, hf⟩ := pu_fuel hf
    obtain ⟨a1, a2, a3, a4, a5, a6, a7, a8, a9, a10, a11⟩ := h.1 w hw
    rw [fX1_rootOf_L4, if_neg (show ¬ (24 : Int32) ≤ nI i from nI_ge (b := 24) (by omega) (by omega)), if_neg (nI_pos (by omega)), if_neg (show ¬ (24 : Int32) ≤ nI w from nI_ge (b := 24) (by omega) (by omega)), pu_inb hw (by decide), pu_cl (by omega), show Is_parents par = par from rfl, a1]
    simp only [pu_ck]
    by_cases e : pf w = w
    · rw [e, if_pos rfl, a6.mp e]
    · rw [if_neg (by rw [nI_eq (by omega) (by omega)]; exact e)]
      simp only [pu_pl, nI_1]
      have := a7 e
      rw [ih (i + 1) f (pf w) a2 (by omega) (by omega) (by omega), a4]
theorem pu_join {K : Nat → Nat → Prop} {n j a b : Nat} {par : AI} {pf rt dp : Nat → Nat} (h : UF K n j par pf rt dp) (hK : ∀ v w, K v w → w < n) (hs : ∀ v w, K v w → K w v) (hn : n ≤ 24) (hab : K a b) : ∃ (y : Int32) (par' : AI) (j' : Nat) (pf' rt' dp' : Nat → Nat), fX1_join par (nI a) (nI b) = some (y, par') ∧ UF K n j' par' pf' rt' dp' ∧ rt' a = rt' b ∧ (∀ u v, rt u = rt v → rt' u = rt' v) ∧ ((y = 0 ∧ j' = j) ∨ (y = 1 ∧ j' = j + 1)) := by
  have hb := hK a b hab
  have ha := hK b a (hs a b hab)
  have hj := UF_j h hK hn (by omega)
  obtain ⟨h1, h2⟩ := h
  have hA := h1 a (by omega)
  have hB := h1 b (by omega)
  obtain ⟨A1, A2, A3, A4, A5, A6, A7, A8, A9, A10, A11⟩ := hA
  obtain ⟨B1, B2, B3, B4, B5, B6, B7, B8, B9, B10, B11⟩ := hB
  unfold fX1_join fX1_rootOf
  have ra : fX1_rootOf_L4 par 1000 (nI a) (0 : Int32) = some (nI (rt a)) := pu_root_L ⟨h1, h2⟩ 23 0 1000 a (by omega) (by omega) (by omega) (by decide)
  have rb : fX1_rootOf_L4 par 1000 (nI b) (0 : Int32) = some (nI (rt b)) := pu_root_L ⟨h1, h2⟩ 23 0 1000 b (by omega) (by omega) (by omega) (by decide)
  rw [ra, rb]
  simp only [pu_bd]
  by_cases e : rt a = rt b
  · rw [if_pos (by rw [e])]
    exact ⟨0, par, j, pf, rt, dp, rfl, ⟨h1, h2⟩, e, fun u v q => q, Or.inl ⟨rfl, rfl⟩⟩
  · rw [if_neg (by rw [nI_eq (by omega) (by omega)]; exact e), if_neg (nI_pos (by omega)), if_pos (show nI (rt a) < (24 : Int32) from nI_lt (b := 24) A3 (by omega)), pu_inb A3 (by decide), pu_cl (by omega)]
    simp only [pu_ck, pu_pl]
    have hra : rt a < n := Cl_lt ha hK A9
    refine ⟨1, _, j + 1, (fun w => if w = rt a then rt b else pf w), (fun w => if rt w = rt a then rt b else rt w), (fun w => if rt w = rt a then dp w + 1 else dp w), rfl, ⟨fun w hw => ?_, ?_⟩, ?_, ?_, Or.inr ⟨rfl, rfl⟩⟩
    · obtain ⟨a1, a2, a3, a4, a5, a6, a7, a8, a9, a10, a11⟩ := h1 w hw
      refine ⟨?_, ?_, ?_, ?_, ?_, ?_, ?_, ?_, ?_, ?_, ?_⟩ <;> (try dsimp only)
      · show upd par (rt a) (nI (rt b)) w = nI (if w = rt a then rt b else pf w)
        by_cases e2 : w = rt a
        · rw [if_pos e2, e2, pk_us]
        · rw [if_neg e2, pk_un e2, a1]
      · by_cases e2 : w = rt a
        · rw [if_pos e2]; exact B3
        · rw [if_neg e2]; exact a2
      · by_cases e2 : rt w = rt a
        · rw [if_pos e2]; exact B3
        · rw [if_neg e2]; exact a3
      · by_cases e2 : w = rt a
        · simp only [e2, if_pos, A5, B5, if_neg (fun q : rt b = rt a => e q.symm)]
        · simp only [if_neg e2, a4]
      · by_cases e2 : rt w = rt a
        · simp only [if_pos e2, B5, if_neg (fun q : rt b = rt a => e q.symm)]
        · simp only [if_neg e2, a5]
      · by_cases e2 : w = rt a
        · simp only [e2, if_pos, A5]
        · simp only [if_neg e2]
          by_cases e3 : rt w = rt a
          · simp only [if_pos e3]
            rw [a6, e3]
            constructor
            · intro q; exact absurd q.symm e2
            · intro q; rw [← q, B5] at e3; exact absurd e3.symm e
          · simp only [if_neg e3]; exact a6
      · by_cases e2 : w = rt a
        · intro _
          simp only [e2, if_pos, B5, A5, if_neg (fun q : rt b = rt a => e q.symm)]
          have := (h1 (rt b) B3).2.2.2.2.2.2.2.2.2.2 B5
          omega
        · simp only [if_neg e2, a4]
          intro q
          have := a7 q
          split <;> omega
      · by_cases e2 : rt w = rt a
        · rw [if_pos e2]; omega
        · rw [if_neg e2]; omega
      · by_cases e2 : rt w = rt a
        · rw [if_pos e2]
          rw [e2] at a9
          exact Cl_trans a9 (Cl_trans (Cl_symm hs A9) (Cl_trans (Cl_next Cl_self hab) B9))
        · rw [if_neg e2]; exact a9
      · intro q
        have := a10 q
        rw [this, if_neg (by omega)]
      · by_cases e2 : rt w = rt a
        · rw [if_pos e2]
          intro q
          rw [← q, B5] at e2
          exact absurd e2.symm e
        · rw [if_neg e2, if_neg e2]; exact a11
    · have h3 := fb_ct_upd (fun w => decide (rt w = w)) false (i := rt a) (n := n) hra
      simp only [A5, decide_true, if_true, if_false, Bool.false_eq_true] at h3
      have h4 : fb_ct (fun w => decide ((if rt w = rt a then rt b else rt w) = w)) n = fb_ct (fun k => if k = rt a then false else decide (rt k = k)) n := by
        refine fb_ct_cong fun k hk => ?_
        by_cases e2 : k = rt a
        · rw [if_pos e2, e2, A5, if_pos rfl]
          exact decide_eq_false (fun q => e q.symm)
        · rw [if_neg e2]
          by_cases e3 : rt k = rt a
          · rw [if_pos e3, e3]
            have x1 : ¬ rt b = k := fun q => by rw [← q, B5] at e3; exact e e3.symm
            have x2 : ¬ rt a = k := fun q => e2 q.symm
            rw [decide_eq_false x1, decide_eq_false x2]
          · rw [if_neg e3]
      show fb_ct (fun w => decide ((if rt w = rt a then rt b else rt w) = w)) n + (j + 1) = n
      omega
    · simp only [if_pos]
      rw [if_neg (fun q : rt b = rt a => e q.symm)]
    · intro u v q
      show (if rt u = rt a then rt b else rt u) = (if rt v = rt a then rt b else rt v)
      rw [q]
theorem pu_bj_L36 {st : St} {n p l s r a : Nat} {cd : Nat → Nat} (h : Base st n p l s r cd) (hl : Lks (St_links st) n r cd) (ha : a < n) : ∀ (d b f j : Nat) (par : AI) (pf rt dp : Nat → Nat), b + d = a → d < f → UF (Kw n r cd) n j par pf rt dp → (∀ c, c < b → Kw n r cd a c → rt a = rt c) → ∃ (par' : AI) (j' : Nat) (pf' rt' dp' : Nat → Nat), fX1_byJoining_L36 st (nI a) f (nI j) (nI b) par = some (nI j', par') ∧ UF (Kw n r cd) n j' par' pf' rt' dp' ∧ (∀ c, c < a → Kw n r cd a c → rt' a = rt' c) ∧ (∀ u v, rt u = rt v → rt' u = rt' v) := by
  have hn := h.2.2.2.2.2.1
  intro d
  induction d with
  | zero =>
    intro b f j par pf rt dp hb hf hu g
    obtain ⟨f, rfl, -⟩ := pu_fuel hf
    refine ⟨par, j, pf, rt, dp, ?_, hu, fun c hc => g c (by omega), fun u v q => q⟩
    rw [fX1_byJoining_L36, if_pos (nI_le (by omega) (by omega))]
  | succ d ih =>
    intro b f j par pf rt dp hb hf hu g
    obtain ⟨f, rfl, hf⟩ := pu_fuel hf
    rw [fX1_byJoining_L36, if_neg (nI_ge (by omega) (by omega)), pu_linksOf h ha]
    simp only [pu_bd]
    rw [pu_has (by omega)]
    simp only [pu_bd]
    have hlk : bt (St_links st a) b = true ↔ Kw n r cd a b := hl a b (by omega) (by omega)
    cases hc : bt (St_links st a) b
    · rw [if_pos (show (if false = true then (1 : Int32) else 0) = 0 by decide)]
      simp only [pu_pl, nI_1]
      exact ih (b + 1) f j par pf rt dp (by omega) (by omega) hu (fun c hc2 q => by
        by_cases e : c = b
        · subst e; rw [hc] at hlk; cases hlk.mpr q
        · exact g c (by omega) q)
    · rw [if_neg (show ¬ (if true = true then (1 : Int32) else 0) = 0 by decide)]
      obtain ⟨y, par1, j1, pf1, rt1, dp1, e1, e2, e3, e4, e5⟩ := pu_join hu (fun v w q => q.2.1) (fun v w q => Kw_symm q) hn (hlk.mp hc)
      have g1 : ∀ c, c < b + 1 → Kw n r cd a c → rt1 a = rt1 c := fun c hc2 q => by
        by_cases e : c = b
        · subst e; exact e3
        · exact e4 _ _ (g c (by omega) q)
      have e1' : fX1_join par (nI a) (nI b) = some (y, par1) := e1
      rw [e1']
      simp only [pu_bd2]
      rcases e5 with ⟨rfl, rfl⟩ | ⟨rfl, rfl⟩
      · rw [if_pos rfl]
        simp only [pu_pl, nI_1]
        obtain ⟨par', j', pf', rt', dp', k1, k2, k3, k4⟩ := ih (b + 1) f j1 par1 pf1 rt1 dp1 (by omega) (by omega) e2 g1
        exact ⟨par', j', pf', rt', dp', k1, k2, k3, fun u v q => k4 u v (e4 u v q)⟩
      · rw [if_neg (by decide)]
        simp only [pu_pl, nI_1]
        obtain ⟨par', j', pf', rt', dp', k1, k2, k3, k4⟩ := ih (b + 1) f (j + 1) par1 pf1 rt1 dp1 (by omega) (by omega) e2 g1
        exact ⟨par', j', pf', rt', dp', k1, k2, k3, fun u v q => k4 u v (e4 u v q)⟩
theorem pu_bj_L25 {st : St} {n p l s r : Nat} {cd : Nat → Nat} (h : Base st n p l s r cd) (hl : Lks (St_links st) n r cd) : ∀ (d a f j : Nat) (par : AI) (pf rt dp : Nat → Nat), a + d = n → d < f → UF (Kw n r cd) n j par pf rt dp → (∀ u c, u < a → c < u → Kw n r cd u c → rt u = rt c) → ∃ (par' : AI) (j' : Nat) (pf' rt' dp' : Nat → Nat), fX1_byJoining_L25 st f (nI j) (nI a) par = some (nI j', par') ∧ UF (Kw n r cd) n j' par' pf' rt' dp' ∧ (∀ u c, u < n → c < u → Kw n r cd u c → rt' u = rt' c) := by
  have hn := h.2.2.2.2.2.1
  intro d
  induction d with
  | zero =>
    intro a f j par pf rt dp hb hf hu g
    obtain ⟨f, rfl, -⟩ := pu_fuel hf
    refine ⟨par, j, pf, rt, dp, ?_, hu, fun u c hc => g u c (by omega)⟩
    rw [fX1_byJoining_L25, h.1, if_pos (nI_le (by omega) (by omega))]
  | succ d ih =>
    intro a f j par pf rt dp hb hf hu g
    obtain ⟨f, rfl, hf⟩ := pu_fuel hf
    obtain ⟨par1, j1, pf1, rt1, dp1, e1, e2, e3, e4⟩ := pu_bj_L36 h hl (a := a) (by omega) a 0 1000 j par pf rt dp (by omega) (by omega) hu (fun c hc => by omega)
    have e1' : fX1_byJoining_L36 st (nI a) 1000 (nI j) (0 : Int32) par = some (nI j1, par1) := e1
    rw [fX1_byJoining_L25, h.1, if_neg (nI_ge (by omega) (by omega)), e1']
    simp only [pu_bd2, pu_pl, nI_1]
    exact ih (a + 1) f j1 par1 pf1 rt1 dp1 (by omega) (by omega) e2 (fun u c hu2 hc q => by
      by_cases e : u = a
      · subst e; exact e3 c hc q
      · exact e4 _ _ (g u c (by omega) hc q))
theorem pu_bj_L4 : ∀ (d i f : Nat) (is : AI), i + d = 24 → d < f → (∀ w, w < i → is w = nI w) → ∃ is' : AI, fX1_byJoining_L4 f (nI i) is = some is' ∧ ∀ w, w < 24 → is' w = nI w := by
  intro d
  induction d with
  | zero =>
    intro i f is hi hf g
    obtain ⟨f, rfl, -⟩ := pu_fuel hf
    refine ⟨is, ?_, fun w hw => g w (by omega)⟩
    rw [fX1_byJoining_L4, if_pos (show (24 : Int32) ≤ nI i from nI_le (a := 24) (by omega) (by omega))]
  | succ d ih =>
    intro i f is hi hf g
    obtain ⟨f, rfl, hf⟩ := pu_fuel hf
    rw [fX1_byJoining_L4, if_neg (show ¬ (24 : Int32) ≤ nI i from nI_ge (b := 24) (by omega) (by omega)), pu_inb (by omega) (by decide), pu_cl (by omega)]
    simp only [pu_ck, pu_pl, nI_1]
    refine ih (i + 1) f _ (by omega) (by omega) (fun w hw => ?_)
    show upd is i (nI i) w = nI w
    by_cases e : w = i
    · rw [e, pk_us]
    · rw [pk_un e]; exact g w (by omega)
theorem pu_joining {st : St} {n p l s r : Nat} {cd : Nat → Nat} (h : Base st n p l s r cd) (hl : Lks (St_links st) n r cd) (is : Is) : ∃ y is', fX1_byJoining is st = some (y, is') ∧ IsCnt (Kw n r cd) n y := by
  have hn := h.2.2.2.2.2.1
  have hK : ∀ v w, Kw n r cd v w → w < n := fun v w q => q.2.1
  have hs : ∀ v w, Kw n r cd v w → Kw n r cd w v := fun v w q => Kw_symm q
  obtain ⟨is1, e1, e2⟩ := pu_bj_L4 24 0 1000 is rfl (by decide) (fun w hw => by omega)
  have hu0 : UF (Kw n r cd) n 0 is1 id id (fun _ => 0) := by
    refine ⟨fun w hw => ⟨e2 w hw, hw, hw, rfl, rfl, Iff.rfl, fun q => absurd rfl q, Nat.le_refl 0, Cl_self, fun _ => rfl, fun _ => rfl⟩, ?_⟩
    exact fb_ct_all.mpr (fun k hk => decide_eq_true rfl)
  obtain ⟨is2, j, pf, rt, dp, f1, f2, f3⟩ := pu_bj_L25 h hl n 0 1000 0 is1 id id (fun _ => 0) (by omega) (by omega) hu0 (fun u c hu => by omega)
  obtain ⟨q, hq⟩ := First_q (Kw n r cd)
  have e1' : fX1_byJoining_L4 1000 (0 : Int32) is = some is1 := e1
  have f1' : fX1_byJoining_L25 st 1000 (0 : Int32) (0 : Int32) is1 = some (nI j, is2) := f1
  have hjn := f2.2
  have hrt : ∀ u v, u < n → Cl (Kw n r cd) u v → rt u = rt v := by
    intro u v hu2 ⟨k, hk⟩
    have : ∀ k v, Rk (Kw n r cd) u k v → rt u = rt v := by
      intro k
      induction k with
      | zero => intro v q2; rw [show v = u from q2]
      | succ k ih =>
        intro v q2
        rcases q2 with q2 | ⟨x, x1, x2⟩
        · exact ih v q2
        · rw [ih x x1]
          have hx := x2.1
          have hv := x2.2.1
          rcases Nat.lt_trichotomy x v with e | e | e
          · exact (f3 v x hv e (Kw_symm x2)).symm
          · rw [e]
          · exact f3 x v hx e x2
    exact this k v hk
  have hct : fb_ct (fun w => decide (rt w = w)) n = fb_ct q n := by
    refine Nat.le_antisymm ?_ ?_
    · -- a root to the first of its island
      have hne : ∀ w, ∃ v, w < n → (Cl (Kw n r cd) v w ∧ v < n ∧ First (Kw n r cd) v) := by
        intro w
        by_cases hw : w < n
        · obtain ⟨v, v1, v2⟩ := pk_least (fun v => Cl (Kw n r cd) v w) ⟨w, Cl_self⟩
          refine ⟨v, fun _ => ⟨v1, ?_, fun u hu3 q2 => v2 u hu3 (Cl_trans q2 v1)⟩⟩
          refine Nat.lt_of_not_le fun q2 => ?_
          exact v2 w (by omega) Cl_self
        · exact ⟨0, fun z => absurd z hw⟩
      obtain ⟨W, hW⟩ := Classical.axiomOfChoice hne
      refine fb_inj (g := W) (fun i hi _ => ⟨(hW i hi).2.1, (hq _).mpr (hW i hi).2.2⟩) (fun i k hi hk p1 p2 e => ?_)
      have r1 := hrt _ _ (hW i hi).2.1 (hW i hi).1
      have r2 := hrt _ _ (hW k hk).2.1 (hW k hk).1
      have p1 := of_decide_eq_true p1
      have p2 := of_decide_eq_true p2
      rw [e, r2, p2] at r1
      rw [p1] at r1
      exact r1.symm
    · refine fb_inj (g := rt) (fun i hi _ => ?_) (fun i k hi hk p1 p2 e => ?_)
      · obtain ⟨a1, a2, a3, a4, a5, a6, a7, a8, a9, a10, a11⟩ := f2.1 i (by omega)
        exact ⟨Cl_lt hi hK a9, decide_eq_true a5⟩
      · have a9 := (f2.1 i (by omega)).2.2.2.2.2.2.2.2.1
        have b9 := (f2.1 k (by omega)).2.2.2.2.2.2.2.2.1
        have c1 : Cl (Kw n r cd) i k := by
          rw [e] at a9
          exact Cl_trans a9 (Cl_symm hs b9)
        rcases Nat.lt_trichotomy i k with e3 | e3 | e3
        · exact absurd c1 ((hq k).mp p2 i e3)
        · exact e3
        · exact absurd (Cl_symm hs c1) ((hq i).mp p1 k e3)
  refine ⟨nI (n - j), is2, ?_, q, fun w _ => hq w, ?_⟩
  · unfold fX1_byJoining
    rw [e1']
    simp only [pu_bd]
    rw [f1', h.1]
    simp only [pu_bd2]
    rw [pk_sub (by omega)]
  · rw [← hct]
    exact congrArg nI (by omega)
end ISL
