section MOD
theorem i55_0 : inb (0 : Int32) 55 = true := by decide
theorem c55_0 : (0 : Int32).toNatClampNeg = 0 := by decide
theorem i55_1 : inb (1 : Int32) 55 = true := by decide
theorem c55_1 : (1 : Int32).toNatClampNeg = 1 := by decide
theorem i55_2 : inb (2 : Int32) 55 = true := by decide
theorem c55_2 : (2 : Int32).toNatClampNeg = 2 := by decide
theorem i55_3 : inb (3 : Int32) 55 = true := by decide
theorem c55_3 : (3 : Int32).toNatClampNeg = 3 := by decide
theorem i55_4 : inb (4 : Int32) 55 = true := by decide
theorem c55_4 : (4 : Int32).toNatClampNeg = 4 := by decide
theorem i55_5 : inb (5 : Int32) 55 = true := by decide
theorem c55_5 : (5 : Int32).toNatClampNeg = 5 := by decide
theorem i55_6 : inb (6 : Int32) 55 = true := by decide
theorem c55_6 : (6 : Int32).toNatClampNeg = 6 := by decide
theorem i55_7 : inb (7 : Int32) 55 = true := by decide
theorem c55_7 : (7 : Int32).toNatClampNeg = 7 := by decide
theorem i55_8 : inb (8 : Int32) 55 = true := by decide
theorem c55_8 : (8 : Int32).toNatClampNeg = 8 := by decide
theorem i55_9 : inb (9 : Int32) 55 = true := by decide
theorem c55_9 : (9 : Int32).toNatClampNeg = 9 := by decide
/-- the reference's numbers: n words of codes cd, the bar at place p and letter l, the step s, the nearness r -/
def MB (A : AI) (n p l s r : Nat) (cd : Nat → Nat) : Prop := A 0 = nI n ∧ A 1 = nI p ∧ A 2 = nI l ∧ A 3 = nI s ∧ A 4 = nI r ∧ n ≤ 24 ∧ p < 4 ∧ l < 8 ∧ s < 8 ∧ r < 8 ∧ ∀ w, w < n → A (31 + w) = nI (cd w) ∧ cd w < 4096
/-- nothing but what is only for looks is changed -/
def Same (a b : Mo) : Prop := ∃ L P T, b = Mo_set_letter (Mo_set_place (Mo_set_links a L) P) T
theorem Same.refl (a : Mo) : Same a a := ⟨Mo_links a, Mo_place a, Mo_letter a, rfl⟩
theorem Same.trans {a b c : Mo} (h1 : Same a b) (h2 : Same b c) : Same a c := by
  obtain ⟨L, P, T, rfl⟩ := h1
  obtain ⟨L2, P2, T2, rfl⟩ := h2
  exact ⟨L2, P2, T2, rfl⟩
theorem Same_links (a : Mo) (A : AI) : Same a (Mo_set_links a A) := ⟨A, Mo_place a, Mo_letter a, rfl⟩
theorem Same.state {a b : Mo} (h : Same a b) : Mo_state b = Mo_state a := by
  obtain ⟨L, P, T, rfl⟩ := h
  rfl
theorem pm_31 (w : Nat) : (31 : Int32) + nI w = nI (31 + w) := nI_add 31 w
theorem pm_letterOf {mo : Mo} {n p l s r w q : Nat} {cd : Nat → Nat} (h : MB (Mo_state mo) n p l s r cd) (hw : w < n) (hq : q < 4) : fX6_letterOf mo (nI w) (nI q) = some (nI (pu_l (cd w) q)) := by
  have hn := h.2.2.2.2.2.1
  obtain ⟨h1, h2⟩ := h.2.2.2.2.2.2.2.2.2.2 w hw
  unfold fX6_letterOf
  rw [pm_31, pu_inb (by omega) (by omega), pu_cl (by omega), h1, pu_letterAt6 h2 hq]
  rfl
theorem pm_sd : ∀ a, a < 8 → ∀ b, b < 8 → (nI a - nI b = 0 ↔ a = b) ∧ ((0 : Int32) ≤ nI a - nI b → nI a - nI b = nI (pu_d a b)) ∧ (¬ (0 : Int32) ≤ nI a - nI b → -(nI a - nI b) = nI (pu_d a b)) := by decide +kernel
theorem pm_are_L {mo : Mo} {n p l s r a b : Nat} {cd : Nat → Nat} (h : MB (Mo_state mo) n p l s r cd) (ha : a < n) (hb : b < n) : ∀ (d i f u v : Nat), i + d = 4 → d < f → u ≤ i → v ≤ 7 * i → fX6_areLinked_L8 mo (nI a) (nI b) f (nI u) (nI v) (nI i) = some (nI (u + pu_un (cd a) (cd b) d), nI (v + pu_fa (cd a) (cd b) d)) := by
  intro d
  induction d with
  | zero =>
    intro i f u v hi hf hu hv
    obtain ⟨f, rfl, -⟩ := pu_fuel hf
    rw [fX6_areLinked_L8, if_pos (show (4 : Int32) ≤ nI i from nI_le (a := 4) (by omega) (by omega))]
    rfl
  | succ d ih =>
    intro i f u v hi hf hu hv
    obtain ⟨f, rfl, hf⟩ := pu_fuel hf
    have hid : 3 - d = i := by omega
    have h1 := pu_l_lt (cd a) i
    have h2 := pu_l_lt (cd b) i
    have h3 := pu_d8 h1 h2
    obtain ⟨s1, s2, s3⟩ := pm_sd _ h1 _ h2
    rw [fX6_areLinked_L8, if_neg (show ¬ (4 : Int32) ≤ nI i from nI_ge (b := 4) (by omega) (by omega)), pm_letterOf h ha (by omega), pm_letterOf h hb (by omega), pu_un, pu_fa, hid]
    simp only [pu_bd, pu_pl, nI_1]
    by_cases e : pu_l (cd a) i = pu_l (cd b) i
    · rw [if_pos (s1.mpr e), if_pos e, show nI u + (0 : Int32) = nI u from nI_add u 0]
      by_cases e2 : (0 : Int32) ≤ nI (pu_l (cd a) i) - nI (pu_l (cd b) i)
      · rw [if_pos e2, s2 e2, nI_add, ih (i + 1) f u _ (by omega) (by omega) (by omega) (by omega), Nat.zero_add, Nat.add_assoc]
      · rw [if_neg e2, s3 e2, nI_add, ih (i + 1) f u _ (by omega) (by omega) (by omega) (by omega), Nat.zero_add, Nat.add_assoc]
    · rw [if_neg (fun q => e (s1.mp q)), if_neg e]
      by_cases e2 : (0 : Int32) ≤ nI (pu_l (cd a) i) - nI (pu_l (cd b) i)
      · rw [if_pos e2, s2 e2, nI_add, ih (i + 1) f (u + 1) _ (by omega) (by omega) (by omega) (by omega), Nat.add_assoc, Nat.add_assoc]
      · rw [if_neg e2, s3 e2, nI_add, ih (i + 1) f (u + 1) _ (by omega) (by omega) (by omega) (by omega), Nat.add_assoc, Nat.add_assoc]
theorem pm_are {mo : Mo} {n p l s r a b : Nat} {cd : Nat → Nat} (h : MB (Mo_state mo) n p l s r cd) (ha : a < n) (hb : b < n) : ∃ y, fX6_areLinked mo (nI a) (nI b) = some y ∧ ((y = 1 ∧ Lkc r (cd a) (cd b)) ∨ (y = 0 ∧ ¬ Lkc r (cd a) (cd b))) := by
  have e : fX6_areLinked_L8 mo (nI a) (nI b) 1000 (0 : Int32) (0 : Int32) (0 : Int32) = some (nI (0 + pu_un (cd a) (cd b) 4), nI (0 + pu_fa (cd a) (cd b) 4)) := pm_are_L h ha hb 4 0 1000 0 0 rfl (by decide) (Nat.le_refl 0) (Nat.le_refl 0)
  have h4 := pu_un_lt (cd a) (cd b) 4
  have h5 := pu_fa_lt (cd a) (cd b) 4
  have hr := h.2.2.2.2.2.2.2.2.2.1
  unfold fX6_areLinked
  rw [e]
  simp only [pu_bd2, Nat.zero_add]
  unfold Lkc
  by_cases e1 : pu_un (cd a) (cd b) 4 = 1
  · rw [if_pos (show nI (pu_un (cd a) (cd b) 4) = 1 by rw [e1]; rfl), i55_4, c55_4, h.2.2.2.2.1]
    simp only [pu_ck]
    by_cases e2 : pu_fa (cd a) (cd b) 4 ≤ r
    · rw [if_neg (nI_nlt e2 (by omega))]
      exact ⟨1, rfl, Or.inl ⟨rfl, e1, e2⟩⟩
    · rw [if_pos (nI_lt (by omega) (by omega))]
      exact ⟨0, rfl, Or.inr ⟨rfl, fun q => e2 q.2⟩⟩
  · rw [if_neg (show ¬ nI (pu_un (cd a) (cd b) 4) = (1 : Int32) from fun q => e1 ((nI_eq (b := 1) (by omega) (by omega)).mp q))]
    exact ⟨0, rfl, Or.inr ⟨rfl, fun q => e1 q.1⟩⟩
/-! the reference's links -/
def Lk6 (A : AI) (n r : Nat) (cd : Nat → Nat) : Prop := ∀ u j, u < n → j < 32 → (bt (A u) j = true ↔ j < n ∧ Lkc r (cd u) (cd j))
theorem pm_lay_L21 {n p l s r w : Nat} {cd : Nat → Nat} (hw : w < n) : ∀ (d v f : Nat) (mo : Mo), v + d = n → d < f → MB (Mo_state mo) n p l s r cd → (∀ j, j < 32 → (bt (Mo_links mo w) j = true ↔ j < v ∧ Lkc r (cd w) (cd j))) → ∃ A, fX6_layLinks_L21 (nI w) f (nI v) mo = some (Mo_set_links mo A) ∧ (∀ j, j < 32 → (bt (A w) j = true ↔ j < n ∧ Lkc r (cd w) (cd j))) ∧ ∀ u, u ≠ w → A u = Mo_links mo u := by
  intro d
  induction d with
  | zero =>
    intro v f mo hv hf h g
    obtain ⟨f, rfl, -⟩ := pu_fuel hf
    have hn := h.2.2.2.2.2.1
    have : v = n := hv
    subst this
    refine ⟨Mo_links mo, ?_, g, fun u _ => rfl⟩
    rw [fX6_layLinks_L21, i55_0, c55_0, h.1]
    simp only [pu_ck]
    rw [if_pos (nI_le (Nat.le_refl v) (by omega))]
    rfl
  | succ d ih =>
    intro v f mo hv hf h g
    obtain ⟨f, rfl, hf⟩ := pu_fuel hf
    have hn := h.2.2.2.2.2.1
    obtain ⟨y, e1, e2⟩ := pm_are h hw (b := v) (by omega)
    rw [fX6_layLinks_L21, i55_0, c55_0, h.1, pu_inb (by omega) (by omega), pu_cl (by omega)]
    simp only [pu_ck]
    rw [if_neg (nI_ge (by omega) (by omega)), e1]
    simp only [pu_bd]
    rcases e2 with ⟨rfl, k⟩ | ⟨rfl, k⟩
    · rw [if_neg (by decide)]
      simp only [pu_pl, nI_1]
      obtain ⟨A, f1, f2, f3⟩ := ih (v + 1) f (Mo_set_links mo (upd (Mo_links mo) w (Mo_links mo w ||| ((1 : Int32) <<< (nI v &&& 31))))) (by omega) (by omega) h (fun j hj => by
        show bt (upd (Mo_links mo) w _ w) j = true ↔ _
        rw [pk_us, b_or, pu_one (by omega) hj, Bool.or_eq_true, g j hj, decide_eq_true_eq]
        constructor
        · rintro (q | q)
          · exact ⟨by omega, q.2⟩
          · subst q; exact ⟨by omega, k⟩
        · rintro ⟨q1, q2⟩
          by_cases e : j = v
          · exact Or.inr e
          · exact Or.inl ⟨by omega, q2⟩)
      refine ⟨A, f1, f2, fun u hu => ?_⟩
      rw [f3 u hu]
      exact pk_un hu
    · rw [if_pos rfl]
      simp only [pu_pl, nI_1]
      obtain ⟨A, f1, f2, f3⟩ := ih (v + 1) f (Mo_set_links mo (upd (Mo_links mo) w (Mo_links mo w ||| (0 : Int32)))) (by omega) (by omega) h (fun j hj => by
        show bt (upd (Mo_links mo) w _ w) j = true ↔ _
        rw [pk_us, b_or, b_0, Bool.or_false, g j hj]
        constructor
        · rintro q
          exact ⟨by omega, q.2⟩
        · rintro ⟨q1, q2⟩
          refine ⟨?_, q2⟩
          by_cases e : j = v
          · subst e; exact absurd q2 k
          · omega)
      refine ⟨A, f1, f2, fun u hu => ?_⟩
      rw [f3 u hu]
      exact pk_un hu
theorem pm_lay_L2 {n p l s r : Nat} {cd : Nat → Nat} : ∀ (d w f : Nat) (mo : Mo), w + d = n → d < f → MB (Mo_state mo) n p l s r cd → (∀ u j, u < w → j < 32 → (bt (Mo_links mo u) j = true ↔ j < n ∧ Lkc r (cd u) (cd j))) → ∃ A, fX6_layLinks_L2 f (nI w) mo = some (Mo_set_links mo A) ∧ Lk6 A n r cd := by
  intro d
  induction d with
  | zero =>
    intro w f mo hv hf h g
    obtain ⟨f, rfl, -⟩ := pu_fuel hf
    have hn := h.2.2.2.2.2.1
    have : w = n := hv
    subst this
    refine ⟨Mo_links mo, ?_, g⟩
    rw [fX6_layLinks_L2, i55_0, c55_0, h.1]
    simp only [pu_ck]
    rw [if_pos (nI_le (Nat.le_refl w) (by omega))]
    rfl
  | succ d ih =>
    intro w f mo hv hf h g
    obtain ⟨f, rfl, hf⟩ := pu_fuel hf
    have hn := h.2.2.2.2.2.1
    rw [fX6_layLinks_L2, i55_0, c55_0, h.1, pu_inb (by omega) (by omega), pu_cl (by omega)]
    simp only [pu_ck]
    rw [if_neg (nI_ge (by omega) (by omega))]
    obtain ⟨A, f1, f2, f3⟩ := pm_lay_L21 (n := n) (p := p) (l := l) (s := s) (r := r) (w := w) (cd := cd) (by omega) n 0 1000 (Mo_set_links mo (upd (Mo_links mo) w 0)) (by omega) (by omega) h (fun j hj => by
      show bt (upd (Mo_links mo) w 0 w) j = true ↔ _
      rw [pk_us, b_0]
      exact ⟨(fun q => by cases q), fun q => by omega⟩)
    have f1' : fX6_layLinks_L21 (nI w) 1000 (0 : Int32) (Mo_set_links mo (upd (Mo_links mo) w (0 : Int32))) = some (Mo_set_links mo A) := f1
    simp only [pu_pl]
    rw [f1']
    simp only [pu_bd, nI_1]
    refine ih (w + 1) f (Mo_set_links mo A) (by omega) (by omega) h (fun u j hu hj => ?_)
    show bt (A u) j = true ↔ _
    by_cases e : u = w
    · subst e; exact f2 j hj
    · rw [f3 u e, show Mo_links (Mo_set_links mo (upd (Mo_links mo) w 0)) u = upd (Mo_links mo) w 0 u from rfl, pk_un e]
      exact g u j (by omega) hj
theorem pm_lay {mo : Mo} {n p l s r : Nat} {cd : Nat → Nat} (h : MB (Mo_state mo) n p l s r cd) : ∃ A, fX6_layLinks mo = some (Mo_set_links mo A) ∧ Lk6 A n r cd := by
  have hn := h.2.2.2.2.2.1
  obtain ⟨A, e1, e2⟩ := pm_lay_L2 n 0 1000 mo (by omega) (by omega) h (fun u j hu => by omega)
  refine ⟨A, ?_, e2⟩
  unfold fX6_layLinks
  have e1' : fX6_layLinks_L2 1000 (0 : Int32) mo = some (Mo_set_links mo A) := e1
  rw [e1']
  rfl
theorem pm_beside_L {mo : Mo} {n p l s r : Nat} {cd : Nat → Nat} {x : Int32} (h : MB (Mo_state mo) n p l s r cd) : ∀ (d w f : Nat) (acc : Int32), w + d = n → d < f → ∃ y, fX6_beside_L4 mo x f acc (nI w) = some y ∧ ∀ j, bt y j = true ↔ (bt acc j = true ∨ ∃ v, w ≤ v ∧ v < n ∧ (bt x v = true ∧ bt (Mo_links mo v) j = true)) := by
  have hn := h.2.2.2.2.2.1
  intro d
  induction d with
  | zero =>
    intro w f acc hw hf
    obtain ⟨f, rfl, -⟩ := pu_fuel hf
    refine ⟨acc, ?_, fun j => ?_⟩
    · rw [fX6_beside_L4, i55_0, c55_0, h.1]
      simp only [pu_ck]
      rw [if_pos (nI_le (by omega) (by omega))]
    · rw [pu_ex0 (by omega), or_false]
  | succ d ih =>
    intro w f acc hw hf
    obtain ⟨f, rfl, hf⟩ := pu_fuel hf
    have hwn : w < n := by omega
    rw [fX6_beside_L4, i55_0, c55_0, h.1]
    simp only [pu_ck]
    rw [if_neg (nI_ge (by omega) (by omega)), pu_sh (by omega)]
    cases hb : bt x w
    · rw [if_neg (show ¬ (if false = true then (1 : Int32) else 0) = 1 by decide)]
      simp only [pu_pl, nI_1]
      obtain ⟨y, e1, e2⟩ := ih (w + 1) f (acc ||| 0) (by omega) (by omega)
      refine ⟨y, e1, fun j => ?_⟩
      rw [e2, pu_ex hwn, b_or, b_0]
      simp [hb]
    · rw [if_pos (show (if true = true then (1 : Int32) else 0) = 1 by decide), pu_inb (by omega) (by omega), pu_cl (by omega)]
      simp only [pu_pl, pu_ck, nI_1]
      obtain ⟨y, e1, e2⟩ := ih (w + 1) f (acc ||| Mo_links mo w) (by omega) (by omega)
      refine ⟨y, e1, fun j => ?_⟩
      rw [e2, pu_ex hwn, b_or]
      simp [hb, or_assoc]
theorem pm_beside {mo : Mo} {n p l s r : Nat} {cd : Nat → Nat} {x : Int32} {S : Nat → Prop} (h : MB (Mo_state mo) n p l s r cd) (hl : Lk6 (Mo_links mo) n r cd) (hx : ∀ j, j < 32 → (bt x j = true ↔ S j)) : ∃ y, fX6_beside mo x = some y ∧ ∀ j, j < 32 → (bt y j = true ↔ ∃ v, S v ∧ Kw n r cd v j) := by
  have hn := h.2.2.2.2.2.1
  obtain ⟨y, e1, e2⟩ := pm_beside_L (x := x) h n 0 1000 0 (by omega) (by omega)
  have e1' : fX6_beside_L4 mo x 1000 (0 : Int32) (0 : Int32) = some y := e1
  refine ⟨y, ?_, fun j hj => ?_⟩
  · unfold fX6_beside
    rw [e1']
    rfl
  · rw [e2, b_0]
    constructor
    · rintro (q | ⟨v, -, v1, v2, v3⟩)
      · cases q
      · exact ⟨v, (hx v (by omega)).mp v2, v1, (hl v j v1 hj).mp v3⟩
    · rintro ⟨v, v1, v2, v3⟩
      exact Or.inr ⟨v, by omega, v2, (hx v (by omega)).mpr v1, (hl v j v2 hj).mpr v3⟩
/-! the reference's bar -/
def At (mo : Mo) (p l s t : Nat) : Prop := Mo_place mo = nI ((p + t) % 4) ∧ Mo_letter mo = nI ((l + (p + t) / 4 * s) % 8)
theorem pm_barNow {mo : Mo} {n p l s r : Nat} {cd : Nat → Nat} (h : MB (Mo_state mo) n p l s r cd) : ∃ mo', fX6_barNow mo = some mo' ∧ Same mo mo' ∧ Mo_links mo' = Mo_links mo ∧ At mo' p l s 0 := by
  obtain ⟨-, h1, h2, -, -, -, h3, h4, -⟩ := h
  refine ⟨Mo_set_letter (Mo_set_place mo (nI p)) (nI l), ?_, ⟨Mo_links mo, nI p, nI l, rfl⟩, rfl, ?_, ?_⟩
  · unfold fX6_barNow
    rw [i55_1, c55_1, i55_2, c55_2, h1]
    simp only [pu_ck, pu_pl]
    rw [show Mo_state (Mo_set_place mo (nI p)) 2 = nI l from h2]
  · show nI p = _
    exact congrArg nI (by omega)
  · show nI l = _
    have e : (p + 0) / 4 = 0 := by omega
    rw [e, Nat.zero_mul]
    exact congrArg nI (by omega)
theorem pm_moveBar {mo : Mo} {n p l s r t : Nat} {cd : Nat → Nat} (h : MB (Mo_state mo) n p l s r cd) (ha : At mo p l s t) : ∃ mo', fX6_moveBar mo = some mo' ∧ Same mo mo' ∧ Mo_links mo' = Mo_links mo ∧ At mo' p l s (t + 1) := by
  obtain ⟨-, h1, h2, h0, -, -, h3, h4, h5, -⟩ := h
  obtain ⟨a1, a2⟩ := ha
  unfold fX6_moveBar At
  rw [a1]
  by_cases e : (p + t) % 4 = 3
  · rw [e, if_pos (show nI 3 = (3 : Int32) from rfl)]
    simp only [pu_pl]
    rw [show Mo_place (Mo_set_place mo 0) = 0 from rfl, if_pos rfl, i55_3, c55_3, show Mo_state (Mo_set_place mo 0) 3 = nI s from h0, show Mo_letter (Mo_set_place mo 0) = _ from a2]
    have e1 : (p + (t + 1)) % 4 = 0 := by omega
    have e2 : (p + (t + 1)) / 4 = (p + t) / 4 + 1 := by omega
    rw [e1, e2, Nat.succ_mul]
    refine ⟨_, rfl, ⟨Mo_links mo, _, _, rfl⟩, rfl, rfl, ?_⟩
    show (nI ((l + (p + t) / 4 * s) % 8) + nI s) - (nI ((l + (p + t) / 4 * s) % 8) + nI s) / (8 : Int32) * (8 : Int32) = _
    generalize (p + t) / 4 * s = q
    rw [nI_add, show (8 : Int32) = nI 8 from rfl, pk_rem (by omega) (by decide) (by decide)]
    exact congrArg nI (by omega)
  · rw [if_neg (show ¬ nI ((p + t) % 4) = (3 : Int32) from fun q => e ((nI_eq (b := 3) (by omega) (by omega)).mp q))]
    simp only [pu_pl, nI_1]
    rw [show Mo_place (Mo_set_place mo (nI ((p + t) % 4 + 1))) = nI ((p + t) % 4 + 1) from rfl, if_neg (nI_ne0 (by omega) (by omega))]
    have e1 : (p + (t + 1)) % 4 = (p + t) % 4 + 1 := by omega
    have e2 : (p + (t + 1)) / 4 = (p + t) / 4 := by omega
    rw [e1, e2]
    exact ⟨_, rfl, ⟨Mo_links mo, _, _, rfl⟩, rfl, rfl, a2⟩
theorem pm_barred_L {mo : Mo} {n p l s r t : Nat} {cd : Nat → Nat} (h : MB (Mo_state mo) n p l s r cd) (ha : At mo p l s t) : ∀ (d w f : Nat) (acc : Int32), w + d = n → d < f → ∃ y, fX6_barred_L4 mo f acc (nI w) = some y ∧ ∀ j, j < 32 → (bt y j = true ↔ (bt acc j = true ∨ (w ≤ j ∧ Bar n p l s cd t j))) := by
  have hn := h.2.2.2.2.2.1
  intro d
  induction d with
  | zero =>
    intro w f acc hw hf
    obtain ⟨f, rfl, -⟩ := pu_fuel hf
    refine ⟨acc, ?_, fun j hj => ⟨Or.inl, ?_⟩⟩
    · rw [fX6_barred_L4, i55_0, c55_0, h.1]
      simp only [pu_ck]
      rw [if_pos (nI_le (by omega) (by omega))]
    · rintro (q | q)
      · exact q
      · have := q.2.1; omega
  | succ d ih =>
    intro w f acc hw hf
    obtain ⟨f, rfl, hf⟩ := pu_fuel hf
    have hwn : w < n := by omega
    rw [fX6_barred_L4, i55_0, c55_0, h.1]
    simp only [pu_ck]
    rw [if_neg (nI_ge (by omega) (by omega)), ha.1, ha.2, pm_letterOf h hwn (Nat.mod_lt _ (by decide))]
    simp only [pu_bd]
    have h8 := pu_l_lt (cd w) ((p + t) % 4)
    have h9 : (l + (p + t) / 4 * s) % 8 < 8 := Nat.mod_lt _ (by decide)
    by_cases e : pu_l (cd w) ((p + t) % 4) = (l + (p + t) / 4 * s) % 8
    · rw [if_pos (by rw [e])]
      simp only [pu_pl, nI_1]
      obtain ⟨y, e1, e2⟩ := ih (w + 1) f (acc ||| ((1 : Int32) <<< (nI w &&& 31))) (by omega) (by omega)
      refine ⟨y, e1, fun j hj => ?_⟩
      rw [e2 j hj, b_or, pu_one (by omega) hj, Bool.or_eq_true, decide_eq_true_eq]
      constructor
      · rintro ((q | rfl) | q)
        · exact Or.inl q
        · exact Or.inr ⟨Nat.le_refl _, hwn, e⟩
        · exact Or.inr ⟨by omega, q.2⟩
      · rintro (q | q)
        · exact Or.inl (Or.inl q)
        · by_cases e3 : j = w
          · exact Or.inl (Or.inr e3)
          · exact Or.inr ⟨by omega, q.2⟩
    · rw [if_neg (by rw [nI_eq (by omega) (by omega)]; exact e)]
      simp only [pu_pl, nI_1]
      obtain ⟨y, e1, e2⟩ := ih (w + 1) f (acc ||| 0) (by omega) (by omega)
      refine ⟨y, e1, fun j hj => ?_⟩
      rw [e2 j hj, b_or, b_0, Bool.or_false]
      constructor
      · rintro (q | q)
        · exact Or.inl q
        · exact Or.inr ⟨by omega, q.2⟩
      · rintro (q | q)
        · exact Or.inl q
        · by_cases e3 : j = w
          · subst e3; exact absurd q.2.2 e
          · exact Or.inr ⟨by omega, q.2⟩
theorem pm_barred {mo : Mo} {n p l s r t : Nat} {cd : Nat → Nat} (h : MB (Mo_state mo) n p l s r cd) (ha : At mo p l s t) : ∃ y, fX6_barred mo = some y ∧ ∀ j, j < 32 → (bt y j = true ↔ Bar n p l s cd t j) := by
  have hn := h.2.2.2.2.2.1
  obtain ⟨y, e1, e2⟩ := pm_barred_L h ha n 0 1000 0 (by omega) (by omega)
  have e1' : fX6_barred_L4 mo 1000 (0 : Int32) (0 : Int32) = some y := e1
  refine ⟨y, ?_, fun j hj => ?_⟩
  · unfold fX6_barred
    rw [e1']
    rfl
  · rw [e2 j hj, b_0]
    exact ⟨fun q => q.elim (fun k => by cases k) (fun k => k.2), fun q => Or.inr ⟨by omega, q⟩⟩
theorem pm_isBarred {mo : Mo} {n p l s r w : Nat} {cd : Nat → Nat} (h : MB (Mo_state mo) n p l s r cd) (hw : w < n) : ∃ y mo', fX6_isBarred mo (nI w) = some (y, mo') ∧ Same mo mo' ∧ Mo_links mo' = Mo_links mo ∧ ((y = 1 ∧ Bar n p l s cd 0 w) ∨ (y = 0 ∧ ¬ Bar n p l s cd 0 w)) := by
  have hn := h.2.2.2.2.2.1
  obtain ⟨mo1, e1, e2, e3, e4⟩ := pm_barNow h
  obtain ⟨y, f1, f2⟩ := pm_barred (mo := mo1) (by rw [e2.state]; exact h) e4
  unfold fX6_isBarred
  rw [e1]
  simp only [pu_bd]
  rw [f1]
  simp only [pu_bd]
  rw [pu_sh (by omega)]
  have := f2 w (by omega)
  cases hb : bt y w
  · rw [hb] at this
    rw [if_neg (show ¬ (if false = true then (1 : Int32) else 0) = 1 by decide)]
    exact ⟨0, mo1, rfl, e2, e3, Or.inr ⟨rfl, fun q => by cases this.mpr q⟩⟩
  · rw [if_pos (show (if true = true then (1 : Int32) else 0) = 1 by decide)]
    exact ⟨1, mo1, rfl, e2, e3, Or.inl ⟨rfl, this.mp hb⟩⟩
theorem pm_barredIn_L {n p l s r w : Nat} {cd : Nat → Nat} (hw : w < n) : ∀ (d t f : Nat) (mo : Mo), t + d = 32 → d < f → MB (Mo_state mo) n p l s r cd → At mo p l s t → (∀ j, j < t → ¬ Bar n p l s cd j w) → ∃ y mo', fX6_barredIn_L6 (nI w) f (nI t) mo = some (y, mo') ∧ Same mo mo' ∧ Lst 32 (fun t => Bar n p l s cd t w) y := by
  intro d
  induction d with
  | zero =>
    intro t f mo ht hf h ha g
    obtain ⟨f, rfl, -⟩ := pu_fuel hf
    refine ⟨-1, mo, ?_, Same.refl mo, Or.inr ⟨fun j hj => g j (by omega), rfl⟩⟩
    rw [fX6_barredIn_L6, if_pos (show (32 : Int32) ≤ nI t from nI_le (a := 32) (by omega) (by omega))]
  | succ d ih =>
    intro t f mo ht hf h ha g
    obtain ⟨f, rfl, hf⟩ := pu_fuel hf
    have hn := h.2.2.2.2.2.1
    obtain ⟨y, f1, f2⟩ := pm_barred h ha
    rw [fX6_barredIn_L6, if_neg (show ¬ (32 : Int32) ≤ nI t from nI_ge (b := 32) (by omega) (by omega)), f1]
    simp only [pu_bd]
    rw [pu_sh (by omega)]
    have := f2 w (by omega)
    cases hb : bt y w
    · rw [hb] at this
      rw [if_neg (show ¬ (if false = true then (1 : Int32) else 0) = 1 by decide)]
      obtain ⟨mo1, e1, e2, e3, e4⟩ := pm_moveBar h ha
      rw [e1]
      simp only [pu_bd, pu_pl, nI_1]
      obtain ⟨z, mo2, k1, k2, k3⟩ := ih (t + 1) f mo1 (by omega) (by omega) (by rw [e2.state]; exact h) e4 (fun j hj q => by
        by_cases e : j = t
        · subst e; cases this.mpr q
        · exact g j (by omega) q)
      exact ⟨z, mo2, k1, e2.trans k2, k3⟩
    · rw [if_pos (show (if true = true then (1 : Int32) else 0) = 1 by decide)]
      exact ⟨nI t, mo, rfl, Same.refl mo, Or.inl ⟨t, by omega, this.mp hb, g, rfl⟩⟩
theorem pm_barredIn {mo : Mo} {n p l s r w : Nat} {cd : Nat → Nat} (h : MB (Mo_state mo) n p l s r cd) (hw : w < n) : ∃ y mo', fX6_barredIn mo (nI w) = some (y, mo') ∧ Same mo mo' ∧ Lst 32 (fun t => Bar n p l s cd t w) y := by
  obtain ⟨mo1, e1, e2, e3, e4⟩ := pm_barNow h
  obtain ⟨y, mo2, k1, k2, k3⟩ := pm_barredIn_L hw 32 0 1000 mo1 rfl (by decide) (by rw [e2.state]; exact h) e4 (fun j hj => by omega)
  unfold fX6_barredIn
  rw [e1]
  exact ⟨y, mo2, k1, e2.trans k2, k3⟩
/-- the class's look at the same -/
theorem pu_tub_L {st : St} {n p l s r w : Nat} {cd : Nat → Nat} (h : Base st n p l s r cd) (hw : w < n) : ∀ (d t f : Nat), t + d = 32 → d < f → (∀ j, j < t → ¬ Bar n p l s cd j w) → ∃ y, fX2_turnsUntilBarred_L2 st (nI w) f (nI t) = some y ∧ Lst 32 (fun t => Bar n p l s cd t w) y := by
  intro d
  induction d with
  | zero =>
    intro t f ht hf g
    obtain ⟨f, rfl, -⟩ := pu_fuel hf
    refine ⟨-1, ?_, Or.inr ⟨fun j hj => g j (by omega), rfl⟩⟩
    rw [fX2_turnsUntilBarred_L2, if_pos (show (32 : Int32) ≤ nI t from nI_le (a := 32) (by omega) (by omega))]
  | succ d ih =>
    intro t f ht hf g
    obtain ⟨f, rfl, hf⟩ := pu_fuel hf
    obtain ⟨y, f1, f2⟩ := pu_isBarred h (t := t) (by omega) hw
    rw [fX2_turnsUntilBarred_L2, if_neg (show ¬ (32 : Int32) ≤ nI t from nI_ge (b := 32) (by omega) (by omega)), f1]
    simp only [pu_bd]
    rcases f2 with ⟨rfl, k⟩ | ⟨rfl, k⟩
    · rw [if_neg (by decide)]
      exact ⟨nI t, rfl, Or.inl ⟨t, by omega, k, g, rfl⟩⟩
    · rw [if_pos rfl]
      simp only [pu_pl, nI_1]
      exact ih (t + 1) f (by omega) (by omega) (fun j hj q => by
        by_cases e : j = t
        · subst e; exact k q
        · exact g j (by omega) q)
theorem pu_tub {st : St} {n p l s r w : Nat} {cd : Nat → Nat} (h : Base st n p l s r cd) (hw : w < n) : ∃ y, fX2_turnsUntilBarred st (nI w) = some y ∧ Lst 32 (fun t => Bar n p l s cd t w) y := pu_tub_L h hw 32 0 1000 rfl (by decide) (fun j hj => by omega)

end MOD
