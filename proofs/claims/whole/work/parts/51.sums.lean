section SUM
set_option maxRecDepth 100000 in
theorem f2d_ok {E t : Nat} (h1 : 127 ≤ E) (h2 : E ≤ 200) (ht : t < 8388608) : nnd (FP.f2d (fl E t)) = true ∧ Op.cmpValue (FP.dcmp (FP.f2d (fl E t)) (FP.f2d (fl E t))) .l = 0 := by
  have hd := fl_dec (E := E) (by omega) (by omega) ht
  have e0 : FP.f2d (fl E t) = UInt64.ofNat ((E + 896) * 4503599627370496 + ((8388608 + t) * 2 ^ 29 - 4503599627370496)) := by
    unfold FP.f2d FP.Core.fIsNaN FP.Core.isNaN FP.Core.f2d FP.Core.convert
    rw [hd, if_neg (by simp)]
    refine congrArg UInt64.ofNat ?_
    show FP.Core.encode FP.Core.b64 (FP.Core.roundRatio FP.Core.b64 false (8388608 + t) 1 ((E : Int) - 150)) = _
    unfold FP.Core.roundRatio FP.Core.roundAt FP.Core.quantum FP.Core.unitsNum FP.Core.unitsDen
    have hL := f_lead (num := 8388608 + t) (den := 1) (lg2 (k := 23) (by omega) (by omega)) (show Nat.log2 1 = 0 from by decide) (Nat.zero_le 23) (by omega)
    rw [if_neg (by omega), hL, b64_q, b64_p]
    have e1 : max (-1074) (((23 : Nat) : Int) - ((0 : Nat) : Int) + ((E : Int) - 150) - (((53 : Nat) : Int) - 1)) = (E : Int) - 179 := by omega
    have e2 : (((E : Int) - 150) - ((E : Int) - 179)).toNat = 29 := by omega
    have e3 : (((E : Int) - 179) - ((E : Int) - 150)).toNat = 0 := by omega
    rw [e1, e2, e3, f_near1]
    unfold FP.Core.settle FP.Core.bound
    rw [b64_p, b64_Q, if_pos (show (8388608 + t) * 2 ^ 29 < 2 ^ 53 by omega), if_pos (by omega)]
    unfold FP.Core.encode FP.Core.assemble
    simp only
    rw [b64_t, b64_e, b64_q, if_neg (by omega)]
    have e4 : ((E : Int) - 179 - -1074).toNat + 1 = E + 896 := by omega
    rw [e4]
    have e5 : (false.toNat * 2048 + (E + 896)) = E + 896 := by
      rw [show false.toNat = 0 from rfl]
      omega
    rw [e5]
  have hx : (E + 896) * 4503599627370496 + ((8388608 + t) * 2 ^ 29 - 4503599627370496) < 2 ^ 63 := by omega
  rw [e0]
  generalize hX : (E + 896) * 4503599627370496 + ((8388608 + t) * 2 ^ 29 - 4503599627370496) = X at *
  have hn : (UInt64.ofNat X).toNat = X := by
    rw [UInt64.toNat_ofNat']
    exact Nat.mod_eq_of_lt (by omega)
  constructor
  · unfold nnd
    refine decide_eq_true ?_
    rw [UInt64.le_iff_toNat_le, UInt64.toNat_and, hn]
    have e : (0x7fffffffffffffff : UInt64).toNat = 2 ^ 63 - 1 := by decide
    have e2 : (0x7ff0000000000000 : UInt64).toNat = 9218868437227405312 := by decide
    rw [e, e2, Nat.and_two_pow_sub_one_eq_mod]
    omega
  · have : ∃ s c q, FP.Core.decode FP.Core.b64 X = .fin s c q := by
      unfold FP.Core.decode FP.Core.fieldE
      rw [b64_t, b64_e]
      have : X / 4503599627370496 % 2048 ≠ 2048 - 1 := by omega
      rw [if_neg this]
      split
      · exact ⟨_, _, _, rfl⟩
      · exact ⟨_, _, _, rfl⟩
    obtain ⟨s, c, q, hq⟩ := this
    unfold FP.dcmp FP.Core.dcmp FP.Core.cmp
    rw [hn, hq]
    unfold FP.Core.order
    simp only
    rw [Int.compare_eq_eq.mpr rfl]
    rfl
theorem f0_ok : nnd (FP.f2d FP.fconst0) = true ∧ Op.cmpValue (FP.dcmp (FP.f2d FP.fconst0) (FP.f2d FP.fconst0)) .l = 0 ∧ fX5_bitsOfMean FP.fconst0 = some 0 ∧ fJxf58ca_floatToIntBits_5c35a FP.fconst0 = some 0 := by decide +kernel
theorem sum3_L {st : St} {la : Nat → Nat} (h : ∀ c, c < 3 → St_ladders st c = nI (la c)) : ∀ (d i f : Nat), i + d = 3 → d < f → fX2_laddersSoFar_L4 st f (nI (fb_sm la i)) (nI i) = some (nI (fb_sm la 3)) := by
  intro d
  induction d with
  | zero =>
    intro i f hi hf
    obtain ⟨f, rfl, -⟩ := pu_fuel hf
    have : i = 3 := hi
    subst this
    rw [fX2_laddersSoFar_L4, if_pos (show (3 : Int32) ≤ nI 3 from nI_le (a := 3) (by omega) (by omega))]
  | succ d ih =>
    intro i f hi hf
    obtain ⟨f, rfl, hf⟩ := pu_fuel hf
    rw [fX2_laddersSoFar_L4, if_neg (show ¬ (3 : Int32) ≤ nI i from nI_ge (b := 3) (by omega) (by omega)), pu_inb (by omega) (by decide), pu_cl (by omega), h i (by omega), pu_ck, pu_pl, pu_pl, nI_1, nI_add]
    exact ih (i + 1) f (by omega) (by omega)
theorem sum3 {st : St} {la : Nat → Nat} (h : ∀ c, c < 3 → St_ladders st c = nI (la c)) : fX2_laddersSoFar st = some (nI (la 0 + la 1 + la 2)) := by
  unfold fX2_laddersSoFar
  have e : fX2_laddersSoFar_L4 st 1000 (0 : Int32) (0 : Int32) = some (nI (fb_sm la 3)) := sum3_L h 3 0 1000 rfl (by decide)
  rw [e, pu_bd]
  simp only [fb_sm, Nat.zero_add]
theorem sumf_L {st : St} {la : Nat → Nat} (h : ∀ c, c < 3 → St_falls st c = nI (la c)) : ∀ (d i f : Nat), i + d = 3 → d < f → fX2_fallsSoFar_L4 st f (nI (fb_sm la i)) (nI i) = some (nI (fb_sm la 3)) := by
  intro d
  induction d with
  | zero =>
    intro i f hi hf
    obtain ⟨f, rfl, -⟩ := pu_fuel hf
    have : i = 3 := hi
    subst this
    rw [fX2_fallsSoFar_L4, if_pos (show (3 : Int32) ≤ nI 3 from nI_le (a := 3) (by omega) (by omega))]
  | succ d ih =>
    intro i f hi hf
    obtain ⟨f, rfl, hf⟩ := pu_fuel hf
    rw [fX2_fallsSoFar_L4, if_neg (show ¬ (3 : Int32) ≤ nI i from nI_ge (b := 3) (by omega) (by omega)), pu_inb (by omega) (by decide), pu_cl (by omega), h i (by omega), pu_ck, pu_pl, pu_pl, nI_1, nI_add]
    exact ih (i + 1) f (by omega) (by omega)
theorem sumf {st : St} {la : Nat → Nat} (h : ∀ c, c < 3 → St_falls st c = nI (la c)) : fX2_fallsSoFar st = some (nI (la 0 + la 1 + la 2)) := by
  unfold fX2_fallsSoFar
  have e : fX2_fallsSoFar_L4 st 1000 (0 : Int32) (0 : Int32) = some (nI (fb_sm la 3)) := sumf_L h 3 0 1000 rfl (by decide)
  rw [e, pu_bd]
  simp only [fb_sm, Nat.zero_add]
theorem sumc_L {st : St} : ∀ (d i f : Nat), i + d = 3 → d < f → fX2_climbersOnWords_L4 st f (nI (fb_sm (fun c => if St_under st c = -1 then 0 else 1) i)) (nI i) = some (nI (fb_sm (fun c => if St_under st c = -1 then 0 else 1) 3)) := by
  intro d
  induction d with
  | zero =>
    intro i f hi hf
    obtain ⟨f, rfl, -⟩ := pu_fuel hf
    have : i = 3 := hi
    subst this
    rw [fX2_climbersOnWords_L4, if_pos (show (3 : Int32) ≤ nI 3 from nI_le (a := 3) (by omega) (by omega))]
  | succ d ih =>
    intro i f hi hf
    obtain ⟨f, rfl, hf⟩ := pu_fuel hf
    have e := ih (i + 1) f (by omega) (by omega)
    rw [fb_sm_succ] at e
    rw [fX2_climbersOnWords_L4, if_neg (show ¬ (3 : Int32) ≤ nI i from nI_ge (b := 3) (by omega) (by omega)), pu_inb (by omega) (by decide), pu_cl (by omega), pu_ck]
    by_cases q : St_under st i = -1
    · rw [if_pos q] at e ⊢
      rw [pu_pl, nI_1]
      exact e
    · rw [if_neg q] at e ⊢
      rw [pu_pl, pu_pl, nI_1, nI_1]
      exact e
theorem sum6_L {st : St} {mo : Mo} (h : ∀ c, c < 3 → Mo_state mo (10 + 7 * c + 0) = St_under st c) : ∀ (d i f : Nat), i + d = 3 → d < f → fX6_climbing_L4 mo f (nI (fb_sm (fun c => if St_under st c = -1 then 0 else 1) i)) (nI i) = some (nI (fb_sm (fun c => if St_under st c = -1 then 0 else 1) 3)) := by
  intro d
  induction d with
  | zero =>
    intro i f hi hf
    obtain ⟨f, rfl, -⟩ := pu_fuel hf
    have : i = 3 := hi
    subst this
    rw [fX6_climbing_L4, if_pos (show (3 : Int32) ≤ nI 3 from nI_le (a := 3) (by omega) (by omega))]
  | succ d ih =>
    intro i f hi hf
    obtain ⟨f, rfl, hf⟩ := pu_fuel hf
    have e := ih (i + 1) f (by omega) (by omega)
    rw [fb_sm_succ] at e
    have o : fX6_of mo (nI i) (0 : Int32) = some (St_under st i) := by rw [← h i (by omega)]; exact pm_of (k := 0) (by omega) (by decide)
    rw [fX6_climbing_L4, if_neg (show ¬ (3 : Int32) ≤ nI i from nI_ge (b := 3) (by omega) (by omega)), o, pu_bd]
    by_cases q : St_under st i = -1
    · rw [if_pos q] at e ⊢
      rw [nI_k0, pu_pl, pu_pl, nI_1]
      exact e
    · rw [if_neg q] at e ⊢
      rw [pu_pl, pu_pl, nI_1, nI_1]
      exact e
theorem cs_climbing {st : St} {mo : Mo} (h : ∀ c, c < 3 → Mo_state mo (10 + 7 * c + 0) = St_under st c) : ∃ y, fX2_climbersOnWords st = some y ∧ fX6_climbing mo = some y := by
  have e1 : fX2_climbersOnWords_L4 st 1000 (0 : Int32) (0 : Int32) = some (nI (fb_sm (fun c => if St_under st c = -1 then 0 else 1) 3)) := sumc_L (st := st) 3 0 1000 rfl (by decide)
  have e2 : fX6_climbing_L4 mo 1000 (0 : Int32) (0 : Int32) = some (nI (fb_sm (fun c => if St_under st c = -1 then 0 else 1) 3)) := sum6_L h 3 0 1000 rfl (by decide)
  refine ⟨nI (fb_sm (fun c => if St_under st c = -1 then 0 else 1) 3), ?_, ?_⟩
  · unfold fX2_climbersOnWords
    rw [e1, pu_bd]
  · unfold fX6_climbing
    rw [e2, pu_bd]
/-- the means of both sides -/
theorem cs_mean {st : St} {mo : Mo} {m n p l s r : Nat} {cd : Nat → Nat} (h : CSx st (Mo_state mo) m n p l s r cd) (hm : m < 1000000) (tx : Tx) (is : Is) (wa : Wa) (hi : Hi) : ∃ x b, fX5_meanLadder tx is wa st hi = some x ∧ fX6_mean mo = some x ∧ fX5_bitsOfMean x = some b ∧ fJxf58ca_floatToIntBits_5c35a x = some b ∧ nnd (FP.f2d x) = true ∧ Op.cmpValue (FP.dcmp (FP.f2d x) (FP.f2d x)) .l = 0 := by
  obtain ⟨hB, hL, hM, hC, h5, h6, la, sp, fa, dn, k1, k2, k3, k4, k5, k6, k7⟩ := h
  unfold fX5_meanLadder fX6_mean
  rw [sum3 (fun c hc => (k1 c hc).1), pu_bd, i55_7, c55_7, pu_ck, k2]
  by_cases e : la 0 + la 1 + la 2 = 0
  · rw [e, if_pos (show nI 0 ≤ (0 : Int32) by decide), if_pos (show nI 0 = (0 : Int32) from rfl)]
    obtain ⟨a1, a2, a3, a4⟩ := f0_ok
    exact ⟨_, 0, rfl, rfl, a3, a4, a1, a2⟩
  · obtain ⟨E, t, q1, q2, q3, q4⟩ := f_quot (m := la 0 + la 1 + la 2) (d := dn) (by omega) k6 (by omega)
    have nn := fl_nnf (E := E) (t := t) (by omega) q3
    obtain ⟨d1, d2⟩ := f2d_ok q1 (by omega) q3
    rw [if_neg (show ¬ nI (la 0 + la 1 + la 2) ≤ (0 : Int32) from nI_nle (by omega) (by omega)), if_neg (nI_ne0 (by omega) (by omega)), i55_9, c55_9, pu_ck, pu_ck, k4, k5, q4, nn, pu_ck]
    exact ⟨_, _, rfl, rfl, fm_bits q1 (by omega) q3, fm_jdk q1 (by omega) q3, d1, d2⟩
end SUM
