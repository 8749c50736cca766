section MBI
theorem f_two : FP.Core.decode FP.Core.b32 FP.fconst2.toNat = .fin false 8388608 (-22) := by decide +kernel
theorem f_one : FP.Core.decode FP.Core.b32 FP.fconst1.toNat = .fin false 8388608 (-23) := by decide +kernel
theorem f_zer : FP.Core.decode FP.Core.b32 FP.fconst0.toNat = .fin false 0 (-149) := by decide +kernel
theorem f_big : FP.Core.decode FP.Core.b32 (1258291200 : UInt32).toNat = .fin false 8388608 0 := by decide +kernel
theorem fl_half {E t : Nat} (h1 : 1 ≤ E) (h2 : E ≤ 253) (ht : t < 8388608) : FP.fdiv (fl (E + 1) t) FP.fconst2 = fl E t := by
  unfold FP.fdiv FP.Core.fdiv FP.Core.div
  rw [fl_dec (by omega) (by omega) ht, f_two]
  unfold FP.Core.quotient
  simp only [bne_self_eq_false]
  have hL := f_lead (num := 8388608 + t) (den := 8388608) (lg2 (k := 23) (by omega) (by omega)) (lg2 (k := 23) (by omega) (by omega)) (Nat.le_refl 23) (by omega)
  rw [if_neg (by omega), f_rr (by omega) hL (q := (E : Int) - 150) (by omega) (by omega)]
  have e1 : ((((E + 1 : Nat) : Int) - 150) - -22 - ((E : Int) - 150)).toNat = 23 := by omega
  have e2 : ((E : Int) - 150 - ((((E + 1 : Nat) : Int) - 150) - -22)).toNat = 0 := by omega
  rw [e1, e2, show (8388608 + t) * 2 ^ 23 = (8388608 + t) * (8388608 * 2 ^ 0) by omega, f_nearM _ _ (by omega), f_settle (by omega) (by omega), fl_of h1 (by omega), show 8388608 + t - 8388608 = t by omega]
theorem fl_cmp2 {E t : Nat} (h1 : 127 ≤ E) (h2 : E ≤ 254) (ht : t < 8388608) : Op.cmpValue (FP.fcmp (fl E t) FP.fconst2) .l < 0 ↔ E = 127 := by
  unfold FP.fcmp FP.Core.fcmp FP.Core.cmp
  rw [fl_dec (by omega) h2 ht, f_two]
  unfold FP.Core.order FP.Core.signed FP.Core.inUnits
  simp only [Bool.false_eq_true, if_false]
  by_cases e : E = 127
  · subst e
    have e1 : (((127 : Nat) : Int) - 150 - min (((127 : Nat) : Int) - 150) (-22)).toNat = 0 := by omega
    have e2 : ((-22 : Int) - min (((127 : Nat) : Int) - 150) (-22)).toNat = 1 := by omega
    rw [e1, e2]
    have : compare (((8388608 + t) * 2 ^ 0 : Nat) : Int) ((8388608 * 2 ^ 1 : Nat) : Int) = .lt := by
      rw [Int.compare_eq_lt]
      omega
    rw [this]
    simp [Op.cmpValue]
  · have e1 : min ((E : Int) - 150) (-22) = -22 := by omega
    have e2 : ((-22 : Int) - -22).toNat = 0 := by omega
    rw [e1, e2]
    have hp : 1 ≤ 2 ^ ((E : Int) - 150 - -22).toNat := Nat.one_le_two_pow
    have hm : 8388608 + t ≤ (8388608 + t) * 2 ^ ((E : Int) - 150 - -22).toNat := Nat.le_mul_of_pos_right _ hp
    generalize (8388608 + t) * 2 ^ ((E : Int) - 150 - -22).toNat = X at *
    have : compare ((X : Nat) : Int) ((8388608 * 2 ^ 0 : Nat) : Int) = .gt ∨ compare ((X : Nat) : Int) ((8388608 * 2 ^ 0 : Nat) : Int) = .eq := by
      by_cases q : X = 8388608 * 2 ^ 0
      · exact Or.inr (by rw [q]; exact Int.compare_eq_eq.mpr rfl)
      · exact Or.inl (Int.compare_eq_gt.mpr (by omega))
    rcases this with q | q <;> rw [q] <;> simp [Op.cmpValue, e] <;> decide
theorem fl_cmp0 {E t : Nat} (h1 : 127 ≤ E) (h2 : E ≤ 254) (ht : t < 8388608) : (0 : Int32) < Op.cmpValue (FP.fcmp (fl E t) FP.fconst0) .l := by
  unfold FP.fcmp FP.Core.fcmp FP.Core.cmp
  rw [fl_dec (by omega) h2 ht, f_zer]
  unfold FP.Core.order FP.Core.signed FP.Core.inUnits
  simp only [Bool.false_eq_true, if_false]
  have hp := Nat.two_pow_pos ((E : Int) - 150 - min ((E : Int) - 150) (-149)).toNat
  have hm : 0 < (8388608 + t) * 2 ^ ((E : Int) - 150 - min ((E : Int) - 150) (-149)).toNat := Nat.mul_pos (by omega) hp
  generalize (8388608 + t) * 2 ^ ((E : Int) - 150 - min ((E : Int) - 150) (-149)).toNat = X at *
  have : compare ((X : Nat) : Int) ((0 * 2 ^ ((-149 : Int) - min ((E : Int) - 150) (-149)).toNat : Nat) : Int) = .gt := Int.compare_eq_gt.mpr (by rw [Nat.zero_mul]; omega)
  rw [this]
  decide
theorem fl_self {E t : Nat} (h1 : 127 ≤ E) (h2 : E ≤ 254) (ht : t < 8388608) : Op.cmpValue (FP.fcmp (fl E t) (fl E t)) .l = 0 := by
  unfold FP.fcmp FP.Core.fcmp FP.Core.cmp
  rw [fl_dec (by omega) h2 ht]
  unfold FP.Core.order
  simp only
  rw [Int.compare_eq_eq.mpr rfl]
  rfl
theorem fl_nnf {E t : Nat} (h2 : E ≤ 254) (ht : t < 8388608) : nnf (fl E t) = true := by
  unfold nnf
  refine decide_eq_true ?_
  rw [UInt32.le_iff_toNat_le, UInt32.toNat_and, fl_nat h2 ht]
  have e : (0x7fffffff : UInt32).toNat = 2 ^ 31 - 1 := by decide
  have e2 : (0x7f800000 : UInt32).toNat = 2139095040 := by decide
  rw [e, e2, Nat.and_two_pow_sub_one_eq_mod]
  omega
/-- a whole number's float, doubled exponents aside: t of 23 digits, as the class unpacks it -/
theorem f_pow {k : Nat} (hk : k ≤ 22) {t : Nat} (h1 : 2 ^ k ≤ t) (h2 : t < 2 ^ (k + 1)) : FP.Core.round FP.Core.b32 (.fin false t (-23)) = .fin false (t * 2 ^ (23 - k)) (((k + 104 : Nat) : Int) - 150) := by
  have ht : t ≠ 0 := by
    have := Nat.two_pow_pos k
    omega
  show FP.Core.roundRatio FP.Core.b32 false t 1 (-23) = _
  have hL := f_lead (num := t) (den := 1) (lg2 h1 h2) (show Nat.log2 1 = 0 from by decide) (Nat.zero_le k) (by rw [Nat.one_mul]; exact h1)
  rw [f_rr ht hL (q := (k : Int) - 46) (by omega) (by omega)]
  have e1 : ((-23 : Int) - ((k : Int) - 46)).toNat = 23 - k := by omega
  have e2 : ((k : Int) - 46 - -23).toNat = 0 := by omega
  obtain ⟨n1, n2⟩ := f_norm h1 h2 (by omega)
  rw [e1, e2, f_near1, f_settle n2 (by omega), show (k : Int) - 46 = ((k + 104 : Nat) : Int) - 150 by omega]
theorem fl_tail0 : FP.f2i (FP.fmul (FP.fsub (fl 127 0) FP.fconst1) (1258291200 : UInt32)) = nI 0 ∧ nnf (FP.fsub (fl 127 0) FP.fconst1) = true ∧ nnf (FP.fmul (FP.fsub (fl 127 0) FP.fconst1) (1258291200 : UInt32)) = true := by decide +kernel
theorem fl_s1 {t k : Nat} (ht : t < 8388608) (a1 : 2 ^ k ≤ t) (a2 : t < 2 ^ (k + 1)) (a3 : k ≤ 22) : FP.fsub (fl 127 t) FP.fconst1 = fl (k + 104) (t * 2 ^ (23 - k) - 8388608) := by
    obtain ⟨n1, n2⟩ := f_norm a1 a2 (by omega)
    unfold FP.fsub FP.Core.fsub FP.Core.sub
    rw [fl_dec (by omega) (by omega) ht, f_one]
    have e0 : FP.Core.exactSum (.fin false (8388608 + t) (((127 : Nat) : Int) - 150)) (FP.Core.negate (.fin false 8388608 (-23))) = .fin false t (-23) := by
      unfold FP.Core.negate FP.Core.exactSum FP.Core.sumUnits FP.Core.signed FP.Core.inUnits
      simp only
      have e1 : min (((127 : Nat) : Int) - 150) (-23) = -23 := by omega
      have e2 : ((((127 : Nat) : Int) - 150) - -23).toNat = 0 := by omega
      have e3 : ((-23 : Int) - -23).toNat = 0 := by omega
      rw [e1, e2, e3]
      simp only [Bool.not_false, if_true, Bool.false_eq_true, if_false]
      have e4 : (((8388608 + t) * 2 ^ 0 : Nat) : Int) + -((8388608 * 2 ^ 0 : Nat) : Int) = (t : Int) := by omega
      rw [e4]
      unfold FP.Core.sumSign
      rw [if_neg (by omega), decide_eq_false (by omega), Int.natAbs_natCast]
    rw [e0, f_pow a3 a1 a2, fl_of (by omega) n1]
theorem fl_s2 {c k : Nat} (n1 : 8388608 ≤ c) (n2 : c < 16777216) (a3 : k ≤ 22) : FP.fmul (fl (k + 104) (c - 8388608)) (1258291200 : UInt32) = fl (k + 127) (c - 8388608) := by
    unfold FP.fmul FP.Core.fmul FP.Core.mul
    rw [fl_dec (by omega) (by omega) (by omega), f_big, show 8388608 + (c - 8388608) = c by omega]
    have e0 : FP.Core.round FP.Core.b32 (FP.Core.exactProduct (.fin false c (((k + 104 : Nat) : Int) - 150)) (.fin false 8388608 0)) = .fin false c (((k + 127 : Nat) : Int) - 150) := by
      unfold FP.Core.exactProduct FP.Core.round
      simp only [bne_self_eq_false]
      have hL := f_lead (num := c * 8388608) (den := 1) (lg2 (k := 46) (by omega) (by omega)) (show Nat.log2 1 = 0 from by decide) (Nat.zero_le 46) (by omega)
      rw [f_rr (by omega) hL (q := (k : Int) - 23) (by omega) (by omega)]
      have e1 : ((((k + 104 : Nat) : Int) - 150) + 0 - ((k : Int) - 23)).toNat = 0 := by omega
      have e2 : ((k : Int) - 23 - ((((k + 104 : Nat) : Int) - 150) + 0)).toNat = 23 := by omega
      rw [e1, e2, show c * 8388608 * 2 ^ 0 = c * (1 * 2 ^ 23) by omega, f_nearM _ _ (by omega), f_settle n2 (by omega), show (k : Int) - 23 = ((k + 127 : Nat) : Int) - 150 by omega]
    rw [e0, fl_of (by omega) n1]
theorem f_mm (lo hi t : Int) (h1 : lo ≤ t) (h2 : t ≤ hi) : max lo (min hi t) = t := by omega
theorem f_toI {c : Nat} {q : Int} {t : Nat} (h : FP.Core.truncate false c q = (t : Int)) (ht : t < 8388608) : FP.Core.toI (.fin false c q) = nI t := by
  unfold FP.Core.toI FP.Core.toInt
  simp only [h]
  rw [f_mm _ _ _ (by omega) (by omega)]
  exact Int32.ofInt_eq_ofNat
theorem fl_tail {t : Nat} (ht : t < 8388608) : FP.f2i (FP.fmul (FP.fsub (fl 127 t) FP.fconst1) (1258291200 : UInt32)) = nI t ∧ nnf (FP.fsub (fl 127 t) FP.fconst1) = true ∧ nnf (FP.fmul (FP.fsub (fl 127 t) FP.fconst1) (1258291200 : UInt32)) = true := by
  by_cases h0 : t = 0
  · subst h0
    exact fl_tail0
  · have a1 : 2 ^ t.log2 ≤ t := (Nat.le_log2 h0).mp (Nat.le_refl _)
    have a2 : t < 2 ^ (t.log2 + 1) := (Nat.log2_lt h0).mp (Nat.lt_succ_self _)
    have a3 : t.log2 ≤ 22 := by
      have : t.log2 < 23 := (Nat.log2_lt h0).mpr (by omega)
      omega
    generalize hk : t.log2 = k at *
    obtain ⟨n1, n2⟩ := f_norm a1 a2 (by omega)
    have s1 := fl_s1 ht a1 a2 a3
    have s2 := fl_s2 n1 n2 a3
    rw [s1, s2]
    refine ⟨?_, fl_nnf (by omega) (by omega), fl_nnf (by omega) (by omega)⟩
    unfold FP.f2i FP.Core.f2i
    rw [fl_dec (by omega) (by omega) (by omega), show 8388608 + (t * 2 ^ (23 - k) - 8388608) = t * 2 ^ (23 - k) by omega]
    refine f_toI ?_ ht
    unfold FP.Core.truncate FP.Core.signed
    have e1 : (((k + 127 : Nat) : Int) - 150).toNat = 0 := by omega
    have e2 : (-(((k + 127 : Nat) : Int) - 150)).toNat = 23 - k := by omega
    rw [e1, e2, Nat.pow_zero, Nat.mul_one, Nat.mul_div_cancel _ (Nat.two_pow_pos _), if_neg (by decide)]
theorem fm_L {t : Nat} (ht : t < 8388608) : ∀ (j v i f : Nat), i + j ≤ 126 → j < f → fX5_bitsOfMean_L15 f (fl (127 + j) t) (nI v) (nI i) = some (fl 127 t, nI (v + j)) := by
  intro j
  induction j with
  | zero =>
    intro v i f hi hf
    obtain ⟨f, rfl, -⟩ := pu_fuel hf
    rw [fX5_bitsOfMean_L15, if_neg (show ¬ (127 : Int32) ≤ nI i from nI_ge (b := 127) (by omega) (by omega)), if_pos ((fl_cmp2 (E := 127 + 0) (by omega) (by omega) ht).mpr rfl)]
    rfl
  | succ j ih =>
    intro v i f hi hf
    obtain ⟨f, rfl, hf⟩ := pu_fuel hf
    rw [fX5_bitsOfMean_L15, if_neg (show ¬ (127 : Int32) ≤ nI i from nI_ge (b := 127) (by omega) (by omega)), if_neg (fun q => by have := (fl_cmp2 (E := 127 + (j + 1)) (by omega) (by omega) ht).mp q; omega), show 127 + (j + 1) = 127 + j + 1 by omega, fl_half (by omega) (by omega) ht, fl_nnf (by omega) ht, pu_ck, pu_pl, pu_pl, pu_pl, nI_1, nI_1, ih (v + 1) (i + 1) f (by omega) (by omega)]
    congr 3
    omega
theorem fl_i32 {E t : Nat} : (fl E t).toInt32 = nI (E * 8388608 + t) := rfl
theorem fm_bits {E t : Nat} (h1 : 127 ≤ E) (h2 : E ≤ 200) (ht : t < 8388608) : fX5_bitsOfMean (fl E t) = some (fl E t).toInt32 := by
  obtain ⟨t1, t2, t3⟩ := fl_tail ht
  have e := fm_L ht (E - 127) 127 0 1000 (by omega) (by omega)
  rw [show 127 + (E - 127) = E by omega] at e
  have e' : fX5_bitsOfMean_L15 1000 (fl E t) (127 : Int32) (0 : Int32) = some (fl 127 t, nI E) := e
  unfold fX5_bitsOfMean
  rw [if_pos (fl_cmp0 h1 (by omega) ht), e', pu_bd2, t2, pu_ck, t3, pu_ck, t1, pk_shlN _ 23 (by decide) (by omega), nI_add, fl_i32]
theorem fm_jdk {E t : Nat} (h1 : 127 ≤ E) (h2 : E ≤ 200) (ht : t < 8388608) : fJxf58ca_floatToIntBits_5c35a (fl E t) = some (fl E t).toInt32 := by
  unfold fJxf58ca_floatToIntBits_5c35a fJxf58ca_isNaN_12338
  rw [if_pos (fl_self h1 (by omega) ht), pu_bd, if_pos rfl]
end MBI
