section MEA
/-! means: floats of 1 and more, by their fields -/
theorem b32_t : FP.Core.b32.tails = 8388608 := by decide
theorem b32_e : FP.Core.b32.exps = 256 := by decide
theorem b32_q : FP.Core.b32.qmin = -149 := by decide
theorem b32_Q : FP.Core.b32.qmax = 104 := by decide
theorem b32_p : FP.Core.b32.p = 24 := rfl
theorem b64_t : FP.Core.b64.tails = 4503599627370496 := by decide
theorem b64_e : FP.Core.b64.exps = 2048 := by decide
theorem b64_q : FP.Core.b64.qmin = -1074 := by decide
theorem b64_Q : FP.Core.b64.qmax = 971 := by decide
theorem b64_p : FP.Core.b64.p = 53 := rfl
theorem f_dec {E t : Nat} (h1 : 1 ≤ E) (h2 : E ≤ 254) (ht : t < 8388608) : FP.Core.decode FP.Core.b32 (E * 8388608 + t) = .fin false (8388608 + t) ((E : Int) - 150) := by
  have e1 : (E * 8388608 + t) / 8388608 % 256 = E := by omega
  have e2 : (E * 8388608 + t) % 8388608 = t := by omega
  have e3 : (E * 8388608 + t) / 8388608 / 256 % 2 = 0 := by omega
  unfold FP.Core.decode FP.Core.fieldE FP.Core.fieldT FP.Core.fieldS
  rw [b32_t, b32_e, b32_q, e1, e2, e3, if_neg (by omega), if_neg (by omega)]
  show FP.Core.Datum.fin false _ _ = _
  congr 1
  omega
theorem f_enc {E c : Nat} (h1 : 1 ≤ E) (hc : 8388608 ≤ c) : FP.Core.encode FP.Core.b32 (.fin false c ((E : Int) - 150)) = E * 8388608 + (c - 8388608) := by
  unfold FP.Core.encode FP.Core.assemble
  simp only
  rw [b32_t, b32_e, b32_q, if_neg (by omega)]
  have : ((E : Int) - 150 - -149).toNat + 1 = E := by omega
  rw [this]
  show (0 * 256 + E) * 8388608 + _ = _
  omega
theorem lg2 {c k : Nat} (h1 : 2 ^ k ≤ c) (h2 : c < 2 ^ (k + 1)) : c.log2 = k := by
  have hc : c ≠ 0 := by
    have := Nat.two_pow_pos k
    omega
  have a1 : k ≤ c.log2 := (Nat.le_log2 hc).mpr h1
  have a2 : c.log2 < k + 1 := (Nat.log2_lt hc).mpr h2
  omega
theorem f_near1 (x : Nat) : FP.Core.nearest x 1 = x := by
  unfold FP.Core.nearest
  rw [if_pos (by omega)]
  omega
theorem f_nearM (x M : Nat) (hM : 0 < M) : FP.Core.nearest (x * M) M = x := by
  unfold FP.Core.nearest
  rw [if_pos (by rw [Nat.mul_mod_left]; omega), Nat.mul_div_cancel _ hM]
theorem f_settle {c : Nat} {q : Int} (hc : c < 16777216) (hq : q ≤ 104) : FP.Core.settle FP.Core.b32 false c q = .fin false c q := by
  unfold FP.Core.settle FP.Core.bound
  rw [b32_p, b32_Q, if_pos (show c < 2 ^ 24 by omega), if_pos hq]
/-- a ratio of a leading digit that is known, rounded -/
theorem f_rr {num den : Nat} {e L q : Int} (hn : num ≠ 0) (hL : FP.Core.leading num den = L) (hq : L + e - 23 = q) (h1 : -149 ≤ q) : FP.Core.roundRatio FP.Core.b32 false num den e = FP.Core.settle FP.Core.b32 false (FP.Core.nearest (num * 2 ^ (e - q).toNat) (den * 2 ^ (q - e).toNat)) q := by
  unfold FP.Core.roundRatio FP.Core.roundAt FP.Core.quantum FP.Core.unitsNum FP.Core.unitsDen
  rw [if_neg hn, hL, b32_q, b32_p]
  have : max (-149) (L + e - (((24 : Nat) : Int) - 1)) = q := by omega
  rw [this]
theorem f_lead {num den a b : Nat} (ha : num.log2 = a) (hb : den.log2 = b) (hab : b ≤ a) (h : den * 2 ^ (a - b) ≤ num) : FP.Core.leading num den = (a : Int) - b := by
  unfold FP.Core.leading
  simp only
  rw [ha, hb]
  have e1 : ((a : Int) - b).toNat = a - b := by omega
  have e2 : (-((a : Int) - b)).toNat = 0 := by omega
  rw [e1, e2, if_pos (by omega)]
/-- d whole, as a float: its datum -/
theorem f_int {d k : Nat} (h1 : 2 ^ k ≤ d) (h2 : d < 2 ^ (k + 1)) (hk : k ≤ 23) : FP.Core.round FP.Core.b32 (.fin false d 0) = .fin false (d * 2 ^ (23 - k)) ((k : Int) - 23) := by
  have hd : d ≠ 0 := by
    have := Nat.two_pow_pos k
    omega
  show FP.Core.roundRatio FP.Core.b32 false d 1 0 = _
  have hL := f_lead (num := d) (den := 1) (lg2 h1 h2) (show Nat.log2 1 = 0 from by decide) (Nat.zero_le k) (by rw [Nat.one_mul]; exact h1)
  rw [f_rr hd hL (q := (k : Int) - 23) (by omega) (by omega)]
  have e1 : ((0 : Int) - ((k : Int) - 23)).toNat = 23 - k := by omega
  have e2 : ((k : Int) - 23 - 0).toNat = 0 := by omega
  have e3 : d * 2 ^ (23 - k) < 16777216 := by
    have : d * 2 ^ (23 - k) < 2 ^ (k + 1) * 2 ^ (23 - k) := Nat.mul_lt_mul_of_pos_right h2 (Nat.two_pow_pos _)
    rw [← Nat.pow_add, show k + 1 + (23 - k) = 24 by omega] at this
    exact this
  rw [e1, e2, f_near1, f_settle e3 (by omega)]
theorem f_norm {d k : Nat} (h1 : 2 ^ k ≤ d) (h2 : d < 2 ^ (k + 1)) (hk : k ≤ 23) : 8388608 ≤ d * 2 ^ (23 - k) ∧ d * 2 ^ (23 - k) < 16777216 := by
  constructor
  · have : 2 ^ k * 2 ^ (23 - k) ≤ d * 2 ^ (23 - k) := Nat.mul_le_mul_right _ h1
    rw [← Nat.pow_add, show k + (23 - k) = 23 by omega] at this
    exact this
  · have : d * 2 ^ (23 - k) < 2 ^ (k + 1) * 2 ^ (23 - k) := Nat.mul_lt_mul_of_pos_right h2 (Nat.two_pow_pos _)
    rw [← Nat.pow_add, show k + 1 + (23 - k) = 24 by omega] at this
    exact this
def fl (E t : Nat) : UInt32 := UInt32.ofNat (E * 8388608 + t)
theorem fl_nat {E t : Nat} (h2 : E ≤ 254) (ht : t < 8388608) : (fl E t).toNat = E * 8388608 + t := by
  unfold fl
  rw [UInt32.toNat_ofNat']
  exact Nat.mod_eq_of_lt (by omega)
theorem fl_dec {E t : Nat} (h1 : 1 ≤ E) (h2 : E ≤ 254) (ht : t < 8388608) : FP.Core.decode FP.Core.b32 (fl E t).toNat = .fin false (8388608 + t) ((E : Int) - 150) := by
  rw [fl_nat h2 ht, f_dec h1 h2 ht]
theorem fl_of {E c : Nat} (h1 : 1 ≤ E) (hc : 8388608 ≤ c) : UInt32.ofNat (FP.Core.encode FP.Core.b32 (.fin false c ((E : Int) - 150))) = fl E (c - 8388608) := by
  rw [f_enc h1 hc]
  rfl
theorem i2f_d {d : Nat} (h0 : 0 < d) (hd : d < 1000000) : ∃ k, 2 ^ k ≤ d ∧ d < 2 ^ (k + 1) ∧ k ≤ 19 ∧ FP.i2f (nI d) = fl (k + 127) (d * 2 ^ (23 - k) - 8388608) := by
  have hd0 : d ≠ 0 := by omega
  have a1 : 2 ^ d.log2 ≤ d := (Nat.le_log2 hd0).mp (Nat.le_refl _)
  have a2 : d < 2 ^ (d.log2 + 1) := (Nat.log2_lt hd0).mp (Nat.lt_succ_self _)
  have a3 : d.log2 ≤ 19 := by
    have : d.log2 < 20 := (Nat.log2_lt hd0).mpr (by omega)
    omega
  refine ⟨d.log2, a1, a2, a3, ?_⟩
  obtain ⟨n1, n2⟩ := f_norm a1 a2 (by omega)
  have e := f_int a1 a2 (by omega)
  unfold FP.i2f FP.Core.i2f FP.Core.fromInt
  rw [nI_toInt (by omega), show FP.Core.ofInt (d : Int) = .fin false d 0 from by
    unfold FP.Core.ofInt
    rw [decide_eq_false (by omega), Int.natAbs_natCast], e, show ((d.log2 : Int) - 23) = (((d.log2 + 127 : Nat) : Int) - 150) by omega, fl_of (by omega) n1]
/-- the quotient of two whole numbers, the greater one first -/
theorem f_quot {d m : Nat} (hm : 0 < m) (hmd : m ≤ d) (hd : d < 1000000) : ∃ E t, 127 ≤ E ∧ E ≤ 150 ∧ t < 8388608 ∧ FP.fdiv (FP.i2f (nI d)) (FP.i2f (nI m)) = fl E t := by
  obtain ⟨kd, d1, d2, d3, d4⟩ := i2f_d (d := d) (by omega) hd
  obtain ⟨km, m1, m2, m3, m4⟩ := i2f_d (d := m) hm (by omega)
  obtain ⟨nd1, nd2⟩ := f_norm d1 d2 (by omega)
  obtain ⟨nm1, nm2⟩ := f_norm m1 m2 (by omega)
  have hk : km ≤ kd := by
    refine Nat.le_of_not_lt fun q => ?_
    have : 2 ^ (kd + 1) ≤ 2 ^ km := Nat.pow_le_pow_right (by decide) q
    omega
  have hcd : kd = km → m * 2 ^ (23 - km) ≤ d * 2 ^ (23 - kd) := fun q => by
    rw [q]
    exact Nat.mul_le_mul_right _ hmd
  rw [d4, m4]
  unfold FP.fdiv FP.Core.fdiv FP.Core.div
  rw [fl_dec (by omega) (by omega) (by omega), fl_dec (by omega) (by omega) (by omega), show 8388608 + (d * 2 ^ (23 - kd) - 8388608) = d * 2 ^ (23 - kd) by omega, show 8388608 + (m * 2 ^ (23 - km) - 8388608) = m * 2 ^ (23 - km) by omega]
  generalize d * 2 ^ (23 - kd) = a at *
  generalize m * 2 ^ (23 - km) = b at *
  unfold FP.Core.quotient
  simp only [bne_self_eq_false]
  rw [if_neg (by omega), show ((((kd + 127 : Nat) : Int) - 150) - (((km + 127 : Nat) : Int) - 150)) = (kd : Int) - km by omega]
  have la : a.log2 = 23 := lg2 (by omega) (by omega)
  have lb : b.log2 = 23 := lg2 (by omega) (by omega)
  -- a settled result
  have fin : ∀ (N Q : Nat), 8388608 ≤ N → N ≤ 16777216 → 127 ≤ Q → Q ≤ 149 → ∃ E t, 127 ≤ E ∧ E ≤ 150 ∧ t < 8388608 ∧ UInt32.ofNat (FP.Core.encode FP.Core.b32 (FP.Core.settle FP.Core.b32 false N ((Q : Int) - 150))) = fl E t := by
    intro N Q h1 h2 h3 h4
    by_cases e : N < 16777216
    · rw [f_settle e (by omega), fl_of (by omega) h1]
      exact ⟨Q, N - 8388608, h3, by omega, by omega, rfl⟩
    · have : N = 16777216 := by omega
      subst this
      refine ⟨Q + 1, 0, by omega, by omega, by omega, ?_⟩
      have : FP.Core.settle FP.Core.b32 false 16777216 ((Q : Int) - 150) = .fin false 8388608 (((Q + 1 : Nat) : Int) - 150) := by
        unfold FP.Core.settle FP.Core.bound
        rw [b32_p, b32_Q, b32_t, if_neg (show ¬ 16777216 < 2 ^ 24 by omega), if_pos (by omega)]
        congr 1
        omega
      rw [this, fl_of (by omega) (by omega)]
  by_cases hab : b ≤ a
  · have hL := f_lead la lb (Nat.le_refl 23) (by omega)
    rw [f_rr (by omega) hL (q := (kd : Int) - km - 23) (by omega) (by omega)]
    have e1 : ((kd : Int) - km - ((kd : Int) - km - 23)).toNat = 23 := by omega
    have e2 : ((kd : Int) - km - 23 - ((kd : Int) - km)).toNat = 0 := by omega
    rw [e1, e2, show (kd : Int) - km - 23 = (((kd - km + 127 : Nat) : Int) - 150) by omega]
    refine fin _ _ ?_ ?_ (by omega) (by omega)
    · unfold FP.Core.nearest
      have : 8388608 ≤ a * 2 ^ 23 / (b * 2 ^ 0) := (Nat.le_div_iff_mul_le (by omega)).mpr (by omega)
      split
      · exact this
      · split <;> omega
    · unfold FP.Core.nearest
      have : a * 2 ^ 23 / (b * 2 ^ 0) < 16777216 := (Nat.div_lt_iff_lt_mul (by omega)).mpr (by omega)
      have : a * 2 ^ 23 / (b * 2 ^ 0) % 2 < 2 := Nat.mod_lt _ (by decide)
      split
      · omega
      · split <;> omega
  · have hkk : km < kd := by
      refine Nat.lt_of_le_of_ne hk fun q => ?_
      have := hcd q.symm
      omega
    have hL : FP.Core.leading a b = -1 := by
      unfold FP.Core.leading
      simp only
      rw [la, lb]
      have e1 : (((23 : Nat) : Int) - ((23 : Nat) : Int)).toNat = 0 := by omega
      have e2 : (-(((23 : Nat) : Int) - ((23 : Nat) : Int))).toNat = 0 := by omega
      rw [e1, e2, if_neg (by omega)]
      omega
    rw [f_rr (by omega) hL (q := (kd : Int) - km - 24) (by omega) (by omega)]
    have e1 : ((kd : Int) - km - ((kd : Int) - km - 24)).toNat = 24 := by omega
    have e2 : ((kd : Int) - km - 24 - ((kd : Int) - km)).toNat = 0 := by omega
    rw [e1, e2, show (kd : Int) - km - 24 = (((kd - km + 126 : Nat) : Int) - 150) by omega]
    refine fin _ _ ?_ ?_ (by omega) (by omega)
    · unfold FP.Core.nearest
      have : 8388608 ≤ a * 2 ^ 24 / (b * 2 ^ 0) := (Nat.le_div_iff_mul_le (by omega)).mpr (by omega)
      split
      · exact this
      · split <;> omega
    · unfold FP.Core.nearest
      have : a * 2 ^ 24 / (b * 2 ^ 0) < 16777216 := (Nat.div_lt_iff_lt_mul (by omega)).mpr (by omega)
      have : a * 2 ^ 24 / (b * 2 ^ 0) % 2 < 2 := Nat.mod_lt _ (by decide)
      split
      · omega
      · split <;> omega
theorem fl_self {E t : Nat} (h1 : 127 ≤ E) (h2 : E ≤ 254) (ht : t < 8388608) : Op.cmpValue (FP.fcmp (fl E t) (fl E t)) .l = 0 := by
  unfold FP.fcmp FP.Core.fcmp FP.Core.cmp
  rw [fl_dec (by omega) h2 ht]
  unfold FP.Core.order
  simp only
  rw [Int.compare_eq_eq.mpr rfl]
  rfl
theorem fl_nnf {E t : Nat} (h2 : E ≤ 254) (ht : t < 8388608) : nnf (fl E t) = true := by
  unfold nnf
  refine decide_eq_true ?_
  rw [UInt32.le_iff_toNat_le, UInt32.toNat_and, fl_nat h2 ht]
  have e : (0x7fffffff : UInt32).toNat = 2 ^ 31 - 1 := by decide
  have e2 : (0x7f800000 : UInt32).toNat = 2139095040 := by decide
  rw [e, e2, Nat.and_two_pow_sub_one_eq_mod]
  omega
theorem f0_self : Op.cmpValue (FP.fcmp FP.fconst0 FP.fconst0) .l = 0 := by decide +kernel
theorem cs_mean {st : St} {vq vw vc : AI} {m n p l s r : Nat} {cd : Nat → Nat} (h : CSx st (AA vq vw vc) m n p l s r cd) (hm : m < 1000000) (tx : Tx) (is : Is) (wa : Wa) (hi : Hi) : ∃ x, fX5_meanLadder tx is wa st hi = some x ∧ (if vq 7 = (0 : Int32) then (some FP.fconst0) else (ck (nnf (FP.fdiv (FP.i2f (vq 9)) (FP.i2f (vq 7)))) (some (FP.fdiv (FP.i2f (vq 9)) (FP.i2f (vq 7)))))) = some x ∧ Op.cmpValue (FP.fcmp x x) .l = 0 := by
  obtain ⟨hB, hL, hM, hC, h5, h6, la, sp, fa, dn, k1, k2, k3, k4, k5, k6, k7⟩ := h
  rw [AA_q (by decide)] at k2 k5
  unfold fX5_meanLadder
  rw [sum3 (fun c hc => (k1 c hc).1), pu_bd, k2]
  by_cases e : la 0 + la 1 + la 2 = 0
  · rw [e, if_pos (show nI 0 ≤ (0 : Int32) by decide), if_pos (show nI 0 = (0 : Int32) from rfl)]
    exact ⟨_, rfl, rfl, f0_self⟩
  · obtain ⟨E, t, q1, q2, q3, q4⟩ := f_quot (m := la 0 + la 1 + la 2) (d := dn) (by omega) k6 (by omega)
    have nn := fl_nnf (E := E) (t := t) (by omega) q3
    rw [if_neg (show ¬ nI (la 0 + la 1 + la 2) ≤ (0 : Int32) from nI_nle (by omega) (by omega)), if_neg (show ¬ nI (la 0 + la 1 + la 2) = (0 : Int32) by rw [show (0 : Int32) = nI 0 from rfl, nI_eq (by omega) (by decide)]; exact e), k4, k5, q4, nn, pu_ck]
    exact ⟨_, rfl, rfl, fl_self q1 (by omega) q3⟩
end MEA
