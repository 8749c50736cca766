section LWB
/-! the lowest bit, as both sides find it -/
theorem pu_bN (x : Int32) (i : Nat) : bt x i = x.toBitVec.toNat.testBit i := rfl
theorem pu_bnI {k : Nat} (hk : k < 2 ^ 32) (i : Nat) : bt (nI k) i = k.testBit i := by
  rw [pu_bN, pk_tn hk]
theorem pu_low_N {N k : Nat} (h1 : N.testBit k = true) (h2 : ∀ j, j < k → N.testBit j = false) : ∃ q, N = 2 ^ k * (2 * q + 1) := by
  have e0 : N % 2 ^ k = 0 := by
    apply Nat.eq_of_testBit_eq
    intro i
    rw [Nat.testBit_mod_two_pow, Nat.zero_testBit]
    by_cases hi : i < k
    · rw [h2 i hi, Bool.and_false]
    · rw [decide_eq_false hi, Bool.false_and]
  have e1 : N / 2 ^ k % 2 = 1 := by
    rw [Nat.testBit_eq_decide_div_mod_eq] at h1
    exact of_decide_eq_true h1
  refine ⟨N / 2 ^ k / 2, ?_⟩
  have := Nat.div_add_mod N (2 ^ k)
  rw [e0] at this
  rw [show 2 * (N / 2 ^ k / 2) + 1 = N / 2 ^ k by omega]
  omega
theorem pu_low_bits {N k : Nat} (h1 : N.testBit k = true) (h2 : ∀ j, j < k → N.testBit j = false) (j : Nat) : (!N.testBit j && (N - 1).testBit j) = decide (j < k) := by
  obtain ⟨q, hq⟩ := pu_low_N h1 h2
  have hp := Nat.two_pow_pos k
  have e2 : N - 1 = 2 ^ k * (2 * q) + (2 ^ k - 1) := by rw [hq, Nat.mul_add]; omega
  by_cases hj : j < k
  · rw [h2 j hj, e2, Nat.testBit_two_pow_mul_add _ (by omega), if_pos hj, Nat.testBit_two_pow_sub_one]
    simp
  · rw [e2, Nat.testBit_two_pow_mul_add _ (by omega), if_neg hj, decide_eq_false hj]
    have e1 : N = 2 ^ k * (2 * q + 1) + 0 := by rw [hq]; rfl
    rw [e1, Nat.testBit_two_pow_mul_add _ hp, if_neg hj]
    cases hd : j - k with
    | zero => simp
    | succ d =>
      rw [Nat.testBit_succ, Nat.testBit_succ, show (2 * q + 1) / 2 = q from by omega, show 2 * q / 2 = q from by omega]
      simp
theorem pu_low_y {x : Int32} {k : Nat} (hk : k < 32) (h1 : bt x k = true) (h2 : ∀ j, j < k → bt x j = false) : (x ^^^ (-1)) &&& (x - 1) = nI (2 ^ k - 1) := by
  have hlt := x.toBitVec.isLt
  have hpos : 0 < x.toBitVec.toNat := by
    refine Nat.pos_of_ne_zero fun e => ?_
    rw [pu_bN, e, Nat.zero_testBit] at h1
    cases h1
  have hle : 2 ^ k ≤ 2 ^ 31 := Nat.pow_le_pow_right (by decide) (by omega)
  have e1 : (x - 1).toBitVec.toNat = x.toBitVec.toNat - 1 := by
    rw [Int32.toBitVec_sub, BitVec.toNat_sub]
    show (2 ^ 32 - 1 + x.toBitVec.toNat) % 2 ^ 32 = _
    omega
  apply b_ext
  intro j hj
  rw [b_and, pu_not _ hj, pu_bnI (by omega), Nat.testBit_two_pow_sub_one, pu_bN (x - 1) j, e1, pu_bN]
  exact pu_low_bits h1 h2 j
set_option maxRecDepth 100000 in
theorem pu_ntz {x : Int32} {k : Nat} (hk : k < 32) (h1 : bt x k = true) (h2 : ∀ j, j < k → bt x j = false) : fJ6_numberOfTrailingZeros_0f7a4 x = some (nI k) := by
  unfold fJ6_numberOfTrailingZeros_0f7a4
  rw [pu_low_y hk h1 h2]
  clear h1 h2 x
  revert k
  decide +kernel
theorem pu_low5 {x : Int32} {k : Nat} (hk : k < 32) (h1 : bt x k = true) (h2 : ∀ j, j < k → bt x j = false) : fX5_lowest x = some (nI k) := by
  unfold fX5_lowest
  rw [if_neg (fun e => by rw [e, b_0] at h1; cases h1), pu_ntz hk h1 h2]
  rfl
theorem pu_low50 : fX5_lowest 0 = some (-1) := by
  unfold fX5_lowest
  rw [if_pos rfl]
end LWB
