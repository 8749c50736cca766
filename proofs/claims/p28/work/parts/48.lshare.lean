section SHR
def shD (n k : Nat) : UInt64 := FP.ddiv (FP.i2d (nI k)) (FP.i2d (nI (n * (n - 1) / 2)))
def shOk (n k : Nat) : Bool := nnd (shD n k) && decide (Op.cmpValue (FP.dcmp (shD n k) (shD n k)) .l = 0)
def shAll (n : Nat) : Nat → Bool
  | 0 => shOk n 0
  | k + 1 => shOk n (k + 1) && shAll n k
theorem shAll_all {n : Nat} : ∀ {K : Nat}, shAll n K = true → ∀ k, k ≤ K → shOk n k = true
  | 0, h, k, hk => by rw [show k = 0 by omega]; exact h
  | K + 1, h, k, hk => by
    have h := Bool.and_eq_true_iff.mp h
    by_cases e : k = K + 1
    · rw [e]; exact h.1
    · exact shAll_all h.2 k (by omega)
set_option maxRecDepth 100000 in
theorem shAll_n : ∀ n, n < 25 → 2 ≤ n → shAll n (n * (n - 1) / 2) = true := by decide +kernel
theorem sh_ok {n k : Nat} (h1 : 2 ≤ n) (h2 : n ≤ 24) (hk : k ≤ n * (n - 1) / 2) : nnd (shD n k) = true ∧ Op.cmpValue (FP.dcmp (shD n k) (shD n k)) .l = 0 := by
  have h := shAll_all (shAll_n n (by omega) h1) k hk
  unfold shOk at h
  rw [Bool.and_eq_true_iff] at h
  exact ⟨h.1, of_decide_eq_true h.2⟩
theorem sh_0 : Op.cmpValue (FP.dcmp FP.dconst0 FP.dconst0) .l = 0 := by decide +kernel
theorem sh_n {n : Nat} (hn : n ≤ 24) : nI n * (nI n - (1 : Int32)) / (2 : Int32) = nI (n * (n - 1) / 2) := by
  by_cases h0 : n = 0
  · subst h0; decide
  · have hb : n * (n - 1) ≤ 24 * 24 := Nat.mul_le_mul hn (by omega)
    rw [show nI n - (1 : Int32) = nI (n - 1) from pk_sub (b := 1) (by omega), pk_mul, show (2 : Int32) = nI 2 from rfl, pk_div (by omega) (by decide) (by decide)]
theorem sh_pos {n : Nat} (h : 2 ≤ n) : 1 ≤ n * (n - 1) / 2 := by
  have : 2 * 1 ≤ n * (n - 1) := Nat.mul_le_mul h (by omega)
  omega
/-- the shares of both sides -/
theorem cs_share {st : St} {vq vw vc : AI} {m n p l s r : Nat} {cd : Nat → Nat} (h : CSx st (AA vq vw vc) m n p l s r cd) (tx : Tx) (is : Is) (wa : Wa) (hi : Hi) : ∃ x, fX5_linkShare tx is wa st hi = some x ∧ (if (2 : Int32) ≤ vq 0 then (ck (nnd (FP.ddiv (FP.i2d (nI (PR n r cd))) (FP.i2d ((vq 0 * (vq 0 - (1 : Int32))) / (2 : Int32))))) (some (FP.ddiv (FP.i2d (nI (PR n r cd))) (FP.i2d ((vq 0 * (vq 0 - (1 : Int32))) / (2 : Int32)))))) else (some FP.dconst0)) = some x ∧ Op.cmpValue (FP.dcmp x x) .l = 0 := by
  have hn := h.1.2.2.2.2.2.1
  have q0 := h.2.2.1.lq.1
  unfold fX5_linkShare
  rw [h.1.1, sh_n hn, pu_pl, q0, sh_n hn]
  by_cases e : 2 ≤ n
  · obtain ⟨y, e1, e2⟩ := pu_pairs h.1 h.2.1
    have ey := e2.val hn
    subst ey
    obtain ⟨s2, s3⟩ := sh_ok e hn (PR_le (r := r) (cd := cd) hn)
    have hp := sh_pos e
    have hb : n * (n - 1) ≤ 24 * 24 := Nat.mul_le_mul hn (by omega)
    have s2' : nnd (FP.ddiv (FP.i2d (nI (PR n r cd))) (FP.i2d (nI (n * (n - 1) / 2)))) = true := s2
    rw [if_neg (show ¬ nI (n * (n - 1) / 2) ≤ (0 : Int32) from nI_nle (by omega) (by omega)), if_pos (show (2 : Int32) ≤ nI n from nI_le (a := 2) e (by omega)), e1, pu_bd, s2', pu_ck]
    exact ⟨_, rfl, rfl, s3⟩
  · have h0 : n * (n - 1) / 2 = 0 := by
      rcases (show n = 0 ∨ n = 1 by omega) with rfl | rfl <;> rfl
    rw [if_pos (show nI (n * (n - 1) / 2) ≤ (0 : Int32) by rw [h0]; decide), if_neg (show ¬ (2 : Int32) ≤ nI n from nI_ge (b := 2) (by omega) (by omega))]
    exact ⟨_, rfl, rfl, sh_0⟩
end SHR
