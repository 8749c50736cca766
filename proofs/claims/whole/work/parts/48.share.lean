section SHR
/-! shares: k of the pairs of n words, as a double; its bits; all of them looked at -/
def shD (n k : Nat) : UInt64 := FP.ddiv (FP.i2d (nI k)) (FP.i2d (nI (n * (n - 1) / 2)))
def shOk (n k : Nat) : Bool := decide (fX5_bitsOfShare (shD n k) = some (shD n k).toInt64) && (nnd (shD n k) && decide (Op.cmpValue (FP.dcmp (shD n k) (shD n k)) .l = 0))
def shAll (n : Nat) : Nat → Bool
  | 0 => shOk n 0
  | k + 1 => shOk n (k + 1) && shAll n k
theorem shAll_all {n : Nat} : ∀ {K : Nat}, shAll n K = true → ∀ k, k ≤ K → shOk n k = true
  | 0, h, k, hk => by rw [show k = 0 by omega]; exact h
  | K + 1, h, k, hk => by
    have h := Bool.and_eq_true_iff.mp h
    by_cases e : k = K + 1
    · rw [e]; exact h.1
    · exact shAll_all h.2 k (by omega)
set_option maxRecDepth 100000 in
theorem shAll_n : ∀ n, n < 25 → 2 ≤ n → shAll n (n * (n - 1) / 2) = true := by decide +kernel
theorem sh_ok {n k : Nat} (h1 : 2 ≤ n) (h2 : n ≤ 24) (hk : k ≤ n * (n - 1) / 2) : fX5_bitsOfShare (shD n k) = some (shD n k).toInt64 ∧ nnd (shD n k) = true ∧ Op.cmpValue (FP.dcmp (shD n k) (shD n k)) .l = 0 := by
  have h := shAll_all (shAll_n n (by omega) h1) k hk
  unfold shOk at h
  rw [Bool.and_eq_true_iff, Bool.and_eq_true_iff] at h
  exact ⟨of_decide_eq_true h.1, h.2.1, of_decide_eq_true h.2.2⟩
theorem sh_0 : fX5_bitsOfShare FP.dconst0 = some (FP.dconst0).toInt64 ∧ Op.cmpValue (FP.dcmp FP.dconst0 FP.dconst0) .l = 0 := by decide +kernel
theorem pr_one {A : AI} {n r w : Nat} {cd : Nat → Nat} (hn : n ≤ 24) (h : Lk6 A n r cd) (hw : w < n) : Ct (A w) ≤ n - 1 := by
  unfold Ct
  have h1 := fb_ct_split (bt (A w)) n (24 - n)
  rw [show n + (24 - n) = 24 by omega] at h1
  have h2 : fb_ct (fun k => bt (A w) (n + k)) (24 - n) = 0 := fb_ct_zero.mpr fun k hk => by
    cases hb : bt (A w) (n + k)
    · rfl
    · have := ((h w (n + k) hw (by omega)).mp hb).1; omega
  have h3 : fb_ct (bt (A w)) n ≤ fb_ct (fun k => if k = w then false else true) n := fb_ct_sub fun k hk q => by
    by_cases e : k = w
    · subst e
      exact absurd ((h k k hw (by omega)).mp q).2 (Lkc_self _ _)
    · exact if_neg e
  have h4 := fb_ct_upd (fun _ => true) false hw
  have h5 : fb_ct (fun _ => true) n = n := fb_ct_all.mpr fun _ _ => rfl
  rw [h5] at h4
  simp only [if_true, if_false, Bool.false_eq_true] at h4
  omega
theorem IsPr.le {n r : Nat} {cd : Nat → Nat} {x : Int32} (hn : n ≤ 24) (h : IsPr n r cd x) : ∃ k, k ≤ n * (n - 1) / 2 ∧ x = nI k := by
  obtain ⟨A, a1, a2⟩ := h
  refine ⟨_, ?_, a2⟩
  have := fb_sm_bound (f := fun w => Ct (A w)) (c := n - 1) (n := n) (fun k hk => pr_one hn a1 hk)
  exact Nat.div_le_div_right this
theorem sh_n {n : Nat} (hn : n ≤ 24) : nI n * (nI n - (1 : Int32)) / (2 : Int32) = nI (n * (n - 1) / 2) := by
  by_cases h0 : n = 0
  · subst h0; decide
  · have hb : n * (n - 1) ≤ 24 * 24 := Nat.mul_le_mul hn (by omega)
    rw [show nI n - (1 : Int32) = nI (n - 1) from pk_sub (b := 1) (by omega), pk_mul, show (2 : Int32) = nI 2 from rfl, pk_div (by omega) (by decide) (by decide)]
theorem sh_pos {n : Nat} (h : 2 ≤ n) : 1 ≤ n * (n - 1) / 2 := by
  have : 2 * 1 ≤ n * (n - 1) := Nat.mul_le_mul h (by omega)
  omega
/-- the shares of both sides -/
theorem cs_share {st : St} {mo : Mo} {m n p l s r : Nat} {cd : Nat → Nat} (h : CSx st (Mo_state mo) m n p l s r cd) (tx : Tx) (is : Is) (wa : Wa) (hi : Hi) : ∃ x mo', fX5_linkShare tx is wa st hi = some x ∧ fX6_share mo = some (x, mo') ∧ Same mo mo' ∧ fX5_bitsOfShare x = some x.toInt64 ∧ Op.cmpValue (FP.dcmp x x) .l = 0 := by
  have hn := h.1.2.2.2.2.2.1
  have hM := h.2.2.1
  unfold fX5_linkShare fX6_share
  rw [h.1.1, sh_n hn, pu_pl, i55_0, c55_0, hM.1, pu_ck, pu_pl, sh_n hn]
  by_cases e : 2 ≤ n
  · obtain ⟨y, e1, e2⟩ := pu_pairs h.1 h.2.1
    obtain ⟨z, mo1, f1, f2, f3⟩ := pm_pairs hM
    have : y = z := e2.uniq f3
    subst this
    obtain ⟨k, k1, rfl⟩ := e2.le hn
    obtain ⟨s1, s2, s3⟩ := sh_ok e hn k1
    have hp := sh_pos e
    have hb : n * (n - 1) ≤ 24 * 24 := Nat.mul_le_mul hn (by omega)
    have s2' : nnd (FP.ddiv (FP.i2d (nI k)) (FP.i2d (nI (n * (n - 1) / 2)))) = true := s2
    rw [if_neg (show ¬ nI (n * (n - 1) / 2) ≤ (0 : Int32) from nI_nle (by omega) (by omega)), if_pos (show (2 : Int32) ≤ nI n from nI_le (a := 2) e (by omega)), e1, pu_bd, f1, pu_bd2, s2', pu_ck, pu_ck]
    exact ⟨_, mo1, rfl, rfl, f2, s1, s3⟩
  · have h0 : n * (n - 1) / 2 = 0 := by
      rcases (show n = 0 ∨ n = 1 by omega) with rfl | rfl <;> rfl
    rw [if_pos (show nI (n * (n - 1) / 2) ≤ (0 : Int32) by rw [h0]; decide), if_neg (show ¬ (2 : Int32) ≤ nI n from nI_ge (b := 2) (by omega) (by omega))]
    exact ⟨_, mo, rfl, rfl, Same.refl mo, sh_0.1, sh_0.2⟩
end SHR
