section BTC
/-! how many bits a set has, on both sides -/
theorem pu_land2 {s a b c d : Nat} (ha : a < 2 ^ s) (hc : c < 2 ^ s) : (2 ^ s * b + a) &&& (2 ^ s * d + c) = 2 ^ s * (b &&& d) + (a &&& c) := by
  apply Nat.eq_of_testBit_eq
  intro i
  have h : a &&& c < 2 ^ s := Nat.lt_of_le_of_lt Nat.and_le_left ha
  rw [Nat.testBit_and, Nat.testBit_two_pow_mul_add _ ha, Nat.testBit_two_pow_mul_add _ hc, Nat.testBit_two_pow_mul_add _ h]
  by_cases e : i < s
  · rw [if_pos e, if_pos e, if_pos e, Nat.testBit_and]
  · rw [if_neg e, if_neg e, if_neg e, Nat.testBit_and]
/-- six figures to the base of 16 -/
def pu_6 (a b c d e f : Nat) : Nat := 16 * (16 * (16 * (16 * (16 * f + e) + d) + c) + b) + a
theorem pu_land6 {a b c d e f a2 b2 c2 d2 e2 f2 : Nat} (h1 : a < 16) (h2 : b < 16) (h3 : c < 16) (h4 : d < 16) (h5 : e < 16) (k1 : a2 < 16) (k2 : b2 < 16) (k3 : c2 < 16) (k4 : d2 < 16) (k5 : e2 < 16) : pu_6 a b c d e f &&& pu_6 a2 b2 c2 d2 e2 f2 = pu_6 (a &&& a2) (b &&& b2) (c &&& c2) (d &&& d2) (e &&& e2) (f &&& f2) := by
  unfold pu_6
  have L : ∀ {x y z w : Nat}, x < 16 → z < 16 → (16 * y + x) &&& (16 * w + z) = 16 * (y &&& w) + (x &&& z) := fun hx hz => pu_land2 (s := 4) hx hz
  rw [L h1 k1, L h2 k2, L h3 k3, L h4 k4, L h5 k5]
theorem pu_f5 : ∀ h, h < 16 → ∀ e, e < 2 → (h / 2 + 8 * e) &&& 5 = (h / 2) &&& 5 ∧ ((h / 2) &&& 5) ≤ h ∧ h - ((h / 2) &&& 5) < 16 := by decide +kernel
theorem pu_f3 : ∀ h, h < 16 → ∀ e, e < 4 → (h / 4 + 4 * e) &&& 3 = h / 4 ∧ (h &&& 3) = h % 4 := by decide +kernel
theorem pu_pp : ∀ h, h < 16 → (h - ((h / 2) &&& 5)) % 4 + (h - ((h / 2) &&& 5)) / 4 = h % 2 + h / 2 % 2 + h / 4 % 2 + h / 8 := by decide +kernel
theorem pu_mF : ∀ h, h < 16 → (h &&& 15) = h ∧ (h &&& 0) = 0 := by decide +kernel
theorem pu_m0 (h : Nat) : (h &&& 0) = 0 := Nat.and_zero h
theorem pu_bcE {u v w : Nat} (hu : u ≤ 8) (hv : v ≤ 8) (hw : w ≤ 8) : (some (((nI (pu_6 u 0 v 0 w 0) + ((nI (pu_6 u 0 v 0 w 0)).toUInt32 >>> ((8 : Int32).toUInt32 &&& Int32.toUInt32 31)).toInt32) + (((nI (pu_6 u 0 v 0 w 0) + ((nI (pu_6 u 0 v 0 w 0)).toUInt32 >>> ((8 : Int32).toUInt32 &&& Int32.toUInt32 31)).toInt32)).toUInt32 >>> ((16 : Int32).toUInt32 &&& Int32.toUInt32 31)).toInt32) &&& (63 : Int32))) = some (nI (u + v + w)) := by
  have k0 : pu_6 u 0 v 0 w 0 = u + 256 * v + 65536 * w := by unfold pu_6; omega
  have k1 : (u + 256 * v + 65536 * w) / 2 ^ 8 = v + 256 * w := by omega
  have k2 : (u + 256 * v + 65536 * w + (v + 256 * w)) / 2 ^ 16 = w := by omega
  have k3 : (u + 256 * v + 65536 * w + (v + 256 * w) + w) % 2 ^ 6 = u + v + w := by omega
  rw [k0, pk_ushrN (by omega) _ 8 (by decide), k1, nI_add, pk_ushrN (by omega) _ 16 (by decide), k2, nI_add, pk_andN (m := (63 : Int32)) (by omega) 6 (by decide), k3]
theorem pu_bc6 (a b c d e f : Nat) (h1 : a < 16) (h2 : b < 16) (h3 : c < 16) (h4 : d < 16) (h5 : e < 16) (h6 : f < 16) : fJ6_bitCount_0f7a4 (nI (pu_6 a b c d e f)) = some (nI ((a % 2 + a / 2 % 2 + a / 4 % 2 + a / 8) + (b % 2 + b / 2 % 2 + b / 4 % 2 + b / 8) + (c % 2 + c / 2 % 2 + c / 4 % 2 + c / 8) + (d % 2 + d / 2 % 2 + d / 4 % 2 + d / 8) + (e % 2 + e / 2 % 2 + e / 4 % 2 + e / 8) + (f % 2 + f / 2 % 2 + f / 4 % 2 + f / 8))) := by
  have hN : pu_6 a b c d e f < 2 ^ 24 := by unfold pu_6; omega
  unfold fJ6_bitCount_0f7a4
  simp only [pu_pl]
  rw [← pu_pp a h1, ← pu_pp b h2, ← pu_pp c h3, ← pu_pp d h4, ← pu_pp e h5, ← pu_pp f h6]
  -- first step
  have s1 : nI (pu_6 a b c d e f) - (((nI (pu_6 a b c d e f)).toUInt32 >>> ((1 : Int32).toUInt32 &&& Int32.toUInt32 31)).toInt32 &&& (1431655765 : Int32)) = nI (pu_6 (a - ((a / 2) &&& 5)) (b - ((b / 2) &&& 5)) (c - ((c / 2) &&& 5)) (d - ((d / 2) &&& 5)) (e - ((e / 2) &&& 5)) (f - ((f / 2) &&& 5))) := by
    rw [pk_ushrN (by omega) _ 1 (by decide), show (1431655765 : Int32) = nI 1431655765 from rfl, fa_and, show pu_6 a b c d e f / 2 ^ 1 = pu_6 (a / 2 + 8 * (b % 2)) (b / 2 + 8 * (c % 2)) (c / 2 + 8 * (d % 2)) (d / 2 + 8 * (e % 2)) (e / 2 + 8 * (f % 2)) (f / 2) by unfold pu_6; omega, (by decide +kernel : 1431655765 = pu_6 5 5 5 5 5 1365), pu_land6 (by omega) (by omega) (by omega) (by omega) (by omega) (by decide) (by decide) (by decide) (by decide) (by decide)]
    rw [(pu_f5 a h1 (b % 2) (by omega)).1, (pu_f5 b h2 (c % 2) (by omega)).1, (pu_f5 c h3 (d % 2) (by omega)).1, (pu_f5 d h4 (e % 2) (by omega)).1, (pu_f5 e h5 (f % 2) (by omega)).1, (by decide +kernel : ∀ f, f < 16 → (f / 2) &&& 1365 = (f / 2) &&& 5) f h6]
    have q1 := (pu_f5 a h1 0 (by omega)).2.1
    have q2 := (pu_f5 b h2 0 (by omega)).2.1
    have q3 := (pu_f5 c h3 0 (by omega)).2.1
    have q4 := (pu_f5 d h4 0 (by omega)).2.1
    have q5 := (pu_f5 e h5 0 (by omega)).2.1
    have q6 := (pu_f5 f h6 0 (by omega)).2.1
    rw [pk_sub (by unfold pu_6; omega)]
    refine congrArg nI ?_
    unfold pu_6
    omega
  rw [s1]
  have g1 := (pu_f5 a h1 0 (by omega)).2.2
  have g2 := (pu_f5 b h2 0 (by omega)).2.2
  have g3 := (pu_f5 c h3 0 (by omega)).2.2
  have g4 := (pu_f5 d h4 0 (by omega)).2.2
  have g5 := (pu_f5 e h5 0 (by omega)).2.2
  have g6 := (pu_f5 f h6 0 (by omega)).2.2
  have p1 := pu_pp a h1
  have p2 := pu_pp b h2
  have p3 := pu_pp c h3
  have p4 := pu_pp d h4
  have p5 := pu_pp e h5
  have p6 := pu_pp f h6
  generalize hA : a - ((a / 2) &&& 5) = A at *
  generalize hB : b - ((b / 2) &&& 5) = B at *
  generalize hC : c - ((c / 2) &&& 5) = C at *
  generalize hD : d - ((d / 2) &&& 5) = D at *
  generalize hE : e - ((e / 2) &&& 5) = E at *
  generalize hF : f - ((f / 2) &&& 5) = F at *
  have hM : pu_6 A B C D E F < 2 ^ 24 := by unfold pu_6; omega
  have s2 : (nI (pu_6 A B C D E F) &&& (858993459 : Int32)) + (((nI (pu_6 A B C D E F)).toUInt32 >>> ((2 : Int32).toUInt32 &&& Int32.toUInt32 31)).toInt32 &&& (858993459 : Int32)) = nI (pu_6 (A % 4 + A / 4) (B % 4 + B / 4) (C % 4 + C / 4) (D % 4 + D / 4) (E % 4 + E / 4) (F % 4 + F / 4)) := by
    rw [pk_ushrN (by omega) _ 2 (by decide), show (858993459 : Int32) = nI 858993459 from rfl, fa_and, fa_and, show pu_6 A B C D E F / 2 ^ 2 = pu_6 (A / 4 + 4 * (B % 4)) (B / 4 + 4 * (C % 4)) (C / 4 + 4 * (D % 4)) (D / 4 + 4 * (E % 4)) (E / 4 + 4 * (F % 4)) (F / 4) by unfold pu_6; omega, (by decide +kernel : 858993459 = pu_6 3 3 3 3 3 819), pu_land6 (by omega) (by omega) (by omega) (by omega) (by omega) (by decide) (by decide) (by decide) (by decide) (by decide), pu_land6 (by omega) (by omega) (by omega) (by omega) (by omega) (by decide) (by decide) (by decide) (by decide) (by decide)]
    rw [(pu_f3 A g1 (B % 4) (by omega)).1, (pu_f3 B g2 (C % 4) (by omega)).1, (pu_f3 C g3 (D % 4) (by omega)).1, (pu_f3 D g4 (E % 4) (by omega)).1, (pu_f3 E g5 (F % 4) (by omega)).1, (pu_f3 A g1 0 (by omega)).2, (pu_f3 B g2 0 (by omega)).2, (pu_f3 C g3 0 (by omega)).2, (pu_f3 D g4 0 (by omega)).2, (pu_f3 E g5 0 (by omega)).2, (by decide +kernel : ∀ f, f < 16 → f / 4 &&& 819 = f / 4) F g6, (by decide +kernel : ∀ f, f < 16 → f &&& 819 = f % 4) F g6, nI_add]
    refine congrArg nI ?_
    unfold pu_6
    omega
  rw [s2]
  generalize hA1 : A % 4 + A / 4 = A1 at *
  generalize hB1 : B % 4 + B / 4 = B1 at *
  generalize hC1 : C % 4 + C / 4 = C1 at *
  generalize hD1 : D % 4 + D / 4 = D1 at *
  generalize hE1 : E % 4 + E / 4 = E1 at *
  generalize hF1 : F % 4 + F / 4 = F1 at *
  have l1 : A1 ≤ 4 := by omega
  have l2 : B1 ≤ 4 := by omega
  have l3 : C1 ≤ 4 := by omega
  have l4 : D1 ≤ 4 := by omega
  have l5 : E1 ≤ 4 := by omega
  have l6 : F1 ≤ 4 := by omega
  have hM1 : pu_6 A1 B1 C1 D1 E1 F1 < 2 ^ 24 := by unfold pu_6; omega
  have s3 : (nI (pu_6 A1 B1 C1 D1 E1 F1) + ((nI (pu_6 A1 B1 C1 D1 E1 F1)).toUInt32 >>> ((4 : Int32).toUInt32 &&& Int32.toUInt32 31)).toInt32) &&& (252645135 : Int32) = nI (pu_6 (A1 + B1) 0 (C1 + D1) 0 (E1 + F1) 0) := by
    rw [pk_ushrN (by omega) _ 4 (by decide), nI_add, show (252645135 : Int32) = nI 252645135 from rfl, fa_and, show pu_6 A1 B1 C1 D1 E1 F1 + pu_6 A1 B1 C1 D1 E1 F1 / 2 ^ 4 = pu_6 (A1 + B1) (B1 + C1) (C1 + D1) (D1 + E1) (E1 + F1) F1 by unfold pu_6; omega, (by decide +kernel : 252645135 = pu_6 15 0 15 0 15 240), pu_land6 (by omega) (by omega) (by omega) (by omega) (by omega) (by decide) (by decide) (by decide) (by decide) (by decide)]
    rw [(pu_mF _ (by omega : A1 + B1 < 16)).1, (pu_mF _ (by omega : C1 + D1 < 16)).1, (pu_mF _ (by omega : E1 + F1 < 16)).1, pu_m0, pu_m0, (by decide +kernel : ∀ f, f < 16 → f &&& 240 = 0) F1 (by omega)]
  rw [s3]
  rw [pu_bcE (by omega) (by omega) (by omega)]
  refine congrArg (fun z => some (nI z)) ?_
  simp only [Nat.add_assoc]
theorem pu_tb (N j : Nat) : (if N.testBit j = true then 1 else 0) = N / 2 ^ j % 2 := by
  rw [Nat.testBit_eq_decide_div_mod_eq]
  have := Nat.mod_two_eq_zero_or_one (N / 2 ^ j)
  rcases this with e | e <;> rw [e] <;> rfl
/-- the words of a set of words -/
def Ct (x : Int32) : Nat := fb_ct (bt x) 24
theorem Ct_le (x : Int32) : Ct x ≤ 24 := fb_ct_le _ _
theorem pu_g4 (N m : Nat) : fb_ct (fun k => N.testBit (m + k)) 4 = N / 2 ^ m % 2 + N / 2 ^ m / 2 % 2 + N / 2 ^ m / 4 % 2 + N / 2 ^ m / 8 % 2 := by
  simp only [fb_ct, pu_tb, Nat.pow_add, ← Nat.div_div_eq_div_mul]
  generalize N / 2 ^ m = M
  omega
theorem pu_c24 (p : Nat → Bool) : fb_ct p 24 = fb_ct (fun k => p (0 + k)) 4 + (fb_ct (fun k => p (4 + k)) 4 + (fb_ct (fun k => p (8 + k)) 4 + (fb_ct (fun k => p (12 + k)) 4 + (fb_ct (fun k => p (16 + k)) 4 + fb_ct (fun k => p (20 + k)) 4)))) := by
  have h1 : fb_ct p 24 = fb_ct p 20 + fb_ct (fun k => p (20 + k)) 4 := fb_ct_split p 20 4
  have h2 : fb_ct p 20 = fb_ct p 16 + fb_ct (fun k => p (16 + k)) 4 := fb_ct_split p 16 4
  have h3 : fb_ct p 16 = fb_ct p 12 + fb_ct (fun k => p (12 + k)) 4 := fb_ct_split p 12 4
  have h4 : fb_ct p 12 = fb_ct p 8 + fb_ct (fun k => p (8 + k)) 4 := fb_ct_split p 8 4
  have h5 : fb_ct p 8 = fb_ct p 4 + fb_ct (fun k => p (4 + k)) 4 := fb_ct_split p 4 4
  have h6 : fb_ct p 4 = 0 + fb_ct (fun k => p (0 + k)) 4 := fb_ct_split p 0 4
  omega
theorem pu_bcN {N : Nat} (hN : N < 2 ^ 24) : fJ6_bitCount_0f7a4 (nI N) = some (nI (fb_ct (fun j => N.testBit j) 24)) := by
  have h := pu_bc6 (N % 16) (N / 16 % 16) (N / 256 % 16) (N / 4096 % 16) (N / 65536 % 16) (N / 1048576) (by omega) (by omega) (by omega) (by omega) (by omega) (by omega)
  have e : pu_6 (N % 16) (N / 16 % 16) (N / 256 % 16) (N / 4096 % 16) (N / 65536 % 16) (N / 1048576) = N := by unfold pu_6; omega
  rw [e] at h
  rw [h, pu_c24 (fun j => N.testBit j), pu_g4, pu_g4, pu_g4, pu_g4, pu_g4, pu_g4]
  refine congrArg (fun z => some (nI z)) ?_
  have g0 : N / 2 ^ 0 = N := by omega
  rw [g0]
  have a1 : N % 16 % 2 + N % 16 / 2 % 2 + N % 16 / 4 % 2 + N % 16 / 8 = N % 2 + N / 2 % 2 + N / 4 % 2 + N / 8 % 2 := by omega
  have a2 : ∀ M, M % 16 % 2 + M % 16 / 2 % 2 + M % 16 / 4 % 2 + M % 16 / 8 = M % 2 + M / 2 % 2 + M / 4 % 2 + M / 8 % 2 := fun M => by omega
  have a3 : N / 1048576 % 2 + N / 1048576 / 2 % 2 + N / 1048576 / 4 % 2 + N / 1048576 / 8 = N / 1048576 % 2 + N / 1048576 / 2 % 2 + N / 1048576 / 4 % 2 + N / 1048576 / 8 % 2 := by omega
  rw [a2 N, a2 (N / 16), a2 (N / 256), a2 (N / 4096), a2 (N / 65536), a3]
  show _ = _ + (N / 16 % 2 + N / 16 / 2 % 2 + N / 16 / 4 % 2 + N / 16 / 8 % 2 + (N / 256 % 2 + N / 256 / 2 % 2 + N / 256 / 4 % 2 + N / 256 / 8 % 2 + (N / 4096 % 2 + N / 4096 / 2 % 2 + N / 4096 / 4 % 2 + N / 4096 / 8 % 2 + (N / 65536 % 2 + N / 65536 / 2 % 2 + N / 65536 / 4 % 2 + N / 65536 / 8 % 2 + (N / 1048576 % 2 + N / 1048576 / 2 % 2 + N / 1048576 / 4 % 2 + N / 1048576 / 8 % 2)))))
  simp only [Nat.add_assoc]
theorem pu_bc {x : Int32} (hx : ∀ j, 24 ≤ j → j < 32 → bt x j = false) : fJ6_bitCount_0f7a4 x = some (nI (Ct x)) := by
  have e0 : x = nI x.toBitVec.toNat := by
    apply b_ext
    intro i hi
    have hlt := x.toBitVec.isLt
    rw [pu_bnI (by omega)]
    rfl
  have hN : x.toBitVec.toNat < 2 ^ 24 := by
    refine Nat.lt_of_not_le fun q => ?_
    obtain ⟨i, i1, i2⟩ := Nat.exists_ge_and_testBit_of_ge_two_pow q
    by_cases i3 : i < 32
    · have := hx i i1 i3
      rw [pu_bN, i2] at this
      cases this
    · have := b_big (x := x) (Nat.le_of_not_lt i3)
      rw [pu_bN, i2] at this
      cases this
  have h := pu_bcN hN
  rw [← e0] at h
  exact h
theorem Ct_cong {x y : Int32} (h : ∀ j, j < 24 → (bt x j = true ↔ bt y j = true)) : Ct x = Ct y := fb_ct_cong fun k hk => Bool.eq_iff_iff.mpr (h k hk)
end BTC
