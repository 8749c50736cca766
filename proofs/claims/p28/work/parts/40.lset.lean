section LST
/-! the law's own words, links and bars -/
theorem z10_0 : (0 : Int32).toNatClampNeg = 0 := by decide
theorem z10_1 : (1 : Int32).toNatClampNeg = 1 := by decide
theorem z10_2 : (2 : Int32).toNatClampNeg = 2 := by decide
theorem z10_3 : (3 : Int32).toNatClampNeg = 3 := by decide
theorem z10_4 : (4 : Int32).toNatClampNeg = 4 := by decide
theorem z10_5 : (5 : Int32).toNatClampNeg = 5 := by decide
theorem z10_6 : (6 : Int32).toNatClampNeg = 6 := by decide
theorem z10_7 : (7 : Int32).toNatClampNeg = 7 := by decide
theorem z10_8 : (8 : Int32).toNatClampNeg = 8 := by decide
theorem z10_9 : (9 : Int32).toNatClampNeg = 9 := by decide
theorem z10_14 : (14 : Int32).toNatClampNeg = 14 := by decide
theorem zb_1 : zb (1 : Int32) = true := by decide
theorem zb_0 : zb (0 : Int32) = true := by decide
theorem nz_n {n : Nat} (h : 0 < n) (h2 : n < 2 ^ 31) : nz (nI n) = true := decide_eq_true (by
  rw [show (0 : Int32) = nI 0 from rfl, nI_eq h2 (by decide)]; omega)
theorem and31 (x : Int32) : ∃ m, m < 2 ^ 31 ∧ x &&& (2147483647 : Int32) = nI m := by
  refine ⟨x.toBitVec.toNat % 2 ^ 31, Nat.mod_lt _ (by decide), ?_⟩
  have h : nI x.toBitVec.toNat = x := by
    apply Int32.toBitVec_inj.mp
    show BitVec.ofNat 32 x.toBitVec.toNat = x.toBitVec
    exact BitVec.ofNat_toNat _ _ |>.trans (by simp)
  have h2 := pk_andN (n := x.toBitVec.toNat) x.toBitVec.isLt (m := (2147483647 : Int32)) 31 (by decide)
  rw [h] at h2
  exact h2
theorem lw_low (x : Int32) {n : Nat} (h : 0 < n) (hn : n < 2 ^ 31) : ∃ j, j < n ∧ fL_low x (nI n) = some (nI j) := by
  obtain ⟨m, h1, h2⟩ := and31 x
  refine ⟨m % n, Nat.mod_lt _ h, ?_⟩
  unfold fL_low
  rw [nz_n h hn, pu_ck, h2, pk_rem h1 h hn]
theorem lw_letter {c q : Nat} (hc : c < 4096) (hq : q < 4) : fL_letter (nI c) (nI q) = some (nI (pu_l c q)) := by
  have h9 : ∀ k, c / 2 ^ k < 2 ^ 32 := fun k => Nat.lt_of_le_of_lt (Nat.div_le_self _ _) (by omega)
  unfold fL_letter
  rcases pu_q4 hq with rfl | rfl | rfl | rfl
  · rw [pk_shrN (by omega) _ 9 (by decide), pk_andN (h9 9) 3 (by decide)]; rfl
  · rw [pk_shrN (by omega) _ 6 (by decide), pk_andN (h9 6) 3 (by decide)]; rfl
  · rw [pk_shrN (by omega) _ 3 (by decide), pk_andN (h9 3) 3 (by decide)]; rfl
  · rw [pk_shrN (by omega) _ 0 (by decide), pk_andN (h9 0) 3 (by decide)]; rfl
def lw_mk (p : Nat) : Int32 := ((7 : Int32) <<< (((9 : Int32) - ((3 : Int32) * nI p)) &&& 31)) ^^^ (-1 : Int32)
set_option maxRecDepth 100000 in
theorem lw_mask_d : ∀ p, p < 4 → ∀ h, h < 64 → ∀ w, w < 64 → nI (64 * h + w) &&& lw_mk p = nI (64 * h + w - pu_l (64 * h + w) p * 2 ^ (3 * (3 - p))) := by decide +kernel
theorem lw_mask {c p : Nat} (hc : c < 4096) (hp : p < 4) : nI c &&& lw_mk p = nI (c - pu_l c p * 2 ^ (3 * (3 - p))) := by
  have h := lw_mask_d p hp (c / 64) (by omega) (c % 64) (by omega)
  rwa [show 64 * (c / 64) + c % 64 = c by omega] at h
theorem lw_meq {c e p : Nat} (hc : c < 4096) (he : e < 4096) (hp : p < 4) : nI c &&& lw_mk p = nI e &&& lw_mk p ↔ ∀ q, q < 4 → q ≠ p → pu_l c q = pu_l e q := by
  rw [lw_mask hc hp, lw_mask he hp, nI_eq (by omega) (by omega)]
  unfold pu_l
  rcases pu_q4 hp with rfl | rfl | rfl | rfl
  · constructor
    · intro h q hq hqp
      rcases pu_q4 hq with rfl | rfl | rfl | rfl
      · exact absurd rfl hqp
      · simp only [show 2 ^ (3 * (3 - 0)) = 512 from rfl, show 2 ^ (3 * (3 - 1)) = 64 from rfl] at h ⊢; omega
      · simp only [show 2 ^ (3 * (3 - 0)) = 512 from rfl, show 2 ^ (3 * (3 - 2)) = 8 from rfl] at h ⊢; omega
      · simp only [show 2 ^ (3 * (3 - 0)) = 512 from rfl, show 2 ^ (3 * (3 - 3)) = 1 from rfl] at h ⊢; omega
    · intro h
      have h1 := h 1 (by decide) (by decide); have h2 := h 2 (by decide) (by decide); have h3 := h 3 (by decide) (by decide)
      simp only [show 2 ^ (3 * (3 - 0)) = 512 from rfl, show 2 ^ (3 * (3 - 1)) = 64 from rfl, show 2 ^ (3 * (3 - 2)) = 8 from rfl, show 2 ^ (3 * (3 - 3)) = 1 from rfl] at h1 h2 h3 ⊢
      omega
  · constructor
    · intro h q hq hqp
      rcases pu_q4 hq with rfl | rfl | rfl | rfl
      · simp only [show 2 ^ (3 * (3 - 0)) = 512 from rfl, show 2 ^ (3 * (3 - 1)) = 64 from rfl] at h ⊢; omega
      · exact absurd rfl hqp
      · simp only [show 2 ^ (3 * (3 - 1)) = 64 from rfl, show 2 ^ (3 * (3 - 2)) = 8 from rfl] at h ⊢; omega
      · simp only [show 2 ^ (3 * (3 - 1)) = 64 from rfl, show 2 ^ (3 * (3 - 3)) = 1 from rfl] at h ⊢; omega
    · intro h
      have h1 := h 0 (by decide) (by decide); have h2 := h 2 (by decide) (by decide); have h3 := h 3 (by decide) (by decide)
      simp only [show 2 ^ (3 * (3 - 0)) = 512 from rfl, show 2 ^ (3 * (3 - 1)) = 64 from rfl, show 2 ^ (3 * (3 - 2)) = 8 from rfl, show 2 ^ (3 * (3 - 3)) = 1 from rfl] at h1 h2 h3 ⊢
      omega
  · constructor
    · intro h q hq hqp
      rcases pu_q4 hq with rfl | rfl | rfl | rfl
      · simp only [show 2 ^ (3 * (3 - 0)) = 512 from rfl, show 2 ^ (3 * (3 - 2)) = 8 from rfl] at h ⊢; omega
      · simp only [show 2 ^ (3 * (3 - 1)) = 64 from rfl, show 2 ^ (3 * (3 - 2)) = 8 from rfl] at h ⊢; omega
      · exact absurd rfl hqp
      · simp only [show 2 ^ (3 * (3 - 2)) = 8 from rfl, show 2 ^ (3 * (3 - 3)) = 1 from rfl] at h ⊢; omega
    · intro h
      have h1 := h 0 (by decide) (by decide); have h2 := h 1 (by decide) (by decide); have h3 := h 3 (by decide) (by decide)
      simp only [show 2 ^ (3 * (3 - 0)) = 512 from rfl, show 2 ^ (3 * (3 - 1)) = 64 from rfl, show 2 ^ (3 * (3 - 2)) = 8 from rfl, show 2 ^ (3 * (3 - 3)) = 1 from rfl] at h1 h2 h3 ⊢
      have ec : c = 512 * (c / 512 % 8) + 64 * (c / 64 % 8) + 8 * (c / 8 % 8) + c / 1 % 8 := by
        have q1 : c / 8 / 8 = c / 64 := Nat.div_div_eq_div_mul _ _ _
        have q2 : c / 64 / 8 = c / 512 := Nat.div_div_eq_div_mul _ _ _
        omega
      have ee : e = 512 * (e / 512 % 8) + 64 * (e / 64 % 8) + 8 * (e / 8 % 8) + e / 1 % 8 := by
        have q1 : e / 8 / 8 = e / 64 := Nat.div_div_eq_div_mul _ _ _
        have q2 : e / 64 / 8 = e / 512 := Nat.div_div_eq_div_mul _ _ _
        omega
      generalize c / 512 % 8 = c0 at *; generalize c / 64 % 8 = c1 at *; generalize c / 8 % 8 = c2 at *; generalize c / 1 % 8 = c3 at *
      generalize e / 512 % 8 = e0 at *; generalize e / 64 % 8 = e1 at *; generalize e / 8 % 8 = e2 at *; generalize e / 1 % 8 = e3 at *
      omega
  · constructor
    · intro h q hq hqp
      rcases pu_q4 hq with rfl | rfl | rfl | rfl
      · simp only [show 2 ^ (3 * (3 - 0)) = 512 from rfl, show 2 ^ (3 * (3 - 3)) = 1 from rfl] at h ⊢; omega
      · simp only [show 2 ^ (3 * (3 - 1)) = 64 from rfl, show 2 ^ (3 * (3 - 3)) = 1 from rfl] at h ⊢; omega
      · simp only [show 2 ^ (3 * (3 - 2)) = 8 from rfl, show 2 ^ (3 * (3 - 3)) = 1 from rfl] at h ⊢; omega
      · exact absurd rfl hqp
    · intro h
      have h1 := h 0 (by decide) (by decide); have h2 := h 1 (by decide) (by decide); have h3 := h 2 (by decide) (by decide)
      simp only [show 2 ^ (3 * (3 - 0)) = 512 from rfl, show 2 ^ (3 * (3 - 1)) = 64 from rfl, show 2 ^ (3 * (3 - 2)) = 8 from rfl, show 2 ^ (3 * (3 - 3)) = 1 from rfl] at h1 h2 h3 ⊢
      omega
/-- unlike codes are unlike at a place -/
theorem lw_all {c e : Nat} (hc : c < 4096) (he : e < 4096) (h : ∀ q, q < 4 → pu_l c q = pu_l e q) : c = e := by
  have h0 := h 0 (by decide); have h1 := h 1 (by decide); have h2 := h 2 (by decide); have h3 := h 3 (by decide)
  unfold pu_l at h0 h1 h2 h3
  simp only [show 2 ^ (3 * (3 - 0)) = 512 from rfl, show 2 ^ (3 * (3 - 1)) = 64 from rfl, show 2 ^ (3 * (3 - 2)) = 8 from rfl, show 2 ^ (3 * (3 - 3)) = 1 from rfl] at h0 h1 h2 h3
  omega
/-- alike but at the place p -/
theorem lw_at {c e p r : Nat} (hp : p < 4) (h : ∀ q, q < 4 → q ≠ p → pu_l c q = pu_l e q) (hne : pu_l c p ≠ pu_l e p) : Lkc r c e ↔ pu_d (pu_l c p) (pu_l e p) ≤ r := by
  have dz : ∀ q, q < 4 → q ≠ p → pu_d (pu_l c q) (pu_l e q) = 0 := fun q h1 h2 => pu_d0.mpr (h q h1 h2)
  have un : pu_un c e 4 = 1 ∧ pu_fa c e 4 = pu_d (pu_l c p) (pu_l e p) := by
    rcases pu_q4 hp with rfl | rfl | rfl | rfl
    · have a1 := h 1 (by decide) (by decide); have a2 := h 2 (by decide) (by decide); have a3 := h 3 (by decide) (by decide)
      have d1 := dz 1 (by decide) (by decide); have d2 := dz 2 (by decide) (by decide); have d3 := dz 3 (by decide) (by decide)
      simp only [pu_un, pu_fa, Nat.reduceSub, Nat.sub_zero, if_pos a1, if_pos a2, if_pos a3, if_neg hne, d1, d2, d3, Nat.add_zero, Nat.zero_add, and_self]
    · have a1 := h 0 (by decide) (by decide); have a2 := h 2 (by decide) (by decide); have a3 := h 3 (by decide) (by decide)
      have d1 := dz 0 (by decide) (by decide); have d2 := dz 2 (by decide) (by decide); have d3 := dz 3 (by decide) (by decide)
      simp only [pu_un, pu_fa, Nat.reduceSub, Nat.sub_zero, if_pos a1, if_pos a2, if_pos a3, if_neg hne, d1, d2, d3, Nat.add_zero, Nat.zero_add, and_self]
    · have a1 := h 0 (by decide) (by decide); have a2 := h 1 (by decide) (by decide); have a3 := h 3 (by decide) (by decide)
      have d1 := dz 0 (by decide) (by decide); have d2 := dz 1 (by decide) (by decide); have d3 := dz 3 (by decide) (by decide)
      simp only [pu_un, pu_fa, Nat.reduceSub, Nat.sub_zero, if_pos a1, if_pos a2, if_pos a3, if_neg hne, d1, d2, d3, Nat.add_zero, Nat.zero_add, and_self]
    · have a1 := h 0 (by decide) (by decide); have a2 := h 1 (by decide) (by decide); have a3 := h 2 (by decide) (by decide)
      have d1 := dz 0 (by decide) (by decide); have d2 := dz 1 (by decide) (by decide); have d3 := dz 2 (by decide) (by decide)
      simp only [pu_un, pu_fa, Nat.reduceSub, Nat.sub_zero, if_pos a1, if_pos a2, if_pos a3, if_neg hne, d1, d2, d3, Nat.add_zero, Nat.zero_add, and_self]
  unfold Lkc
  rw [un.1, un.2]
  exact ⟨fun z => z.2, fun z => ⟨rfl, z⟩⟩
/-- linked ones are alike but at one place -/
theorem lw_one {c e : Nat} (h : pu_un c e 4 = 1) : ∃ p, p < 4 ∧ ∀ q, q < 4 → q ≠ p → pu_l c q = pu_l e q := by
  simp only [pu_un, Nat.reduceSub, Nat.sub_zero] at h
  by_cases a0 : pu_l c 0 = pu_l e 0 <;> by_cases a1 : pu_l c 1 = pu_l e 1 <;> by_cases a2 : pu_l c 2 = pu_l e 2 <;> by_cases a3 : pu_l c 3 = pu_l e 3 <;> simp only [a0, a1, a2, a3, if_true, if_false] at h <;> try omega
  · exact ⟨3, by decide, fun q h1 h2 => by rcases pu_q4 h1 with rfl | rfl | rfl | rfl <;> first | assumption | exact absurd rfl h2⟩
  · exact ⟨2, by decide, fun q h1 h2 => by rcases pu_q4 h1 with rfl | rfl | rfl | rfl <;> first | assumption | exact absurd rfl h2⟩
  · exact ⟨1, by decide, fun q h1 h2 => by rcases pu_q4 h1 with rfl | rfl | rfl | rfl <;> first | assumption | exact absurd rfl h2⟩
  · exact ⟨0, by decide, fun q h1 h2 => by rcases pu_q4 h1 with rfl | rfl | rfl | rfl <;> first | assumption | exact absurd rfl h2⟩
theorem lw_near : ∀ a, a < 8 → ∀ b, b < 8 → ∀ r, r < 8 → ((¬ nI r < nI a - nI b ∧ ¬ nI r < -(nI a - nI b)) ↔ pu_d a b ≤ r) := by decide +kernel
theorem lw_linked_L {c e r : Nat} (hc : c < 4096) (he : e < 4096) (hr : r < 8) : ∀ (d i f : Nat), i + d = 4 → d < f → (∀ p, p < i → ¬ (c ≠ e ∧ ∀ q, q < 4 → q ≠ p → pu_l c q = pu_l e q)) → ∃ y, fL_linked_L2 (nI c) (nI e) (nI r) f (nI i) = some y ∧ ((y = 1 ∧ Lkc r c e) ∨ (y = 0 ∧ ¬ Lkc r c e)) := by
  intro d
  induction d with
  | zero =>
    intro i f hi hf g
    obtain ⟨f, rfl, -⟩ := pu_fuel hf
    have : i = 4 := hi
    subst this
    refine ⟨0, ?_, Or.inr ⟨rfl, fun q => ?_⟩⟩
    · rw [fL_linked_L2, if_pos (show (4 : Int32) ≤ nI 4 from nI_le (a := 4) (by omega) (by omega))]
    · obtain ⟨p, h1, h2⟩ := lw_one q.1
      exact g p h1 ⟨fun z => by subst z; exact Lkc_self _ _ q, h2⟩
  | succ d ih =>
    intro i f hi hf g
    obtain ⟨f, rfl, hf⟩ := pu_fuel hf
    have hi4 : i < 4 := by omega
    rw [fL_linked_L2, if_neg (show ¬ (4 : Int32) ≤ nI i from nI_ge (b := 4) (by omega) (by omega)), pu_pl]
    have em : ((7 : Int32) <<< (((9 : Int32) - ((3 : Int32) * nI i)) &&& 31)) ^^^ (-1 : Int32) = lw_mk i := rfl
    rw [em]
    have next : (¬ (c ≠ e ∧ ∀ q, q < 4 → q ≠ i → pu_l c q = pu_l e q)) → ∃ y, fL_linked_L2 (nI c) (nI e) (nI r) f (nI (i + 1)) = some y ∧ ((y = 1 ∧ Lkc r c e) ∨ (y = 0 ∧ ¬ Lkc r c e)) := fun no =>
      ih (i + 1) f (by omega) (by omega) (fun p hp => by
        by_cases q : p = i
        · rw [q]; exact no
        · exact g p (by omega))
    by_cases q1 : c = e
    · rw [if_pos (by rw [q1]), pu_pl, nI_1]
      exact next (fun z => z.1 q1)
    · rw [if_neg (by rw [nI_eq (by omega) (by omega)]; exact q1)]
      by_cases q2 : ∀ q, q < 4 → q ≠ i → pu_l c q = pu_l e q
      · have hne : pu_l c i ≠ pu_l e i := fun z => q1 (lw_all hc he (fun q hq => by
          by_cases w : q = i
          · rw [w]; exact z
          · exact q2 q hq w))
        rw [if_pos ((lw_meq hc he hi4).mpr q2), lw_letter hc hi4, pu_bd, lw_letter he hi4, pu_bd, pu_pl]
        have hn := lw_near (pu_l c i) (pu_l_lt c i) (pu_l e i) (pu_l_lt e i) r hr
        have hk := lw_at (r := r) hi4 q2 hne
        by_cases w1 : nI r < nI (pu_l c i) - nI (pu_l e i)
        · rw [if_pos w1, pu_bd, zb_0, pu_ck]
          exact ⟨0, rfl, Or.inr ⟨rfl, fun z => (hn.mpr (hk.mp z)).1 w1⟩⟩
        · rw [if_neg w1]
          by_cases w2 : nI r < -(nI (pu_l c i) - nI (pu_l e i))
          · rw [if_pos w2, pu_bd, zb_0, pu_ck]
            exact ⟨0, rfl, Or.inr ⟨rfl, fun z => (hn.mpr (hk.mp z)).2 w2⟩⟩
          · rw [if_neg w2, pu_bd, zb_1, pu_ck]
            exact ⟨1, rfl, Or.inl ⟨rfl, hk.mpr (hn.mp ⟨w1, w2⟩)⟩⟩
      · rw [if_neg (fun z => q2 ((lw_meq hc he hi4).mp z)), pu_pl, nI_1]
        exact next (fun z => q2 z.2)
theorem lw_linked {c e r : Nat} (hc : c < 4096) (he : e < 4096) (hr : r < 8) : ∃ y, fL_linked (nI c) (nI e) (nI r) = some y ∧ ((y = 1 ∧ Lkc r c e) ∨ (y = 0 ∧ ¬ Lkc r c e)) := lw_linked_L hc he hr 4 0 1000 rfl (by decide) (fun p hp => by omega)
/-- n words of codes cd, the bar at p and l, the step s, the nearness r, as the law has them -/
def LQ (vq vw : AI) (n p l s r : Nat) (cd : Nat → Nat) : Prop := vq 0 = nI n ∧ vq 1 = nI p ∧ vq 2 = nI l ∧ vq 3 = nI s ∧ vq 4 = nI r ∧ n ≤ 24 ∧ p < 4 ∧ l < 8 ∧ s < 8 ∧ r < 8 ∧ ∀ w, w < n → vw w = nI (cd w) ∧ cd w < 4096
theorem lw_isBarred {vq vw : AI} {n p l s r w t : Nat} {cd : Nat → Nat} (h : LQ vq vw n p l s r cd) (hw : w < n) (ht : t < 2 ^ 19) : ∃ y, fL_isBarred vq (nI (cd w)) (nI t) = some y ∧ ((y = 1 ∧ Bar n p l s cd t w) ∨ (y = 0 ∧ ¬ Bar n p l s cd t w)) := by
  obtain ⟨-, h1, h2, h3, -, -, hp, hl, hs, -, hcd⟩ := h
  have hc := (hcd w hw).2
  have hb : (p + t) / 4 * s ≤ (p + t) / 4 * 8 := Nat.mul_le_mul_left _ (by omega)
  have hb2 : (p + t) / 4 * 8 < 2 ^ 21 := by omega
  unfold fL_isBarred
  rw [z10_1, h1, nI_add, pu_pl, pu_rem4 (p + t) (by omega), z10_2, h2, z10_3, h3, show (4 : Int32) = nI 4 from rfl, show (8 : Int32) = nI 8 from rfl, pk_div (by omega) (by decide) (by decide), pk_mul, nI_add, pk_rem (by omega) (by decide) (by decide), pu_pl, lw_letter hc (by omega), pu_bd]
  have h8 := pu_l_lt (cd w) ((p + t) % 4)
  have h9 : (l + (p + t) / 4 * s) % 8 < 8 := Nat.mod_lt _ (by decide)
  by_cases e : pu_l (cd w) ((p + t) % 4) = (l + (p + t) / 4 * s) % 8
  · rw [if_pos (by rw [e]), pu_bd, zb_1, pu_ck]
    exact ⟨1, rfl, Or.inl ⟨rfl, hw, e⟩⟩
  · rw [if_neg (by rw [nI_eq (by omega) (by omega)]; exact e), pu_bd, zb_0, pu_ck]
    exact ⟨0, rfl, Or.inr ⟨rfl, fun q => e q.2⟩⟩
end LST
