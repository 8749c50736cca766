section BDY
theorem cell_ok {L : Nat} (hL : L < 2 ^ 31) (xs : Nat → Int32) {k : Nat} (hk : k < 2 ^ 31) : ∃ v, fL_cell L xs (nI k) = some v := by
  unfold fL_cell
  by_cases e : Int32.ofNat L ≤ nI k
  · rw [if_pos e]
    exact ⟨_, rfl⟩
  · have : k < L := by
      refine Nat.lt_of_not_le fun q => e ?_
      exact nI_le (a := L) q hk
    rw [if_neg e, pu_inb this hL, pu_ck]
    exact ⟨_, rfl⟩
/-- what the law hands to its call, by the kind -/
def Args (n k : Nat) (a b e : Int32) : Prop := k = 0 ∨ (k = 1 ∧ ∃ c w z, c < 3 ∧ w ≤ n ∧ z ≤ n ∧ a = nI c ∧ b = nI w ∧ e = nI z) ∨ (k = 2 ∧ ∃ c w, c < 3 ∧ w ≤ n ∧ a = nI c ∧ b = nI w) ∨ k = 3 ∨ (k = 4 ∧ ∃ c, c < 3 ∧ a = nI c) ∨ (k = 5 ∧ ∃ j v, j < 2 ∧ 1 ≤ v ∧ v ≤ 7 ∧ a = nI j ∧ b = nI v) ∨ (k = 6 ∧ ∃ j v, j < 4 ∧ v < 8 ∧ a = nI j ∧ b = nI v)
section BO
variable {st : St} {vq vw vc vl : AI} {m n p l s r : Nat} {cd : Nat → Nat}
theorem step_all {k : Nat} {a b e : Int32} (h : CSx st (AA vq vw vc) m n p l s r cd) (hl : LL vl n r cd) (ha : Args n k a b e) (tx : Tx) (is : Is) (wa : Wa) (hi : Hi) (hh : HOK hi) : StepR tx is wa st hi vq vw vc vl m (nI k) a b e := by
  rcases ha with rfl | ⟨rfl, c, w, z, h1, h2, h3, rfl, rfl, rfl⟩ | ⟨rfl, c, w, h1, h2, rfl, rfl⟩ | rfl | ⟨rfl, c, h1, rfl⟩ | ⟨rfl, j, v, h1, h2, h3, rfl, rfl⟩ | ⟨rfl, j, v, h1, h2, rfl, rfl⟩
  · exact step_add h hh a b e
  · exact step_put h hl hh h1 h2 h3
  · exact step_climb h hh h1 h2 e
  · exact step_turn h hh a b e
  · exact step_leave h hh h1 b e
  · exact step_set h hh h1 h2 h3 e
  · exact step_bar h hh h1 h2 e
theorem tail_ok {st' : St} {vq' vw' vc' : AI} {n' p' l' s' r' : Nat} {cd' : Nat → Nat} (h : CSx st' (AA vq' vw' vc') m n' p' l' s' r' cd') (hm : m < 1000000) (vl : AI) (tx : Tx) (is : Is) (wa : Wa) (hi : Hi) (x : Int32) : ∃ vl' is' wa', fL_lays vq' vw' vl = some vl' ∧ LL vl' n' r' cd' ∧ fL_isSo tx is wa st' hi vq' vw' vc' vl' x = some (1, is', wa') := by
  obtain ⟨vl', e1, e2⟩ := lw_lays h.2.2.1.lq vl
  obtain ⟨is', wa', e3⟩ := is_so h e2 hm tx is wa hi x
  exact ⟨vl', is', wa', e1, e2, e3⟩
theorem loop_other {r2 j6 v : Int32} {k : Nat} (hk : k < 7) (h2 : k ≠ 2) : fL_law_L362 vq vw vc r2 (nI k) j6 1000 v (0 : Int32) = some v := by
  rw [fL_law_L362, if_neg (show ¬ nI k = (2 : Int32) by rw [show (2 : Int32) = nI 2 from rfl, nI_eq (by omega) (by decide)]; exact h2)]
theorem loop_climb {r2 : Int32} {c : Nat} (h : CSx st (AA vq vw vc) m n p l s r cd) (hc : c < 3) : ∀ (d i f w : Nat), i + d = n → d < f → w ≤ n → ∃ w', w' ≤ n ∧ fL_law_L362 vq vw vc r2 (2 : Int32) (nI c) f (nI w) (nI i) = some (nI w') := by
  have hn := h.1.2.2.2.2.2.1
  have q0 := h.2.2.1.lq.1
  intro d
  induction d with
  | zero =>
    intro i f w hi hf hw
    obtain ⟨f, rfl, -⟩ := pu_fuel hf
    exact ⟨w, hw, by rw [fL_law_L362, if_pos rfl, z10_0, q0, if_pos (nI_le (by omega) (by omega))]⟩
  | succ d ih =>
    intro i f w hi hf hw
    obtain ⟨f, rfl, hf⟩ := pu_fuel hf
    obtain ⟨x, -, x1⟩ := lw_low (r2 >>> ((20 : Int32) &&& 31)) (n := 5) (by decide) (by decide)
    have x1' : fL_low (r2 >>> ((20 : Int32) &&& 31)) (5 : Int32) = some (nI x) := x1
    have nxt : ∃ u, u ≤ n ∧ (if nI w + (1 : Int32) < nI n then (some (nI w + (1 : Int32))) else (some (0 : Int32))) = some (nI u) := by
      rw [nI_1]
      by_cases e : w + 1 < n
      · rw [if_pos (nI_lt e (by omega))]
        exact ⟨w + 1, by omega, rfl⟩
      · rw [if_neg (nI_nlt (by omega) (by omega))]
        exact ⟨0, by omega, rfl⟩
    obtain ⟨u, u1, u2⟩ := nxt
    obtain ⟨w', b1, b2⟩ := ih (i + 1) f u (by omega) (by omega) u1
    rw [fL_law_L362, if_pos rfl, z10_0, q0, if_neg (nI_ge (by omega) (by omega)), x1', pu_bd]
    by_cases e0 : nI x ≤ (0 : Int32)
    · rw [if_pos e0]
      exact ⟨w, hw, rfl⟩
    · rw [if_neg e0]
      by_cases ew : w = n
      · subst ew
        rw [if_pos (nI_le (Nat.le_refl _) (by omega)), u2, pu_bd, pu_pl, nI_1]
        exact ⟨w', b1, b2⟩
      · obtain ⟨y, -, y2, -⟩ := cs_why h hc (show w < n by omega)
        rw [if_neg (nI_ge (by omega) (by omega)), y2, pu_bd]
        by_cases ey : y = 0
        · rw [if_pos ey]
          exact ⟨w, hw, rfl⟩
        · rw [if_neg ey, u2, pu_bd, pu_pl, nI_1]
          exact ⟨w', b1, b2⟩
/-- the invariant of the law's turns -/
def Inv (m : Nat) (st : St) (hi : Hi) (vq vw vc vl : AI) : Prop := ∃ n p l s r cd, CSx st (AA vq vw vc) m n p l s r cd ∧ LL vl n r cd ∧ HOK hi
theorem lg_self (x : Int64) : lg_cmp x x = 0 := by simp [lg_cmp]
theorem body_ok {L : Nat} (hL : L ≤ 260) (xs : Nat → Int32) {hi : Hi} (hI : Inv m st hi vq vw vc vl) (hm : m < 1000) {t : Nat} (ht : t < 40) (tx : Tx) (is : Is) (wa : Wa) : ∃ tx' is' wa' st' hi' vq' vw' vc' vl', fL_body L xs tx is wa st hi vq vw vc vl (nI t) = some (some (tx', is', wa', st', hi', vq', vw', vc', vl')) ∧ Inv (m + 1) st' hi' vq' vw' vc' vl' := by
  obtain ⟨n, p, l, s, r, cd, h, hl, hh⟩ := hI
  have hn := h.1.2.2.2.2.2.1
  have q0 := h.2.2.1.lq.1
  have e2t : (2 : Int32) * nI t = nI (2 * t) := by rw [show (2 : Int32) = nI 2 from rfl, pk_mul]
  obtain ⟨x, c1⟩ := cell_ok (L := L) (by omega) xs (k := 2 * t) (by omega)
  obtain ⟨y, c2⟩ := cell_ok (L := L) (by omega) xs (k := 2 * t + 1) (by omega)
  obtain ⟨j, j1, j2⟩ := lw_low x (n := 22) (by decide) (by decide)
  have j2' : fL_low x (22 : Int32) = some (nI j) := j2
  have k4 : ∃ k, k < 7 ∧ (if nI t < (3 : Int32) then (some (0 : Int32)) else (if (2 : Int32) ≤ nI j then (if (7 : Int32) ≤ nI j then (if (14 : Int32) ≤ nI j then (if (18 : Int32) ≤ nI j then (if (20 : Int32) ≤ nI j then (if nI j = (20 : Int32) then (some (6 : Int32)) else (some (2 : Int32))) else (some (nI j - (14 : Int32)))) else (some (3 : Int32))) else (some (2 : Int32))) else (some (1 : Int32))) else (some (0 : Int32)))) = some (nI k) := by
    by_cases a1 : nI t < (3 : Int32)
    · rw [if_pos a1]; exact ⟨0, by decide, rfl⟩
    · rw [if_neg a1]
      by_cases a2 : (2 : Int32) ≤ nI j
      · rw [if_pos a2]
        by_cases a3 : (7 : Int32) ≤ nI j
        · rw [if_pos a3]
          by_cases a4 : (14 : Int32) ≤ nI j
          · rw [if_pos a4]
            by_cases a5 : (18 : Int32) ≤ nI j
            · rw [if_pos a5]
              by_cases a6 : (20 : Int32) ≤ nI j
              · rw [if_pos a6]
                by_cases a7 : nI j = (20 : Int32)
                · rw [if_pos a7]; exact ⟨6, by decide, rfl⟩
                · rw [if_neg a7]; exact ⟨2, by decide, rfl⟩
              · rw [if_neg a6]
                have b5 : 18 ≤ j := (nI_leI (a := 18) (by decide) (by omega)).mp a5
                have b6 : ¬ 20 ≤ j := fun q => a6 (nI_le (a := 20) q (by omega))
                exact ⟨j - 14, by omega, by rw [show (14 : Int32) = nI 14 from rfl, pk_sub (by omega)]⟩
            · rw [if_neg a5]; exact ⟨3, by decide, rfl⟩
          · rw [if_neg a4]; exact ⟨2, by decide, rfl⟩
        · rw [if_neg a3]; exact ⟨1, by decide, rfl⟩
      · rw [if_neg a2]; exact ⟨0, by decide, rfl⟩
  obtain ⟨k, k1, k2⟩ := k4
  have k5 : ∃ k', k' < 7 ∧ (if nI k = (4 : Int32) then (if (nI t - nI t / (3 : Int32) * (3 : Int32)) ≤ (0 : Int32) then (some (nI k)) else (some (2 : Int32))) else (some (nI k))) = some (nI k') := by
    by_cases a1 : nI k = (4 : Int32)
    · rw [if_pos a1]
      by_cases a2 : (nI t - nI t / (3 : Int32) * (3 : Int32)) ≤ (0 : Int32)
      · rw [if_pos a2]; exact ⟨k, k1, rfl⟩
      · rw [if_neg a2]; exact ⟨2, by decide, rfl⟩
    · rw [if_neg a1]; exact ⟨k, k1, rfl⟩
  obtain ⟨g, g1, g2⟩ := k5
  have ne : ∀ i, i < 7 → g ≠ i → ¬ nI g = nI i := fun i hi q => by rw [nI_eq (by omega) (by omega)]; exact q
  obtain ⟨e0, e1, e2⟩ := lw_low (y >>> ((8 : Int32) &&& 31)) (n := n + 1) (by omega) (by omega)
  obtain ⟨f0, f1, f2⟩ := lw_low (y >>> ((2 : Int32) &&& 31)) (n := n + 1) (by omega) (by omega)
  obtain ⟨c0, d1, d2⟩ := lw_low y (n := 3) (by decide) (by decide)
  obtain ⟨u5, u51, u52⟩ := lw_low y (n := 2) (by decide) (by decide)
  obtain ⟨u6, u61, u62⟩ := lw_low y (n := 4) (by decide) (by decide)
  obtain ⟨v5, v51, v52⟩ := lw_low (y >>> ((2 : Int32) &&& 31)) (n := 7) (by decide) (by decide)
  obtain ⟨v6, v61, v62⟩ := lw_low (y >>> ((2 : Int32) &&& 31)) (n := 8) (by decide) (by decide)
  have d2' : fL_low y (3 : Int32) = some (nI c0) := d2
  have u52' : fL_low y (2 : Int32) = some (nI u5) := u52
  have u62' : fL_low y (4 : Int32) = some (nI u6) := u62
  have v52' : fL_low (y >>> ((2 : Int32) &&& 31)) (7 : Int32) = some (nI v5) := v52
  have v62' : fL_low (y >>> ((2 : Int32) &&& 31)) (8 : Int32) = some (nI v6) := v62
  have args : ∃ a b b', (if nI g = (0 : Int32) then (some (y &&& (1048575 : Int32))) else (if nI g = (5 : Int32) then (bd (fL_low y (2 : Int32)) fun (r95 : Int32) => (some r95)) else (if nI g = (6 : Int32) then (bd (fL_low y (4 : Int32)) fun (r94 : Int32) => (some r94)) else (bd (fL_low y (3 : Int32)) fun (r93 : Int32) => (some r93))))) = some a ∧ (if nI g = (0 : Int32) then (some (y >>> ((20 : Int32) &&& 31))) else (if nI g = (5 : Int32) then (bd (fL_low (y >>> ((2 : Int32) &&& 31)) (7 : Int32)) fun (r89 : Int32) => (some ((1 : Int32) + r89))) else (if nI g = (6 : Int32) then (bd (fL_low (y >>> ((2 : Int32) &&& 31)) (8 : Int32)) fun (r88 : Int32) => (some r88)) else (bd (fL_low (y >>> ((2 : Int32) &&& 31)) (nI (n + 1))) fun (r87 : Int32) => (some r87))))) = some b ∧ fL_law_L362 vq vw vc y (nI g) a 1000 b (0 : Int32) = some b' ∧ Args n g a b' (nI e0) := by
    rw [d2', u52', u62', v52', v62', f2, pu_bd, pu_bd, pu_bd, pu_bd, pu_bd, pu_bd]
    rcases (show g = 0 ∨ g = 1 ∨ g = 2 ∨ g = 3 ∨ g = 4 ∨ g = 5 ∨ g = 6 by omega) with rfl | rfl | rfl | rfl | rfl | rfl | rfl
    · rw [if_pos (show nI 0 = (0 : Int32) from rfl), if_pos (show nI 0 = (0 : Int32) from rfl)]
      exact ⟨_, _, _, rfl, rfl, loop_other (by decide) (by decide), Or.inl rfl⟩
    · rw [if_neg (show ¬ nI 1 = (0 : Int32) by decide), if_neg (show ¬ nI 1 = (5 : Int32) by decide), if_neg (show ¬ nI 1 = (6 : Int32) by decide), if_neg (show ¬ nI 1 = (0 : Int32) by decide), if_neg (show ¬ nI 1 = (5 : Int32) by decide), if_neg (show ¬ nI 1 = (6 : Int32) by decide)]
      exact ⟨_, _, _, rfl, rfl, loop_other (by decide) (by decide), Or.inr (Or.inl ⟨rfl, c0, f0, e0, d1, by omega, by omega, rfl, rfl, rfl⟩)⟩
    · rw [if_neg (show ¬ nI 2 = (0 : Int32) by decide), if_neg (show ¬ nI 2 = (5 : Int32) by decide), if_neg (show ¬ nI 2 = (6 : Int32) by decide), if_neg (show ¬ nI 2 = (0 : Int32) by decide), if_neg (show ¬ nI 2 = (5 : Int32) by decide), if_neg (show ¬ nI 2 = (6 : Int32) by decide)]
      obtain ⟨w', b1, b2⟩ := loop_climb (r2 := y) h d1 n 0 1000 f0 (by omega) (by omega) (by omega)
      exact ⟨_, _, _, rfl, rfl, b2, Or.inr (Or.inr (Or.inl ⟨rfl, c0, w', d1, b1, rfl, rfl⟩))⟩
    · rw [if_neg (show ¬ nI 3 = (0 : Int32) by decide), if_neg (show ¬ nI 3 = (5 : Int32) by decide), if_neg (show ¬ nI 3 = (6 : Int32) by decide), if_neg (show ¬ nI 3 = (0 : Int32) by decide), if_neg (show ¬ nI 3 = (5 : Int32) by decide), if_neg (show ¬ nI 3 = (6 : Int32) by decide)]
      exact ⟨_, _, _, rfl, rfl, loop_other (by decide) (by decide), Or.inr (Or.inr (Or.inr (Or.inl rfl)))⟩
    · rw [if_neg (show ¬ nI 4 = (0 : Int32) by decide), if_neg (show ¬ nI 4 = (5 : Int32) by decide), if_neg (show ¬ nI 4 = (6 : Int32) by decide), if_neg (show ¬ nI 4 = (0 : Int32) by decide), if_neg (show ¬ nI 4 = (5 : Int32) by decide), if_neg (show ¬ nI 4 = (6 : Int32) by decide)]
      exact ⟨_, _, _, rfl, rfl, loop_other (by decide) (by decide), Or.inr (Or.inr (Or.inr (Or.inr (Or.inl ⟨rfl, c0, d1, rfl⟩))))⟩
    · rw [if_neg (show ¬ nI 5 = (0 : Int32) by decide), if_pos (show nI 5 = (5 : Int32) from rfl), if_neg (show ¬ nI 5 = (0 : Int32) by decide), if_pos (show nI 5 = (5 : Int32) from rfl)]
      exact ⟨_, _, _, rfl, rfl, loop_other (by decide) (by decide), Or.inr (Or.inr (Or.inr (Or.inr (Or.inr (Or.inl ⟨rfl, u5, 1 + v5, u51, by omega, by omega, rfl, nI_add 1 v5⟩)))))⟩
    · rw [if_neg (show ¬ nI 6 = (0 : Int32) by decide), if_neg (show ¬ nI 6 = (5 : Int32) by decide), if_pos (show nI 6 = (6 : Int32) from rfl), if_neg (show ¬ nI 6 = (0 : Int32) by decide), if_neg (show ¬ nI 6 = (5 : Int32) by decide), if_pos (show nI 6 = (6 : Int32) from rfl)]
      exact ⟨_, _, _, rfl, rfl, loop_other (by decide) (by decide), Or.inr (Or.inr (Or.inr (Or.inr (Or.inr (Or.inr ⟨rfl, u6, v6, u61, v61, rfl, rfl⟩)))))⟩
  obtain ⟨a, b, b', a1, a2, a3, hA⟩ := args
  obtain ⟨tv, tv1⟩ := told_v h
  obtain ⟨is1, wa1, t1⟩ := tv1 tx is wa hi
  obtain ⟨res, tx2, wa2, st2, hi2, vq2, vw2, vc2, n2, p2, l2, s2, r2, cd2, s1, s2e, s3, s4, s5⟩ := step_all h hl hA tx is1 wa1 hi hh
  unfold fL_body
  rw [e2t, nI_1, c1, pu_bd, c2, pu_bd, j2', pu_bd, k2, pu_bd, g2, pu_bd, z10_0, q0, nI_1, a1, pu_bd, a2, pu_bd, e2, pu_bd, a3, pu_bd, t1, pu_bd3, s1, pu_bd5]
  rcases s5 with ⟨lo, rfl⟩ | ⟨lo, hU⟩
  · -- a refused call: nothing has changed
    obtain ⟨is3, wa3, t3⟩ := tv1 tx2 is1 wa2 hi2
    obtain ⟨vl4, is4, wa4, w1, w2, w3⟩ := tail_ok s3 (by omega) vl tx2 is3 wa3 hi2 (x >>> ((5 : Int32) &&& 31))
    rw [if_neg lo, t3, pu_bd3, lg_self, if_pos rfl, s2e, pu_bd4, if_pos rfl, w1, pu_bd, w3, pu_bd3, if_neg (by decide)]
    exact ⟨_, _, _, _, _, _, _, _, _, rfl, _, _, _, _, _, _, s3, w2, s4⟩
  · rw [if_pos lo]
    by_cases ux : ((x >>> ((24 : Int32) &&& 31)) &&& (3 : Int32)) = (0 : Int32)
    · -- undone, and done again
      obtain ⟨ku, hi3, ku1, ku2, ku3⟩ := hU.2 tx2 is1 wa2 st2
      obtain ⟨is3, wa3, t3⟩ := tv1 tx2 is1 wa2 hi3
      obtain ⟨res4, tx4, wa4, st4, hi4, vq4, vw4, vc4, n4, p4, l4, s4', r4, cd4, y1, y2, y3, y4, y5⟩ := step_all h hl hA tx2 is3 wa3 hi3 ku3
      have eq := some_i (s2e.symm.trans y2)
      have er : res4 = res := (congrArg Prod.fst eq).symm
      obtain ⟨vl5, is5, wa5, w1, w2, w3⟩ := tail_ok y3 (by omega) vl tx4 is3 wa4 hi4 (x >>> ((5 : Int32) &&& 31))
      rw [if_pos ux, ku2, pu_bd3, if_neg (nI_pos (by omega)), t3, pu_bd3, lg_self, if_pos rfl, y1, pu_bd5, if_pos er, y2, pu_bd4, if_pos er.symm, w1, pu_bd, w3, pu_bd3, if_neg (by decide)]
      exact ⟨_, _, _, _, _, _, _, _, _, rfl, _, _, _, _, _, _, y3, w2, y4⟩
    · obtain ⟨vl4, is4, wa4, w1, w2, w3⟩ := tail_ok s3 (by omega) vl tx2 is1 wa2 hi2 (x >>> ((5 : Int32) &&& 31))
      rw [if_neg ux, s2e, pu_bd4, if_pos rfl, w1, pu_bd, w3, pu_bd3, if_neg (by decide)]
      exact ⟨_, _, _, _, _, _, _, _, _, rfl, _, _, _, _, _, _, s3, w2, s4⟩
end BO
theorem st0_c : ∀ c, c < 3 → St_under St0 c = -1 ∧ St_beginnings St0 c = -1 ∧ St_ends St0 c = -1 ∧ St_went St0 c = 0 ∧ St_steps St0 c = 0 ∧ St_ladders St0 c = 0 ∧ St_falls St0 c = 0 := by decide +kernel
/-- the law's rows at the start -/
def q_0 : AI := upd (upd (fun _ => 0) 3 3) 4 7
def c_0 : AI := upd (upd (upd (upd (upd (upd (upd (upd (upd (fun _ => 0) 0 (-1)) 1 (-1)) 2 (-1)) 7 (-1)) 8 (-1)) 9 (-1)) 14 (-1)) 15 (-1)) 16 (-1)
theorem q_0v : q_0 0 = 0 ∧ q_0 1 = 0 ∧ q_0 2 = 0 ∧ q_0 3 = 3 ∧ q_0 4 = 7 ∧ q_0 5 = 0 ∧ q_0 6 = 0 ∧ q_0 7 = 0 ∧ q_0 8 = 0 ∧ q_0 9 = 0 := by decide +kernel
theorem c_0v : ∀ c, c < 3 → c_0 (7 * c + 0) = -1 ∧ c_0 (7 * c + 1) = -1 ∧ c_0 (7 * c + 2) = -1 ∧ c_0 (7 * c + 3) = 0 ∧ c_0 (7 * c + 4) = 0 ∧ c_0 (7 * c + 5) = 0 ∧ c_0 (7 * c + 6) = 0 := by decide +kernel
theorem Inv_0 (as : Nat → Nat → Nat) : Inv 0 St0 (Hi0 as) q_0 (fun _ => 0) c_0 (fun _ => 0) := by
  obtain ⟨v0, v1, v2, v3, v4, v5, v6, v7, v8, v9⟩ := q_0v
  refine ⟨0, 0, 0, 3, 7, fun _ => 0, ⟨⟨rfl, rfl, rfl, rfl, rfl, by decide, by decide, by decide, by decide, by decide, fun w hw => by omega⟩, ?_, ⟨?_, ?_, ?_, ?_, ?_, by decide, by decide, by decide, by decide, by decide, fun w hw => by omega⟩, fun c hc => ?_, ?_⟩, fun u j hu hj => by omega, ⟨0, by decide, rfl⟩⟩
  · intro u j hu hj
    show bt (0 : Int32) j = true ↔ _
    rw [b_0]
    exact ⟨(fun q => by cases q), fun q => by omega⟩
  · rw [AA_q (by decide), v0]; rfl
  · rw [AA_q (by decide), v1]; rfl
  · rw [AA_q (by decide), v2]; rfl
  · rw [AA_q (by decide), v3]; rfl
  · rw [AA_q (by decide), v4]; rfl
  · obtain ⟨a0, a1, a2, a3, a4, a5, a6⟩ := c_0v c hc
    obtain ⟨s0, s1, s2, s3, s4, s5, s6⟩ := st0_c c hc
    unfold Cl1
    rw [AA_c7 hc (by decide), AA_c7 hc (by decide), AA_c7 hc (by decide), AA_c7 hc (by decide), AA_c7 hc (by decide), AA_c7 hc (by decide), AA_c7 hc (by decide)]
    refine ⟨a0.trans s0.symm, a1.trans s1.symm, a2.trans s2.symm, ?_, a4.trans s4.symm, a5.trans s5.symm, a6.trans s6.symm, Or.inl s3, Or.inl s0⟩
    rw [if_pos s0]
    exact a3
  · unfold Cnt
    rw [AA_q (by decide), AA_q (by decide), AA_q (by decide), AA_q (by decide), AA_q (by decide)]
    refine ⟨v5, v6, fun _ => 0, fun _ => 0, fun _ => 0, 0, fun c hc => ?_, v7, v8, rfl, v9, Nat.le_refl 0, ?_⟩
    · obtain ⟨s0, s1, s2, s3, s4, s5, s6⟩ := st0_c c hc
      exact ⟨s5, s4, s6⟩
    · have : ∀ c, onk St0 c 0 = 0 := fun c => by unfold onk; split <;> rfl
      rw [this, this, this]
      decide
end BDY
