section LOK
/-! what one looks at: both sides -/

theorem cs_word {st : St} {mo : Mo} {m n p l s r w k : Nat} {cd : Nat → Nat} (h : CSx st (Mo_state mo) m n p l s r cd) (hw : w < n) (hk : k ≤ 9) (tx : Tx) (is : Is) (wa : Wa) (hi : Hi) : ∃ y mo', fX5_wordNumber tx is wa st hi (nI w) (nI k) = some y ∧ fX6_tellsWord mo (nI w) (nI k) = some (y, mo') ∧ Same mo mo' := by
  have hB := h.1
  have hL := h.2.1
  have hM := h.2.2.1
  have hn := hB.2.2.2.2.2.1
  obtain ⟨A, e1, e2⟩ := pm_lay hM
  have hM1 : MB (Mo_state (Mo_set_links mo A)) n p l s r cd := hM
  have hl1 : Lk6 (Mo_links (Mo_set_links mo A)) n r cd := e2
  have hS := Same_links mo A
  unfold fX5_wordNumber fX6_tellsWord
  rw [e1, pu_bd]
  rcases (show k = 0 ∨ k = 1 ∨ k = 2 ∨ k = 3 ∨ k = 4 ∨ k = 5 ∨ k = 6 ∨ k = 7 ∨ k = 8 ∨ k = 9 by omega) with rfl | rfl | rfl | rfl | rfl | rfl | rfl | rfl | rfl | rfl
  · rw [if_neg (show ¬ nI 0 = (4 : Int32) by decide), if_neg (show ¬ nI 0 = (5 : Int32) by decide), if_neg (show ¬ nI 0 = (6 : Int32) by decide), if_neg (show ¬ nI 0 = (7 : Int32) by decide), if_neg (show ¬ nI 0 = (8 : Int32) by decide), if_neg (show ¬ nI 0 = (9 : Int32) by decide)]
    rw [if_pos (show nI 0 = (0 : Int32) from rfl)]
    rw [pu_letterAt hB hw (by decide), pm_letterOf hM1 hw (by decide), pu_bd]
    exact ⟨_, _, rfl, rfl, hS⟩
  · rw [if_neg (show ¬ nI 1 = (4 : Int32) by decide), if_neg (show ¬ nI 1 = (5 : Int32) by decide), if_neg (show ¬ nI 1 = (6 : Int32) by decide), if_neg (show ¬ nI 1 = (7 : Int32) by decide), if_neg (show ¬ nI 1 = (8 : Int32) by decide), if_neg (show ¬ nI 1 = (9 : Int32) by decide)]
    rw [if_neg (show ¬ nI 1 = (0 : Int32) by decide), if_pos (show nI 1 = (1 : Int32) from rfl)]
    rw [pu_letterAt hB hw (by decide), pm_letterOf hM1 hw (by decide), pu_bd]
    exact ⟨_, _, rfl, rfl, hS⟩
  · rw [if_neg (show ¬ nI 2 = (4 : Int32) by decide), if_neg (show ¬ nI 2 = (5 : Int32) by decide), if_neg (show ¬ nI 2 = (6 : Int32) by decide), if_neg (show ¬ nI 2 = (7 : Int32) by decide), if_neg (show ¬ nI 2 = (8 : Int32) by decide), if_neg (show ¬ nI 2 = (9 : Int32) by decide)]
    rw [if_neg (show ¬ nI 2 = (0 : Int32) by decide), if_neg (show ¬ nI 2 = (1 : Int32) by decide), if_pos (show nI 2 = (2 : Int32) from rfl)]
    rw [pu_letterAt hB hw (by decide), pm_letterOf hM1 hw (by decide), pu_bd]
    exact ⟨_, _, rfl, rfl, hS⟩
  · rw [if_neg (show ¬ nI 3 = (4 : Int32) by decide), if_neg (show ¬ nI 3 = (5 : Int32) by decide), if_neg (show ¬ nI 3 = (6 : Int32) by decide), if_neg (show ¬ nI 3 = (7 : Int32) by decide), if_neg (show ¬ nI 3 = (8 : Int32) by decide), if_neg (show ¬ nI 3 = (9 : Int32) by decide)]
    rw [if_neg (show ¬ nI 3 = (0 : Int32) by decide), if_neg (show ¬ nI 3 = (1 : Int32) by decide), if_neg (show ¬ nI 3 = (2 : Int32) by decide), if_pos (show nI 3 = (3 : Int32) from rfl)]
    rw [pu_letterAt hB hw (by decide), pm_letterOf hM1 hw (by decide), pu_bd]
    exact ⟨_, _, rfl, rfl, hS⟩
  · rw [if_pos (show nI 4 = (4 : Int32) from rfl)]
    rw [if_neg (show ¬ nI 4 = (0 : Int32) by decide), if_neg (show ¬ nI 4 = (1 : Int32) by decide), if_neg (show ¬ nI 4 = (2 : Int32) by decide), if_neg (show ¬ nI 4 = (3 : Int32) by decide), if_pos (show nI 4 = (4 : Int32) from rfl)]
    obtain ⟨v, g1, g2⟩ := pu_isBarred hB (t := 0) (by decide) hw
    obtain ⟨v6, mo1, k1, k2, -, k4⟩ := pm_isBarred hM1 hw
    have g1' : fX2_isBarredAfter st (nI w) (0 : Int32) = some v := g1
    rw [g1', pu_bd, k1, pu_bd2]
    rcases g2 with ⟨rfl, x1⟩ | ⟨rfl, x1⟩ <;> rcases k4 with ⟨rfl, x2⟩ | ⟨rfl, x2⟩
    · rw [if_neg (show ¬ (1 : Int32) = 0 by decide), if_neg (show ¬ (1 : Int32) = 0 by decide)]
      exact ⟨_, _, rfl, rfl, hS.trans k2⟩
    · exact absurd x1 x2
    · exact absurd x2 x1
    · rw [if_pos (show (0 : Int32) = 0 from rfl), if_pos (show (0 : Int32) = 0 from rfl)]
      exact ⟨_, _, rfl, rfl, hS.trans k2⟩
  · rw [if_neg (show ¬ nI 5 = (4 : Int32) by decide), if_pos (show nI 5 = (5 : Int32) from rfl)]
    rw [if_neg (show ¬ nI 5 = (0 : Int32) by decide), if_neg (show ¬ nI 5 = (1 : Int32) by decide), if_neg (show ¬ nI 5 = (2 : Int32) by decide), if_neg (show ¬ nI 5 = (3 : Int32) by decide), if_neg (show ¬ nI 5 = (4 : Int32) by decide), if_pos (show nI 5 = (5 : Int32) from rfl)]
    rw [pu_linksOf hB hw, pu_bd, pu_bc (Lks_hi hn (by omega) hL), pu_bd, pu_inb (by omega) (by decide), pu_cl (by omega), pu_ck, pu_ones, pu_bd]
    refine ⟨_, _, rfl, ?_, hS⟩
    rw [Ct_cong (x := Mo_links (Mo_set_links mo A) w) (y := St_links st w) (fun j hj => by
      rw [hl1 w j hw (by omega), hL w j (by omega) (by omega)]
      exact ⟨fun q => ⟨hw, q⟩, fun q => q.2⟩)]
  · rw [if_neg (show ¬ nI 6 = (4 : Int32) by decide), if_neg (show ¬ nI 6 = (5 : Int32) by decide), if_pos (show nI 6 = (6 : Int32) from rfl)]
    rw [if_neg (show ¬ nI 6 = (0 : Int32) by decide), if_neg (show ¬ nI 6 = (1 : Int32) by decide), if_neg (show ¬ nI 6 = (2 : Int32) by decide), if_neg (show ¬ nI 6 = (3 : Int32) by decide), if_neg (show ¬ nI 6 = (4 : Int32) by decide), if_neg (show ¬ nI 6 = (5 : Int32) by decide), if_pos (show nI 6 = (6 : Int32) from rfl)]
    obtain ⟨y, f1, f2, -⟩ := cs_con (mo := Mo_set_links mo A) (st := st) (nI w) (fun c hc => (h.2.2.2.1 c hc).1)
    rw [f1, pu_bd, f2, pu_bd]
    exact ⟨_, _, rfl, rfl, hS⟩
  · rw [if_neg (show ¬ nI 7 = (4 : Int32) by decide), if_neg (show ¬ nI 7 = (5 : Int32) by decide), if_neg (show ¬ nI 7 = (6 : Int32) by decide), if_pos (show nI 7 = (7 : Int32) from rfl)]
    rw [if_neg (show ¬ nI 7 = (0 : Int32) by decide), if_neg (show ¬ nI 7 = (1 : Int32) by decide), if_neg (show ¬ nI 7 = (2 : Int32) by decide), if_neg (show ¬ nI 7 = (3 : Int32) by decide), if_neg (show ¬ nI 7 = (4 : Int32) by decide), if_neg (show ¬ nI 7 = (5 : Int32) by decide), if_neg (show ¬ nI 7 = (6 : Int32) by decide), if_pos (show nI 7 = (7 : Int32) from rfl)]
    obtain ⟨v, f1, f2⟩ := pu_around hB hL hw is
    obtain ⟨v6, g1, g2⟩ := pm_island hM1 hl1 hw
    obtain ⟨k, x1, x2, x3, -⟩ := pu_lowCl hn hw f2
    have y2 : bt v6 k = true := by rw [g2 k (by omega), ← f2 k (by omega)]; exact x2
    have y3 : ∀ j, j < k → bt v6 j = false := fun j hj => by
      cases hb : bt v6 j
      · rfl
      · have := (f2 j (by omega)).mpr ((g2 j (by omega)).mp hb)
        rw [x3 j hj] at this
        cases this
    rw [f1, pu_bd, pu_low5 (by omega) x2 x3, pu_bd, g1, pu_bd, pu_low6 (by omega) y2 y3, pu_bd]
    exact ⟨_, _, rfl, rfl, hS⟩
  · rw [if_neg (show ¬ nI 8 = (4 : Int32) by decide), if_neg (show ¬ nI 8 = (5 : Int32) by decide), if_neg (show ¬ nI 8 = (6 : Int32) by decide), if_neg (show ¬ nI 8 = (7 : Int32) by decide), if_pos (show nI 8 = (8 : Int32) from rfl)]
    rw [if_neg (show ¬ nI 8 = (0 : Int32) by decide), if_neg (show ¬ nI 8 = (1 : Int32) by decide), if_neg (show ¬ nI 8 = (2 : Int32) by decide), if_neg (show ¬ nI 8 = (3 : Int32) by decide), if_neg (show ¬ nI 8 = (4 : Int32) by decide), if_neg (show ¬ nI 8 = (5 : Int32) by decide), if_neg (show ¬ nI 8 = (6 : Int32) by decide), if_neg (show ¬ nI 8 = (7 : Int32) by decide), if_pos (show nI 8 = (8 : Int32) from rfl)]
    obtain ⟨v, f1, f2⟩ := pu_around hB hL hw is
    obtain ⟨v6, g1, g2⟩ := pm_island hM1 hl1 hw
    have hv : ∀ j, 24 ≤ j → j < 32 → bt v j = false := fun j h1 h2 => by
      cases hb : bt v j
      · rfl
      · have := Cl_lt hw (fun v w q => q.2.1) ((f2 j h2).mp hb); omega
    rw [f1, pu_bd, pu_bc hv, pu_bd, g1, pu_bd, pu_ones, pu_bd]
    refine ⟨_, _, rfl, ?_, hS⟩
    rw [Ct_cong (x := v6) (y := v) (fun j hj => by rw [g2 j (by omega), f2 j (by omega)])]
  · rw [if_neg (show ¬ nI 9 = (4 : Int32) by decide), if_neg (show ¬ nI 9 = (5 : Int32) by decide), if_neg (show ¬ nI 9 = (6 : Int32) by decide), if_neg (show ¬ nI 9 = (7 : Int32) by decide), if_neg (show ¬ nI 9 = (8 : Int32) by decide), if_pos (show nI 9 = (9 : Int32) from rfl)]
    rw [if_neg (show ¬ nI 9 = (0 : Int32) by decide), if_neg (show ¬ nI 9 = (1 : Int32) by decide), if_neg (show ¬ nI 9 = (2 : Int32) by decide), if_neg (show ¬ nI 9 = (3 : Int32) by decide), if_neg (show ¬ nI 9 = (4 : Int32) by decide), if_neg (show ¬ nI 9 = (5 : Int32) by decide), if_neg (show ¬ nI 9 = (6 : Int32) by decide), if_neg (show ¬ nI 9 = (7 : Int32) by decide), if_neg (show ¬ nI 9 = (8 : Int32) by decide)]
    obtain ⟨y, f1, f2⟩ := pu_tub hB hw
    obtain ⟨y6, mo1, g1, g2, g3⟩ := pm_barredIn hM1 hw
    rw [f1, pu_bd, g1, pu_bd2]
    exact ⟨y, mo1, rfl, by rw [f2.uniq g3], hS.trans g2⟩
theorem cs_count {st : St} {mo : Mo} {m n p l s r k : Nat} {cd : Nat → Nat} (h : CSx st (Mo_state mo) m n p l s r cd) (hk : k ≤ 12) (tx : Tx) (is : Is) (wa : Wa) (hi : Hi) (hz : Hi_size hi = Mo_savedMany mo) : ∃ y is' mo', fX5_countNumber tx is wa st hi (nI k) = some (y, is') ∧ fX6_tellsCount mo (nI k) = some (y, mo') ∧ Same mo mo' := by
  obtain ⟨hB, hL, hM, hC, h5, h6, la, sp, fa, dn, k1, k2, k3, k4, k5, k6, k7⟩ := h
  have hn := hB.2.2.2.2.2.1
  unfold fX5_countNumber fX6_tellsCount
  rcases (show k = 0 ∨ k = 1 ∨ k = 2 ∨ k = 3 ∨ k = 4 ∨ k = 5 ∨ k = 6 ∨ k = 7 ∨ k = 8 ∨ k = 9 ∨ k = 10 ∨ k = 11 ∨ k = 12 by omega) with rfl | rfl | rfl | rfl | rfl | rfl | rfl | rfl | rfl | rfl | rfl | rfl | rfl
  · rw [if_pos (show nI 0 = (0 : Int32) from rfl)]
    rw [if_pos (show nI 0 = (0 : Int32) from rfl)]
    rw [i55_0, c55_0, pu_ck, hB.1, hM.1]
    exact ⟨_, is, mo, rfl, rfl, Same.refl mo⟩
  · rw [if_neg (show ¬ nI 1 = (0 : Int32) by decide), if_pos (show nI 1 = (1 : Int32) from rfl)]
    rw [if_neg (show ¬ nI 1 = (0 : Int32) by decide), if_pos (show nI 1 = (1 : Int32) from rfl)]
    obtain ⟨y, f1, f2⟩ := pu_pairs hB hL
    obtain ⟨z, mo1, g1, g2, g3⟩ := pm_pairs hM
    rw [f1, pu_bd, g1, pu_bd2]
    exact ⟨y, is, mo1, rfl, by rw [f2.uniq g3], g2⟩
  · rw [if_neg (show ¬ nI 2 = (0 : Int32) by decide), if_neg (show ¬ nI 2 = (1 : Int32) by decide), if_pos (show nI 2 = (2 : Int32) from rfl)]
    rw [if_neg (show ¬ nI 2 = (0 : Int32) by decide), if_neg (show ¬ nI 2 = (1 : Int32) by decide), if_pos (show nI 2 = (2 : Int32) from rfl)]
    obtain ⟨y, is1, f1, f2⟩ := pu_joining hB hL is
    obtain ⟨z, mo1, g1, g2, g3⟩ := pm_islands hM
    rw [f1, pu_bd2, g1, pu_bd2]
    exact ⟨y, is1, mo1, rfl, by rw [f2.uniq g3], g2⟩
  · rw [if_neg (show ¬ nI 3 = (0 : Int32) by decide), if_neg (show ¬ nI 3 = (1 : Int32) by decide), if_neg (show ¬ nI 3 = (2 : Int32) by decide), if_pos (show nI 3 = (3 : Int32) from rfl)]
    rw [if_neg (show ¬ nI 3 = (0 : Int32) by decide), if_neg (show ¬ nI 3 = (1 : Int32) by decide), if_neg (show ¬ nI 3 = (2 : Int32) by decide), if_pos (show nI 3 = (3 : Int32) from rfl)]
    obtain ⟨y, f1, f2⟩ := pu_walk hB hL is
    obtain ⟨z, mo1, g1, g2, g3⟩ := pm_islands hM
    rw [f1, pu_bd, g1, pu_bd2]
    exact ⟨y, is, mo1, rfl, by rw [f2.uniq g3], g2⟩
  · rw [if_neg (show ¬ nI 4 = (0 : Int32) by decide), if_neg (show ¬ nI 4 = (1 : Int32) by decide), if_neg (show ¬ nI 4 = (2 : Int32) by decide), if_neg (show ¬ nI 4 = (3 : Int32) by decide), if_pos (show nI 4 = (4 : Int32) from rfl)]
    rw [if_neg (show ¬ nI 4 = (0 : Int32) by decide), if_neg (show ¬ nI 4 = (1 : Int32) by decide), if_neg (show ¬ nI 4 = (2 : Int32) by decide), if_neg (show ¬ nI 4 = (3 : Int32) by decide), if_pos (show nI 4 = (4 : Int32) from rfl)]
    rw [i55_1, c55_1, pu_ck, hB.2.1, hM.2.1]
    exact ⟨_, is, mo, rfl, rfl, Same.refl mo⟩
  · rw [if_neg (show ¬ nI 5 = (0 : Int32) by decide), if_neg (show ¬ nI 5 = (1 : Int32) by decide), if_neg (show ¬ nI 5 = (2 : Int32) by decide), if_neg (show ¬ nI 5 = (3 : Int32) by decide), if_neg (show ¬ nI 5 = (4 : Int32) by decide), if_pos (show nI 5 = (5 : Int32) from rfl)]
    rw [if_neg (show ¬ nI 5 = (0 : Int32) by decide), if_neg (show ¬ nI 5 = (1 : Int32) by decide), if_neg (show ¬ nI 5 = (2 : Int32) by decide), if_neg (show ¬ nI 5 = (3 : Int32) by decide), if_neg (show ¬ nI 5 = (4 : Int32) by decide), if_pos (show nI 5 = (5 : Int32) from rfl)]
    rw [i55_2, c55_2, pu_ck, hB.2.2.1, hM.2.2.1]
    exact ⟨_, is, mo, rfl, rfl, Same.refl mo⟩
  · rw [if_neg (show ¬ nI 6 = (0 : Int32) by decide), if_neg (show ¬ nI 6 = (1 : Int32) by decide), if_neg (show ¬ nI 6 = (2 : Int32) by decide), if_neg (show ¬ nI 6 = (3 : Int32) by decide), if_neg (show ¬ nI 6 = (4 : Int32) by decide), if_neg (show ¬ nI 6 = (5 : Int32) by decide), if_pos (show nI 6 = (6 : Int32) from rfl)]
    rw [if_neg (show ¬ nI 6 = (0 : Int32) by decide), if_neg (show ¬ nI 6 = (1 : Int32) by decide), if_neg (show ¬ nI 6 = (2 : Int32) by decide), if_neg (show ¬ nI 6 = (3 : Int32) by decide), if_neg (show ¬ nI 6 = (4 : Int32) by decide), if_neg (show ¬ nI 6 = (5 : Int32) by decide), if_pos (show nI 6 = (6 : Int32) from rfl)]
    rw [i55_5, c55_5, pu_ck, h5]
    exact ⟨_, is, mo, rfl, rfl, Same.refl mo⟩
  · rw [if_neg (show ¬ nI 7 = (0 : Int32) by decide), if_neg (show ¬ nI 7 = (1 : Int32) by decide), if_neg (show ¬ nI 7 = (2 : Int32) by decide), if_neg (show ¬ nI 7 = (3 : Int32) by decide), if_neg (show ¬ nI 7 = (4 : Int32) by decide), if_neg (show ¬ nI 7 = (5 : Int32) by decide), if_neg (show ¬ nI 7 = (6 : Int32) by decide), if_pos (show nI 7 = (7 : Int32) from rfl)]
    rw [if_neg (show ¬ nI 7 = (0 : Int32) by decide), if_neg (show ¬ nI 7 = (1 : Int32) by decide), if_neg (show ¬ nI 7 = (2 : Int32) by decide), if_neg (show ¬ nI 7 = (3 : Int32) by decide), if_neg (show ¬ nI 7 = (4 : Int32) by decide), if_neg (show ¬ nI 7 = (5 : Int32) by decide), if_neg (show ¬ nI 7 = (6 : Int32) by decide), if_pos (show nI 7 = (7 : Int32) from rfl)]
    obtain ⟨x, y, mo1, f1, f2, f3, f4⟩ := pu_bmany hB hM
    rw [f1, pu_bd, f2, pu_bd, f3, pu_bd2]
    exact ⟨y, is, mo1, rfl, rfl, f4⟩
  · rw [if_neg (show ¬ nI 8 = (0 : Int32) by decide), if_neg (show ¬ nI 8 = (1 : Int32) by decide), if_neg (show ¬ nI 8 = (2 : Int32) by decide), if_neg (show ¬ nI 8 = (3 : Int32) by decide), if_neg (show ¬ nI 8 = (4 : Int32) by decide), if_neg (show ¬ nI 8 = (5 : Int32) by decide), if_neg (show ¬ nI 8 = (6 : Int32) by decide), if_neg (show ¬ nI 8 = (7 : Int32) by decide), if_pos (show nI 8 = (8 : Int32) from rfl)]
    rw [if_neg (show ¬ nI 8 = (0 : Int32) by decide), if_neg (show ¬ nI 8 = (1 : Int32) by decide), if_neg (show ¬ nI 8 = (2 : Int32) by decide), if_neg (show ¬ nI 8 = (3 : Int32) by decide), if_neg (show ¬ nI 8 = (4 : Int32) by decide), if_neg (show ¬ nI 8 = (5 : Int32) by decide), if_neg (show ¬ nI 8 = (6 : Int32) by decide), if_neg (show ¬ nI 8 = (7 : Int32) by decide), if_pos (show nI 8 = (8 : Int32) from rfl)]
    obtain ⟨y, f1, f2⟩ := cs_climbing (mo := mo) (st := st) (fun c hc => (hC c hc).1)
    rw [f1, pu_bd, f2, pu_bd]
    exact ⟨y, is, mo, rfl, rfl, Same.refl mo⟩
  · rw [if_neg (show ¬ nI 9 = (0 : Int32) by decide), if_neg (show ¬ nI 9 = (1 : Int32) by decide), if_neg (show ¬ nI 9 = (2 : Int32) by decide), if_neg (show ¬ nI 9 = (3 : Int32) by decide), if_neg (show ¬ nI 9 = (4 : Int32) by decide), if_neg (show ¬ nI 9 = (5 : Int32) by decide), if_neg (show ¬ nI 9 = (6 : Int32) by decide), if_neg (show ¬ nI 9 = (7 : Int32) by decide), if_neg (show ¬ nI 9 = (8 : Int32) by decide), if_pos (show nI 9 = (9 : Int32) from rfl)]
    rw [if_neg (show ¬ nI 9 = (0 : Int32) by decide), if_neg (show ¬ nI 9 = (1 : Int32) by decide), if_neg (show ¬ nI 9 = (2 : Int32) by decide), if_neg (show ¬ nI 9 = (3 : Int32) by decide), if_neg (show ¬ nI 9 = (4 : Int32) by decide), if_neg (show ¬ nI 9 = (5 : Int32) by decide), if_neg (show ¬ nI 9 = (6 : Int32) by decide), if_neg (show ¬ nI 9 = (7 : Int32) by decide), if_neg (show ¬ nI 9 = (8 : Int32) by decide), if_pos (show nI 9 = (9 : Int32) from rfl)]
    rw [sum3 (fun c hc => (k1 c hc).1), pu_bd, i55_7, c55_7, pu_ck, k2]
    exact ⟨_, is, mo, rfl, rfl, Same.refl mo⟩
  · rw [if_neg (show ¬ nI 10 = (0 : Int32) by decide), if_neg (show ¬ nI 10 = (1 : Int32) by decide), if_neg (show ¬ nI 10 = (2 : Int32) by decide), if_neg (show ¬ nI 10 = (3 : Int32) by decide), if_neg (show ¬ nI 10 = (4 : Int32) by decide), if_neg (show ¬ nI 10 = (5 : Int32) by decide), if_neg (show ¬ nI 10 = (6 : Int32) by decide), if_neg (show ¬ nI 10 = (7 : Int32) by decide), if_neg (show ¬ nI 10 = (8 : Int32) by decide), if_neg (show ¬ nI 10 = (9 : Int32) by decide), if_pos (show nI 10 = (10 : Int32) from rfl)]
    rw [if_neg (show ¬ nI 10 = (0 : Int32) by decide), if_neg (show ¬ nI 10 = (1 : Int32) by decide), if_neg (show ¬ nI 10 = (2 : Int32) by decide), if_neg (show ¬ nI 10 = (3 : Int32) by decide), if_neg (show ¬ nI 10 = (4 : Int32) by decide), if_neg (show ¬ nI 10 = (5 : Int32) by decide), if_neg (show ¬ nI 10 = (6 : Int32) by decide), if_neg (show ¬ nI 10 = (7 : Int32) by decide), if_neg (show ¬ nI 10 = (8 : Int32) by decide), if_neg (show ¬ nI 10 = (9 : Int32) by decide), if_pos (show nI 10 = (10 : Int32) from rfl)]
    rw [sumf (fun c hc => (k1 c hc).2.2), pu_bd, i55_8, c55_8, pu_ck, k3]
    exact ⟨_, is, mo, rfl, rfl, Same.refl mo⟩
  · rw [if_neg (show ¬ nI 11 = (0 : Int32) by decide), if_neg (show ¬ nI 11 = (1 : Int32) by decide), if_neg (show ¬ nI 11 = (2 : Int32) by decide), if_neg (show ¬ nI 11 = (3 : Int32) by decide), if_neg (show ¬ nI 11 = (4 : Int32) by decide), if_neg (show ¬ nI 11 = (5 : Int32) by decide), if_neg (show ¬ nI 11 = (6 : Int32) by decide), if_neg (show ¬ nI 11 = (7 : Int32) by decide), if_neg (show ¬ nI 11 = (8 : Int32) by decide), if_neg (show ¬ nI 11 = (9 : Int32) by decide), if_neg (show ¬ nI 11 = (10 : Int32) by decide), if_pos (show nI 11 = (11 : Int32) from rfl)]
    rw [if_neg (show ¬ nI 11 = (0 : Int32) by decide), if_neg (show ¬ nI 11 = (1 : Int32) by decide), if_neg (show ¬ nI 11 = (2 : Int32) by decide), if_neg (show ¬ nI 11 = (3 : Int32) by decide), if_neg (show ¬ nI 11 = (4 : Int32) by decide), if_neg (show ¬ nI 11 = (5 : Int32) by decide), if_neg (show ¬ nI 11 = (6 : Int32) by decide), if_neg (show ¬ nI 11 = (7 : Int32) by decide), if_neg (show ¬ nI 11 = (8 : Int32) by decide), if_neg (show ¬ nI 11 = (9 : Int32) by decide), if_neg (show ¬ nI 11 = (10 : Int32) by decide), if_pos (show nI 11 = (11 : Int32) from rfl)]
    rw [i55_6, c55_6, pu_ck, h6]
    exact ⟨_, is, mo, rfl, rfl, Same.refl mo⟩
  · rw [if_neg (show ¬ nI 12 = (0 : Int32) by decide), if_neg (show ¬ nI 12 = (1 : Int32) by decide), if_neg (show ¬ nI 12 = (2 : Int32) by decide), if_neg (show ¬ nI 12 = (3 : Int32) by decide), if_neg (show ¬ nI 12 = (4 : Int32) by decide), if_neg (show ¬ nI 12 = (5 : Int32) by decide), if_neg (show ¬ nI 12 = (6 : Int32) by decide), if_neg (show ¬ nI 12 = (7 : Int32) by decide), if_neg (show ¬ nI 12 = (8 : Int32) by decide), if_neg (show ¬ nI 12 = (9 : Int32) by decide), if_neg (show ¬ nI 12 = (10 : Int32) by decide), if_neg (show ¬ nI 12 = (11 : Int32) by decide)]
    rw [if_neg (show ¬ nI 12 = (0 : Int32) by decide), if_neg (show ¬ nI 12 = (1 : Int32) by decide), if_neg (show ¬ nI 12 = (2 : Int32) by decide), if_neg (show ¬ nI 12 = (3 : Int32) by decide), if_neg (show ¬ nI 12 = (4 : Int32) by decide), if_neg (show ¬ nI 12 = (5 : Int32) by decide), if_neg (show ¬ nI 12 = (6 : Int32) by decide), if_neg (show ¬ nI 12 = (7 : Int32) by decide), if_neg (show ¬ nI 12 = (8 : Int32) by decide), if_neg (show ¬ nI 12 = (9 : Int32) by decide), if_neg (show ¬ nI 12 = (10 : Int32) by decide), if_neg (show ¬ nI 12 = (11 : Int32) by decide)]
    rw [hz]
    exact ⟨_, is, mo, rfl, rfl, Same.refl mo⟩
theorem cs_fact {st : St} {mo : Mo} {m n p l s r c k : Nat} {cd : Nat → Nat} (h : CSx st (Mo_state mo) m n p l s r cd) (hc : c < 3) (hk : k < 7) : ∃ y, fX2_climberFact st (nI c) (nI k) = some y ∧ fX6_of mo (nI c) (nI k) = some y := by
  obtain ⟨c0, c1, c2, c3, c4, c5, c6, -⟩ := h.2.2.2.1 c hc
  rw [pm_of (mo := mo) hc hk]
  unfold fX2_climberFact
  rw [pu_clm hc, pu_bd, if_neg (by decide), pu_inb hc (by decide), pu_cl (k := c) (by omega)]
  rcases (show k = 0 ∨ k = 1 ∨ k = 2 ∨ k = 3 ∨ k = 4 ∨ k = 5 ∨ k = 6 by omega) with rfl | rfl | rfl | rfl | rfl | rfl | rfl
  · rw [if_pos (show nI 0 = (0 : Int32) from rfl), pu_ck, c0]
    exact ⟨_, rfl, rfl⟩
  · rw [if_neg (show ¬ nI 1 = (0 : Int32) by decide), if_pos (show nI 1 = (1 : Int32) from rfl), pu_ck, c1]
    exact ⟨_, rfl, rfl⟩
  · rw [if_neg (show ¬ nI 2 = (0 : Int32) by decide), if_neg (show ¬ nI 2 = (1 : Int32) by decide), if_pos (show nI 2 = (2 : Int32) from rfl), pu_ck, c2]
    exact ⟨_, rfl, rfl⟩
  · rw [if_neg (show ¬ nI 3 = (0 : Int32) by decide), if_neg (show ¬ nI 3 = (1 : Int32) by decide), if_neg (show ¬ nI 3 = (2 : Int32) by decide), if_pos (show nI 3 = (3 : Int32) from rfl), pu_ck, c3]
    refine ⟨_, ?_, rfl⟩
    split <;> rfl
  · rw [if_neg (show ¬ nI 4 = (0 : Int32) by decide), if_neg (show ¬ nI 4 = (1 : Int32) by decide), if_neg (show ¬ nI 4 = (2 : Int32) by decide), if_neg (show ¬ nI 4 = (3 : Int32) by decide), if_pos (show nI 4 = (4 : Int32) from rfl), pu_ck, c4]
    exact ⟨_, rfl, rfl⟩
  · rw [if_neg (show ¬ nI 5 = (0 : Int32) by decide), if_neg (show ¬ nI 5 = (1 : Int32) by decide), if_neg (show ¬ nI 5 = (2 : Int32) by decide), if_neg (show ¬ nI 5 = (3 : Int32) by decide), if_neg (show ¬ nI 5 = (4 : Int32) by decide), if_pos (show nI 5 = (5 : Int32) from rfl), pu_ck, c5]
    exact ⟨_, rfl, rfl⟩
  · rw [if_neg (show ¬ nI 6 = (0 : Int32) by decide), if_neg (show ¬ nI 6 = (1 : Int32) by decide), if_neg (show ¬ nI 6 = (2 : Int32) by decide), if_neg (show ¬ nI 6 = (3 : Int32) by decide), if_neg (show ¬ nI 6 = (4 : Int32) by decide), if_neg (show ¬ nI 6 = (5 : Int32) by decide), pu_ck, c6]
    exact ⟨_, rfl, rfl⟩
theorem cs_climber {st : St} {mo : Mo} {m n p l s r c k : Nat} {cd : Nat → Nat} (h : CSx st (Mo_state mo) m n p l s r cd) (hc : c < 3) (hk : k ≤ 9) (tx : Tx) (is : Is) (wa : Wa) (hi : Hi) : ∃ y wa' mo', fX5_climberNumber tx is wa st hi (nI c) (nI k) = some (y, wa') ∧ fX6_tellsClimber mo (nI c) (nI k) = some (y, mo') ∧ Same mo mo' := by
  have hB := h.1
  have hL := h.2.1
  have hM := h.2.2.1
  have hn := hB.2.2.2.2.2.1
  unfold fX5_climberNumber fX6_tellsClimber
  by_cases h7 : k < 7
  · obtain ⟨y, f1, f2⟩ := cs_fact h hc h7
    rw [if_neg (show ¬ (7 : Int32) ≤ nI k from nI_ge (b := 7) h7 (by omega)), if_neg (show ¬ (7 : Int32) ≤ nI k from nI_ge (b := 7) h7 (by omega)), f1, pu_bd, f2, pu_bd]
    exact ⟨y, wa, mo, rfl, rfl, Same.refl mo⟩
  · obtain ⟨c0, c1, c2, c3, c4, c5, c6, c7, c8⟩ := h.2.2.2.1 c hc
    have o0 : fX6_of mo (nI c) (0 : Int32) = some (St_under st c) := by rw [← c0]; exact pm_of (k := 0) hc (by decide)
    rw [if_pos (show (7 : Int32) ≤ nI k from nI_le (a := 7) (by omega) (by omega)), if_pos (show (7 : Int32) ≤ nI k from nI_le (a := 7) (by omega) (by omega)), pu_under hc, pu_bd, o0, pu_bd]
    by_cases e : St_under st c = -1
    · rw [if_pos e, if_pos e]
      exact ⟨-1, wa, mo, rfl, rfl, Same.refl mo⟩
    · obtain ⟨a, z, a1, a2, a3, a4, a5⟩ := c8.resolve_left e
      rw [if_neg e] at c3
      have f2 : fX2_climberFact st (nI c) (2 : Int32) = some (nI z) := by
        unfold fX2_climberFact
        rw [pu_clm hc, pu_bd, if_neg (by decide), if_neg (by decide), if_neg (by decide), if_pos rfl, pu_inb hc (by decide), pu_cl (by omega), pu_ck, a5]
      have g0 : Mo_state mo (10 + 7 * c + 0) = nI a := by rw [c0, a4]
      have g2 : Mo_state mo (10 + 7 * c + 2) = nI z := by rw [c2, a5]
      rw [if_neg e, if_neg e, f2, pu_bd, pu_fact3 hc, if_neg e, pu_bd, a4]
      -- both ways of the mark
      have main : ∀ (p4 : Int32) (go : Prop), (p4 = 0 ↔ go) → (Mo_state mo (10 + 7 * c + 3) = 0 ↔ go) → ∃ y wa' mo', (if nI k = (7 : Int32) then (bd2 (fX4_onward wa st (nI a) (nI z) p4) fun (r16 : Int32) (wa17 : Wa) => (some (r16, wa17))) else (if nI k = (8 : Int32) then (bd2 (fX4_backwards wa st (nI a) (nI z) p4) fun (r19 : Int32) (wa20 : Wa) => (some (r19, wa20))) else (bd2 (fX4_firstWord wa st (nI a) (nI z) p4) fun (r21 : Int32) (wa22 : Wa) => (some (r21, wa22))))) = some (y, wa') ∧ (if nI k = (9 : Int32) then (bd2 (fX6_firstStep mo (nI c)) fun (r7 : Int32) (mo8 : Mo) => (some (r7, mo8))) else (bd2 (fX6_fewestOf mo (nI c)) fun (r5 : Int32) (mo6 : Mo) => (some (r5, mo6)))) = some (y, mo') ∧ Same mo mo' := by
        intro p4 go hp hg
        rcases (show k = 7 ∨ k = 8 ∨ k = 9 by omega) with rfl | rfl | rfl
        · obtain ⟨y1, wa1, w1, w2⟩ := pu_onw hB hL a1 a2 hp wa
          obtain ⟨y2, mo2, m1, m2, m3, m4⟩ := pm_fewestOf hc a1 a2 a3 hM g0 g2 hg
          rw [if_pos (show nI 7 = (7 : Int32) from rfl), if_neg (show ¬ nI 7 = (9 : Int32) by decide), w1, m1]
          exact ⟨y1, wa1, mo2, rfl, by rw [w2.uniq m4]; rfl, m2⟩
        · obtain ⟨y1, wa1, w1, w2⟩ := pu_bw hB hL a1 a2 a3 hp wa
          obtain ⟨y2, mo2, m1, m2, m3, m4⟩ := pm_fewestOf hc a1 a2 a3 hM g0 g2 hg
          rw [if_neg (show ¬ nI 8 = (7 : Int32) by decide), if_pos (show nI 8 = (8 : Int32) from rfl), if_neg (show ¬ nI 8 = (9 : Int32) by decide), w1, m1]
          exact ⟨y1, wa1, mo2, rfl, by rw [w2.uniq m4]; rfl, m2⟩
        · obtain ⟨y1, wa1, w1, w2⟩ := pu_fw hB hL a1 a2 hp wa
          obtain ⟨y2, mo2, m1, m2, m4⟩ := pm_firstStep hc a1 a2 a3 hM g0 g2 hg
          rw [if_neg (show ¬ nI 9 = (7 : Int32) by decide), if_neg (show ¬ nI 9 = (8 : Int32) by decide), if_pos (show nI 9 = (9 : Int32) from rfl), w1, m1]
          exact ⟨y1, wa1, mo2, rfl, by rw [w2.uniq m4]; rfl, m2⟩
      by_cases e1 : St_went st c = 1
      · rw [if_pos e1]
        exact main 1 False ⟨fun q => absurd q (by decide), False.elim⟩ ⟨fun q => by rw [c3, e1] at q; exact absurd q (by decide), False.elim⟩
      · rw [if_neg e1]
        have e0 : St_went st c = 0 := c7.resolve_right e1
        exact main 0 True ⟨fun _ => trivial, fun _ => rfl⟩ ⟨fun _ => trivial, fun _ => by rw [c3, e0]⟩
/-- the word that is barred least: both sides -/
theorem cs_safest_L {st : St} {m n p l s r : Nat} {cd : Nat → Nat} : ∀ (d w f g : Nat) (b x y : Int32) (mo : Mo), w + d = n → d < f → d < g → CSx st (Mo_state mo) m n p l s r cd → ((b = -1 ∧ x = -1) ∨ (∃ k t, b = nI k ∧ k < 24 ∧ t < 32 ∧ x = nI t ∧ y = nI t)) → ∃ v mo', fX5_safest_L6 st f b x (nI w) = some v ∧ fX6_tellsSafest_L6 g b y (nI w) mo = some (v, mo') ∧ Same mo mo' := by
  intro d
  induction d with
  | zero =>
    intro w f g b x y mo hw hf hg h hb
    obtain ⟨f, rfl, -⟩ := pu_fuel hf
    obtain ⟨g, rfl, -⟩ := pu_fuel hg
    have hn := h.1.2.2.2.2.2.1
    refine ⟨b, mo, ?_, ?_, Same.refl mo⟩
    · rw [fX5_safest_L6, h.1.1, if_pos (nI_le (by omega) (by omega))]
    · rw [fX6_tellsSafest_L6, i55_0, c55_0, h.2.2.1.1, pu_ck, if_pos (nI_le (by omega) (by omega))]
  | succ d ih =>
    intro w f g b x y mo hw hf hg h hb
    obtain ⟨f, rfl, hf⟩ := pu_fuel hf
    obtain ⟨g, rfl, hg⟩ := pu_fuel hg
    have hn := h.1.2.2.2.2.2.1
    have hwn : w < n := by omega
    obtain ⟨t, e1, e2⟩ := pu_tub h.1 hwn
    obtain ⟨t6, mo1, f1, f2, f3⟩ := pm_barredIn h.2.2.1 hwn
    have et := e2.uniq f3
    subst et
    have h1 : CSx st (Mo_state mo1) m n p l s r cd := by rw [f2.state]; exact h
    rw [fX5_safest_L6, h.1.1, if_neg (nI_ge hwn (by omega)), e1, pu_bd]
    rw [fX6_tellsSafest_L6, i55_0, c55_0, h.2.2.1.1, pu_ck, if_neg (nI_ge hwn (by omega)), f1, pu_bd2]
    have on : ∀ b' x' y', ((b' = -1 ∧ x' = -1) ∨ (∃ k t, b' = nI k ∧ k < 24 ∧ t < 32 ∧ x' = nI t ∧ y' = nI t)) → ∃ v mo', fX5_safest_L6 st f b' x' (nI (w + 1)) = some v ∧ fX6_tellsSafest_L6 g b' y' (nI (w + 1)) mo1 = some (v, mo') ∧ Same mo mo' := fun b' x' y' q => by
      obtain ⟨v, mo2, k1, k2, k3⟩ := ih (w + 1) f g b' x' y' mo1 (by omega) (by omega) (by omega) h1 q
      exact ⟨v, mo2, k1, k2, f2.trans k3⟩
    rcases e2 with ⟨k, k1, k2, k3, rfl⟩ | ⟨k1, rfl⟩
    · have hk1 : ¬ nI k = -1 := pu_m1_ne (by omega)
      rw [if_neg hk1, if_neg hk1]
      rcases hb with ⟨rfl, rfl⟩ | ⟨b0, t0, rfl, b1, b2, rfl, rfl⟩
      · have : ¬ nI k ≤ (-1 : Int32) := fun q => by
          have h1 := fa_trans (show (-1 : Int32) < 0 by decide) (nI_pos' (n := k) (by omega))
          exact (fa_of_lt h1).2.1 q
        rw [if_neg this, if_pos rfl, pu_pl, pu_pl, nI_1]
        exact on _ _ _ (Or.inr ⟨w, k, rfl, by omega, k1, rfl, rfl⟩)
      · rw [if_neg (show ¬ nI b0 = -1 from pu_m1_ne (by omega))]
        by_cases q : nI k ≤ nI t0
        · rw [if_pos q, if_pos q, pu_pl, pu_pl, nI_1]
          exact on _ _ _ (Or.inr ⟨b0, t0, rfl, b1, b2, rfl, rfl⟩)
        · rw [if_neg q, if_neg q, pu_pl, pu_pl, nI_1]
          exact on _ _ _ (Or.inr ⟨w, k, rfl, by omega, k1, rfl, rfl⟩)
    · rw [if_pos rfl, if_pos rfl]
      exact ⟨nI w, mo1, rfl, rfl, f2⟩
theorem cs_safest {st : St} {mo : Mo} {m n p l s r : Nat} {cd : Nat → Nat} (h : CSx st (Mo_state mo) m n p l s r cd) (tx : Tx) (is : Is) (wa : Wa) (hi : Hi) : ∃ y mo', fX5_safest tx is wa st hi = some y ∧ fX6_tellsSafest mo = some (y, mo') ∧ Same mo mo' := by
  have hn := h.1.2.2.2.2.2.1
  exact cs_safest_L n 0 1000 1000 (-1) (-1) 0 mo (by omega) (by omega) (by omega) h (Or.inl ⟨rfl, rfl⟩)

end LOK
