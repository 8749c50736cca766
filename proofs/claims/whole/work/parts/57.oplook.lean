section OLK
theorem hz_of {n : Nat} {tx : Tx} {is : Is} {wa : Wa} {st : St} {hi : Hi} {mo : Mo} (h : J n tx is wa st hi mo) : Hi_size hi = Mo_savedMany mo := by
  obtain ⟨k, -, k2, k3, -⟩ := h.2.2.1
  rw [k2, k3]
theorem n9_arg {x : Int32} (h : x < 0 ∨ nI (9 + 1) ≤ x) : ∀ {β : Type} (X Y : β), (if x < (0 : Int32) then Y else if x ≤ (9 : Int32) then X else Y) = Y := fun X Y => by
  rcases h with h | h
  · rw [if_pos h]
  · have n0 : ¬ x < 0 := fun q => (fa_of_lt (fa_trans q (show (0 : Int32) ≤ nI (9 + 1) by decide))).2.1 h
    have n1 : ¬ x ≤ (9 : Int32) := (fa_of_lt (fa_trans (show (9 : Int32) < nI (9 + 1) by decide) h)).2.1
    rw [if_neg n0, if_neg n1]
theorem n12_arg {x : Int32} (h : x < 0 ∨ nI (12 + 1) ≤ x) : ∀ {β : Type} (X Y : β), (if x < (0 : Int32) then Y else if x ≤ (12 : Int32) then X else Y) = Y := fun X Y => by
  rcases h with h | h
  · rw [if_pos h]
  · have n0 : ¬ x < 0 := fun q => (fa_of_lt (fa_trans q (show (0 : Int32) ≤ nI (12 + 1) by decide))).2.1 h
    have n1 : ¬ x ≤ (12 : Int32) := (fa_of_lt (fa_trans (show (12 : Int32) < nI (12 + 1) by decide) h)).2.1
    rw [if_neg n0, if_neg n1]
theorem op_word : Op_word J := by
  intro n tx is wa st hi mo p1 p2 hn h
  obtain ⟨n0, p, l, s, r, cd, hx⟩ := h.1
  have hx0 : CSx st (Mo_state (Mo_set_thrown mo 0)) (100 * n) n0 p l s r cd := hx
  unfold fX5_word fX6_word
  rw [pu_pl]
  rcases wd_arg (mo := Mo_set_thrown mo 0) hx.1 hx.2.2.1 p1 with ⟨w, hw, rfl, b1, b2⟩ | ⟨b1, b2⟩
  · rw [b1, pu_bd, if_neg (show ¬ (1 : Int32) = 0 by decide), b2, pu_bd, if_neg (show ¬ (1 : Int32) = 0 by decide)]
    rcases wi_arg 9 (by decide) p2 with ⟨k, k1, rfl, k2⟩ | ⟨k1, k2⟩
    · have k2' : fX6_within (nI k) (0 : Int32) (9 : Int32) = some 1 := k2
      obtain ⟨y, mo1, e1, e2, e3⟩ := cs_word hx0 hw k1 tx is wa hi
      rw [k2', pu_bd, if_neg (show ¬ (1 : Int32) = 0 by decide), e2, pu_bd2, if_neg (nI_pos (by omega)), if_pos (show nI k ≤ (9 : Int32) from nI_le (b := 9) (by omega) (by omega)), e1, pu_bd]
      exact Or.inl ⟨y, mo1, rfl, rfl, e3.p.rest.1, J_lookP h e3⟩
    · have k2' : fX6_within p2 (0 : Int32) (9 : Int32) = some 0 := k2
      rw [k2', pu_bd, if_pos (show (0 : Int32) = 0 from rfl), n9_arg k1]
      exact Or.inr (Or.inr ⟨0, _, rfl, rfl, rfl, J_fail0 2 h⟩)
  · rw [b1, pu_bd, if_pos (show (0 : Int32) = 0 from rfl), b2, pu_bd, if_pos (show (0 : Int32) = 0 from rfl)]
    exact Or.inr (Or.inl ⟨0, _, rfl, rfl, rfl, J_fail0 1 h⟩)
theorem op_climber : Op_climber J := by
  intro n tx is wa st hi mo p1 p2 hn h
  obtain ⟨n0, p, l, s, r, cd, hx⟩ := h.1
  have hx0 : CSx st (Mo_state (Mo_set_thrown mo 0)) (100 * n) n0 p l s r cd := hx
  unfold fX5_climber fX6_climber
  rw [pu_pl]
  rcases cl_arg p1 with ⟨c1, hc, rfl, b1, b2⟩ | ⟨b1, b2⟩
  · rw [b1, pu_bd, if_neg (show ¬ (1 : Int32) = 0 by decide), b2, pu_bd, if_neg (show ¬ (1 : Int32) = 0 by decide)]
    rcases wi_arg 9 (by decide) p2 with ⟨k, k1, rfl, k2⟩ | ⟨k1, k2⟩
    · have k2' : fX6_within (nI k) (0 : Int32) (9 : Int32) = some 1 := k2
      obtain ⟨y, wa1, mo1, e1, e2, e3⟩ := cs_climber hx0 hc k1 tx is wa hi
      rw [k2', pu_bd, if_neg (show ¬ (1 : Int32) = 0 by decide), e2, pu_bd2, if_neg (nI_pos (by omega)), if_pos (show nI k ≤ (9 : Int32) from nI_le (b := 9) (by omega) (by omega)), e1, pu_bd2]
      exact Or.inl ⟨y, wa1, mo1, rfl, rfl, e3.p.rest.1, J_lookP h e3⟩
    · have k2' : fX6_within p2 (0 : Int32) (9 : Int32) = some 0 := k2
      rw [k2', pu_bd, if_pos (show (0 : Int32) = 0 from rfl), n9_arg k1]
      exact Or.inr (Or.inr ⟨0, _, rfl, rfl, rfl, J_fail0 2 h⟩)
  · rw [b1, pu_bd, if_pos (show (0 : Int32) = 0 from rfl), b2, pu_bd, if_pos (show (0 : Int32) = 0 from rfl)]
    exact Or.inr (Or.inl ⟨0, _, rfl, rfl, rfl, J_fail0 1 h⟩)
theorem op_count : Op_count J := by
  intro n tx is wa st hi mo p1 hn h
  obtain ⟨n0, p, l, s, r, cd, hx⟩ := h.1
  have hx0 : CSx st (Mo_state (Mo_set_thrown mo 0)) (100 * n) n0 p l s r cd := hx
  unfold fX5_count fX6_count
  rw [pu_pl]
  rcases wi_arg 12 (by decide) p1 with ⟨k, k1, rfl, k2⟩ | ⟨k1, k2⟩
  · have k2' : fX6_within (nI k) (0 : Int32) (12 : Int32) = some 1 := k2
    have hz0 : Hi_size hi = Mo_savedMany mo := hz_of h
    obtain ⟨y, is1, mo1, e1, e2, e3⟩ := cs_count hx0 k1 tx is wa hi (show Hi_size hi = Mo_savedMany (Mo_set_thrown mo 0) from hz0)
    rw [k2', pu_bd, if_neg (show ¬ (1 : Int32) = 0 by decide), e2, pu_bd2, if_neg (nI_pos (by omega)), if_pos (show nI k ≤ (12 : Int32) from nI_le (b := 12) (by omega) (by omega)), e1, pu_bd2]
    exact Or.inl ⟨y, is1, mo1, rfl, rfl, e3.p.rest.1, J_lookP h e3⟩
  · have k2' : fX6_within p1 (0 : Int32) (12 : Int32) = some 0 := k2
    rw [k2', pu_bd, if_pos (show (0 : Int32) = 0 from rfl), n12_arg k1]
    exact Or.inr ⟨0, _, rfl, rfl, rfl, J_fail0 1 h⟩
theorem op_setting : Op_setting J := by
  intro n tx is wa st hi mo p1 hn h
  obtain ⟨n0, p, l, s, r, cd, hx⟩ := h.1
  unfold fX5_setting fX6_setting fX2_settingOf
  rw [pu_pl]
  rcases wi_arg 1 (by decide) p1 with ⟨j, j1, rfl, j2⟩ | ⟨q, j2⟩
  · have j2' : fX6_within (nI j) (0 : Int32) (1 : Int32) = some 1 := j2
    rw [j2', pu_bd, if_neg (show ¬ (1 : Int32) = 0 by decide)]
    rcases (show j = 0 ∨ j = 1 by omega) with rfl | rfl
    · have e3 : (3 : Int32) + nI 0 = 3 := by decide
      rw [if_pos (show nI 0 = (0 : Int32) from rfl), if_pos (show nI 0 = (0 : Int32) from rfl), pu_bd, e3, i55_3, c55_3, pu_ck, hx.1.2.2.2.1, show Mo_state (Mo_set_thrown mo 0) 3 = nI s from hx.2.2.1.2.2.2.1]
      exact Or.inl ⟨_, _, rfl, rfl, rfl, J_t h⟩
    · have e4 : (3 : Int32) + nI 1 = 4 := by decide
      have n10 : ¬ nI 1 = (0 : Int32) := by decide
      rw [if_neg n10, if_pos (show nI 1 = (1 : Int32) from rfl), if_neg n10, pu_bd, e4, i55_4, c55_4, pu_ck, hx.1.2.2.2.2.1, show Mo_state (Mo_set_thrown mo 0) 4 = nI r from hx.2.2.1.2.2.2.2.1]
      exact Or.inl ⟨_, _, rfl, rfl, rfl, J_t h⟩
  · have j2' : fX6_within p1 (0 : Int32) (1 : Int32) = some 0 := j2
    have n0 : ¬ p1 = 0 := by
      rintro rfl
      rcases q with q | q
      · exact absurd q (by decide)
      · exact absurd q (by decide)
    have n1 : ¬ p1 = 1 := by
      rintro rfl
      rcases q with q | q
      · exact absurd q (by decide)
      · exact absurd q (by decide)
    rw [j2', pu_bd, if_pos (show (0 : Int32) = 0 from rfl), if_neg n0, if_neg n1]
    exact Or.inr ⟨0, _, rfl, rfl, rfl, J_fail0 1 h⟩
theorem op_why : Op_why J := by
  intro n tx is wa st hi mo p1 p2 hn h
  obtain ⟨n0, p, l, s, r, cd, hx⟩ := h.1
  have hx0 : CSx st (Mo_state (Mo_set_thrown mo 0)) (100 * n) n0 p l s r cd := hx
  unfold fX5_why fX6_why
  rw [pu_pl]
  rcases cl_arg p1 with ⟨c1, hc, rfl, a1, a2⟩ | ⟨a1, a2⟩
  · rw [a1, pu_bd, if_neg (show ¬ (1 : Int32) = 0 by decide), a2, pu_bd, if_neg (show ¬ (1 : Int32) = 0 by decide)]
    rcases wd_arg (mo := Mo_set_thrown mo 0) hx.1 hx.2.2.1 p2 with ⟨w, hw, rfl, b1, b2⟩ | ⟨b1, b2⟩
    · obtain ⟨y, mo1, e1, e2, e3, -⟩ := cs_why hx0 hc hw
      rw [b1, pu_bd, if_neg (show ¬ (1 : Int32) = 0 by decide), b2, pu_bd, if_neg (show ¬ (1 : Int32) = 0 by decide), e1, pu_bd, e2, pu_bd2]
      exact Or.inl ⟨y, mo1, rfl, rfl, e3.p.rest.1, J_lookP h e3⟩
    · rw [b1, pu_bd, if_pos (show (0 : Int32) = 0 from rfl), b2, pu_bd, if_pos (show (0 : Int32) = 0 from rfl)]
      exact Or.inr ⟨0, _, rfl, rfl, rfl, J_fail0 1 h⟩
  · rw [a1, pu_bd, if_pos (show (0 : Int32) = 0 from rfl), a2, pu_bd, if_pos (show (0 : Int32) = 0 from rfl)]
    exact Or.inr ⟨0, _, rfl, rfl, rfl, J_fail0 1 h⟩
theorem op_plain : Op_plain J := by
  intro n tx is wa st hi mo p1 p2 hn h
  obtain ⟨n0, p, l, s, r, cd, hx⟩ := h.1
  have hM0 : MB (Mo_state (Mo_set_thrown mo 0)) n0 p l s r cd := hx.2.2.1
  unfold fX5_plain fX6_plain
  rw [pu_pl]
  rcases wd_arg (mo := Mo_set_thrown mo 0) hx.1 hM0 p1 with ⟨a, ha, rfl, a1, a2⟩ | ⟨a1, a2⟩
  · rw [a1, pu_bd, if_neg (show ¬ (1 : Int32) = 0 by decide), a2, pu_bd, if_neg (show ¬ (1 : Int32) = 0 by decide)]
    rcases wd_arg (mo := Mo_set_thrown mo 0) hx.1 hM0 p2 with ⟨z, hz, rfl, b1, b2⟩ | ⟨b1, b2⟩
    · obtain ⟨y, e1, e2⟩ := pu_bla hx.1 hx.2.1 ha hz wa
      obtain ⟨y6, mo1, f1, f2, f3⟩ := pm_plain hM0 ha hz
      have ey := e2.uniq f3
      subst ey
      rw [b1, pu_bd, if_neg (show ¬ (1 : Int32) = 0 by decide), b2, pu_bd, if_neg (show ¬ (1 : Int32) = 0 by decide), e1, pu_bd, f1, pu_bd2]
      exact Or.inl ⟨y, mo1, rfl, rfl, f2.p.rest.1, J_lookP h f2⟩
    · rw [b1, pu_bd, if_pos (show (0 : Int32) = 0 from rfl), b2, pu_bd, if_pos (show (0 : Int32) = 0 from rfl)]
      exact Or.inr ⟨0, _, rfl, rfl, rfl, J_fail0 1 h⟩
  · rw [a1, pu_bd, if_pos (show (0 : Int32) = 0 from rfl), a2, pu_bd, if_pos (show (0 : Int32) = 0 from rfl)]
    exact Or.inr ⟨0, _, rfl, rfl, rfl, J_fail0 1 h⟩
theorem op_ifPut : Op_ifPut J := by
  intro n tx is wa st hi mo p1 p2 hn h
  obtain ⟨n0, p, l, s, r, cd, hx⟩ := h.1
  have hn24 := hx.1.2.2.2.2.2.1
  have hM0 : MB (Mo_state (Mo_set_thrown mo 0)) n0 p l s r cd := hx.2.2.1
  unfold fX5_ifPut fX6_ifPut
  rw [pu_pl]
  rcases wd_arg (mo := Mo_set_thrown mo 0) hx.1 hM0 p1 with ⟨a, ha, rfl, a1, a2⟩ | ⟨a1, a2⟩
  · rw [a1, pu_bd, if_neg (show ¬ (1 : Int32) = 0 by decide), a2, pu_bd, if_neg (show ¬ (1 : Int32) = 0 by decide)]
    rcases wd_arg (mo := Mo_set_thrown mo 0) hx.1 hM0 p2 with ⟨z, hz, rfl, b1, b2⟩ | ⟨b1, b2⟩
    · rw [b1, pu_bd, if_neg (show ¬ (1 : Int32) = 0 by decide), b2, pu_bd, if_neg (show ¬ (1 : Int32) = 0 by decide)]
      by_cases eaz : a = z
      · rw [if_pos (show nI a = nI z by rw [eaz]), if_pos (show nI a = nI z by rw [eaz])]
        exact Or.inr (Or.inr ⟨0, _, rfl, rfl, rfl, J_fail0 2 h⟩)
      · have eaz' : ¬ nI a = nI z := by rw [nI_eq (by omega) (by omega)]; exact eaz
        obtain ⟨v, g1, g2⟩ := pu_isBarred hx.1 (t := 0) (by decide) ha
        obtain ⟨v6, mo1, k1, k2, -, k4⟩ := pm_isBarred (mo := Mo_set_thrown mo 0) hM0 ha
        have g1' : fX2_isBarredAfter st (nI a) (0 : Int32) = some v := g1
        rw [if_neg eaz', if_neg eaz', g1', pu_bd, k1, pu_bd2]
        have hv : v = v6 ∧ (v = 0 ∨ v = 1) := by
          rcases g2 with ⟨rfl, x1⟩ | ⟨rfl, x1⟩ <;> rcases k4 with ⟨rfl, x2⟩ | ⟨rfl, x2⟩
          · exact ⟨rfl, Or.inr rfl⟩
          · exact absurd x1 x2
          · exact absurd x2 x1
          · exact ⟨rfl, Or.inl rfl⟩
        obtain ⟨rfl, hv⟩ := hv
        rcases hv with rfl | rfl
        · obtain ⟨y1, wa1, w1, w2⟩ := pu_onw (p4 := 0) (go := True) hx.1 hx.2.1 ha hz ⟨fun _ => trivial, fun _ => rfl⟩ wa
          obtain ⟨y2, mo2, m1, m2, m3, m4⟩ := pm_fewest (mo := mo1) (g := 1) (go := True) ha hz eaz (by rw [k2.state]; exact hM0) ⟨fun _ => trivial, fun _ => by decide⟩
          have ey := w2.uniq m4
          subst ey
          rw [if_pos (show (0 : Int32) = 0 from rfl), if_pos (show (0 : Int32) = 0 from rfl), w1, pu_bd2, m1, pu_bd2]
          exact Or.inl ⟨y1, wa1, mo2, rfl, rfl, (k2.trans m2).p.rest.1, J_lookP h (k2.trans m2)⟩
        · rw [if_neg (show ¬ (1 : Int32) = 0 by decide), if_neg (show ¬ (1 : Int32) = 0 by decide)]
          exact Or.inl ⟨-1, wa, mo1, rfl, rfl, k2.p.rest.1, J_lookP h k2⟩
    · rw [b1, pu_bd, if_pos (show (0 : Int32) = 0 from rfl), b2, pu_bd, if_pos (show (0 : Int32) = 0 from rfl)]
      exact Or.inr (Or.inl ⟨0, _, rfl, rfl, rfl, J_fail0 1 h⟩)
  · rw [a1, pu_bd, if_pos (show (0 : Int32) = 0 from rfl), a2, pu_bd, if_pos (show (0 : Int32) = 0 from rfl)]
    exact Or.inr (Or.inl ⟨0, _, rfl, rfl, rfl, J_fail0 1 h⟩)
theorem op_safest : Op_safest J := by
  intro n tx is wa st hi mo hn h
  obtain ⟨n0, p, l, s, r, cd, hx⟩ := h.1
  have hx0 : CSx st (Mo_state (Mo_set_thrown mo 0)) (100 * n) n0 p l s r cd := hx
  obtain ⟨y, mo1, e1, e2, e3⟩ := cs_safest hx0 tx is wa hi
  unfold fX6_safest
  rw [pu_pl, e2, pu_bd2]
  exact ⟨y, mo1, e1, rfl, J_lookP h e3⟩
theorem op_linkShare : Op_linkShare J := by
  intro n tx is wa st hi mo hn h
  obtain ⟨n0, p, l, s, r, cd, hx⟩ := h.1
  have hx0 : CSx st (Mo_state (Mo_set_thrown mo 0)) (100 * n) n0 p l s r cd := hx
  obtain ⟨y, mo1, e1, e2, e3, e4, e5⟩ := cs_share hx0 tx is wa hi
  unfold fX6_linkShare
  rw [pu_pl, e2, pu_bd2]
  exact ⟨y, mo1, e1, rfl, e5, J_lookP h e3⟩
theorem op_mean : Op_meanLadder J := by
  intro n tx is wa st hi mo hn h
  obtain ⟨n0, p, l, s, r, cd, hx⟩ := h.1
  have hx0 : CSx st (Mo_state (Mo_set_thrown mo 0)) (100 * n) n0 p l s r cd := hx
  obtain ⟨y, b, e1, e2, e3, e4, e5, e6⟩ := cs_mean hx0 (by omega) tx is wa hi
  unfold fX6_meanLadder
  rw [pu_pl, e2, pu_bd]
  exact ⟨y, _, e1, rfl, e5, e6, J_t h⟩
theorem op_rest : Op_rest J := fun n tx is wa st hi mo hn h => J_look h (Hsame.refl mo) rfl rfl rfl
end OLK
