section OPS
theorem op_turn : Op_turn J := by
  intro n tx is wa st hi mo hn h
  obtain ⟨hi', mo', q1, q2, q3, q4, q5, q6, q7, q8, q9, q10, q11⟩ := J_save h (Hsame_t mo 0) rfl
  obtain ⟨len, c, hT⟩ := h.2.1
  obtain ⟨n0, p, l, s, r, cd, hx⟩ := h.1
  have hx1 : CSx st (Mo_state mo') (100 * n) n0 p l s r cd := by rw [q3]; exact hx
  obtain ⟨k, st', mo2, t1, t2, t3, t4, t5⟩ := cs_turn hx1
  unfold fX5_turn fX6_turn
  rw [q1, pu_bd, t1, pu_bd2, pu_pl, q2, pu_bd, t2, pu_bd2]
  exact ⟨nI k, st', hi', mo2, rfl, rfl, q11 _ _ _ _ _ t4.p.hs (CS.mono (m := 100 * n) ⟨_, _, _, _, _, _, t5⟩ (by omega)) ⟨len, c, (TB.of hT q5 q6).p t4.p⟩⟩
theorem op_leave : Op_leave J := by
  intro n tx is wa st hi mo p1 hn h
  obtain ⟨hi', mo', q1, q2, q3, q4, q5, q6, q7, q8, q9, q10, q11⟩ := J_save h (Hsame_t mo 0) rfl
  obtain ⟨len, c, hT⟩ := h.2.1
  obtain ⟨n0, p, l, s, r, cd, hx⟩ := h.1
  have hx1 : CSx st (Mo_state mo') (100 * n) n0 p l s r cd := by rw [q3]; exact hx
  unfold fX5_leave fX6_leave
  rw [pu_pl]
  rcases cl_arg p1 with ⟨c1, hc, rfl, a1, a2⟩ | ⟨a1, a2⟩
  · have c0 := (hx.2.2.2.1 c1 hc).1
    have o0 : fX6_of (Mo_set_thrown mo 0) (nI c1) (0 : Int32) = some (St_under st c1) := by
      rw [← c0]
      exact pm_of (mo := Mo_set_thrown mo 0) (k := 0) hc (by decide)
    have o1 : fX6_of mo' (nI c1) (0 : Int32) = some (St_under st c1) := by
      rw [← c0, ← q3]
      exact pm_of (mo := mo') (k := 0) hc (by decide)
    rw [a1, pu_bd, if_neg (show ¬ (1 : Int32) = 0 by decide), pu_under hc, pu_bd, a2, pu_bd, if_neg (show ¬ (1 : Int32) = 0 by decide), o0, pu_bd]
    by_cases e : St_under st c1 = -1
    · rw [if_pos e, if_pos e]
      exact Or.inr (Or.inr ⟨0, _, rfl, rfl, rfl, J_fail0 2 h⟩)
    · obtain ⟨st', A', t1, t2, t3⟩ := cs_off (mo := mo') hx1 hc
      have t2' : fX6_takeOff mo' (nI c1) = some (Mo_set_state mo' A') := t2
      rw [if_neg e, if_neg e, q1, pu_bd, t1, pu_bd, q2, pu_bd, o1, pu_bd, t2', pu_bd]
      exact Or.inl ⟨_, st', hi', _, rfl, rfl, q4, q11 _ _ _ _ _ (Hsame_st mo' A') (CS.mono (m := 100 * n) ⟨_, _, _, _, _, _, t3⟩ (by omega)) ⟨len, c, TB.of hT q5 q6⟩⟩
  · rw [a1, pu_bd, if_pos (show (0 : Int32) = 0 from rfl), a2, pu_bd, if_pos (show (0 : Int32) = 0 from rfl)]
    exact Or.inr (Or.inl ⟨0, _, rfl, rfl, rfl, J_fail0 1 h⟩)
theorem op_climb : Op_climb J := by
  intro n tx is wa st hi mo p1 p2 hn h
  obtain ⟨len, c, hT⟩ := h.2.1
  obtain ⟨n0, p, l, s, r, cd, hx⟩ := h.1
  have hx0 : CSx st (Mo_state (Mo_set_thrown mo 0)) (100 * n) n0 p l s r cd := hx
  unfold fX5_climb fX6_climb
  rw [pu_pl]
  rcases cl_arg p1 with ⟨c1, hc, rfl, a1, a2⟩ | ⟨a1, a2⟩
  · rw [a1, pu_bd, if_neg (show ¬ (1 : Int32) = 0 by decide), a2, pu_bd, if_neg (show ¬ (1 : Int32) = 0 by decide)]
    rcases wd_arg (mo := Mo_set_thrown mo 0) hx.1 hx.2.2.1 p2 with ⟨w, hw, rfl, b1, b2⟩ | ⟨b1, b2⟩
    · rw [b1, pu_bd, if_neg (show ¬ (1 : Int32) = 0 by decide), b2, pu_bd, if_neg (show ¬ (1 : Int32) = 0 by decide)]
      obtain ⟨y, mo1, e1, e2, e3, e4⟩ := cs_why hx0 hc hw
      rw [e1, pu_bd, e2, pu_bd2]
      by_cases hy : y = 0
      · obtain ⟨hi', mo', q1, q2, q3, q4, q5, q6, q7, q8, q9, q10, q11⟩ := J_save h ((Hsame_t mo 0).trans e3.p.hs) e3.state
        have hx1 : CSx st (Mo_state mo') (100 * n) n0 p l s r cd := by rw [q3]; exact hx
        obtain ⟨b, st', A', t1, t2, t3, t4⟩ := cs_move (mo := mo') hx1 hc hw (e4 hy)
        have t2' : fX6_goes mo' (nI c1) (nI w) = some (b, Mo_set_state mo' A') := t2
        have hth : Mo_thrown (Mo_set_state mo' A') = 0 := q4.trans e3.p.rest.1
        have hT2 : TB tx (Mo_set_state mo' A') len c := TB.of (TB.of ((TB_t hT 0).p e3.p) q5 q6) rfl rfl
        have hJ := q11 tx is wa st' _ (Hsame_st mo' A') (CS.mono (m := 100 * n + 1) ⟨_, _, _, _, _, _, t3⟩ (by omega)) ⟨len, c, hT2⟩
        rw [if_pos hy, if_pos hy, q1, pu_bd, t1, pu_bd2, q2, pu_bd, t2', pu_bd2]
        rcases t4 with rfl | rfl
        · rw [if_pos (show (0 : Int32) = 0 from rfl)]
          exact Or.inl ⟨_, st', hi', _, rfl, rfl, hth, hJ⟩
        · rw [if_neg (show ¬ (1 : Int32) = 0 by decide)]
          exact Or.inl ⟨_, st', hi', _, rfl, rfl, hth, hJ⟩
      · rw [if_neg hy, if_neg hy]
        exact Or.inr (Or.inr ⟨0, _, rfl, rfl, rfl, J_fail 2 h e3⟩)
    · rw [b1, pu_bd, if_pos (show (0 : Int32) = 0 from rfl), b2, pu_bd, if_pos (show (0 : Int32) = 0 from rfl)]
      exact Or.inr (Or.inl ⟨0, _, rfl, rfl, rfl, J_fail0 1 h⟩)
  · rw [a1, pu_bd, if_pos (show (0 : Int32) = 0 from rfl), a2, pu_bd, if_pos (show (0 : Int32) = 0 from rfl)]
    exact Or.inr (Or.inl ⟨0, _, rfl, rfl, rfl, J_fail0 1 h⟩)
theorem op_put : Op_put J := by
  intro n tx is wa st hi mo p1 p2 p3 hn h
  obtain ⟨len, c, hT⟩ := h.2.1
  obtain ⟨n0, p, l, s, r, cd, hx⟩ := h.1
  have hn24 := hx.1.2.2.2.2.2.1
  unfold fX5_put fX6_put
  rw [pu_pl]
  rcases cl_arg p1 with ⟨c1, hc, rfl, a1, a2⟩ | ⟨a1, a2⟩
  · rw [a1, pu_bd, if_neg (show ¬ (1 : Int32) = 0 by decide), a2, pu_bd, if_neg (show ¬ (1 : Int32) = 0 by decide)]
    rcases wd_arg (mo := Mo_set_thrown mo 0) hx.1 hx.2.2.1 p2 with ⟨a, ha, rfl, b1, b2⟩ | ⟨b1, b2⟩
    · rw [b1, pu_bd, if_neg (show ¬ (1 : Int32) = 0 by decide), b2, pu_bd, if_neg (show ¬ (1 : Int32) = 0 by decide)]
      rcases wd_arg (mo := Mo_set_thrown mo 0) hx.1 hx.2.2.1 p3 with ⟨z, hz, rfl, d1, d2⟩ | ⟨d1, d2⟩
      · rw [d1, pu_bd, if_neg (show ¬ (1 : Int32) = 0 by decide), d2, pu_bd, if_neg (show ¬ (1 : Int32) = 0 by decide)]
        by_cases eaz : a = z
        · rw [if_pos (show nI a = nI z by rw [eaz]), if_pos (show nI a = nI z by rw [eaz])]
          exact Or.inr (Or.inr (Or.inl ⟨0, _, rfl, rfl, rfl, J_fail0 2 h⟩))
        · have eaz' : ¬ nI a = nI z := by rw [nI_eq (by omega) (by omega)]; exact eaz
          have c0 := (hx.2.2.2.1 c1 hc).1
          have o0 : fX6_of (Mo_set_thrown mo 0) (nI c1) (0 : Int32) = some (St_under st c1) := by
            rw [← c0]
            exact pm_of (mo := Mo_set_thrown mo 0) (k := 0) hc (by decide)
          rw [if_neg eaz', if_neg eaz', pu_under hc, pu_bd, o0, pu_bd]
          by_cases e : St_under st c1 = -1
          · obtain ⟨y, f1, f2, f3⟩ := cs_con (mo := Mo_set_thrown mo 0) (st := st) (nI a) (fun c hc => (hx.2.2.2.1 c hc).1)
            rw [if_pos e, if_pos e, f1, pu_bd, f2, pu_bd]
            by_cases e2 : y = -1
            · obtain ⟨v, g1, g2⟩ := pu_isBarred hx.1 (t := 0) (by decide) ha
              obtain ⟨v6, mo1, k1, k2, -, k4⟩ := pm_isBarred (mo := Mo_set_thrown mo 0) hx.2.2.1 ha
              have g1' : fX2_isBarredAfter st (nI a) (0 : Int32) = some v := g1
              rw [if_pos e2, if_pos e2, g1', pu_bd, k1, pu_bd2]
              have hv : v = v6 ∧ (v = 0 ∨ v = 1) := by
                rcases g2 with ⟨rfl, x1⟩ | ⟨rfl, x1⟩ <;> rcases k4 with ⟨rfl, x2⟩ | ⟨rfl, x2⟩
                · exact ⟨rfl, Or.inr rfl⟩
                · exact absurd x1 x2
                · exact absurd x2 x1
                · exact ⟨rfl, Or.inl rfl⟩
              obtain ⟨rfl, hv⟩ := hv
              rcases hv with rfl | rfl
              · obtain ⟨hi', mo', q1, q2, q3, q4, q5, q6, q7, q8, q9, q10, q11⟩ := J_save h ((Hsame_t mo 0).trans k2.p.hs) k2.state
                have hx1 : CSx st (Mo_state mo') (100 * n) n0 p l s r cd := by rw [q3]; exact hx
                obtain ⟨st', t1, t2⟩ := cs_put (mo := mo') hx1 hc ha hz eaz
                generalize hA' : upd (upd (upd (upd (upd (Mo_state mo') (10 + 7 * c1 + 0) (nI a)) (10 + 7 * c1 + 1) (nI a)) (10 + 7 * c1 + 2) (nI z)) (10 + 7 * c1 + 3) 0) (10 + 7 * c1 + 4) 0 = A' at t2
                have s0 : fX6_setOf mo' (nI c1) (0 : Int32) (nI a) = some (Mo_set_state mo' (upd (Mo_state mo') (10 + 7 * c1 + 0) (nI a))) := pm_setOf (k := 0) hc (by decide)
                have p0 : A' (10 + 7 * c1 + 0) = nI a := by rw [← hA', pk_un (by omega), pk_un (by omega), pk_un (by omega), pk_un (by omega), pk_us]
                have p2 : A' (10 + 7 * c1 + 2) = nI z := by rw [← hA', pk_un (by omega), pk_un (by omega), pk_us]
                have p3 : A' (10 + 7 * c1 + 3) = 0 := by rw [← hA', pk_un (by omega), pk_us]
                obtain ⟨y1, wa1, w1, w2⟩ := pu_onw (p4 := 0) (go := True) t2.1 t2.2.1 ha hz ⟨fun _ => trivial, fun _ => rfl⟩ wa
                obtain ⟨y2, mo2, m1, m2, m3, m4⟩ := pm_fewestOf (mo := Mo_set_state mo' A') (go := True) hc ha hz eaz t2.2.2.1 p0 p2 ⟨fun _ => trivial, fun _ => p3⟩
                have hyy := w2.uniq m4
                have hth : Mo_thrown mo2 = 0 := m2.p.rest.1.trans (q4.trans k2.p.rest.1)
                have hT2 : TB tx mo2 len c := (TB.of (TB.of ((TB_t hT 0).p k2.p) q5 q6) rfl rfl : TB tx (Mo_set_state mo' A') len c).p m2.p
                have hJ := q11 tx is wa1 st' mo2 ((Hsame_st mo' A').trans m2.p.hs) (by rw [m2.state]; exact CS.mono (m := 100 * n) ⟨_, _, _, _, _, _, t2⟩ (by omega)) ⟨len, c, hT2⟩
                rw [if_pos (show (0 : Int32) = 0 from rfl), if_pos (show (0 : Int32) = 0 from rfl), q1, pu_bd, t1, pu_bd, w1, pu_bd2, q2, pu_bd, s0, pu_bd, pm_s1 hc, pu_bd, pm_s2 hc, pu_bd, pm_s3 hc, pu_bd, pm_s4 hc, pu_bd, hA', m1, pu_bd2]
                exact Or.inl ⟨y1, wa1, st', hi', mo2, rfl, by rw [hyy], hth, hJ⟩
              · rw [if_neg (show ¬ (1 : Int32) = 0 by decide), if_neg (show ¬ (1 : Int32) = 0 by decide)]
                exact Or.inr (Or.inr (Or.inr ⟨0, _, rfl, rfl, rfl, J_fail 3 h k2⟩))
            · rw [if_neg e2, if_neg e2]
              exact Or.inr (Or.inr (Or.inr ⟨0, _, rfl, rfl, rfl, J_fail0 3 h⟩))
          · rw [if_neg e, if_neg e]
            exact Or.inr (Or.inr (Or.inr ⟨0, _, rfl, rfl, rfl, J_fail0 3 h⟩))
      · rw [d1, pu_bd, if_pos (show (0 : Int32) = 0 from rfl), d2, pu_bd, if_pos (show (0 : Int32) = 0 from rfl)]
        exact Or.inr (Or.inl ⟨0, _, rfl, rfl, rfl, J_fail0 1 h⟩)
    · rw [b1, pu_bd, if_pos (show (0 : Int32) = 0 from rfl), b2, pu_bd, if_pos (show (0 : Int32) = 0 from rfl)]
      exact Or.inr (Or.inl ⟨0, _, rfl, rfl, rfl, J_fail0 1 h⟩)
  · rw [a1, pu_bd, if_pos (show (0 : Int32) = 0 from rfl), a2, pu_bd, if_pos (show (0 : Int32) = 0 from rfl)]
    exact Or.inr (Or.inl ⟨0, _, rfl, rfl, rfl, J_fail0 1 h⟩)
end OPS
