section OSE
theorem up_CS {st st' : St} {A A' : AI} {m n p l s r p' l' s' r' : Nat} {cd : Nat → Nat} (h : CSx st A m n p l s r cd) (hB : Base st' n p' l' s' r' cd) (hL : Lks (St_links st') n r' cd) (hM : A' 0 = A 0 ∧ A' 1 = nI p' ∧ A' 2 = nI l' ∧ A' 3 = nI s' ∧ A' 4 = nI r') (hA : ∀ k, 5 ≤ k → A' k = A k) (hs : ∀ n c, c < 3 → Cl1 st A n c → Cl1 st' A n c) (hc : ∀ m, Cnt st A m → Cnt st' A m) : CSx st' A' m n p' l' s' r' cd := by
  obtain ⟨h1, h2, h3, h4, h5⟩ := h
  obtain ⟨b1, b2, b3, b4, b5, b6, b7, b8, b9, b10, b11⟩ := hB
  obtain ⟨a1, a2, a3, a4, a5, a6, a7, a8, a9, a10, a11⟩ := h3
  obtain ⟨m0, m1, m2, m3, m4⟩ := hM
  refine ⟨⟨b1, b2, b3, b4, b5, b6, b7, b8, b9, b10, b11⟩, hL, ⟨by rw [m0]; exact a1, m1, m2, m3, m4, a6, b7, b8, b9, b10, fun w hw => by rw [hA _ (by omega)]; exact a11 w hw⟩, fun c hc => ?_, ?_⟩
  · have := hs n c hc (h4 c hc)
    unfold Cl1 at this ⊢
    rw [hA _ (by omega), hA _ (by omega), hA _ (by omega), hA _ (by omega), hA _ (by omega), hA _ (by omega), hA _ (by omega)]
    exact this
  · have := hc m h5
    unfold Cnt at this ⊢
    rw [hA _ (by omega), hA _ (by omega), hA _ (by omega), hA _ (by omega), hA _ (by omega)]
    exact this
theorem ms_state (a : Mo) (A : AI) : Mo_state (Mo_set_state a A) = A := rfl
theorem op_bar : Op_bar J := by
  intro n tx is wa st hi mo p1 p2 hn h
  obtain ⟨len, c, hT⟩ := h.2.1
  obtain ⟨hi', mo', q1, q2, q3, q4, q5, q6, q7, q8, q9, q10, q11⟩ := J_save h (Hsame_t mo 0) rfl
  obtain ⟨n0, p, l, s, r, cd, hx⟩ := h.1
  have hx1 : CSx st (Mo_state mo') (100 * n) n0 p l s r cd := by rw [q3]; exact hx
  unfold fX5_bar fX6_bar
  rw [pu_pl]
  rcases wi_arg 3 (by decide) p1 with ⟨a, a1, rfl, a2⟩ | ⟨a1, a2⟩
  · have a2' : fX6_within (nI a) (0 : Int32) (3 : Int32) = some 1 := a2
    rw [a2', pu_bd, if_neg (show ¬ (1 : Int32) = 0 by decide), if_neg (nI_pos (by omega)), if_pos (show nI a < (4 : Int32) from nI_lt (b := 4) (by omega) (by omega))]
    rcases wi_arg 7 (by decide) p2 with ⟨b, b1, rfl, b2⟩ | ⟨b1, b2⟩
    · have b2' : fX6_within (nI b) (0 : Int32) (7 : Int32) = some 1 := b2
      rw [b2', pu_bd, if_neg (show ¬ (1 : Int32) = 0 by decide), if_neg (nI_pos (by omega)), if_pos (show nI b < (8 : Int32) from nI_lt (b := 8) (by omega) (by omega))]
      obtain ⟨B1, B2, B3, B4, B5, B6, B7, B8, B9, B10, B11⟩ := hx1.1
      obtain ⟨M0, M1, M2, M3, M4, -⟩ := hx1.2.2.1
      rw [q1, pu_bd, pu_pl, pu_pl, pu_pl, q2, pu_bd, i55_1, c55_1, i55_2, c55_2, pu_ck, pu_ck, pu_pl, pu_ck, pu_pl, pu_ck, pu_pl, B2, B3, M1, M2]
      have em : Mo_set_state (Mo_set_state mo' (upd (Mo_state mo') 1 (nI a))) (upd (Mo_state (Mo_set_state mo' (upd (Mo_state mo') 1 (nI a)))) 2 (nI b)) = Mo_set_state mo' (upd (upd (Mo_state mo') 1 (nI a)) 2 (nI b)) := rfl
      rw [em]
      refine Or.inl ⟨_, _, hi', _, rfl, rfl, q4, q11 _ _ _ _ _ (Hsame_st mo' _) (CS.mono (m := 100 * n) ⟨n0, a, b, s, r, cd, up_CS hx1 ⟨B1, rfl, rfl, B4, B5, B6, by omega, by omega, B9, B10, B11⟩ hx1.2.1 ⟨?_, ?_, ?_, ?_, ?_⟩ (fun k hk => ?_) (fun n c hc q => q) (fun m q => q)⟩ (by omega)) ⟨len, c, TB.of hT q5 q6⟩⟩
      · rw [ms_state, pk_un (by omega), pk_un (by omega)]
      · rw [ms_state, pk_un (by omega), pk_us]
      · rw [ms_state, pk_us]
      · rw [ms_state, pk_un (by omega), pk_un (by omega)]; exact M3
      · rw [ms_state, pk_un (by omega), pk_un (by omega)]; exact M4
      · rw [ms_state, pk_un (by omega), pk_un (by omega)]
    · have b2' : fX6_within p2 (0 : Int32) (7 : Int32) = some 0 := b2
      rw [b2', pu_bd, if_pos (show (0 : Int32) = 0 from rfl)]
      rcases b1 with b1 | b1
      · rw [if_pos b1]
        exact Or.inr (Or.inr ⟨0, _, rfl, rfl, rfl, J_fail0 2 h⟩)
      · have n0 : ¬ p2 < 0 := fun q => (fa_of_lt (fa_trans q (show (0 : Int32) ≤ nI (7 + 1) by decide))).2.1 b1
        have n1 : ¬ p2 < (8 : Int32) := fun q => (fa_of_lt q).2.1 b1
        rw [if_neg n0, if_neg n1]
        exact Or.inr (Or.inr ⟨0, _, rfl, rfl, rfl, J_fail0 2 h⟩)
  · have a2' : fX6_within p1 (0 : Int32) (3 : Int32) = some 0 := a2
    rw [a2', pu_bd, if_pos (show (0 : Int32) = 0 from rfl)]
    rcases a1 with a1 | a1
    · rw [if_pos a1]
      exact Or.inr (Or.inl ⟨0, _, rfl, rfl, rfl, J_fail0 1 h⟩)
    · have n0 : ¬ p1 < 0 := fun q => (fa_of_lt (fa_trans q (show (0 : Int32) ≤ nI (3 + 1) by decide))).2.1 a1
      have n1 : ¬ p1 < (4 : Int32) := fun q => (fa_of_lt q).2.1 a1
      rw [if_neg n0, if_neg n1]
      exact Or.inr (Or.inl ⟨0, _, rfl, rfl, rfl, J_fail0 1 h⟩)
theorem sv_arg (x : Int32) : (∃ v, 1 ≤ v ∧ v ≤ 7 ∧ x = nI v ∧ fX6_within x (1 : Int32) (7 : Int32) = some 1) ∨ ((x < (1 : Int32) ∨ (¬ x < (1 : Int32) ∧ ¬ x ≤ (7 : Int32))) ∧ fX6_within x (1 : Int32) (7 : Int32) = some 0) := by
  by_cases q : x < (1 : Int32)
  · refine Or.inr ⟨Or.inl q, ?_⟩
    unfold fX6_within; rw [if_pos q]
  · rcases pk_ix x (n := 8) (by decide) with h | h | ⟨v, h1, rfl⟩
    · exact absurd (fa_trans h (show (0 : Int32) ≤ 1 by decide)) q
    · have h7 : (7 : Int32) < x := fa_trans (show (7 : Int32) < nI 8 by decide) h
      refine Or.inr ⟨Or.inr ⟨q, (fa_of_lt h7).2.1⟩, ?_⟩
      unfold fX6_within; rw [if_neg q, if_pos h7]
    · refine Or.inl ⟨v, ?_, by omega, rfl, ?_⟩
      · refine Nat.le_of_not_lt fun z => q ?_
        exact nI_lt (b := 1) z (by omega)
      · unfold fX6_within; rw [if_neg q, if_neg (show ¬ (7 : Int32) < nI v from nI_nlt (a := 7) (by omega) (by omega))]
theorem op_set : Op_set J := by
  intro n tx is wa st hi mo p1 p2 hn h
  obtain ⟨len, c, hT⟩ := h.2.1
  obtain ⟨hi', mo', q1, q2, q3, q4, q5, q6, q7, q8, q9, q10, q11⟩ := J_save h (Hsame_t mo 0) rfl
  obtain ⟨n0, p, l, s, r, cd, hx⟩ := h.1
  have hx1 : CSx st (Mo_state mo') (100 * n) n0 p l s r cd := by rw [q3]; exact hx
  obtain ⟨B1, B2, B3, B4, B5, B6, B7, B8, B9, B10, B11⟩ := hx1.1
  obtain ⟨M0, M1, M2, M3, M4, -⟩ := hx1.2.2.1
  unfold fX5_set fX6_set
  rw [pu_pl]
  rcases wi_arg 1 (by decide) p1 with ⟨j, j1, rfl, j2⟩ | ⟨q, j2⟩
  · have j2' : fX6_within (nI j) (0 : Int32) (1 : Int32) = some 1 := j2
    rw [j2', pu_bd, if_neg (show ¬ (1 : Int32) = 0 by decide)]
    rcases sv_arg p2 with ⟨v, v1, v2, rfl, v3⟩ | ⟨v1, v3⟩
    · have l1 : ¬ nI v < (1 : Int32) := nI_nlt (b := 1) (by omega) (by omega)
      have l2 : nI v ≤ (7 : Int32) := nI_le (b := 7) (by omega) (by omega)
      rw [v3, pu_bd, if_neg (show ¬ (1 : Int32) = 0 by decide), q2, pu_bd]
      unfold fX2_settingOf fX2_changeSetting
      rcases (show j = 0 ∨ j = 1 by omega) with rfl | rfl
      · have e3 : (3 : Int32) + nI 0 = 3 := by decide
        rw [if_pos (show nI 0 = (0 : Int32) from rfl), if_neg l1, if_pos l2, q1, pu_bd, if_pos (show nI 0 = (0 : Int32) from rfl), pu_bd, if_pos (show nI 0 = (0 : Int32) from rfl), pu_pl, pu_bd, B4]
        rw [e3, i55_3, c55_3, pu_ck, pu_pl, pu_ck, pu_pl, M3]
        refine Or.inl ⟨_, _, hi', _, rfl, rfl, q4, q11 _ _ _ _ _ (Hsame_st mo' _) (CS.mono (m := 100 * n) ⟨n0, p, l, v, r, cd, up_CS hx1 ⟨B1, B2, B3, rfl, B5, B6, B7, B8, by omega, B10, B11⟩ hx1.2.1 ⟨?_, ?_, ?_, ?_, ?_⟩ (fun k hk => ?_) (fun n c hc q => q) (fun m q => q)⟩ (by omega)) ⟨len, c, TB.of hT q5 q6⟩⟩
        · rw [ms_state, pk_un (by omega)]
        · rw [ms_state, pk_un (by omega)]; exact M1
        · rw [ms_state, pk_un (by omega)]; exact M2
        · rw [ms_state, pk_us]
        · rw [ms_state, pk_un (by omega)]; exact M4
        · rw [ms_state, pk_un (by omega)]
      · have e4 : (3 : Int32) + nI 1 = 4 := by decide
        have hB' : Base (St_set_nearness st (nI v)) n0 p l s v cd := ⟨B1, B2, B3, B4, rfl, B6, B7, B8, B9, by omega, B11⟩
        obtain ⟨A', g1, g2⟩ := pu_anew hB' hx1.2.1
        have n10 : ¬ nI 1 = (0 : Int32) := by decide
        rw [if_neg n10, if_pos (show nI 1 = (1 : Int32) from rfl), if_neg l1, if_pos l2, q1, pu_bd, if_neg n10, pu_bd, if_neg n10, pu_pl, g1, pu_bd, pu_bd, B5]
        rw [e4, i55_4, c55_4, pu_ck, pu_pl, pu_ck, pu_pl, M4]
        refine Or.inl ⟨_, _, hi', _, rfl, rfl, q4, q11 _ _ _ _ _ (Hsame_st mo' _) (CS.mono (m := 100 * n) ⟨n0, p, l, s, v, cd, up_CS hx1 ⟨B1, B2, B3, B4, rfl, B6, B7, B8, B9, by omega, B11⟩ g2 ⟨?_, ?_, ?_, ?_, ?_⟩ (fun k hk => ?_) (fun n c hc q => q) (fun m q => q)⟩ (by omega)) ⟨len, c, TB.of hT q5 q6⟩⟩
        · rw [ms_state, pk_un (by omega)]
        · rw [ms_state, pk_un (by omega)]; exact M1
        · rw [ms_state, pk_un (by omega)]; exact M2
        · rw [ms_state, pk_un (by omega)]; exact M3
        · rw [ms_state, pk_us]
        · rw [ms_state, pk_un (by omega)]
    · rw [v3, pu_bd, if_pos (show (0 : Int32) = 0 from rfl)]
      have both : ∀ X : Option (Nat ⊕ (Int32 × St × Hi)), (if p2 < (1 : Int32) then some (Sum.inl 2) else if p2 ≤ (7 : Int32) then X else some (Sum.inl 2)) = some (Sum.inl 2) := fun X => by
        rcases v1 with v1 | ⟨v1, v2⟩
        · rw [if_pos v1]
        · rw [if_neg v1, if_neg v2]
      rcases (show j = 0 ∨ j = 1 by omega) with rfl | rfl
      · rw [if_pos (show nI 0 = (0 : Int32) from rfl), both]
        exact Or.inr (Or.inr ⟨0, _, rfl, rfl, rfl, J_fail0 2 h⟩)
      · rw [if_neg (show ¬ nI 1 = (0 : Int32) by decide), if_pos (show nI 1 = (1 : Int32) from rfl), both]
        exact Or.inr (Or.inr ⟨0, _, rfl, rfl, rfl, J_fail0 2 h⟩)
  · have j2' : fX6_within p1 (0 : Int32) (1 : Int32) = some 0 := j2
    have n0 : ¬ p1 = 0 := by
      rintro rfl
      rcases q with q | q
      · exact absurd q (by decide)
      · exact absurd q (by decide)
    have n1 : ¬ p1 = 1 := by
      rintro rfl
      rcases q with q | q
      · exact absurd q (by decide)
      · exact absurd q (by decide)
    rw [j2', pu_bd, if_pos (show (0 : Int32) = 0 from rfl), if_neg n0, if_neg n1]
    exact Or.inr (Or.inl ⟨0, _, rfl, rfl, rfl, J_fail0 1 h⟩)
theorem op_keep : Op_keep J := by
  intro n tx is wa st hi mo hn h
  obtain ⟨h1, ⟨len, c, hT⟩, h3, h4⟩ := h
  obtain ⟨A, e1, e2⟩ := kp_L7 55 0 1000 (Mo_set_thrown mo 0) rfl (by decide)
  have e1' : fX6_keep_L7 1000 (0 : Int32) (Mo_set_thrown mo 0) = some (Mo_set_snapshot (Mo_set_thrown mo 0) A) := e1
  unfold fX5_keep fX6_keep fX0_takeSnapshot
  rw [pu_bd, pu_pl, e1', pu_bd, pu_pl, i55_5, c55_5, pu_ck]
  have ht : Mo_state (Mo_set_hasSnapshot (Mo_set_snapshot (Mo_set_thrown mo 0) A) 1) 5 = St_turns st := by
    obtain ⟨n0, p, l, s, r, cd, hx⟩ := h1
    exact hx.2.2.2.2.1
  rw [ht]
  refine ⟨_, _, _, rfl, rfl, h1.mono (by omega), ⟨len, c, hT⟩, h3.mono (by omega), rfl, Or.inr ⟨rfl, ?_⟩⟩
  refine (h1.mono (by omega)).cong (fun k hk => ?_)
  show A k = Mo_state mo k
  rw [e2, if_pos (by omega)]
  rfl
theorem op_goBack : Op_goBack J := by
  intro n tx is wa st hi mo hn h
  obtain ⟨len, c, hT⟩ := h.2.1
  obtain ⟨hs1, hs2⟩ := h.2.2.2
  unfold fX5_goBack fX6_goBack fX0_restoreSnapshot
  rw [pu_pl, hs1, show Mo_hasSnapshot (Mo_set_thrown mo 0) = Mo_hasSnapshot mo from rfl]
  rcases hs2 with e | ⟨e, hc⟩
  · rw [if_pos e, if_pos e]
    exact Or.inr ⟨0, _, rfl, rfl, rfl, J_fail0 1 h⟩
  · have e0 : ¬ Mo_hasSnapshot mo = 0 := by rw [e]; decide
    obtain ⟨hi', mo', q1, q2, q3, q4, q5, q6, q7, q8, q9, q10, q11⟩ := J_save h (Hsame_t mo 0) rfl
    obtain ⟨A, g1, g2⟩ := gb_L24 55 0 1000 mo' rfl (by decide)
    have g1' : fX6_goBack_L24 1000 (0 : Int32) mo' = some (Mo_set_state mo' A) := g1
    have hc' : CS (Hi_sn hi) A (100 * n) := hc.cong (fun k hk => by rw [g2, if_pos (by omega), q7])
    rw [if_neg e0, if_neg e0, q1, pu_bd, pu_bd, q2, pu_bd, g1', pu_bd, i55_5, c55_5, pu_ck, q9]
    have ht : Mo_state (Mo_set_state mo' A) 5 = St_turns (Hi_sn hi) := by
      obtain ⟨n0, p, l, s, r, cd, hx⟩ := hc'
      exact hx.2.2.2.2.1
    rw [ht]
    exact Or.inl ⟨_, _, hi', _, rfl, rfl, q4, q11 _ _ _ _ _ (Hsame_st mo' A) (hc'.mono (by omega)) ⟨len, c, TB.of hT q5 q6⟩⟩
theorem op_undo : Op_undo J := by
  intro n tx is wa st hi mo hn h
  have h0 := h
  obtain ⟨h1, ⟨len, c, hT⟩, ⟨k, k1, k2, k3, k4⟩, h4⟩ := h
  unfold fX5_undo fX6_undo fX0_restoreLatest
  rw [pu_pl, k2, show Mo_savedMany (Mo_set_thrown mo 0) = nI k from k3]
  cases k with
  | zero =>
    rw [if_pos (show nI 0 = (0 : Int32) from rfl), if_pos (show nI 0 = (0 : Int32) from rfl)]
    exact Or.inr ⟨0, _, rfl, rfl, rfl, J_fail0 1 h0⟩
  | succ k =>
    rw [if_neg (nI_ne0 (by omega) (by omega)), if_neg (nI_ne0 (by omega) (by omega)), if_neg (nI_nle (by omega) (by omega)), if_neg (show ¬ (6 : Int32) < nI (k + 1) from nI_nlt (a := 6) (by omega) (by omega)), nI_pred, pu_cl (by omega), pu_bd2, pu_pl]
    obtain ⟨A, g1, g2⟩ := un_L30 (k := k) (by omega) 55 0 1000 (Mo_set_savedMany (Mo_set_thrown mo 0) (nI k)) rfl (by decide) rfl
    have g1' : fX6_undo_L30 1000 (0 : Int32) (Mo_set_savedMany (Mo_set_thrown mo 0) (nI k)) = some (Mo_set_state (Mo_set_savedMany (Mo_set_thrown mo 0) (nI k)) A) := g1
    rw [g1', pu_bd]
    have hc' : CS (Hi_sv hi k).2 A (100 * n) := (k4 k (by omega)).cong (fun j hj => by rw [g2, if_pos (by omega)]; rfl)
    exact Or.inl ⟨_, _, _, _, rfl, rfl, rfl, hc'.mono (by omega), ⟨len, c, hT⟩, ⟨k, by omega, rfl, rfl, fun i hi2 => (k4 i (by omega)).mono (by omega)⟩, h4.mono (by omega)⟩
end OSE
