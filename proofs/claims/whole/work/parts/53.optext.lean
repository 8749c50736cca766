section OPT
theorem op_add : Op_add J := by
  intro n tx is wa st hi mo hn h
  obtain ⟨len, c, hT⟩ := h.2.1
  have hl := hT.1
  have hT1 : TB tx (Mo_set_thrown mo 0) len c := hT
  obtain ⟨y, mo3, e1, e2, e3⟩ := mt_err (what := 1) (by decide) hT1.mt
  have e1' : fX6_findError (Mo_set_thrown mo 0) (1 : Int32) = some (y, mo3) := e1
  have hw : fX3_isWhole tx (1 : Int32) = some (if dS 1 c len = 0 then 1 else 0) := tx_whole hT (what := 1) (by decide)
  have hs3 : Hsame mo mo3 := (Hsame_t mo 0).trans e2.p.hs
  have he3 : Mo_state mo3 = Mo_state mo := e2.state
  have ht3 : Mo_thrown mo3 = 0 := e2.p.rest.1
  have hT3 : TB tx mo3 len c := hT1.p e2.p
  have hm1 := e3.m1 hl
  unfold fX5_add fX6_add
  rw [pu_pl, e1', pu_bd2, hw, pu_bd]
  by_cases hd : dS 1 c len = 0
  · obtain ⟨hi', mo', q1, q2, q3, q4, q5, q6, q7, q8, q9, q10, q11⟩ := J_save h hs3 he3
    obtain ⟨n0, p, l, s, r, cd, hx⟩ := h.1
    have hx1 : CSx st (Mo_state (Mo_set_at mo' 0)) (100 * n) n0 p l s r cd := by rw [show Mo_state (Mo_set_at mo' 0) = Mo_state mo' from rfl, q3]; exact hx
    have hT4 : TB tx (Mo_set_at mo' 0) len c := TB.of (TB.of hT3 q5 q6) rfl rfl
    obtain ⟨n', cd', st', mo2, k1, k2, k3, k4⟩ := cs_add_L (n0 := n0) hd (len + 1) 0 1000 1000 st (Mo_set_at mo' 0) n0 cd (by omega) (by omega) (by omega) hT4 (by omega) (fun _ => rfl) hx1 rfl (Nat.le_refl _)
    have k1' : fX5_takeInWords_L10 tx (nI n0) 1000 (0 : Int32) st = some (nI (n' - n0), st') := k1
    have k2' : fX6_add_L33 1000 (0 : Int32) (1 : Int32) (Mo_set_at mo' 0) = some (nI (n' - n0), mo2) := by
      have := k2
      rw [Nat.sub_self] at this
      exact this
    refine Or.inl ⟨nI (n' - n0), Tx_set_length tx 0, st', hi', Mo_set_length mo2 0, ?_, ?_, ?_, ?_⟩
    · rw [if_pos hd, if_neg (show ¬ (1 : Int32) = 0 by decide), q1, pu_bd]
      unfold fX5_takeInWords fX3_empty
      rw [pu_pl, hx.1.1, k1', pu_bd2, pu_pl, pu_bd]
    · rw [if_pos (hm1.mpr hd), q2, pu_bd, pu_pl, k2', pu_bd2, pu_pl]
    · show Mo_thrown mo2 = 0
      rw [k3.rest.1]
      exact q4.trans ht3
    · exact q11 _ _ _ _ _ (((Hsame_at mo' 0).trans k3.hs).trans (Hsame_len mo2 0)) (CS.mono (m := 100 * n) ⟨_, _, _, _, _, _, k4⟩ (by omega)) ⟨0, c, TB_0 tx mo2 c⟩
  · refine Or.inr ⟨0, Mo_set_thrown mo3 1, ?_, ?_, rfl, ?_⟩
    · rw [if_neg hd, if_pos (show (0 : Int32) = 0 from rfl)]
    · rw [if_neg (fun q => hd (hm1.mp q))]
      rfl
    · exact J_look h (hs3.trans (Hsame_t mo3 1)) he3 e2.text.2 e2.text.1
theorem op_play : Op_play J := by
  intro n tx is wa st hi mo hn h
  obtain ⟨len, c, hT⟩ := h.2.1
  have hl := hT.1
  have hT1 : TB tx (Mo_set_thrown mo 0) len c := hT
  obtain ⟨y, mo3, e1, e2, e3⟩ := mt_err (what := 0) (by decide) hT1.mt
  have e1' : fX6_findError (Mo_set_thrown mo 0) (0 : Int32) = some (y, mo3) := e1
  have hw : fX3_isWhole tx (0 : Int32) = some (if dS 0 c len = 0 then 1 else 0) := tx_whole hT (what := 0) (by decide)
  have hs3 : Hsame mo mo3 := (Hsame_t mo 0).trans e2.p.hs
  have he3 : Mo_state mo3 = Mo_state mo := e2.state
  have ht3 : Mo_thrown mo3 = 0 := e2.p.rest.1
  have hT3 : TB tx mo3 len c := hT1.p e2.p
  have hm1 := e3.m1 hl
  unfold fX5_play fX6_play
  rw [pu_pl, e1', pu_bd2, hw, pu_bd]
  by_cases hd : dS 0 c len = 0
  · obtain ⟨hi', mo', q1, q2, q3, q4, q5, q6, q7, q8, q9, q10, q11⟩ := J_save h hs3 he3
    have hx1 : CS st (Mo_state (Mo_set_at mo' 0)) (100 * n) := by rw [show Mo_state (Mo_set_at mo' 0) = Mo_state mo' from rfl, q3]; exact h.1
    have hT4 : TB tx (Mo_set_at mo' 0) len c := TB.of (TB.of hT3 q5 q6) rfl rfl
    obtain ⟨k', st', mo2, k1, k2, k3, k4⟩ := cs_play_L (is := is) (wa := wa) (hi := hi') hd (len + 1) 0 1000 1000 0 st (Mo_set_at mo' 0) (100 * n) (by omega) (by omega) (by omega) hT4 (by omega) (fun _ => rfl) hx1 rfl
    have k1' : fX5_doParts_L4 tx is wa hi' 1000 (0 : Int32) (0 : Int32) st = some (nI k', st') := k1
    have k2' : fX6_play_L33 1000 (0 : Int32) (1 : Int32) (Mo_set_at mo' 0) = some (nI k', mo2) := k2
    refine Or.inl ⟨nI k', Tx_set_length tx 0, st', hi', Mo_set_length mo2 0, ?_, ?_, ?_, ?_⟩
    · rw [if_pos hd, if_neg (show ¬ (1 : Int32) = 0 by decide), q1, pu_bd]
      unfold fX5_doParts fX3_empty
      rw [k1', pu_bd2, pu_pl, pu_bd]
    · rw [if_pos (hm1.mpr hd), q2, pu_bd, pu_pl, k2', pu_bd2, pu_pl]
    · show Mo_thrown mo2 = 0
      rw [k3.rest.1]
      exact q4.trans ht3
    · exact q11 _ _ _ _ _ (((Hsame_at mo' 0).trans k3.hs).trans (Hsame_len mo2 0)) (k4.mono (by omega)) ⟨0, c, TB_0 tx mo2 c⟩
  · refine Or.inr ⟨0, Mo_set_thrown mo3 1, ?_, ?_, rfl, ?_⟩
    · rw [if_neg hd, if_pos (show (0 : Int32) = 0 from rfl)]
    · rw [if_neg (fun q => hd (hm1.mp q))]
      rfl
    · exact J_look h (hs3.trans (Hsame_t mo3 1)) he3 e2.text.2 e2.text.1
theorem ap_arg (x : Int32) : (∃ v, 33 ≤ v ∧ v ≤ 126 ∧ x = nI v) ∨ (x < (33 : Int32)) ∨ (¬ x < (33 : Int32) ∧ (126 : Int32) < x) := by
  by_cases q : x < (33 : Int32)
  · exact Or.inr (Or.inl q)
  · rcases pk_ix x (n := 127) (by decide) with h | h | ⟨v, h1, rfl⟩
    · exact absurd (fa_trans h (show (0 : Int32) ≤ 33 by decide)) q
    · exact Or.inr (Or.inr ⟨q, fa_trans (show (126 : Int32) < nI 127 by decide) h⟩)
    · refine Or.inl ⟨v, ?_, by omega, rfl⟩
      refine Nat.le_of_not_lt fun z => q ?_
      exact nI_lt (b := 33) z (by omega)
theorem op_append : Op_append J := by
  intro n tx is wa st hi mo p1 hn h
  obtain ⟨len, c, hT⟩ := h.2.1
  have hl := hT.1
  unfold fX5_append fX6_append
  rw [pu_pl]
  rcases ap_arg p1 with ⟨v, v1, v2, rfl⟩ | q | ⟨q, q2⟩
  · have hw : fX6_within (nI v) (33 : Int32) (126 : Int32) = some 1 := by
      unfold fX6_within
      rw [if_neg (show ¬ nI v < (33 : Int32) from nI_nlt (b := 33) (by omega) (by omega)), if_neg (show ¬ (126 : Int32) < nI v from nI_nlt (a := 126) (by omega) (by omega))]
    rw [hw, pu_bd, if_neg (show ¬ (1 : Int32) = 0 by decide), if_neg (show ¬ nI v < (33 : Int32) from nI_nlt (b := 33) (by omega) (by omega)), if_pos (show nI v ≤ (126 : Int32) from nI_le (b := 126) (by omega) (by omega))]
    unfold fX3_isFull fX3_take
    rw [hT.2.1, show Mo_length (Mo_set_thrown mo 0) = nI len from hT.2.2.1]
    by_cases e : len = 60
    · have e0 : ¬ nI len < (60 : Int32) := nI_nlt (b := 60) (by omega) (by omega)
      rw [if_neg e0, pu_bd, if_neg (show ¬ (1 : Int32) = 0 by decide), if_pos (show nI len = (60 : Int32) by rw [e]; rfl)]
      exact Or.inr (Or.inr ⟨0, _, rfl, rfl, rfl, J_fail0 2 h⟩)
    · have e0 : nI len < (60 : Int32) := nI_lt (b := 60) (by omega) (by omega)
      rw [if_pos e0, pu_bd, if_pos (show (0 : Int32) = 0 from rfl), if_neg (nI_pos (by omega)), if_neg (show ¬ (60 : Int32) ≤ nI len from nI_ge (b := 60) (by omega) (by omega)), pu_inb (by omega) (by decide), pu_cl (by omega), pu_ck, pu_pl, pu_pl, pu_bd, if_neg (show ¬ nI len = (60 : Int32) from fun q => e ((nI_eq (b := 60) (by omega) (by omega)).mp q)), pu_ck, pu_pl, pu_pl]
      have t1 : Tx_length (Tx_set_codes tx (upd (Tx_codes tx) len (nI v))) + (1 : Int32) = nI (len + 1) := by
        rw [show Tx_length (Tx_set_codes tx (upd (Tx_codes tx) len (nI v))) = nI len from hT.2.1, nI_1]
      have t2 : Mo_length (Mo_set_buffer (Mo_set_thrown mo 0) (upd (Mo_buffer (Mo_set_thrown mo 0)) len (nI v))) + (1 : Int32) = nI (len + 1) := by
        rw [show Mo_length (Mo_set_buffer (Mo_set_thrown mo 0) (upd (Mo_buffer (Mo_set_thrown mo 0)) len (nI v))) = nI len from hT.2.2.1, nI_1]
      rw [t1, t2]
      refine Or.inl ⟨nI (len + 1), _, _, rfl, rfl, rfl, J_keep h ⟨rfl, rfl, rfl, rfl⟩ (h.1.mono (by omega)) ⟨len + 1, (fun i => if i = len then v else c i), by omega, rfl, rfl, fun i hi2 => ?_⟩⟩
      show upd (Tx_codes tx) len (nI v) i = nI (if i = len then v else c i) ∧ upd (Mo_buffer mo) len (nI v) i = nI (if i = len then v else c i) ∧ 33 ≤ (if i = len then v else c i) ∧ (if i = len then v else c i) ≤ 126
      by_cases e2 : i = len
      · subst e2
        rw [pk_us, pk_us, if_pos rfl]
        exact ⟨rfl, rfl, v1, v2⟩
      · rw [pk_un e2, pk_un e2, if_neg e2]
        exact hT.2.2.2 i (by omega)
  · have hw : fX6_within p1 (33 : Int32) (126 : Int32) = some 0 := by
      unfold fX6_within
      rw [if_pos q]
    rw [hw, pu_bd, if_pos (show (0 : Int32) = 0 from rfl), if_pos q]
    exact Or.inr (Or.inl ⟨0, _, rfl, rfl, rfl, J_fail0 1 h⟩)
  · have hw : fX6_within p1 (33 : Int32) (126 : Int32) = some 0 := by
      unfold fX6_within
      rw [if_neg q, if_pos q2]
    rw [hw, pu_bd, if_pos (show (0 : Int32) = 0 from rfl), if_neg q, if_neg (fa_of_lt q2).2.1]
    exact Or.inr (Or.inl ⟨0, _, rfl, rfl, rfl, J_fail0 1 h⟩)
theorem op_clear : Op_clearBuffer J := by
  intro n tx is wa st hi mo hn h
  obtain ⟨len, c, hT⟩ := h.2.1
  unfold fX5_clearBuffer fX6_clearBuffer fX3_empty
  rw [pu_pl, pu_pl, pu_bd, pu_pl, pu_pl, pu_pl, hT.2.1, show Mo_length (Mo_set_thrown mo 0) = nI len from hT.2.2.1]
  exact ⟨nI len, _, _, rfl, rfl, J_keep h ⟨rfl, rfl, rfl, rfl⟩ (h.1.mono (by omega)) ⟨0, c, TB_0 tx (Mo_set_thrown mo 0) c⟩⟩
theorem op_firstError : Op_firstError J := by
  intro n tx is wa st hi mo p1 hn h
  obtain ⟨len, c, hT⟩ := h.2.1
  have hT1 : TB tx (Mo_set_thrown mo 0) len c := hT
  unfold fX5_firstError fX6_firstError
  rw [pu_pl]
  rcases wi_arg 1 (by decide) p1 with ⟨j, j1, rfl, j2⟩ | ⟨q, j2⟩
  · have j2' : fX6_within (nI j) (0 : Int32) (1 : Int32) = some 1 := j2
    rw [j2', pu_bd, if_neg (show ¬ (1 : Int32) = 0 by decide)]
    obtain ⟨y, mo', e1, e2, e3⟩ := tx_err (what := j) (by omega) hT1
    have hJ : J (n + 1) tx is wa st hi mo' := J_look h ((Hsame_t mo 0).trans e3.p.hs) e3.state e3.text.2 e3.text.1
    have ht : Mo_thrown mo' = 0 := e3.p.rest.1
    rcases (show j = 0 ∨ j = 1 by omega) with rfl | rfl
    · have e2' : fX6_tellsError (Mo_set_thrown mo 0) (0 : Int32) = some (y, mo') := e2
      rw [if_pos (show nI 0 = (0 : Int32) from rfl), e1, pu_bd, if_neg (show ¬ nI 0 = (1 : Int32) by decide), e2', pu_bd2]
      exact Or.inl ⟨y, mo', rfl, rfl, ht, hJ⟩
    · have e2' : fX6_tellsError (Mo_set_thrown mo 0) (1 : Int32) = some (y, mo') := e2
      rw [if_neg (show ¬ nI 1 = (0 : Int32) by decide), if_pos (show nI 1 = (1 : Int32) from rfl), e1, pu_bd, if_pos (show nI 1 = (1 : Int32) from rfl), e2', pu_bd2]
      exact Or.inl ⟨y, mo', rfl, rfl, ht, hJ⟩
  · have j2' : fX6_within p1 (0 : Int32) (1 : Int32) = some 0 := j2
    have n0 : ¬ p1 = 0 := by
      rintro rfl
      rcases q with q | q
      · exact absurd q (by decide)
      · exact absurd q (by decide)
    have n1 : ¬ p1 = 1 := by
      rintro rfl
      rcases q with q | q
      · exact absurd q (by decide)
      · exact absurd q (by decide)
    rw [j2', pu_bd, if_pos (show (0 : Int32) = 0 from rfl), if_neg n0, if_neg n1]
    exact Or.inr ⟨0, _, rfl, rfl, rfl, J_fail0 1 h⟩
end OPT
