section REL
/-! the relation of the two runs behind n calls -/
def Snp (hi : Hi) (has : Int32) (sn : AI) (m : Nat) : Prop := Hi_hasSnapshot hi = has ∧ (has = 0 ∨ (has = 1 ∧ CS (Hi_sn hi) sn m))
theorem Snp.mono {hi : Hi} {has : Int32} {sn : AI} {m k : Nat} (h : Snp hi has sn m) (hk : m ≤ k) : Snp hi has sn k := by
  obtain ⟨h1, h2 | ⟨h2, h3⟩⟩ := h
  · exact ⟨h1, Or.inl h2⟩
  · exact ⟨h1, Or.inr ⟨h2, h3.mono hk⟩⟩
def J (n : Nat) (tx : Tx) (_ : Is) (_ : Wa) (st : St) (hi : Hi) (mo : Mo) : Prop := CS st (Mo_state mo) (100 * n) ∧ (∃ len c, TB tx mo len c) ∧ HS hi (Mo_saved mo) (Mo_savedMany mo) (100 * n) ∧ Snp hi (Mo_hasSnapshot mo) (Mo_snapshot mo) (100 * n)
def Hsame (a b : Mo) : Prop := Mo_saved b = Mo_saved a ∧ Mo_savedMany b = Mo_savedMany a ∧ Mo_snapshot b = Mo_snapshot a ∧ Mo_hasSnapshot b = Mo_hasSnapshot a
theorem Hsame.refl (a : Mo) : Hsame a a := ⟨rfl, rfl, rfl, rfl⟩
theorem Hsame.trans {a b c : Mo} (h1 : Hsame a b) (h2 : Hsame b c) : Hsame a c := ⟨h2.1.trans h1.1, h2.2.1.trans h1.2.1, h2.2.2.1.trans h1.2.2.1, h2.2.2.2.trans h1.2.2.2⟩
theorem Psame.hs {a b : Mo} (h : Psame a b) : Hsame a b := ⟨h.2.1, h.2.2.1, h.2.2.2.1, h.2.2.2.2.1⟩
theorem Hsame_t (a : Mo) (x : Int32) : Hsame a (Mo_set_thrown a x) := ⟨rfl, rfl, rfl, rfl⟩
theorem Hsame_st (a : Mo) (x : AI) : Hsame a (Mo_set_state a x) := ⟨rfl, rfl, rfl, rfl⟩
theorem Hsame_len (a : Mo) (x : Int32) : Hsame a (Mo_set_length a x) := ⟨rfl, rfl, rfl, rfl⟩
theorem Hsame_buf (a : Mo) (x : AI) : Hsame a (Mo_set_buffer a x) := ⟨rfl, rfl, rfl, rfl⟩
theorem Hsame_at (a : Mo) (x : Int32) : Hsame a (Mo_set_at a x) := ⟨rfl, rfl, rfl, rfl⟩
theorem TB_t {tx : Tx} {mo : Mo} {len : Nat} {c : Nat → Nat} (h : TB tx mo len c) (x : Int32) : TB tx (Mo_set_thrown mo x) len c := h
theorem TB_0 (tx : Tx) (mo : Mo) (c : Nat → Nat) : TB (Tx_set_length tx 0) (Mo_set_length mo 0) 0 c := ⟨by decide, rfl, rfl, fun i hi => by omega⟩
/-- a call that keeps the history -/
theorem J_keep {n : Nat} {tx tx' : Tx} {is is' : Is} {wa wa' : Wa} {st st' : St} {hi : Hi} {mo mo' : Mo} (h : J n tx is wa st hi mo) (hs : Hsame mo mo') (hc : CS st' (Mo_state mo') (100 * (n + 1))) (ht : ∃ len c, TB tx' mo' len c) : J (n + 1) tx' is' wa' st' hi mo' := by
  obtain ⟨-, -, h3, h4⟩ := h
  obtain ⟨s1, s2, s3, s4⟩ := hs
  refine ⟨hc, ht, ?_, ?_⟩
  · rw [s1, s2]; exact h3.mono (by omega)
  · rw [s3, s4]; exact h4.mono (by omega)
/-- a call that only looks -/
theorem J_look {n : Nat} {tx : Tx} {is is' : Is} {wa wa' : Wa} {st : St} {hi : Hi} {mo mo' : Mo} (h : J n tx is wa st hi mo) (hs : Hsame mo mo') (h1 : Mo_state mo' = Mo_state mo) (h2 : Mo_buffer mo' = Mo_buffer mo) (h3 : Mo_length mo' = Mo_length mo) : J (n + 1) tx is' wa' st hi mo' := by
  refine J_keep h hs (by rw [h1]; exact h.1.mono (by omega)) ?_
  obtain ⟨len, c, ht⟩ := h.2.1
  refine ⟨len, c, ?_⟩
  unfold TB
  rw [h2, h3]
  exact ht
theorem J_lookP {n : Nat} {tx : Tx} {is is' : Is} {wa wa' : Wa} {st : St} {hi : Hi} {mo mo' : Mo} {x : Int32} (h : J n tx is wa st hi mo) (hs : Same (Mo_set_thrown mo x) mo') : J (n + 1) tx is' wa' st hi mo' := by
  obtain ⟨L, P, T, rfl⟩ := hs
  exact J_look h ⟨rfl, rfl, rfl, rfl⟩ rfl rfl rfl
theorem J_fail {n : Nat} {tx : Tx} {is : Is} {wa : Wa} {st : St} {hi : Hi} {mo mo' : Mo} {x : Int32} (k : Int32) (h : J n tx is wa st hi mo) (hs : Same (Mo_set_thrown mo x) mo') : J (n + 1) tx is wa st hi (Mo_set_thrown mo' k) := by
  obtain ⟨L, P, T, rfl⟩ := hs
  exact J_look h ⟨rfl, rfl, rfl, rfl⟩ rfl rfl rfl
theorem J_fail0 {n : Nat} {tx : Tx} {is : Is} {wa : Wa} {st : St} {hi : Hi} {mo : Mo} {x : Int32} (k : Int32) (h : J n tx is wa st hi mo) : J (n + 1) tx is wa st hi (Mo_set_thrown (Mo_set_thrown mo x) k) := J_look h ⟨rfl, rfl, rfl, rfl⟩ rfl rfl rfl
theorem J_t {n : Nat} {tx : Tx} {is is' : Is} {wa wa' : Wa} {st : St} {hi : Hi} {mo : Mo} {x : Int32} (h : J n tx is wa st hi mo) : J (n + 1) tx is' wa' st hi (Mo_set_thrown mo x) := J_look h ⟨rfl, rfl, rfl, rfl⟩ rfl rfl rfl
/-- a call that saves -/
theorem J_save {n : Nat} {tx : Tx} {is : Is} {wa : Wa} {st : St} {hi : Hi} {mo mo1 : Mo} (h : J n tx is wa st hi mo) (hs : Hsame mo mo1) (e : Mo_state mo1 = Mo_state mo) : ∃ hi' mo', fX0_save st hi = some hi' ∧ fX6_save mo1 = some mo' ∧ Mo_state mo' = Mo_state mo ∧ Mo_thrown mo' = Mo_thrown mo1 ∧ Mo_buffer mo' = Mo_buffer mo1 ∧ Mo_length mo' = Mo_length mo1 ∧ Mo_snapshot mo' = Mo_snapshot mo ∧ Mo_hasSnapshot mo' = Mo_hasSnapshot mo ∧ Hi_sn hi' = Hi_sn hi ∧ Hi_hasSnapshot hi' = Hi_hasSnapshot hi ∧ (∀ tx' is' wa' st' mo2, Hsame mo' mo2 → CS st' (Mo_state mo2) (100 * (n + 1)) → (∃ len c, TB tx' mo2 len c) → J (n + 1) tx' is' wa' st' hi' mo2) := by
  obtain ⟨h1, -, h3, h4⟩ := h
  obtain ⟨s1, s2, s3, s4⟩ := hs
  obtain ⟨hi', mo', S, K, q1, q2, q3, q4, q5, q6⟩ := hs_save (mo := mo1) (by rw [s1, s2]; exact h3) (by rw [e]; exact h1)
  subst q3
  refine ⟨hi', _, q1, q2, e, rfl, rfl, rfl, s3, s4, q5, q6, fun tx' is' wa' st' mo2 t1 t2 t3 => ?_⟩
  obtain ⟨r1, r2, r3, r4⟩ := t1
  refine ⟨t2, t3, ?_, ?_⟩
  · rw [r1, r2]; exact q4.mono (by omega)
  · rw [r3, r4]
    show Snp hi' (Mo_hasSnapshot mo1) (Mo_snapshot mo1) _
    rw [s3, s4]
    unfold Snp
    rw [q5, q6]
    exact h4.mono (by omega)
theorem TB.of {tx : Tx} {a b : Mo} {len : Nat} {c : Nat → Nat} (h : TB tx a len c) (h1 : Mo_buffer b = Mo_buffer a) (h2 : Mo_length b = Mo_length a) : TB tx b len c := by
  unfold TB
  rw [h1, h2]
  exact h
/-! arguments -/
theorem fa_23 {x : Int32} (h : nI 3 ≤ x) : (2 : Int32) < x := fa_trans (show (2 : Int32) < nI 3 by decide) h
theorem cl_arg (x : Int32) : (∃ c, c < 3 ∧ x = nI c ∧ fX5_isClimber x = some 1 ∧ fX6_isClimber x = some 1) ∨ (fX5_isClimber x = some 0 ∧ fX6_isClimber x = some 0) := by
  rcases pk_ix x (n := 3) (by decide) with h | h | ⟨c, h1, rfl⟩
  · refine Or.inr ⟨?_, ?_⟩
    · unfold fX5_isClimber; rw [if_pos h]
    · unfold fX6_isClimber fX6_within; rw [if_pos h]; rfl
  · have h0 : ¬ x < 0 := fun q => by
      have := fa_trans q (show (0 : Int32) ≤ nI 3 by decide)
      exact (fa_of_lt this).2.1 h
    refine Or.inr ⟨?_, ?_⟩
    · unfold fX5_isClimber; rw [if_neg h0, if_pos (show (3 : Int32) ≤ x from h)]
    · unfold fX6_isClimber fX6_within; rw [if_neg h0, if_pos (fa_23 h)]; rfl
  · refine Or.inl ⟨c, h1, rfl, pu_clm h1, ?_⟩
    unfold fX6_isClimber fX6_within
    rw [if_neg (nI_pos (by omega)), if_neg (show ¬ (2 : Int32) < nI c from nI_nlt (a := 2) (by omega) (by omega))]
    rfl
theorem wd_arg {st : St} {mo : Mo} {n p l s r : Nat} {cd : Nat → Nat} (h : Base st n p l s r cd) (hM : MB (Mo_state mo) n p l s r cd) (x : Int32) : (∃ w, w < n ∧ x = nI w ∧ fX2_hasWord st x = some 1 ∧ fX6_isWord mo x = some 1) ∨ (fX2_hasWord st x = some 0 ∧ fX6_isWord mo x = some 0) := by
  have hn := h.2.2.2.2.2.1
  rcases pk_ix x (n := n) (by omega) with q | q | ⟨w, h1, rfl⟩
  · refine Or.inr ⟨?_, ?_⟩
    · unfold fX2_hasWord; rw [if_pos q]
    · unfold fX6_isWord fX6_within; rw [i55_0, pu_ck, if_pos q]; rfl
  · have h0 : ¬ x < 0 := fun q2 => by
      have := fa_trans q2 (nI_pos' (n := n) (by omega))
      exact (fa_of_lt this).2.1 q
    refine Or.inr ⟨?_, ?_⟩
    · unfold fX2_hasWord; rw [if_neg h0, h.1, if_pos q]
    · unfold fX6_isWord fX6_within
      rw [i55_0, c55_0, hM.1, pu_ck, if_neg h0]
      have : nI n - (1 : Int32) < x := by
        cases n with
        | zero => exact fa_trans (show nI 0 - (1 : Int32) < nI 0 by decide) q
        | succ k =>
          rw [nI_pred]
          exact fa_trans (nI_lt (a := k) (b := k + 1) (by omega) (by omega)) q
      rw [if_pos this]; rfl
  · refine Or.inl ⟨w, h1, rfl, pu_hasWord h h1, ?_⟩
    unfold fX6_isWord fX6_within
    rw [i55_0, c55_0, hM.1, pu_ck, if_neg (nI_pos (by omega))]
    have : ¬ nI n - (1 : Int32) < nI w := by
      rw [show nI n - (1 : Int32) = nI (n - 1) from pk_sub (b := 1) (by omega)]
      exact nI_nlt (by omega) (by omega)
    rw [if_neg this]
    rfl
/-- an argument from 0 to k: of both sides -/
theorem wi_arg (k : Nat) (hk : k < 1000) (x : Int32) : (∃ j, j ≤ k ∧ x = nI j ∧ fX6_within x (0 : Int32) (nI k) = some 1) ∨ ((x < 0 ∨ nI (k + 1) ≤ x) ∧ fX6_within x (0 : Int32) (nI k) = some 0) := by
  rcases pk_ix x (n := k + 1) (by omega) with q | q | ⟨w, h1, rfl⟩
  · refine Or.inr ⟨Or.inl q, ?_⟩
    unfold fX6_within; rw [if_pos q]
  · refine Or.inr ⟨Or.inr q, ?_⟩
    have h0 : ¬ x < 0 := fun q2 => by
      have := fa_trans q2 (nI_pos' (n := k + 1) (by omega))
      exact (fa_of_lt this).2.1 q
    unfold fX6_within
    rw [if_neg h0, if_pos (fa_trans (nI_lt (a := k) (b := k + 1) (by omega) (by omega)) q)]
  · refine Or.inl ⟨w, by omega, rfl, ?_⟩
    unfold fX6_within
    rw [if_neg (nI_pos (by omega)), if_neg (nI_nlt (by omega) (by omega))]
end REL
