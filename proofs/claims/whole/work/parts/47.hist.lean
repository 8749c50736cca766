section HST
theorem sv_L51 {mo0 : Mo} {k : Nat} (hk : k < 6) : ∀ (d i f : Nat) (mo : Mo), i + d = 55 → d < f → Mo_savedMany mo = nI k → ∃ S, fX6_save_L51 f (nI i) mo = some (Mo_set_saved mo S) ∧ ∀ j, S j = if 55 * k + i ≤ j ∧ j < 55 * k + 55 then Mo_state mo (j - 55 * k) else Mo_saved mo j := by
  intro d
  induction d with
  | zero =>
    intro i f mo hi hf hs
    obtain ⟨f, rfl, -⟩ := pu_fuel hf
    refine ⟨Mo_saved mo, ?_, fun j => ?_⟩
    · rw [fX6_save_L51, if_pos (show (55 : Int32) ≤ nI i from nI_le (a := 55) (by omega) (by omega))]
      rfl
    · rw [if_neg (by omega)]
  | succ d ih =>
    intro i f mo hi hf hs
    obtain ⟨f, rfl, hf⟩ := pu_fuel hf
    have e : Mo_savedMany mo * (55 : Int32) + nI i = nI (55 * k + i) := by rw [hs, show (55 : Int32) = nI 55 from rfl, pk_mul, nI_add, Nat.mul_comm]
    rw [fX6_save_L51, if_neg (show ¬ (55 : Int32) ≤ nI i from nI_ge (b := 55) (by omega) (by omega)), pu_inb (by omega) (by decide), e, pu_inb (by omega) (by decide), pu_cl (by omega), pu_cl (by omega), pu_ck, pu_ck, pu_pl, pu_pl, nI_1]
    obtain ⟨S, h1, h2⟩ := ih (i + 1) f (Mo_set_saved mo (upd (Mo_saved mo) (55 * k + i) (Mo_state mo i))) (by omega) (by omega) hs
    refine ⟨S, h1, fun j => ?_⟩
    rw [h2]
    show (if 55 * k + (i + 1) ≤ j ∧ j < 55 * k + 55 then Mo_state mo (j - 55 * k) else upd (Mo_saved mo) (55 * k + i) (Mo_state mo i) j) = _
    by_cases q : j = 55 * k + i
    · subst q
      rw [if_neg (by omega), pk_us, if_pos (by omega), show 55 * k + i - 55 * k = i by omega]
    · rw [pk_un q]
      by_cases q2 : 55 * k + (i + 1) ≤ j ∧ j < 55 * k + 55
      · rw [if_pos q2, if_pos (by omega)]
      · rw [if_neg q2, if_neg (by omega)]
theorem sv_L11 : ∀ (d i f : Nat) (mo : Mo), i + d = 275 → d < f → ∃ S, fX6_save_L11 f (nI i) mo = some (Mo_set_saved mo S) ∧ ∀ j, S j = if i ≤ j ∧ j < 275 then Mo_saved mo (j + 55) else Mo_saved mo j := by
  intro d
  induction d with
  | zero =>
    intro i f mo hi hf
    obtain ⟨f, rfl, -⟩ := pu_fuel hf
    refine ⟨Mo_saved mo, ?_, fun j => ?_⟩
    · rw [fX6_save_L11, if_pos (show (275 : Int32) ≤ nI i from nI_le (a := 275) (by omega) (by omega))]
      rfl
    · rw [if_neg (by omega)]
  | succ d ih =>
    intro i f mo hi hf
    obtain ⟨f, rfl, hf⟩ := pu_fuel hf
    have e : nI i + (55 : Int32) = nI (i + 55) := nI_add i 55
    rw [fX6_save_L11, if_neg (show ¬ (275 : Int32) ≤ nI i from nI_ge (b := 275) (by omega) (by omega)), e, pu_inb (by omega) (by decide), pu_inb (by omega) (by decide), pu_cl (by omega), pu_cl (by omega), pu_ck, pu_ck, pu_pl, pu_pl, nI_1]
    obtain ⟨S, h1, h2⟩ := ih (i + 1) f (Mo_set_saved mo (upd (Mo_saved mo) i (Mo_saved mo (i + 55)))) (by omega) (by omega)
    refine ⟨S, h1, fun j => ?_⟩
    rw [h2]
    show (if i + 1 ≤ j ∧ j < 275 then upd (Mo_saved mo) i (Mo_saved mo (i + 55)) (j + 55) else upd (Mo_saved mo) i (Mo_saved mo (i + 55)) j) = _
    by_cases q : j = i
    · subst q
      rw [if_neg (by omega), pk_us, if_pos (by omega)]
    · by_cases q2 : i + 1 ≤ j ∧ j < 275
      · rw [if_pos q2, pk_un (by omega), if_pos (by omega)]
      · rw [if_neg q2, pk_un q, if_neg (by omega)]
/-- the saved states of both sides -/
def HS (hi : Hi) (sv : AI) (many : Int32) (m : Nat) : Prop := ∃ k, k ≤ 6 ∧ Hi_size hi = nI k ∧ many = nI k ∧ ∀ i, i < k → CS (Hi_sv hi i).2 (fun j => sv (55 * i + j)) m
theorem HS.mono {hi : Hi} {sv : AI} {many : Int32} {m m' : Nat} (h : HS hi sv many m) (hm : m ≤ m') : HS hi sv many m' := by
  obtain ⟨k, h1, h2, h3, h4⟩ := h
  exact ⟨k, h1, h2, h3, fun i hi => (h4 i hi).mono hm⟩
theorem hs_save {st : St} {hi : Hi} {mo : Mo} {m : Nat} (h : HS hi (Mo_saved mo) (Mo_savedMany mo) m) (hc : CS st (Mo_state mo) m) : ∃ hi' mo' S K, fX0_save st hi = some hi' ∧ fX6_save mo = some mo' ∧ mo' = Mo_set_savedMany (Mo_set_saved mo S) K ∧ HS hi' S K m ∧ Hi_sn hi' = Hi_sn hi ∧ Hi_hasSnapshot hi' = Hi_hasSnapshot hi := by
  obtain ⟨k, h1, h2, h3, h4⟩ := h
  unfold fX0_save fX6_save hi_push hi_full
  by_cases e : k = 6
  · subst e
    obtain ⟨S1, s1, s2⟩ := sv_L11 275 0 1000 mo rfl (by decide)
    have s1' : fX6_save_L11 1000 (0 : Int32) mo = some (Mo_set_saved mo S1) := s1
    obtain ⟨S2, t1, t2⟩ := sv_L51 (mo0 := mo) (k := 5) (by decide) 55 0 1000 (Mo_set_savedMany (Mo_set_saved mo S1) (nI 5)) rfl (by decide) rfl
    have t1' : fX6_save_L51 1000 (0 : Int32) (Mo_set_savedMany (Mo_set_saved mo S1) (nI 5)) = some (Mo_set_saved (Mo_set_savedMany (Mo_set_saved mo S1) (nI 5)) S2) := t1
    have e5 : Mo_savedMany (Mo_set_saved mo S1) - (1 : Int32) = nI 5 := by rw [show Mo_savedMany (Mo_set_saved mo S1) = nI (5 + 1) from h3, nI_pred]
    rw [if_pos (show (6 : Int32) ≤ Hi_size hi by rw [h2]; decide), if_pos (show Mo_savedMany mo = (6 : Int32) by rw [h3]; rfl)]
    rw [show Hi_size (Hi_set_size (Hi_set_sv hi (rotS (Hi_sv hi))) 5) = (5 : Int32) from rfl, if_neg (by decide), if_neg (by decide), s1', pu_bd, pu_pl, e5, t1', pu_bd, pu_pl]
    refine ⟨_, _, S2, nI 6, rfl, rfl, rfl, ⟨6, by decide, rfl, rfl, fun i hi6 => ?_⟩, rfl, rfl⟩
    show CS (updS (rotS (Hi_sv hi)) 5 _ i).2 _ m
    unfold updS rotS
    by_cases q : i = 5
    · subst q
      rw [if_pos rfl]
      refine hc.cong (fun j hj => ?_)
      show S2 (55 * 5 + j) = Mo_state mo j
      rw [t2, if_pos (by omega), show 55 * 5 + j - 55 * 5 = j by omega]
      rfl
    · rw [if_neg q, if_neg q]
      refine (h4 (i + 1) (by omega)).cong (fun j hj => ?_)
      show S2 (55 * i + j) = Mo_saved mo (55 * (i + 1) + j)
      rw [t2, if_neg (by omega), show Mo_saved (Mo_set_savedMany (Mo_set_saved mo S1) (nI 5)) = S1 from rfl, s2, if_pos (by omega)]
      exact congrArg (Mo_saved mo) (by omega)
  · obtain ⟨S2, t1, t2⟩ := sv_L51 (mo0 := mo) (k := k) (by omega) 55 0 1000 mo rfl (by decide) h3
    have t1' : fX6_save_L51 1000 (0 : Int32) mo = some (Mo_set_saved mo S2) := t1
    have n6 : ¬ (6 : Int32) ≤ Hi_size hi := by rw [h2]; exact nI_ge (b := 6) (by omega) (by omega)
    rw [if_neg n6, if_neg (show ¬ Mo_savedMany mo = (6 : Int32) by rw [h3]; exact fun q => e ((nI_eq (b := 6) (by omega) (by omega)).mp q)), if_neg (by rw [h2]; exact nI_pos (by omega)), if_neg n6, t1', pu_bd, pu_pl]
    refine ⟨_, _, S2, nI (k + 1), rfl, rfl, ?_, ⟨k + 1, by omega, ?_, rfl, fun i hi6 => ?_⟩, rfl, rfl⟩
    · rw [show Mo_savedMany (Mo_set_saved mo S2) = nI k from h3, nI_1]
    · show Hi_size hi + 1 = nI (k + 1)
      rw [h2, nI_1]
    · show CS (updS (Hi_sv hi) (Hi_size hi).toNatClampNeg _ i).2 _ m
      rw [h2, pu_cl (by omega)]
      unfold updS
      by_cases q : i = k
      · subst q
        rw [if_pos rfl]
        refine hc.cong (fun j hj => ?_)
        show S2 (55 * i + j) = Mo_state mo j
        rw [t2, if_pos (by omega), show 55 * i + j - 55 * i = j by omega]
      · rw [if_neg q]
        refine (h4 i (by omega)).cong (fun j hj => ?_)
        show S2 (55 * i + j) = Mo_saved mo (55 * i + j)
        rw [t2, if_neg (by omega)]
theorem un_L30 {k : Nat} (hk : k < 6) : ∀ (d i f : Nat) (mo : Mo), i + d = 55 → d < f → Mo_savedMany mo = nI k → ∃ A, fX6_undo_L30 f (nI i) mo = some (Mo_set_state mo A) ∧ ∀ j, A j = if i ≤ j ∧ j < 55 then Mo_saved mo (55 * k + j) else Mo_state mo j := by
  intro d
  induction d with
  | zero =>
    intro i f mo hi hf hs
    obtain ⟨f, rfl, -⟩ := pu_fuel hf
    refine ⟨Mo_state mo, ?_, fun j => ?_⟩
    · rw [fX6_undo_L30, if_pos (show (55 : Int32) ≤ nI i from nI_le (a := 55) (by omega) (by omega))]
      rfl
    · rw [if_neg (by omega)]
  | succ d ih =>
    intro i f mo hi hf hs
    obtain ⟨f, rfl, hf⟩ := pu_fuel hf
    have e : Mo_savedMany mo * (55 : Int32) + nI i = nI (55 * k + i) := by rw [hs, show (55 : Int32) = nI 55 from rfl, pk_mul, nI_add, Nat.mul_comm]
    rw [fX6_undo_L30, if_neg (show ¬ (55 : Int32) ≤ nI i from nI_ge (b := 55) (by omega) (by omega)), e, pu_inb (by omega) (by decide), pu_inb (by omega) (by decide), pu_cl (by omega), pu_cl (by omega), pu_ck, pu_ck, pu_pl, pu_pl, nI_1]
    obtain ⟨S, h1, h2⟩ := ih (i + 1) f (Mo_set_state mo (upd (Mo_state mo) i (Mo_saved mo (55 * k + i)))) (by omega) (by omega) hs
    refine ⟨S, h1, fun j => ?_⟩
    rw [h2]
    show (if i + 1 ≤ j ∧ j < 55 then Mo_saved mo (55 * k + j) else upd (Mo_state mo) i (Mo_saved mo (55 * k + i)) j) = _
    by_cases q : j = i
    · subst q
      rw [if_neg (by omega), pk_us, if_pos (by omega)]
    · rw [pk_un q]
      by_cases q2 : i + 1 ≤ j ∧ j < 55
      · rw [if_pos q2, if_pos (by omega)]
      · rw [if_neg q2, if_neg (by omega)]
theorem gb_L24 : ∀ (d i f : Nat) (mo : Mo), i + d = 55 → d < f → ∃ A, fX6_goBack_L24 f (nI i) mo = some (Mo_set_state mo A) ∧ ∀ j, A j = if i ≤ j ∧ j < 55 then Mo_snapshot mo j else Mo_state mo j := by
  intro d
  induction d with
  | zero =>
    intro i f mo hi hf
    obtain ⟨f, rfl, -⟩ := pu_fuel hf
    refine ⟨Mo_state mo, ?_, fun j => ?_⟩
    · rw [fX6_goBack_L24, if_pos (show (55 : Int32) ≤ nI i from nI_le (a := 55) (by omega) (by omega))]
      rfl
    · rw [if_neg (by omega)]
  | succ d ih =>
    intro i f mo hi hf
    obtain ⟨f, rfl, hf⟩ := pu_fuel hf
    rw [fX6_goBack_L24, if_neg (show ¬ (55 : Int32) ≤ nI i from nI_ge (b := 55) (by omega) (by omega)), pu_inb (by omega) (by decide), pu_cl (by omega), pu_ck, pu_ck, pu_pl, pu_pl, nI_1]
    obtain ⟨S, h1, h2⟩ := ih (i + 1) f (Mo_set_state mo (upd (Mo_state mo) i (Mo_snapshot mo i))) (by omega) (by omega)
    refine ⟨S, h1, fun j => ?_⟩
    rw [h2]
    show (if i + 1 ≤ j ∧ j < 55 then Mo_snapshot mo j else upd (Mo_state mo) i (Mo_snapshot mo i) j) = _
    by_cases q : j = i
    · subst q
      rw [if_neg (by omega), pk_us, if_pos (by omega)]
    · rw [pk_un q]
      by_cases q2 : i + 1 ≤ j ∧ j < 55
      · rw [if_pos q2, if_pos (by omega)]
      · rw [if_neg q2, if_neg (by omega)]
theorem kp_L7 : ∀ (d i f : Nat) (mo : Mo), i + d = 55 → d < f → ∃ A, fX6_keep_L7 f (nI i) mo = some (Mo_set_snapshot mo A) ∧ ∀ j, A j = if i ≤ j ∧ j < 55 then Mo_state mo j else Mo_snapshot mo j := by
  intro d
  induction d with
  | zero =>
    intro i f mo hi hf
    obtain ⟨f, rfl, -⟩ := pu_fuel hf
    refine ⟨Mo_snapshot mo, ?_, fun j => ?_⟩
    · rw [fX6_keep_L7, if_pos (show (55 : Int32) ≤ nI i from nI_le (a := 55) (by omega) (by omega))]
      rfl
    · rw [if_neg (by omega)]
  | succ d ih =>
    intro i f mo hi hf
    obtain ⟨f, rfl, hf⟩ := pu_fuel hf
    rw [fX6_keep_L7, if_neg (show ¬ (55 : Int32) ≤ nI i from nI_ge (b := 55) (by omega) (by omega)), pu_inb (by omega) (by decide), pu_cl (by omega), pu_ck, pu_ck, pu_pl, pu_pl, nI_1]
    obtain ⟨S, h1, h2⟩ := ih (i + 1) f (Mo_set_snapshot mo (upd (Mo_snapshot mo) i (Mo_state mo i))) (by omega) (by omega)
    refine ⟨S, h1, fun j => ?_⟩
    rw [h2]
    show (if i + 1 ≤ j ∧ j < 55 then Mo_state mo j else upd (Mo_snapshot mo) i (Mo_state mo i) j) = _
    by_cases q : j = i
    · subst q
      rw [if_neg (by omega), pk_us, if_pos (by omega)]
    · rw [pk_un q]
      by_cases q2 : i + 1 ≤ j ∧ j < 55
      · rw [if_pos q2, if_pos (by omega)]
      · rw [if_neg q2, if_neg (by omega)]
end HST
