section ERR
theorem mt_clm : ∀ x, x < 128 → fX6_isClimber (nI x - (48 : Int32)) = some (if 48 ≤ x ∧ x < 51 then 1 else 0) := by decide +kernel
theorem mt_zb1 : zb (1 : Int32) = true := by decide
theorem mt_zb0 : zb (0 : Int32) = true := by decide
theorem mt_climb {mo : Mo} {len i : Nat} {c : Nat → Nat} (h : MT mo len c) (ha : Mo_at mo = nI i) (hi : i ≤ len) : ∃ y mo', fX6_readsClimb mo = some (y, mo') ∧ Tsame mo mo' ∧ ((y = 1 ∧ i < len ∧ c i = 116 ∧ Mo_at mo' = nI (i + 1) ∧ Mo_readClimber mo' = -1) ∨ (y = 1 ∧ i < len ∧ c i ≠ 116 ∧ (48 ≤ c i ∧ c i < 51) ∧ Mo_readClimber mo' = nI (c i - 48) ∧ i + 1 + 4 ≤ len ∧ (∀ j, j < 4 → 97 ≤ c (i + 1 + j) ∧ c (i + 1 + j) ≤ 104) ∧ Mo_at mo' = nI (i + 1 + 4) ∧ Mo_readWord mo' = nI (wcd c (i + 1) 4)) ∨ (y = 0 ∧ Mo_at mo' = nI i ∧ (i < len → c i ≠ 116 ∧ ¬ (48 ≤ c i ∧ c i < 51))) ∨ (y = 0 ∧ i < len ∧ c i ≠ 116 ∧ (48 ≤ c i ∧ c i < 51) ∧ ∃ q, q < 4 ∧ i + 1 + q ≤ len ∧ (∀ j, j < q → 97 ≤ c (i + 1 + j) ∧ c (i + 1 + j) ≤ 104) ∧ Mo_at mo' = nI (i + 1 + q) ∧ (i + 1 + q < len → ¬ (97 ≤ c (i + 1 + q) ∧ c (i + 1 + q) ≤ 104)))) := by
  have hl := h.1
  have hx := ch_lt h i
  have hn := mt_next h ha hi
  unfold fX6_readsClimb
  rw [hn, pu_bd]
  by_cases e : ch len c i = 116
  · have e0 : i < len := by
      refine Nat.lt_of_not_le fun q => ?_
      unfold ch at e
      rw [if_neg (by omega)] at e
      omega
    have e1 : ch len c i = c i := if_pos e0
    rw [if_pos (show nI (ch len c i) = (116 : Int32) by rw [e]; rfl), pu_pl, pu_pl]
    refine ⟨1, _, rfl, (Tsame_rc mo _).trans (Tsame_at _ _), Or.inl ⟨rfl, e0, by omega, ?_, rfl⟩⟩
    show Mo_at mo + 1 = _
    rw [ha, nI_1]
  · rw [if_neg (show ¬ nI (ch len c i) = (116 : Int32) from fun q => e ((nI_eq (b := 116) (by omega) (by omega)).mp q)), pu_bd, pu_pl]
    rw [show Mo_readClimber (Mo_set_readClimber mo (nI (ch len c i) - (48 : Int32))) = nI (ch len c i) - (48 : Int32) from rfl, mt_clm _ hx, pu_bd]
    by_cases e2 : 48 ≤ ch len c i ∧ ch len c i < 51
    · have e0 : i < len := by
        refine Nat.lt_of_not_le fun q => ?_
        unfold ch at e2
        rw [if_neg (by omega)] at e2
        omega
      have e1 : ch len c i = c i := if_pos e0
      rw [if_pos e2, if_neg (show ¬ (1 : Int32) = 0 by decide), pu_pl]
      rw [e1] at e e2 ⊢
      have s1 : Tsame mo (Mo_set_at (Mo_set_readClimber mo (nI (c i) - (48 : Int32))) (Mo_at (Mo_set_readClimber mo (nI (c i) - (48 : Int32))) + (1 : Int32))) := (Tsame_rc mo _).trans (Tsame_at _ _)
      obtain ⟨y, mo', k1, k2, k3, k4⟩ := mt_letters (i := i + 1) (h.same s1) (show Mo_at mo + 1 = _ by rw [ha, nI_1]) (by omega)
      rw [k1]
      have k3' : Mo_readClimber mo' = nI (c i - 48) := by
        rw [k3]
        show nI (c i) - (48 : Int32) = _
        exact pk_sub (b := 48) (by omega)
      rcases k4 with ⟨rfl, q1, q2, q3, q4⟩ | ⟨rfl, q, q1, q2, q3, q4, q5⟩
      · exact ⟨1, mo', rfl, s1.trans k2, Or.inr (Or.inl ⟨rfl, e0, e, e2, k3', q1, q2, q3, q4⟩)⟩
      · exact ⟨0, mo', rfl, s1.trans k2, Or.inr (Or.inr (Or.inr ⟨rfl, e0, e, e2, q, q1, q2, q3, q4, q5⟩))⟩
    · rw [if_neg e2, if_pos (show (0 : Int32) = 0 from rfl)]
      refine ⟨0, _, rfl, Tsame_rc mo _, Or.inr (Or.inr (Or.inl ⟨rfl, ha, fun q => ?_⟩))⟩
      have e1 : ch len c i = c i := if_pos q
      rw [e1] at e e2
      exact ⟨e, e2⟩
/-! parts by the automaton -/
theorem dS_let {what i : Nat} {c : Nat → Nat} (h : dS what c i = 4) : ∀ q, q ≤ 4 → (∀ j, j < q → 97 ≤ c (i + j) ∧ c (i + j) ≤ 104) → dS what c (i + q) = 4 - q
  | 0, _, _ => h
  | q + 1, h1, h2 => by
    have h3 := dS_let h q (by omega) (fun j hj => h2 j (by omega))
    rw [← Nat.add_assoc, dS_1, h3, dl_letter (by omega) (by omega), if_pos (h2 q (by omega))]
    omega
theorem dS_wlet {i : Nat} {c : Nat → Nat} (h : dS 1 c i = 5) : ∀ q, 1 ≤ q → q ≤ 4 → (∀ j, j < q → 97 ≤ c (i + j) ∧ c (i + j) ≤ 104) → dS 1 c (i + q) = 4 - q
  | 0, h0, _, _ => by omega
  | q + 1, h0, h1, h2 => by
    by_cases e : q = 0
    · subst e
      have : 97 ≤ c i ∧ c i ≤ 104 := h2 0 (by omega)
      show dS 1 c (i + 1) = 3
      rw [dS_1, h, dl_word, if_pos this]
    · have h3 := dS_wlet h q (by omega) (by omega) (fun j hj => h2 j (by omega))
      rw [← Nat.add_assoc, dS_1, h3, dl_letter (by omega) (by omega), if_pos (h2 q (by omega))]
      omega
/-- a part from i on: it is right and ends before e, or it is wrong at e -/
def PartR (what len : Nat) (c : Nat → Nat) (i : Nat) (y : Int32) (e : Nat) : Prop := e ≤ len ∧ (∀ j, i ≤ j → j < e → dS what c (j + 1) ≠ 6) ∧ ((y = 1 ∧ i < e ∧ dS what c e = 0) ∨ (y = 0 ∧ i ≤ e ∧ dS what c e ≠ 0 ∧ (e < len → dS what c (e + 1) = 6)))
theorem mt_part {what : Nat} (hw : what < 2) {mo : Mo} {len i : Nat} {c : Nat → Nat} (h : MT mo len c) (ha : Mo_at mo = nI i) (hi : i ≤ len) (hd : dS what c i = 5) : ∃ y mo' e, fX6_readsPart mo (nI what) = some (y, mo') ∧ Tsame mo mo' ∧ Mo_at mo' = nI e ∧ PartR what len c i y e := by
  unfold fX6_readsPart
  rcases (show what = 0 ∨ what = 1 by omega) with rfl | rfl
  · rw [if_pos (show nI 0 = (0 : Int32) from rfl)]
    obtain ⟨y, mo', k1, k2, k3⟩ := mt_climb h ha hi
    rw [k1, show bd2 (some (y, mo')) (fun (r2 : Int32) (mo3 : Mo) => ck (zb r2) (some (r2, mo3))) = ck (zb y) (some (y, mo')) from rfl]
    have d4 : (48 ≤ c i ∧ c i < 51) → c i ≠ 116 → dS 0 c (i + 1) = 4 := fun a1 a2 => by rw [dS_1, hd, dl_climb, if_neg a2, if_pos a1]
    rcases k3 with ⟨rfl, q1, q2, q3, q4⟩ | ⟨rfl, q1, q2, q3, q4, q5, q6, q7, q8⟩ | ⟨rfl, q1, q2⟩ | ⟨rfl, q1, q2, q3, q, q4, q5, q6, q7, q8⟩
    · have d1 : dS 0 c (i + 1) = 0 := by rw [dS_1, hd, dl_climb, if_pos q2]
      refine ⟨1, mo', i + 1, rfl, k2, q3, by omega, fun j j1 j2 => ?_, Or.inl ⟨rfl, by omega, d1⟩⟩
      rw [show j = i by omega, d1]; decide
    · have d1 := d4 q3 q2
      refine ⟨1, mo', i + 1 + 4, rfl, k2, q7, q5, fun j j1 j2 => ?_, Or.inl ⟨rfl, by omega, dS_let d1 4 (by omega) q6⟩⟩
      by_cases e : j = i
      · rw [e, d1]; decide
      · have := dS_let d1 (j - i) (by omega) (fun k hk => q6 k (by omega))
        rw [show i + 1 + (j - i) = j + 1 by omega] at this
        omega
    · refine ⟨0, mo', i, rfl, k2, q1, hi, fun j j1 j2 => by omega, Or.inr ⟨rfl, Nat.le_refl i, by rw [hd]; decide, fun e => ?_⟩⟩
      obtain ⟨a1, a2⟩ := q2 e
      rw [dS_1, hd, dl_climb, if_neg a1, if_neg a2]
    · have d1 := d4 q3 q2
      have d2 := dS_let d1 q (by omega) q6
      refine ⟨0, mo', i + 1 + q, rfl, k2, q7, q5, fun j j1 j2 => ?_, Or.inr ⟨rfl, by omega, by omega, fun e => ?_⟩⟩
      · by_cases e : j = i
        · rw [e, d1]; decide
        · have := dS_let d1 (j - i) (by omega) (fun k hk => q6 k (by omega))
          rw [show i + 1 + (j - i) = j + 1 by omega] at this
          omega
      · rw [dS_1, d2, dl_letter (by omega) (by omega), if_neg (q8 e)]
  · rw [if_neg (show ¬ nI 1 = (0 : Int32) by decide)]
    obtain ⟨y, mo', k1, k2, -, k3⟩ := mt_letters h ha hi
    rw [k1, show bd2 (some (y, mo')) (fun (r2 : Int32) (mo3 : Mo) => ck (zb r2) (some (r2, mo3))) = ck (zb y) (some (y, mo')) from rfl]
    rcases k3 with ⟨rfl, q1, q2, q3, -⟩ | ⟨rfl, q, q4, q5, q6, q7, q8⟩
    · refine ⟨1, mo', i + 4, rfl, k2, q3, q1, fun j j1 j2 => ?_, Or.inl ⟨rfl, by omega, dS_wlet hd 4 (by omega) (by omega) q2⟩⟩
      have := dS_wlet hd (j + 1 - i) (by omega) (by omega) (fun k hk => q2 k (by omega))
      rw [show i + (j + 1 - i) = j + 1 by omega] at this
      omega
    · refine ⟨0, mo', i + q, rfl, k2, q7, q5, fun j j1 j2 => ?_, Or.inr ⟨rfl, by omega, ?_, fun e => ?_⟩⟩
      · have := dS_wlet hd (j + 1 - i) (by omega) (by omega) (fun k hk => q6 k (by omega))
        rw [show i + (j + 1 - i) = j + 1 by omega] at this
        omega
      · by_cases e : q = 0
        · rw [e]
          show dS 1 c i ≠ 0
          rw [hd]; decide
        · rw [dS_wlet hd q (by omega) (by omega) q6]; omega
      · by_cases e2 : q = 0
        · subst e2
          show dS 1 c (i + 1) = 6
          rw [dS_1, hd, dl_word, if_neg (show ¬ (97 ≤ c i ∧ c i ≤ 104) from q8 e)]
        · rw [dS_1, dS_wlet hd q (by omega) (by omega) q6, dl_letter (by omega) (by omega), if_neg (q8 e)]
def ErrR (what len : Nat) (c : Nat → Nat) (y : Int32) : Prop := (∃ j, j < len ∧ dS what c (j + 1) = 6 ∧ (∀ i, i < j → dS what c (i + 1) ≠ 6) ∧ y = nI j) ∨ ((∀ j, j < len → dS what c (j + 1) ≠ 6) ∧ ((dS what c len = 0 ∧ y = -1) ∨ (dS what c len ≠ 0 ∧ y = nI len)))
theorem mt_err_L {what : Nat} (hw : what < 2) {len : Nat} {c : Nat → Nat} : ∀ (D i f : Nat) (mo : Mo), len - i ≤ D → D < f → MT mo len c → Mo_at mo = nI i → i ≤ len → dS what c i = 5 → (∀ j, j < i → dS what c (j + 1) ≠ 6) → ∃ y mo', fX6_findError_L5 (nI what) f mo = some (y, mo') ∧ Tsame mo mo' ∧ ErrR what len c y := by
  intro D
  induction D with
  | zero =>
    intro i f mo hD hf h ha hi hd g
    obtain ⟨f, rfl, -⟩ := pu_fuel hf
    obtain ⟨y, mo1, e, k1, k2, k3, k4, k5, k6⟩ := mt_part hw h ha hi hd
    rw [fX6_findError_L5, k1]
    rcases k6 with ⟨-, k6, -⟩ | ⟨rfl, k6, k7, k8⟩
    · omega
    · have : e = len := by omega
      subst this
      refine ⟨nI e, mo1, ?_, k2, Or.inr ⟨fun j hj => g j (by omega), Or.inr ⟨k7, rfl⟩⟩⟩
      rw [pu_bd2, if_pos (show (0 : Int32) = 0 from rfl), k3]
  | succ D ih =>
    intro i f mo hD hf h ha hi hd g
    obtain ⟨f, rfl, hf⟩ := pu_fuel hf
    obtain ⟨y, mo1, e, k1, k2, k3, k4, k5, k6⟩ := mt_part hw h ha hi hd
    have hl := h.1
    have h1 := h.same k2
    have g1 : ∀ j, j < e → dS what c (j + 1) ≠ 6 := fun j hj => by
      by_cases q : j < i
      · exact g j q
      · exact k5 j (by omega) hj
    rw [fX6_findError_L5, k1, pu_bd2]
    rcases k6 with ⟨rfl, k6, k7⟩ | ⟨rfl, k6, k7, k8⟩
    · rw [if_neg (show ¬ (1 : Int32) = 0 by decide), k3, h1.2.1]
      by_cases q : e = len
      · subst q
        rw [if_pos rfl]
        exact ⟨-1, mo1, rfl, k2, Or.inr ⟨g1, Or.inl ⟨k7, rfl⟩⟩⟩
      · have he : e < len := by omega
        have hc := h1.2.2 e he
        have hce : ch len c e = c e := if_pos he
        rw [if_neg (by rw [nI_eq (by omega) (by omega)]; exact q), mt_next h1 k3 k4, pu_bd, hce]
        have hdl : dS what c (e + 1) = if c e = (if what = 1 then 44 else 59) then 5 else 6 := by rw [dS_1, k7, dl_sep]
        have stop : dS what c (e + 1) = 6 → ErrR what len c (nI e) := fun z => Or.inl ⟨e, he, z, g1, rfl⟩
        have on : dS what c (e + 1) = 5 → ∃ y mo', fX6_findError_L5 (nI what) f (Mo_set_at mo1 (nI e + (1 : Int32))) = some (y, mo') ∧ Tsame mo mo' ∧ ErrR what len c y := fun z => by
          obtain ⟨y, mo2, m1, m2, m3⟩ := ih (e + 1) f (Mo_set_at mo1 (nI e + (1 : Int32))) (by omega) (by omega) (h1.same (Tsame_at _ _)) (by rw [nI_1]; rfl) (by omega) z (fun j hj => by
            by_cases q2 : j = e
            · rw [q2, z]; decide
            · exact g1 j (by omega))
          exact ⟨y, mo2, m1, (k2.trans (Tsame_at _ _)).trans m2, m3⟩
        rcases (show what = 0 ∨ what = 1 by omega) with rfl | rfl
        · rw [if_pos (show nI 0 = (0 : Int32) from rfl)]
          by_cases z : c e = 59
          · rw [if_pos (show nI (c e) = (59 : Int32) by rw [z]; rfl), pu_pl]
            exact on (by rw [hdl, if_pos (show c e = (if 0 = 1 then 44 else 59) from z)])
          · rw [if_neg (show ¬ nI (c e) = (59 : Int32) from fun q => z ((nI_eq (b := 59) (by omega) (by omega)).mp q))]
            exact ⟨nI e, mo1, rfl, k2, stop (by rw [hdl, if_neg (show ¬ c e = (if 0 = 1 then 44 else 59) from z)])⟩
        · rw [if_neg (show ¬ nI 1 = (0 : Int32) by decide)]
          by_cases z : c e = 44
          · rw [if_pos (show nI (c e) = (44 : Int32) by rw [z]; rfl), pu_pl]
            exact on (by rw [hdl, if_pos (show c e = (if 1 = 1 then 44 else 59) from z)])
          · rw [if_neg (show ¬ nI (c e) = (44 : Int32) from fun q => z ((nI_eq (b := 44) (by omega) (by omega)).mp q))]
            exact ⟨nI e, mo1, rfl, k2, stop (by rw [hdl, if_neg (show ¬ c e = (if 1 = 1 then 44 else 59) from z)])⟩
    · rw [if_pos (show (0 : Int32) = 0 from rfl), k3]
      refine ⟨nI e, mo1, rfl, k2, ?_⟩
      by_cases q : e = len
      · subst q
        exact Or.inr ⟨g1, Or.inr ⟨k7, rfl⟩⟩
      · exact Or.inl ⟨e, by omega, k8 (by omega), g1, rfl⟩
theorem mt_err {what : Nat} (hw : what < 2) {len : Nat} {c : Nat → Nat} {mo : Mo} (h : MT mo len c) : ∃ y mo', fX6_findError mo (nI what) = some (y, mo') ∧ Tsame mo mo' ∧ ErrR what len c y := by
  have hl := h.1
  obtain ⟨y, mo', k1, k2, k3⟩ := mt_err_L hw len 0 1000 (Mo_set_at mo 0) (by omega) (by omega) (h.same (Tsame_at _ _)) rfl (by omega) rfl (fun j hj => by omega)
  exact ⟨y, mo', k1, (Tsame_at mo 0).trans k2, k3⟩
theorem ErrR.m1 {what len : Nat} {c : Nat → Nat} {y : Int32} (hl : len ≤ 60) (h : ErrR what len c y) : y = -1 ↔ dS what c len = 0 := by
  rcases h with ⟨j, j1, j2, -, rfl⟩ | ⟨-, ⟨j1, rfl⟩ | ⟨j1, rfl⟩⟩
  · refine ⟨fun q => absurd q (pu_m1_ne (by omega)), fun q => ?_⟩
    have := dS_dead j2 (len - (j + 1))
    rw [show j + 1 + (len - (j + 1)) = len by omega, q] at this
    cases this
  · exact ⟨fun _ => j1, fun _ => rfl⟩
  · exact ⟨fun q => absurd q (pu_m1_ne (by omega)), fun q => absurd q j1⟩
/-- both tell the same error -/
theorem tx_err {what : Nat} (hw : what < 2) {tx : Tx} {len : Nat} {c : Nat → Nat} {mo : Mo} (h : TB tx mo len c) : ∃ y mo', fX3_errorIndex tx (nI what) = some y ∧ fX6_tellsError mo (nI what) = some (y, mo') ∧ Tsame mo mo' := by
  have hl := h.1
  obtain ⟨y, e1, e2⟩ := tx_err_L h hw len 0 1000 (by omega) (by omega) (fun j hj => by omega)
  obtain ⟨z, mo', k1, k2, k3⟩ := mt_err hw h.mt
  refine ⟨y, mo', e1, ?_, k2⟩
  unfold fX6_tellsError
  rw [k1, pu_bd2]
  have hlen : Mo_length mo' = nI len := (h.mt.same k2).2.1
  rcases k3 with ⟨j, j1, j2, j3, rfl⟩ | ⟨j1, j2⟩
  · rw [if_neg (pu_m1_ne (by omega))]
    rcases e2 with ⟨i, i1, i2, i3, rfl⟩ | ⟨i1, rfl⟩
    · have : i = j := by
        rcases Nat.lt_trichotomy i j with q | q | q
        · exact absurd i2 (j3 i q)
        · exact q
        · exact absurd j2 (i3 j q)
      rw [this]
    · exact absurd j2 (i1 j j1)
  · have hy : y = nI len := by
      rcases e2 with ⟨i, i1, i2, i3, rfl⟩ | ⟨i1, rfl⟩
      · exact absurd i2 (j1 i i1)
      · rfl
    rcases j2 with ⟨-, rfl⟩ | ⟨-, rfl⟩
    · rw [if_pos rfl, hlen, hy]
    · rw [if_neg (pu_m1_ne (by omega)), hy]
end ERR
