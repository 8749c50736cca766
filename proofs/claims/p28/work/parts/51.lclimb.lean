section CLM
section CV
variable {st : St} {vq vw vc vl : AI} {m n p l s r c : Nat} {cd : Nat → Nat}
theorem cl_num (hc : c < 3) {k : Nat} (hk : k ≤ 9) (tx : Tx) (is : Is) (wa : Wa) (hi : Hi) : fL_climber tx is wa st hi (nI c) (nI k) = fX5_climberNumber tx is wa st hi (nI c) (nI k) := by
  unfold fL_climber fX5_climber
  rw [pu_clm hc, pu_bd, if_neg (by decide), if_neg (nI_pos (by omega)), if_pos (show nI k ≤ (9 : Int32) from nI_le (b := 9) (by omega) (by omega))]
  cases fX5_climberNumber tx is wa st hi (nI c) (nI k) with
  | none => rfl
  | some a => rfl
theorem fact_v (h : CSx st (AA vq vw vc) m n p l s r cd) (hc : c < 3) {k : Nat} (hk : k < 7) : fX2_climberFact st (nI c) (nI k) = some (vc (7 * c + k)) := by
  obtain ⟨c0, c1, c2, c3, c4, c5, c6⟩ := cl_row (h.2.2.2.1 c hc) hc
  unfold fX2_climberFact
  rw [pu_clm hc, pu_bd, if_neg (by decide), pu_inb hc (by decide), pu_cl (k := c) (by omega)]
  rcases (show k = 0 ∨ k = 1 ∨ k = 2 ∨ k = 3 ∨ k = 4 ∨ k = 5 ∨ k = 6 by omega) with rfl | rfl | rfl | rfl | rfl | rfl | rfl
  · rw [if_pos (show nI 0 = (0 : Int32) from rfl), pu_ck, c0]
  · rw [if_neg (show ¬ nI 1 = (0 : Int32) by decide), if_pos (show nI 1 = (1 : Int32) from rfl), pu_ck, c1]
  · rw [if_neg (show ¬ nI 2 = (0 : Int32) by decide), if_neg (show ¬ nI 2 = (1 : Int32) by decide), if_pos (show nI 2 = (2 : Int32) from rfl), pu_ck, c2]
  · rw [if_neg (show ¬ nI 3 = (0 : Int32) by decide), if_neg (show ¬ nI 3 = (1 : Int32) by decide), if_neg (show ¬ nI 3 = (2 : Int32) by decide), if_pos (show nI 3 = (3 : Int32) from rfl), pu_ck, c3]
    split <;> rfl
  · rw [if_neg (show ¬ nI 4 = (0 : Int32) by decide), if_neg (show ¬ nI 4 = (1 : Int32) by decide), if_neg (show ¬ nI 4 = (2 : Int32) by decide), if_neg (show ¬ nI 4 = (3 : Int32) by decide), if_pos (show nI 4 = (4 : Int32) from rfl), pu_ck, c4]
  · rw [if_neg (show ¬ nI 5 = (0 : Int32) by decide), if_neg (show ¬ nI 5 = (1 : Int32) by decide), if_neg (show ¬ nI 5 = (2 : Int32) by decide), if_neg (show ¬ nI 5 = (3 : Int32) by decide), if_neg (show ¬ nI 5 = (4 : Int32) by decide), if_pos (show nI 5 = (5 : Int32) from rfl), pu_ck, c5]
  · rw [if_neg (show ¬ nI 6 = (0 : Int32) by decide), if_neg (show ¬ nI 6 = (1 : Int32) by decide), if_neg (show ¬ nI 6 = (2 : Int32) by decide), if_neg (show ¬ nI 6 = (3 : Int32) by decide), if_neg (show ¬ nI 6 = (4 : Int32) by decide), if_neg (show ¬ nI 6 = (5 : Int32) by decide), pu_ck, c6]
theorem cl_v (h : CSx st (AA vq vw vc) m n p l s r cd) (hc : c < 3) {k : Nat} (hk : k < 7) (tx : Tx) (is : Is) (wa : Wa) (hi : Hi) : fL_climber tx is wa st hi (nI c) (nI k) = some (vc (7 * c + k), wa) := by
  rw [cl_num hc (by omega)]
  unfold fX5_climberNumber
  rw [if_neg (show ¬ (7 : Int32) ≤ nI k from nI_ge (b := 7) hk (by omega)), fact_v h hc hk, pu_bd]
theorem cl_off (h : CSx st (AA vq vw vc) m n p l s r cd) (hc : c < 3) {k : Nat} (h7 : 7 ≤ k) (hk : k ≤ 9) (u : St_under st c = -1) (tx : Tx) (is : Is) (wa : Wa) (hi : Hi) : fL_climber tx is wa st hi (nI c) (nI k) = some (-1, wa) := by
  rw [cl_num hc (by omega)]
  unfold fX5_climberNumber
  rw [if_pos (show (7 : Int32) ≤ nI k from nI_le (a := 7) (by omega) (by omega)), pu_under hc, pu_bd, if_pos u]
/-- what tells how far a climber is, by the mark -/
theorem cl_on (h : CSx st (AA vq vw vc) m n p l s r cd) (hc : c < 3) {a z : Nat} (u : ¬ St_under st c = -1) (a4 : St_under st c = nI a) (a5 : St_ends st c = nI z) {k : Nat} (h7 : 7 ≤ k) (hk : k ≤ 9) (tx : Tx) (is : Is) (wa : Wa) (hi : Hi) : fL_climber tx is wa st hi (nI c) (nI k) = (if nI k = (7 : Int32) then (bd2 (fX4_onward wa st (nI a) (nI z) (if vc (7 * c + 3) = 1 then 1 else 0)) fun (r16 : Int32) (wa17 : Wa) => (some (r16, wa17))) else (if nI k = (8 : Int32) then (bd2 (fX4_backwards wa st (nI a) (nI z) (if vc (7 * c + 3) = 1 then 1 else 0)) fun (r19 : Int32) (wa20 : Wa) => (some (r19, wa20))) else (bd2 (fX4_firstWord wa st (nI a) (nI z) (if vc (7 * c + 3) = 1 then 1 else 0)) fun (r21 : Int32) (wa22 : Wa) => (some (r21, wa22))))) := by
  have f2 : fX2_climberFact st (nI c) (2 : Int32) = some (nI z) := by
    have := fact_v h hc (k := 2) (by decide)
    rw [(cl_row (h.2.2.2.1 c hc) hc).2.2.1, a5] at this
    exact this
  have f3 : fX2_climberFact st (nI c) (3 : Int32) = some (vc (7 * c + 3)) := fact_v h hc (k := 3) (by decide)
  rw [cl_num hc (by omega)]
  unfold fX5_climberNumber
  rw [if_pos (show (7 : Int32) ≤ nI k from nI_le (a := 7) (by omega) (by omega)), pu_under hc, pu_bd, if_neg u, f2, pu_bd, f3, pu_bd, a4]
  by_cases e : vc (7 * c + 3) = 1
  · rw [if_pos e, if_pos e]
  · rw [if_neg e, if_neg e]
end CV
section FST
variable {K B : Nat → Nat → Prop} {a z : Nat} {go : Prop}
theorem Bs_zero : Bs B 0 = B := by
  funext u w
  show B (0 + u) w = B u w
  rw [Nat.zero_add]
/-- where the end is more than no turn away, there is a first word -/
theorem Cd_ex {k : Nat} (haz : a ≠ z) (h : Hit K B a go z (k + 1)) (hm : ∀ j, j < k + 1 → ¬ Hit K B a go z j) : ∃ w, Cd K B a go z k w := by
  by_cases g : go
  · obtain rfl : go = True := eq_true g
    have h1 : Hit K (Bs B 0) a True z (k + 1) := by rw [Bs_zero]; exact h
    obtain ⟨v, v1, v2⟩ := Hit_first.mp h1
    have back : ∀ j, Hit K (Bs B 1) v True z j → Hit K B a True z (j + 1) := fun j q => by
      have := Hit_first.mpr ⟨v, v1, q⟩
      rwa [Bs_zero] at this
    refine ⟨v, ?_, v1.2, ?_, v2, fun j hj q => hm (j + 1) (by omega) (back j q)⟩
    · rcases v1.1 with q | ⟨q1, q2⟩
      · exact Or.inl q
      · exact Or.inr ⟨trivial, q1, q2⟩
    · rintro rfl
      rcases v1.1 with q | ⟨q1, q2⟩
      · exact haz q.symm
      · refine hm 0 (by omega) ?_
        have := (Hit_0 (K := K) (B := B) (z := v) (t := 0) (w := a)).mpr ⟨q1, q2⟩
        rwa [Bs_zero] at this
  · obtain rfl : go = False := eq_false g
    obtain ⟨v1, v2⟩ := Hit_went.mp h
    exact ⟨a, Or.inl rfl, v1, haz, v2, fun j hj q => hm (j + 1) (by omega) (Hit_went.mpr ⟨v1, q⟩)⟩
end FST
theorem ic_L6 {tx : Tx} {is : Is} {st : St} {hi : Hi} {vq vw vc : AI} {m n p l s r c : Nat} {cd : Nat → Nat} (h : CSx st (AA vq vw vc) m n p l s r cd) (hc : c < 3) (wa : Wa) : ∀ (d k f : Nat), k + d = 7 → d < f → fL_isClimber_L6 tx is st hi vc (nI c) f 1 (nI k) wa = some (1, wa) := by
  intro d
  induction d with
  | zero =>
    intro k f hk hf
    obtain ⟨f, rfl, -⟩ := pu_fuel hf
    rw [fL_isClimber_L6, if_pos (show (7 : Int32) ≤ nI k from nI_le (a := 7) (by omega) (by omega))]
  | succ d ih =>
    intro k f hk hf
    obtain ⟨f, rfl, hf⟩ := pu_fuel hf
    obtain ⟨i1, i2⟩ := i21 (k := k) hc (by omega)
    rw [fL_isClimber_L6, if_neg (show ¬ (7 : Int32) ≤ nI k from nI_ge (b := 7) (by omega) (by omega)), if_neg (by decide), cl_v h hc (by omega), pu_bd2, i1, i2, pu_ck, if_pos rfl, pu_bd2, pu_pl, nI_1]
    exact ih (k + 1) f (by omega) (by omega)
theorem is_climber {st : St} {vq vw vc vl : AI} {m n p l s r c : Nat} {cd : Nat → Nat} (h : CSx st (AA vq vw vc) m n p l s r cd) (hl : LL vl n r cd) (hc : c < 3) (tx : Tx) (is : Is) (wa : Wa) (hi : Hi) : ∃ wa', fL_isClimber tx is wa st hi vq vw vc vl (nI c) = some (1, wa') := by
  have hQ := h.2.2.1.lq
  have hn := h.1.2.2.2.2.2.1
  obtain ⟨c0, c1, c2, c3, c4, c5, c6⟩ := cl_row (h.2.2.2.1 c hc) hc
  have c8 := (h.2.2.2.1 c hc).2.2.2.2.2.2.2.2
  have c7 := (h.2.2.2.1 c hc).2.2.2.2.2.2.2.1
  have e6 : fL_isClimber_L6 tx is st hi vc (nI c) 1000 (1 : Int32) (0 : Int32) wa = some (1, wa) := ic_L6 h hc wa 7 0 1000 rfl (by decide)
  unfold fL_isClimber
  rw [e6, pu_bd2, L21_0 hc, C21_0 hc, pu_ck, L21_2 hc, C21_2 hc, L21_3 hc, C21_3 hc, c0]
  by_cases u : St_under st c = -1
  · have k7 : fL_climber tx is wa st hi (nI c) (7 : Int32) = some (-1, wa) := cl_off h hc (k := 7) (by decide) (by decide) u tx is wa hi
    have k8 : fL_climber tx is wa st hi (nI c) (8 : Int32) = some (-1, wa) := cl_off h hc (k := 8) (by decide) (by decide) u tx is wa hi
    have k9 : fL_climber tx is wa st hi (nI c) (9 : Int32) = some (-1, wa) := cl_off h hc (k := 9) (by decide) (by decide) u tx is wa hi
    rw [if_neg (show ¬ (0 : Int32) ≤ St_under st c by rw [u]; decide), if_neg (by decide), k7, pu_bd2, if_pos rfl, k8, pu_bd2, if_pos rfl, k9, pu_bd2, if_pos rfl, pu_bd2, zb_1, pu_ck]
    exact ⟨wa, rfl⟩
  · obtain ⟨a, z, a1, a2, a3, a4, a5⟩ := c8.resolve_left u
    have e3 : (if vc (7 * c + 3) = (1 : Int32) then (some (1 : Int32)) else (some (0 : Int32))) = some (if vc (7 * c + 3) = 1 then 1 else 0) := by split <;> rfl
    have hgo : (if vc (7 * c + 3) = 1 then (1 : Int32) else 0) = 0 ↔ ¬ vc (7 * c + 3) = 1 := by
      by_cases q : vc (7 * c + 3) = 1
      · rw [if_pos q]; exact ⟨fun z => absurd z (by decide), fun z => absurd q z⟩
      · rw [if_neg q]; exact ⟨fun _ => q, fun _ => rfl⟩
    obtain ⟨y, f1, f2⟩ := lw_fewest hQ hl a1 a2 a3 hgo
    have k7 : ∀ wa, fL_climber tx is wa st hi (nI c) (7 : Int32) = (bd2 (fX4_onward wa st (nI a) (nI z) (if vc (7 * c + 3) = 1 then 1 else 0)) fun (r16 : Int32) (wa17 : Wa) => (some (r16, wa17))) := fun wa => by
      have := cl_on h hc u a4 a5 (k := 7) (by decide) (by decide) tx is wa hi
      rw [if_pos (show nI 7 = (7 : Int32) from rfl)] at this
      exact this
    have k8 : ∀ wa, fL_climber tx is wa st hi (nI c) (8 : Int32) = (bd2 (fX4_backwards wa st (nI a) (nI z) (if vc (7 * c + 3) = 1 then 1 else 0)) fun (r19 : Int32) (wa20 : Wa) => (some (r19, wa20))) := fun wa => by
      have := cl_on h hc u a4 a5 (k := 8) (by decide) (by decide) tx is wa hi
      rw [if_neg (show ¬ nI 8 = (7 : Int32) by decide), if_pos (show nI 8 = (8 : Int32) from rfl)] at this
      exact this
    have k9 : ∀ wa, fL_climber tx is wa st hi (nI c) (9 : Int32) = (bd2 (fX4_firstWord wa st (nI a) (nI z) (if vc (7 * c + 3) = 1 then 1 else 0)) fun (r21 : Int32) (wa22 : Wa) => (some (r21, wa22))) := fun wa => by
      have := cl_on h hc u a4 a5 (k := 9) (by decide) (by decide) tx is wa hi
      rw [if_neg (show ¬ nI 9 = (7 : Int32) by decide), if_neg (show ¬ nI 9 = (8 : Int32) by decide)] at this
      exact this
    obtain ⟨y7, wa7, w1, w2⟩ := pu_onw h.1 h.2.1 a1 a2 hgo wa
    obtain ⟨y8, wa8, x1, x2⟩ := pu_bw h.1 h.2.1 a1 a2 a3 hgo wa7
    obtain ⟨y9, wa9, v1, v2⟩ := pu_fw h.1 h.2.1 a1 a2 hgo wa8
    obtain ⟨z9, wb9, t1, t2⟩ := pu_fw h.1 h.2.1 a1 a2 hgo wa9
    have u7 := w2.uniq f2
    have u8 := x2.uniq f2
    have u9 := t2.uniq v2
    subst u7
    subst u8
    subst u9
    obtain ⟨r9, r1, r2⟩ := v2
    have ur := r1.uniq w2
    subst ur
    -- none just where the end can't be come to; the end itself where it is at hand
    have fin : (z9 = -1 ↔ r9 = -1) ∧ (r9 = 0 → z9 = nI z) := by
      rcases r2 with ⟨rfl, rfl⟩ | ⟨rfl, rfl⟩ | ⟨k, k1, rfl, k2⟩
      · exact ⟨⟨fun q => absurd q (pu_m1_ne (by omega)), fun q => absurd q (by decide)⟩, fun _ => rfl⟩
      · exact ⟨⟨fun _ => rfl, fun _ => rfl⟩, fun q => absurd q (by decide)⟩
      · refine ⟨⟨fun q => ?_, fun q => absurd q (pu_m1_ne (by omega))⟩, fun q => ?_⟩
        · rcases k2 with ⟨w, w1, -, -, rfl⟩ | ⟨k2, -⟩
          · exact absurd q (pu_m1_ne (by omega))
          · rcases r1 with ⟨j, j1, j2, j3, j4⟩ | ⟨-, j4⟩
            · have : j = k + 1 := ((nI_eq (by omega) (by omega)).mp j4).symm
              subst this
              obtain ⟨w, hw⟩ := Cd_ex a3 j2 j3
              have hw24 : w < 24 := by
                rcases hw.1 with q | ⟨-, -, q⟩
                · omega
                · have := q.2.1; omega
              exact absurd hw (k2 w hw24)
            · exact absurd j4 (pu_m1_ne (by omega))
        · rw [show (0 : Int32) = nI 0 from rfl, nI_eq (by omega) (by decide)] at q
          omega
    have j9 : (if z9 = (-1 : Int32) then (some (1 : Int32)) else (some (0 : Int32))) = some (if r9 = -1 then 1 else 0) := by
      by_cases q : r9 = -1
      · rw [if_pos (fin.1.mpr q), if_pos q]
      · rw [if_neg (fun w => q (fin.1.mp w)), if_neg q]
    have jr : (if r9 = (-1 : Int32) then (some (1 : Int32)) else (some (0 : Int32))) = some (if r9 = -1 then 1 else 0) := by split <;> rfl
    rw [if_pos (show (0 : Int32) ≤ St_under st c by rw [a4]; exact nI_pos' (by omega)), pu_ck, pu_ck, pu_ck, e3, pu_bd, c2, a5, a4, f1, pu_bd, if_neg (by decide), k7, w1, pu_bd2, pu_bd2, if_pos rfl, k8, x1, pu_bd2, pu_bd2, if_pos rfl, k9, v1, pu_bd2, pu_bd2, j9, pu_bd, jr, pu_bd, if_pos rfl]
    by_cases q : r9 = 0
    · rw [if_pos q, k9, t1, pu_bd2, pu_bd2, pu_ck, if_pos (fin.2 q), pu_bd2, zb_1, pu_ck]
      exact ⟨wb9, rfl⟩
    · rw [if_neg q, pu_bd2, zb_1, pu_ck]
      exact ⟨wa9, rfl⟩
end CLM
