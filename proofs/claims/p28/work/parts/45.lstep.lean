section STP
theorem up_CS {st st' : St} {A A' : AI} {m n p l s r p' l' s' r' : Nat} {cd : Nat → Nat} (h : CSx st A m n p l s r cd) (hB : Base st' n p' l' s' r' cd) (hL : Lks (St_links st') n r' cd) (hM : A' 0 = A 0 ∧ A' 1 = nI p' ∧ A' 2 = nI l' ∧ A' 3 = nI s' ∧ A' 4 = nI r') (hA : ∀ k, 5 ≤ k → A' k = A k) (hs : ∀ n c, c < 3 → Cl1 st A n c → Cl1 st' A n c) (hc : ∀ m, Cnt st A m → Cnt st' A m) : CSx st' A' m n p' l' s' r' cd := by
  obtain ⟨h1, h2, h3, h4, h5⟩ := h
  obtain ⟨b1, b2, b3, b4, b5, b6, b7, b8, b9, b10, b11⟩ := hB
  obtain ⟨a1, a2, a3, a4, a5, a6, a7, a8, a9, a10, a11⟩ := h3
  obtain ⟨m0, m1, m2, m3, m4⟩ := hM
  refine ⟨⟨b1, b2, b3, b4, b5, b6, b7, b8, b9, b10, b11⟩, hL, ⟨by rw [m0]; exact a1, m1, m2, m3, m4, a6, b7, b8, b9, b10, fun w hw => by rw [hA _ (by omega)]; exact a11 w hw⟩, fun c hc => ?_, ?_⟩
  · have := hs n c hc (h4 c hc)
    unfold Cl1 at this ⊢
    rw [hA _ (by omega), hA _ (by omega), hA _ (by omega), hA _ (by omega), hA _ (by omega), hA _ (by omega), hA _ (by omega)]
    exact this
  · have := hc m h5
    unfold Cnt at this ⊢
    rw [hA _ (by omega), hA _ (by omega), hA _ (by omega), hA _ (by omega), hA _ (by omega)]
    exact this
theorem CSx.mono {st : St} {A : AI} {m k n p l s r : Nat} {cd : Nat → Nat} (h : CSx st A m n p l s r cd) (hk : m ≤ k) : CSx st A k n p l s r cd := ⟨h.1, h.2.1, h.2.2.1, h.2.2.2.1, h.2.2.2.2.mono hk⟩
/-! the saved states: how many; what undo gives back -/
def HOK (hi : Hi) : Prop := ∃ k, k ≤ 6 ∧ Hi_size hi = nI k
def Und (st : St) (hi : Hi) : Prop := HOK hi ∧ ∀ (tx : Tx) (is : Is) (wa : Wa) (st2 : St), ∃ (k : Nat) (hi2 : Hi), k ≤ 6 ∧ fL_undo tx is wa st2 hi = some (nI k, st, hi2) ∧ HOK hi2
theorem und_of {st : St} {hi : Hi} {k : Nat} (hk : k < 6) (h1 : Hi_size hi = nI (k + 1)) (h2 : (Hi_sv hi k).2 = st) : Und st hi := by
  refine ⟨⟨k + 1, by omega, h1⟩, fun tx is wa st2 => ⟨k, Hi_set_size hi (nI k), by omega, ?_, ⟨k, by omega, rfl⟩⟩⟩
  unfold fL_undo fX5_undo fX0_restoreLatest
  have e1 : nI (k + 1) - (1 : Int32) = nI k := nI_pred k
  rw [h1, if_neg (show ¬ nI (k + 1) = (0 : Int32) by rw [show (0 : Int32) = nI 0 from rfl, nI_eq (by omega) (by decide)]; omega), if_neg (show ¬ nI (k + 1) ≤ (0 : Int32) from nI_nle (by omega) (by omega)), if_neg (show ¬ (6 : Int32) < nI (k + 1) from nI_nlt (a := 6) (by omega) (by omega)), e1, pu_cl (by omega), h2, pu_bd2]
  rfl
theorem updS_at (f : Nat → (Nat → Nat) × St) (k : Nat) (x : (Nat → Nat) × St) : updS f k x k = x := if_pos rfl
theorem hs1 {st : St} {hi : Hi} (h : HOK hi) : ∃ hi', fX0_save st hi = some hi' ∧ Und st hi' := by
  obtain ⟨k, h1, h2⟩ := h
  unfold fX0_save hi_push hi_full
  by_cases e : k = 6
  · subst e
    rw [if_pos (show (6 : Int32) ≤ Hi_size hi by rw [h2]; decide)]
    rw [show Hi_size (Hi_set_size (Hi_set_sv hi (rotS (Hi_sv hi))) 5) = (5 : Int32) from rfl, if_neg (by decide), if_neg (by decide)]
    refine ⟨_, rfl, und_of (k := 5) (by decide) rfl ?_⟩
    show (updS (rotS (Hi_sv hi)) (5 : Int32).toNatClampNeg _ 5).2 = st
    rw [z10_5]
    exact congrArg Prod.snd (updS_at _ _ _)
  · have n6 : ¬ (6 : Int32) ≤ Hi_size hi := by rw [h2]; exact nI_ge (b := 6) (by omega) (by omega)
    rw [if_neg n6, if_neg (by rw [h2]; exact nI_pos (by omega)), if_neg n6]
    refine ⟨_, rfl, und_of (k := k) (by omega) ?_ ?_⟩
    · show Hi_size hi + 1 = _
      rw [h2, nI_1]
    · show (updS (Hi_sv hi) (Hi_size hi).toNatClampNeg _ k).2 = st
      rw [h2, pu_cl (by omega)]
      exact congrArg Prod.snd (updS_at _ _ _)
def StepR (tx : Tx) (is : Is) (wa : Wa) (st : St) (hi : Hi) (vq vw vc vl : AI) (m : Nat) (k a b e : Int32) : Prop := ∃ (res : Int32) (tx' : Tx) (wa' : Wa) (st' : St) (hi' : Hi) (vq' vw' vc' : AI) (n p l s r : Nat) (cd : Nat → Nat), fL_call tx is wa st hi k a b e = some (res, tx', wa', st', hi') ∧ fL_due vq vw vc vl k a b e = some (res, vq', vw', vc') ∧ CSx st' (AA vq' vw' vc') (m + 1) n p l s r cd ∧ HOK hi' ∧ ((¬ (-100 : Int32) ≤ res ∧ st' = st) ∨ ((-100 : Int32) ≤ res ∧ Und st hi'))
theorem ge100 {k : Nat} (hk : k < 2 ^ 31) : (-100 : Int32) ≤ nI k := by
  rw [fa_le, nI_toInt hk, show (-100 : Int32).toInt = -100 by decide]
  omega
theorem ge100m : (-100 : Int32) ≤ -1 := by decide
theorem IsMin.ge {P : Nat → Prop} {r : Int32} (h : IsMin P r) : (-100 : Int32) ≤ r := by
  rcases h with ⟨k, h1, -, -, rfl⟩ | ⟨-, rfl⟩
  · exact ge100 (by omega)
  · exact ge100m
section ST
variable {tx : Tx} {is : Is} {wa : Wa} {st : St} {hi : Hi} {vq vw vc vl : AI} {m n p l s r : Nat} {cd : Nat → Nat}
theorem step_turn (h : CSx st (AA vq vw vc) m n p l s r cd) (hh : HOK hi) (a b e : Int32) : StepR tx is wa st hi vq vw vc vl m 3 a b e := by
  obtain ⟨hi', q1, q2⟩ := hs1 (st := st) hh
  obtain ⟨k, st', vq', vc', t1, t2, t3, t4⟩ := cs_turn h
  refine ⟨nI k, tx, wa, st', hi', vq', vw, vc', _, _, _, _, _, _, ?_, ?_, t4.mono (by omega), q2.1, Or.inr ⟨ge100 (by omega), q2⟩⟩
  · unfold fL_call fX5_turn
    rw [if_neg (by decide), if_neg (by decide), if_neg (by decide), if_pos rfl, q1, pu_bd, t1, pu_bd2, pu_bd3]
  · unfold fL_due
    rw [if_neg (by decide), if_pos rfl, t2, pu_bd3]
theorem step_leave {c : Nat} (h : CSx st (AA vq vw vc) m n p l s r cd) (hh : HOK hi) (hc : c < 3) (b e : Int32) : StepR tx is wa st hi vq vw vc vl m 4 (nI c) b e := by
  obtain ⟨c0, c1, c2, c3, c4, c5, c6⟩ := cl_row (h.2.2.2.1 c hc) hc
  have c8 := (h.2.2.2.1 c hc).2.2.2.2.2.2.2.2
  have hn := h.1.2.2.2.2.2.1
  have d0 : fL_due vq vw vc vl 4 (nI c) b e = (bd (if (0 : Int32) ≤ St_under st c then some (St_under st c) else some (-103 : Int32)) fun (j69 : Int32) => some (j69, vq, vw, upd (upd vc (7 * c + 0) (-1)) (7 * c + 3) 0)) := by
    unfold fL_due
    rw [if_neg (by decide), if_neg (by decide), if_pos (by decide), if_pos rfl, L21_0 hc, C21_0 hc, pu_ck, pu_pl, pu_ck, pu_pl, L21_3 hc, C21_3 hc, pu_ck, pu_pl, c0]
  by_cases u : St_under st c = -1
  · rw [u, if_neg (by decide), pu_bd] at d0
    have s0 : upd vc (7 * c + 0) (-1) = vc := fa_upd_same (by rw [c0, u])
    rw [if_pos u] at c3
    rw [s0, fa_upd_same c3] at d0
    refine ⟨-103, tx, wa, st, hi, vq, vw, vc, _, _, _, _, _, _, ?_, d0, h.mono (by omega), hh, Or.inl ⟨by decide, rfl⟩⟩
    unfold fL_call fL_leave fX5_leave
    rw [if_neg (by decide), if_neg (by decide), if_neg (by decide), if_neg (by decide), if_pos rfl, pu_clm hc, pu_bd, if_neg (by decide), pu_under hc, pu_bd, if_pos u]
    rfl
  · obtain ⟨a, z, a1, a2, a3, a4, a5⟩ := c8.resolve_left u
    rw [if_pos (show (0 : Int32) ≤ St_under st c by rw [a4]; exact nI_pos' (by omega)), pu_bd] at d0
    obtain ⟨st', t1, t2⟩ := cs_off h hc
    obtain ⟨hi', q1, q2⟩ := hs1 (st := st) hh
    rw [← AA_uc7 hc (by decide), ← AA_uc7 hc (by decide)] at t2
    refine ⟨St_under st c, tx, wa, st', hi', vq, vw, _, _, _, _, _, _, _, ?_, d0, t2.mono (by omega), q2.1, Or.inr ⟨by rw [a4]; exact ge100 (by omega), q2⟩⟩
    unfold fL_call fL_leave fX5_leave
    rw [if_neg (by decide), if_neg (by decide), if_neg (by decide), if_neg (by decide), if_pos rfl, pu_clm hc, pu_bd, if_neg (by decide), pu_under hc, pu_bd, if_neg u, q1, pu_bd, t1, pu_bd]
    rfl
theorem hasWord_n (h : Base st n p l s r cd) : fX2_hasWord st (nI n) = some 0 := by
  have hn := h.2.2.2.2.2.1
  unfold fX2_hasWord
  rw [if_neg (nI_pos (by omega)), h.1, if_pos (nI_le (Nat.le_refl n) (by omega))]
theorem step_climb {c w : Nat} (h : CSx st (AA vq vw vc) m n p l s r cd) (hh : HOK hi) (hc : c < 3) (hw : w ≤ n) (e : Int32) : StepR tx is wa st hi vq vw vc vl m 2 (nI c) (nI w) e := by
  have hn := h.1.2.2.2.2.2.1
  have q0 := h.2.2.1.lq.1
  by_cases ew : w = n
  · subst ew
    refine ⟨-101, tx, wa, st, hi, vq, vw, vc, _, _, _, _, _, _, ?_, ?_, h.mono (by omega), hh, Or.inl ⟨by decide, rfl⟩⟩
    · unfold fL_call fL_climb fX5_climb
      rw [if_neg (by decide), if_neg (by decide), if_pos rfl, pu_clm hc, pu_bd, if_neg (by decide), hasWord_n h.1, pu_bd, if_pos rfl]
      rfl
    · unfold fL_due
      rw [if_neg (by decide), if_neg (by decide), if_pos (by decide), if_neg (by decide), z10_0, q0, if_pos (nI_le (Nat.le_refl w) (by omega))]
  · have hw : w < n := by omega
    obtain ⟨y, e1, e2, e4⟩ := cs_why h hc hw
    have d0 : fL_due vq vw vc vl 2 (nI c) (nI w) e = (bd3 (if y = (0 : Int32) then (bd3 (fL_climbs vq vc (nI c) (nI w)) fun (r33 : Int32) (vq34 : AI) (vc35 : AI) => (some (r33, vq34, vc35))) else (some ((-103 : Int32), vq, vc))) fun (j29 : Int32) (vq30 : AI) (vc31 : AI) => (some (j29, vq30, vw, vc31))) := by
      unfold fL_due
      rw [if_neg (by decide), if_neg (by decide), if_pos (by decide), if_neg (by decide), z10_0, q0, if_neg (nI_ge hw (by omega)), if_neg (by decide), if_pos rfl, e2, pu_bd]
    have k0 : fL_call tx is wa st hi 2 (nI c) (nI w) e = (bd3 (fL_climb tx is wa st hi (nI c) (nI w)) fun (r12 : Int32) (st13 : St) (hi14 : Hi) => (some (r12, tx, wa, st13, hi14))) := by
      unfold fL_call
      rw [if_neg (by decide), if_neg (by decide), if_pos rfl]
    by_cases hy : y = 0
    · obtain ⟨hi', q1, q2⟩ := hs1 (st := st) hh
      obtain ⟨b, st', vq', vc', A', t1, t2, tA, t3, t4⟩ := cs_move rfl h hc hw (e4 hy)
      subst tA
      rw [if_pos hy, t2, pu_bd3, pu_bd3] at d0
      refine ⟨b, tx, wa, st', hi', vq', vw, vc', _, _, _, _, _, _, ?_, d0, t3, q2.1, Or.inr ⟨?_, q2⟩⟩
      · rw [k0]
        unfold fL_climb fX5_climb
        rw [pu_clm hc, pu_bd, if_neg (by decide), pu_hasWord h.1 hw, pu_bd, if_neg (by decide), e1, pu_bd, if_pos hy, q1, pu_bd, t1, pu_bd2]
        rcases t4 with rfl | rfl
        · rw [if_pos rfl]; rfl
        · rw [if_neg (by decide)]; rfl
      · rcases t4 with rfl | rfl <;> decide
    · rw [if_neg hy, pu_bd3] at d0
      refine ⟨-103, tx, wa, st, hi, vq, vw, vc, _, _, _, _, _, _, ?_, d0, h.mono (by omega), hh, Or.inl ⟨by decide, rfl⟩⟩
      rw [k0]
      unfold fL_climb fX5_climb
      rw [pu_clm hc, pu_bd, if_neg (by decide), pu_hasWord h.1 hw, pu_bd, if_neg (by decide), e1, pu_bd, if_neg hy]
      rfl
theorem step_put {c w z : Nat} (h : CSx st (AA vq vw vc) m n p l s r cd) (hl : LL vl n r cd) (hh : HOK hi) (hc : c < 3) (hw : w ≤ n) (hz : z ≤ n) : StepR tx is wa st hi vq vw vc vl m 1 (nI c) (nI w) (nI z) := by
  have hn := h.1.2.2.2.2.2.1
  have hQ := h.2.2.1.lq
  have q0 := hQ.1
  have k0 : fL_call tx is wa st hi 1 (nI c) (nI w) (nI z) = (bd4 (fL_put tx is wa st hi (nI c) (nI w) (nI z)) fun (r7 : Int32) (wa8 : Wa) (st9 : St) (hi10 : Hi) => (some (r7, tx, wa8, st9, hi10))) := by
    unfold fL_call
    rw [if_neg (by decide), if_pos rfl]
  have bad : ∀ (kx : Nat) (cx : Int32), fL_put tx is wa st hi (nI c) (nI w) (nI z) = some (cx, wa, st, hi) → fL_due vq vw vc vl 1 (nI c) (nI w) (nI z) = some (cx, vq, vw, vc) → ¬ (-100 : Int32) ≤ cx → StepR tx is wa st hi vq vw vc vl m 1 (nI c) (nI w) (nI z) := fun _ cx a1 a2 a3 =>
    ⟨cx, tx, wa, st, hi, vq, vw, vc, _, _, _, _, _, _, by rw [k0, a1, pu_bd4], a2, h.mono (by omega), hh, Or.inl ⟨a3, rfl⟩⟩
  by_cases ew : w = n
  · subst ew
    refine bad 0 (-101) ?_ ?_ (by decide)
    · unfold fL_put fX5_put
      rw [pu_clm hc, pu_bd, if_neg (by decide), hasWord_n h.1, pu_bd, if_pos rfl]
      rfl
    · unfold fL_due
      rw [if_neg (by decide), if_neg (by decide), if_pos (by decide), if_neg (by decide), z10_0, q0, if_pos (nI_le (Nat.le_refl w) (by omega))]
  · have hw : w < n := by omega
    by_cases ez : z = n
    · subst ez
      refine bad 0 (-101) ?_ ?_ (by decide)
      · unfold fL_put fX5_put
        rw [pu_clm hc, pu_bd, if_neg (by decide), pu_hasWord h.1 hw, pu_bd, if_neg (by decide), hasWord_n h.1, pu_bd, if_pos rfl]
        rfl
      · unfold fL_due
        rw [if_neg (by decide), if_neg (by decide), if_pos (by decide), if_neg (by decide), z10_0, q0, if_neg (nI_ge hw (by omega)), if_pos rfl, if_neg (nI_nlt (Nat.le_refl z) (by omega))]
    · have hz : z < n := by omega
      have d1 : fL_due vq vw vc vl 1 (nI c) (nI w) (nI z) = (if nI w = nI z then (bd (if nI w = nI z then (some (-102 : Int32)) else (some (-103 : Int32))) fun (j39 : Int32) => (some (j39, vq, vw, vc))) else (if (0 : Int32) ≤ St_under st c then (bd (if nI w = nI z then (some (-102 : Int32)) else (some (-103 : Int32))) fun (j42 : Int32) => (some (j42, vq, vw, vc))) else (bd (fL_on vc (nI w)) fun (r44 : Int32) => (if (0 : Int32) ≤ r44 then (bd (if nI w = nI z then (some (-102 : Int32)) else (some (-103 : Int32))) fun (j46 : Int32) => (some (j46, vq, vw, vc))) else (bd (fL_isBarred vq (nI (cd w)) (0 : Int32)) fun (r48 : Int32) => (if r48 = (0 : Int32) then (bd (fL_fewest vq vw vl (nI w) (nI z) (0 : Int32)) fun (r55 : Int32) => (some (r55, vq, vw, upd (upd (upd (upd (upd vc (7 * c + 0) (nI w)) (7 * c + 1) (nI w)) (7 * c + 2) (nI z)) (7 * c + 3) 0) (7 * c + 4) 0))) else (bd (if nI w = nI z then (some (-102 : Int32)) else (some (-103 : Int32))) fun (j56 : Int32) => (some (j56, vq, vw, vc))))))))) := by
        have c0 := (cl_row (h.2.2.2.1 c hc) hc).1
        unfold fL_due
        rw [if_neg (by decide), if_neg (by decide), if_pos (by decide), if_neg (by decide), z10_0, q0, if_neg (nI_ge hw (by omega)), if_pos rfl, if_pos (nI_lt hz (by omega)), if_neg (by decide), L21_0 hc, C21_0 hc, L21_1 hc, C21_1 hc, L21_2 hc, C21_2 hc, L21_3 hc, C21_3 hc, L21_4 hc, C21_4 hc, pu_inb (k := w) (by omega) (by decide), pu_cl (k := w) (by omega), (hQ.2.2.2.2.2.2.2.2.2.2 w hw).1, c0]
        rfl
      by_cases eaz : w = z
      · have ez2 : nI w = nI z := by rw [eaz]
        refine bad 0 (-102) ?_ ?_ (by decide)
        · unfold fL_put fX5_put
          rw [pu_clm hc, pu_bd, if_neg (by decide), pu_hasWord h.1 hw, pu_bd, if_neg (by decide), pu_hasWord h.1 hz, pu_bd, if_neg (by decide), if_pos ez2]
          rfl
        · rw [d1, if_pos ez2, if_pos ez2, pu_bd]
      · have eaz' : ¬ nI w = nI z := by rw [nI_eq (by omega) (by omega)]; exact eaz
        have k1 : fX5_put tx is wa st hi (nI c) (nI w) (nI z) = (if St_under st c = (-1 : Int32) then (bd (fX2_climberOn st (nI w)) fun (r10 : Int32) => (if r10 = (-1 : Int32) then (bd (fX2_isBarredAfter st (nI w) (0 : Int32)) fun (r12 : Int32) => (if r12 = (0 : Int32) then (bd (fX0_save st hi) fun (hi14 : Hi) => (bd (fX2_putOn st (nI c) (nI w) (nI z)) fun (st15 : St) => (bd2 (fX4_onward wa st15 (nI w) (nI z) (0 : Int32)) fun (r16 : Int32) (wa17 : Wa) => (some (.inr (r16, wa17, st15, hi14)))))) else (some (.inl 3)))) else (some (.inl 3)))) else (some (.inl 3))) := by
          unfold fX5_put
          rw [pu_clm hc, pu_bd, if_neg (by decide), pu_hasWord h.1 hw, pu_bd, if_neg (by decide), pu_hasWord h.1 hz, pu_bd, if_neg (by decide), if_neg eaz', pu_under hc, pu_bd]
        rw [if_neg eaz'] at d1
        have thr : fX5_put tx is wa st hi (nI c) (nI w) (nI z) = some (.inl 3) → fL_put tx is wa st hi (nI c) (nI w) (nI z) = some (-103, wa, st, hi) := fun q => by
          unfold fL_put
          rw [q]
          rfl
        by_cases u : St_under st c = -1
        · obtain ⟨y, m1, m2, m3⟩ := cs_con (vc := vc) (st := st) (nI w) (fun c hc => (cl_row (h.2.2.2.1 c hc) hc).1)
          rw [if_neg (show ¬ (0 : Int32) ≤ St_under st c by rw [u]; decide), m2, pu_bd] at d1
          rw [if_pos u, m1, pu_bd] at k1
          rcases m3 with ⟨c', m4, m5, rfl⟩ | ⟨m4, rfl⟩
          · rw [if_pos (nI_pos' (by omega)), if_neg eaz', pu_bd] at d1
            rw [if_neg (pu_m1_ne (by omega))] at k1
            exact bad 0 (-103) (thr k1) d1 (by decide)
          · rw [if_neg m1_neg] at d1
            rw [if_pos rfl] at k1
            obtain ⟨v, g1, g2⟩ := pu_isBarred h.1 (t := 0) (by decide) hw
            obtain ⟨v6, x1, x2⟩ := lw_isBarred hQ hw (t := 0) (by decide)
            have g1' : fX2_isBarredAfter st (nI w) (0 : Int32) = some v := g1
            have x1' : fL_isBarred vq (nI (cd w)) (0 : Int32) = some v6 := x1
            rw [x1', pu_bd] at d1
            rw [g1', pu_bd] at k1
            have hv : v = v6 ∧ (v = 0 ∨ v = 1) := by
              rcases g2 with ⟨rfl, z1⟩ | ⟨rfl, z1⟩ <;> rcases x2 with ⟨rfl, z2⟩ | ⟨rfl, z2⟩
              · exact ⟨rfl, Or.inr rfl⟩
              · exact absurd z1 z2
              · exact absurd z2 z1
              · exact ⟨rfl, Or.inl rfl⟩
            obtain ⟨rfl, hv⟩ := hv
            rcases hv with rfl | rfl
            · obtain ⟨hi', q1, q2⟩ := hs1 (st := st) hh
              obtain ⟨st', t1, t2⟩ := cs_put h hc hw hz eaz
              rw [← AA_uc7 hc (by decide), ← AA_uc7 hc (by decide), ← AA_uc7 hc (by decide), ← AA_uc7 hc (by decide), ← AA_uc7 hc (by decide)] at t2
              obtain ⟨y1, wa1, w1, w2⟩ := pu_onw (p4 := 0) (go := True) t2.1 t2.2.1 hw hz ⟨fun _ => trivial, fun _ => rfl⟩ wa
              obtain ⟨y2, f1, f2⟩ := lw_fewest (p2 := 0) (go := True) hQ hl hw hz eaz ⟨fun _ => trivial, fun _ => rfl⟩
              have hyy := w2.uniq f2
              subst hyy
              rw [if_pos rfl, f1, pu_bd] at d1
              rw [if_pos rfl, q1, pu_bd, t1, pu_bd, w1, pu_bd2] at k1
              refine ⟨y1, tx, wa1, st', hi', vq, vw, _, _, _, _, _, _, _, ?_, d1, t2.mono (by omega), q2.1, Or.inr ⟨w2.ge, q2⟩⟩
              rw [k0]
              unfold fL_put
              rw [k1]
              rfl
            · rw [if_neg (by decide), if_neg eaz', pu_bd] at d1
              rw [if_neg (by decide)] at k1
              exact bad 0 (-103) (thr k1) d1 (by decide)
        · obtain ⟨a, z2, a1, a2, a3, a4, a5⟩ := (h.2.2.2.1 c hc).2.2.2.2.2.2.2.2.resolve_left u
          rw [if_pos (show (0 : Int32) ≤ St_under st c by rw [a4]; exact nI_pos' (by omega)), if_neg eaz', pu_bd] at d1
          rw [if_neg u] at k1
          exact bad 0 (-103) (thr k1) d1 (by decide)
theorem step_set {j v : Nat} (h : CSx st (AA vq vw vc) m n p l s r cd) (hh : HOK hi) (hj : j < 2) (hv1 : 1 ≤ v) (hv7 : v ≤ 7) (e : Int32) : StepR tx is wa st hi vq vw vc vl m 5 (nI j) (nI v) e := by
  have hQ := h.2.2.1.lq
  obtain ⟨hi', q1, q2⟩ := hs1 (st := st) hh
  have h0 := h
  obtain ⟨⟨B1, B2, B3, B4, B5, B6, B7, B8, B9, B10, B11⟩, hL, -⟩ := h
  have l1 : ¬ nI v < (1 : Int32) := nI_nlt (b := 1) (by omega) (by omega)
  have l2 : nI v ≤ (7 : Int32) := nI_le (b := 7) (by omega) (by omega)
  have d0 : fL_due vq vw vc vl 5 (nI j) (nI v) e = some (vq (3 + j), upd (upd vq (3 + j) (nI v)) 2 (upd vq (3 + j) (nI v) 2), vw, vc) := by
    have e3 : (3 : Int32) + nI j = nI (3 + j) := nI_add 3 j
    unfold fL_due
    rw [if_neg (by decide), if_neg (by decide), if_neg (by decide), if_pos rfl, e3, pu_inb (by omega) (by decide), pu_cl (by omega), pu_ck, pu_bd, if_pos rfl, pu_bd, if_pos rfl, pu_bd, pu_inb (by omega) (by decide), pu_cl (by omega), pu_ck, pu_pl, z10_2, if_pos rfl, pu_bd, i10_2, pu_ck, pu_pl]
  rw [fa_upd_same (f := upd vq (3 + j) (nI v)) (i := 2) rfl] at d0
  have eA : AA (upd vq (3 + j) (nI v)) vw vc = upd (AA vq vw vc) (3 + j) (nI v) := AA_uq (by omega)
  have k0 : fL_call tx is wa st hi 5 (nI j) (nI v) e = (bd3 (fL_set tx is wa st hi (nI j) (nI v)) fun (r24 : Int32) (st25 : St) (hi26 : Hi) => (some (r24, tx, wa, st25, hi26))) := by
    unfold fL_call
    rw [if_neg (by decide), if_neg (by decide), if_neg (by decide), if_neg (by decide), if_neg (by decide), if_pos rfl]
  have M1 := h0.2.2.1.2.1; have M2 := h0.2.2.1.2.2.1; have M3 := h0.2.2.1.2.2.2.1; have M4 := h0.2.2.1.2.2.2.2.1
  rcases (show j = 0 ∨ j = 1 by omega) with rfl | rfl
  · have k1 : fL_set tx is wa st hi (nI 0) (nI v) = some (nI s, St_set_letterStep st (nI v), hi') := by
      unfold fL_set fX5_set fX2_settingOf fX2_changeSetting
      rw [if_pos (show nI 0 = (0 : Int32) from rfl), if_neg l1, if_pos l2, q1, pu_bd, if_pos (show nI 0 = (0 : Int32) from rfl), pu_bd, if_pos (show nI 0 = (0 : Int32) from rfl), pu_pl, pu_bd, B4]
      rfl
    have q3 : vq (3 + 0) = nI s := hQ.2.2.2.1
    rw [q3] at d0
    refine ⟨nI s, tx, wa, _, hi', _, vw, vc, n, p, l, v, r, cd, by rw [k0, k1, pu_bd3], d0, ?_, q2.1, Or.inr ⟨ge100 (by omega), q2⟩⟩
    rw [eA]
    refine CSx.mono (up_CS h0 ⟨B1, B2, B3, rfl, B5, B6, B7, B8, by omega, B10, B11⟩ hL ⟨?_, ?_, ?_, ?_, ?_⟩ (fun k hk => ?_) (fun n c hc q => q) (fun m q => q)) (Nat.le_succ m)
    · rw [pk_un (by omega)]
    · rw [pk_un (by omega)]; exact M1
    · rw [pk_un (by omega)]; exact M2
    · exact pk_us
    · rw [pk_un (by omega)]; exact M4
    · rw [pk_un (by omega)]
  · have hB' : Base (St_set_nearness st (nI v)) n p l s v cd := ⟨B1, B2, B3, B4, rfl, B6, B7, B8, B9, by omega, B11⟩
    obtain ⟨A', g1, g2⟩ := pu_anew hB' hL
    have n10 : ¬ nI 1 = (0 : Int32) := by decide
    have k1 : fL_set tx is wa st hi (nI 1) (nI v) = some (nI r, St_set_links (St_set_nearness st (nI v)) A', hi') := by
      unfold fL_set fX5_set fX2_settingOf fX2_changeSetting
      rw [if_neg n10, if_pos (show nI 1 = (1 : Int32) from rfl), if_neg l1, if_pos l2, q1, pu_bd, if_neg n10, pu_bd, if_neg n10, pu_pl, g1, pu_bd, pu_bd, B5]
      rfl
    have q4 : vq (3 + 1) = nI r := hQ.2.2.2.2.1
    rw [q4] at d0
    refine ⟨nI r, tx, wa, _, hi', _, vw, vc, n, p, l, s, v, cd, by rw [k0, k1, pu_bd3], d0, ?_, q2.1, Or.inr ⟨ge100 (by omega), q2⟩⟩
    rw [eA]
    refine CSx.mono (up_CS h0 ⟨B1, B2, B3, B4, rfl, B6, B7, B8, B9, by omega, B11⟩ g2 ⟨?_, ?_, ?_, ?_, ?_⟩ (fun k hk => ?_) (fun n c hc q => q) (fun m q => q)) (Nat.le_succ m)
    · rw [pk_un (by omega)]
    · rw [pk_un (by omega)]; exact M1
    · rw [pk_un (by omega)]; exact M2
    · rw [pk_un (by omega)]; exact M3
    · exact pk_us
    · rw [pk_un (by omega)]
theorem step_bar {j v : Nat} (h : CSx st (AA vq vw vc) m n p l s r cd) (hh : HOK hi) (hj : j < 4) (hv : v < 8) (e : Int32) : StepR tx is wa st hi vq vw vc vl m 6 (nI j) (nI v) e := by
  have hQ := h.2.2.1.lq
  obtain ⟨hi', q1, q2⟩ := hs1 (st := st) hh
  have h0 := h
  obtain ⟨⟨B1, B2, B3, B4, B5, B6, B7, B8, B9, B10, B11⟩, hL, -⟩ := h
  have d0 : fL_due vq vw vc vl 6 (nI j) (nI v) e = some ((8 : Int32) * nI p + nI l, upd (upd vq 1 (nI j)) 2 (nI v), vw, vc) := by
    unfold fL_due
    rw [if_neg (by decide), if_neg (by decide), if_neg (by decide), if_neg (by decide), pu_bd, if_neg (by decide), pu_bd, if_neg (by decide), pu_bd, i10_1, z10_1, z10_2, pu_ck, pu_pl, if_neg (by decide), pu_bd, i10_2, pu_ck, pu_pl, hQ.2.1, hQ.2.2.1]
  have eA : AA (upd (upd vq 1 (nI j)) 2 (nI v)) vw vc = upd (upd (AA vq vw vc) 1 (nI j)) 2 (nI v) := by rw [AA_uq (by decide), AA_uq (by decide)]
  have k0 : fL_call tx is wa st hi 6 (nI j) (nI v) e = (bd3 (fL_bar tx is wa st hi (nI j) (nI v)) fun (r27 : Int32) (st28 : St) (hi29 : Hi) => (some (r27, tx, wa, st28, hi29))) := by
    unfold fL_call
    rw [if_neg (by decide), if_neg (by decide), if_neg (by decide), if_neg (by decide), if_neg (by decide), if_neg (by decide)]
  have M3 := h0.2.2.1.2.2.2.1; have M4 := h0.2.2.1.2.2.2.2.1
  have k1 : fL_bar tx is wa st hi (nI j) (nI v) = some ((8 : Int32) * nI p + nI l, St_set_letter (St_set_place st (nI j)) (nI v), hi') := by
    unfold fL_bar fX5_bar
    rw [if_neg (nI_pos (by omega)), if_pos (show nI j < (4 : Int32) from nI_lt (b := 4) hj (by omega)), if_neg (nI_pos (by omega)), if_pos (show nI v < (8 : Int32) from nI_lt (b := 8) hv (by omega)), q1, pu_bd, pu_pl, pu_pl, pu_pl, B2, B3]
    rfl
  have e8 : (8 : Int32) * nI p + nI l = nI (8 * p + l) := by rw [show (8 : Int32) = nI 8 from rfl, pk_mul, nI_add]
  rw [e8] at d0 k1
  refine ⟨_, tx, wa, _, hi', _, vw, vc, n, j, v, s, r, cd, by rw [k0, k1, pu_bd3], d0, ?_, q2.1, Or.inr ⟨ge100 (by omega), q2⟩⟩
  rw [eA]
  refine CSx.mono (up_CS h0 ⟨B1, rfl, rfl, B4, B5, B6, hj, hv, B9, B10, B11⟩ hL ⟨?_, ?_, ?_, ?_, ?_⟩ (fun k hk => ?_) (fun n c hc q => q) (fun m q => q)) (Nat.le_succ m)
  · rw [pk_un (by omega), pk_un (by omega)]
  · rw [pk_un (by omega), pk_us]
  · exact pk_us
  · rw [pk_un (by omega), pk_un (by omega)]; exact M3
  · rw [pk_un (by omega), pk_un (by omega)]; exact M4
  · rw [pk_un (by omega), pk_un (by omega)]
end ST
end STP
