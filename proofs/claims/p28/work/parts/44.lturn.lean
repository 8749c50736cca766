section TRN
def A8 (A : AI) (k : Nat) : AI := upd A 8 (A 8 + nI k)
theorem A8_o {A : AI} {k j : Nat} (h : j ≠ 8) : A8 A k j = A j := pk_un h
theorem MB_A8 {A : AI} {k n p l s r : Nat} {cd : Nat → Nat} (h : MB (A8 A k) n p l s r cd) : MB A n p l s r cd := h.cong (fun j hj => (A8_o (by omega)).symm)
theorem pu_hasU {x : Int32} {u : Int32} {n : Nat} (hn : n ≤ 24) (h : u = -1 ∨ ∃ a, a < n ∧ u = nI a) : ∃ y, fX5_has x u = some y ∧ ((u = -1 ∧ y = 0) ∨ ∃ a, a < n ∧ u = nI a ∧ ((y = 1 ∧ bt x a = true) ∨ (y = 0 ∧ bt x a = false))) := by
  rcases h with rfl | ⟨a, h1, rfl⟩
  · exact ⟨0, pu_hasm x, Or.inl ⟨rfl, rfl⟩⟩
  · refine ⟨_, pu_has (by omega), Or.inr ⟨a, h1, rfl, ?_⟩⟩
    cases bt x a
    · exact Or.inr ⟨rfl, rfl⟩
    · exact Or.inl ⟨rfl, rfl⟩
theorem cs_pt_L {m n p l s r : Nat} {cd : Nat → Nat} {b : Int32} {vq vw : AI} (hQ : LQ vq vw n p l s r cd) (hb : ∀ j, j < 32 → (bt b j = true ↔ Bar n p l s cd 0 j)) : ∀ (d i f g k : Nat) (st : St) (vc : AI), i + d = 3 → d < f → d < g → CSx st (A8 (AA vq vw vc) k) m n p l s r cd → ∃ st' vc' k', fX2_passTurn_L59 b f (nI k) (nI i) st = some (nI k', st') ∧ fL_turns_L43 vw vq g (nI k) (nI i) vc = some (nI k', vc') ∧ k' ≤ k + d ∧ CSx st' (A8 (AA vq vw vc') k') m n p l s r cd := by
  intro d
  induction d with
  | zero =>
    intro i f g k st vc hi hf hg h
    obtain ⟨f, rfl, -⟩ := pu_fuel hf
    obtain ⟨g, rfl, -⟩ := pu_fuel hg
    refine ⟨st, vc, k, ?_, ?_, Nat.le_refl k, h⟩
    · rw [fX2_passTurn_L59, if_pos (show (3 : Int32) ≤ nI i from nI_le (a := 3) (by omega) (by omega))]
    · rw [fL_turns_L43, if_pos (show (3 : Int32) ≤ nI i from nI_le (a := 3) (by omega) (by omega))]
  | succ d ih =>
    intro i f g k st vc hi hf hg h
    generalize hA : AA vq vw vc = A at *
    obtain ⟨f, rfl, hf⟩ := pu_fuel hf
    obtain ⟨g, rfl, hg⟩ := pu_fuel hg
    have hc : i < 3 := by omega
    have h0 := h
    obtain ⟨hB, hL, hM, hC, h5, h6, la, sp, fa, dn, k1, k2, k3, k4, k5, k6, k7⟩ := h
    have hn := hB.2.2.2.2.2.1
    obtain ⟨c0, c1, c2, c3, c4, c5, c6, c7, c8⟩ := hC i hc
    rw [A8_o (by omega)] at c0 c1 c2 c3 c4 c5 c6 h5 h6 k2 k5
    have hsum : S3 (fun e => onk st e (sp e)) = onk st 0 (sp 0) + onk st 1 (sp 1) + onk st 2 (sp 2) := rfl
    -- the state with the one's mark taken away
    have hA1 : ∀ j, j ≠ 10 + 7 * i + 3 → upd (A) (10 + 7 * i + 3) 0 j = A j := fun j hj => pk_un hj
    have n1 : CSx (St_set_went st (upd (St_went st) i 0)) (A8 (upd (A) (10 + 7 * i + 3) 0) k) m n p l s r cd := by
      have g0 : ∀ j, j ≠ 10 + 7 * i + 3 → A8 (upd (A) (10 + 7 * i + 3) 0) k j = A8 (A) k j := fun j hj => by
        by_cases q : j = 8
        · subst q
          show upd _ 8 _ 8 = upd _ 8 _ 8
          rw [pk_us, pk_us, pk_un hj]
        · rw [A8_o q, A8_o q, pk_un hj]
      refine h0.put hc hB hL (fun e he => ⟨rfl, rfl, rfl, pk_un he, rfl, rfl, rfl⟩) (fun j h1 h2 => g0 j (by omega)) ?_ ?_
      · refine ⟨?_, ?_, ?_, ?_, ?_, ?_, ?_, Or.inl pk_us, c8⟩
        · rw [A8_o (by omega), hA1 _ (by omega)]; exact c0
        · rw [A8_o (by omega), hA1 _ (by omega)]; exact c1
        · rw [A8_o (by omega), hA1 _ (by omega)]; exact c2
        · rw [A8_o (by omega), pk_us]
          show (0 : Int32) = if St_under st i = -1 then 0 else upd (St_went st) i 0 i
          rw [pk_us]; split <;> rfl
        · rw [A8_o (by omega), hA1 _ (by omega)]; exact c4
        · rw [A8_o (by omega), hA1 _ (by omega)]; exact c5
        · rw [A8_o (by omega), hA1 _ (by omega)]; exact c6
      · refine ⟨?_, ?_, la, sp, fa, dn, k1, ?_, ?_, k4, ?_, k6, k7⟩
        · rw [A8_o (by omega), hA1 _ (by omega)]; exact h5
        · rw [A8_o (by omega), hA1 _ (by omega)]; exact h6
        · rw [A8_o (by omega), hA1 _ (by omega)]; exact k2
        · rw [g0 8 (by omega)]; exact k3
        · rw [A8_o (by omega), hA1 _ (by omega)]; exact k5
    have u8 : St_under st i = -1 ∨ ∃ a, a < n ∧ St_under st i = nI a := by
      rcases c8 with q | ⟨a, z, q1, q2, q3, q4, q5⟩
      · exact Or.inl q
      · exact Or.inr ⟨a, q1, q4⟩
    obtain ⟨y, y1, y2⟩ := pu_hasU (x := b) hn u8
    have eo : upd vc (7 * i + 3) 0 (7 * i + 0) = St_under st i := by rw [pk_un (by omega), ← c0, ← hA, AA_c7 hc (by decide)]
    have eV : AA vq vw (upd vc (7 * i + 3) 0) = upd A (10 + 7 * i + 3) 0 := by rw [AA_uc7 hc (by decide), hA]
    have y1' : fX5_has b (St_under (St_set_went st (upd (St_went st) i 0)) i) = some y := y1
    rw [fL_turns_L43, if_neg (show ¬ (3 : Int32) ≤ nI i from nI_ge (b := 3) (by omega) (by omega)), L21_3 hc, C21_3 hc, pu_ck, pu_pl, L21_0 hc, C21_0 hc, pu_ck]
    simp only [eo]
    rw [fX2_passTurn_L59, if_neg (show ¬ (3 : Int32) ≤ nI i from nI_ge (b := 3) (by omega) (by omega)), pu_inb hc (by decide), pu_cl (by omega), pu_ck, pu_pl, pu_ck, y1', pu_bd]
    have stay : ∃ st' vc' k', fX2_passTurn_L59 b f (nI k) (nI (i + 1)) (St_set_went st (upd (St_went st) i 0)) = some (nI k', st') ∧ fL_turns_L43 vw vq g (nI k) (nI (i + 1)) (upd vc (7 * i + 3) 0) = some (nI k', vc') ∧ k' ≤ k + (d + 1) ∧ CSx st' (A8 (AA vq vw vc') k') m n p l s r cd := by
      obtain ⟨st', vc', k', j1, j2, j3, j5⟩ := ih (i + 1) f g k (St_set_went st (upd (St_went st) i 0)) (upd vc (7 * i + 3) 0) (by omega) (by omega) (by omega) (by rw [eV]; exact n1)
      exact ⟨st', vc', k', j1, j2, by omega, j5⟩
    rcases y2 with ⟨q1, rfl⟩ | ⟨a, q1, q2, q3⟩
    · rw [if_pos (show (0 : Int32) = 0 from rfl), if_pos (show St_under st i < 0 by rw [q1]; decide), pu_pl, pu_bd2, pu_pl, nI_1]
      exact stay
    · have hne : ¬ St_under st i = -1 := by rw [q2]; exact pu_m1_ne (by omega)
      obtain ⟨ca1, ca2⟩ := hQ.2.2.2.2.2.2.2.2.2.2 a q1
      rw [if_neg (show ¬ St_under st i < 0 by rw [q2]; exact nI_pos (by omega)), q2, pu_ck, pu_inb (k := a) (by omega) (by decide), pu_cl (k := a) (by omega), pu_ck, ca1]
      obtain ⟨y6, t1, t4⟩ := lw_isBarred hQ q1 (t := 0) (by decide)
      have t1' : fL_isBarred vq (nI (cd a)) (0 : Int32) = some y6 := t1
      rw [t1', pu_bd]
      have hba := hb a (by omega)
      rcases q3 with ⟨rfl, q3⟩ | ⟨rfl, q3⟩ <;> rcases t4 with ⟨rfl, t4⟩ | ⟨rfl, t4⟩
      · -- it falls
        rw [if_neg (show ¬ (1 : Int32) = 0 by decide), if_neg (show ¬ (1 : Int32) = 0 by decide), pu_ck, pu_pl, pu_ck, pu_ck, pu_pl, pu_pl, pu_pl, nI_1, nI_1, pu_ck, pu_pl, L21_6 hc, C21_6 hc, pu_ck, pu_ck, pu_pl, pu_pl, pu_bd2, pu_pl]
        have e6 : upd (upd vc (7 * i + 3) 0) (7 * i + 0) (-1) (7 * i + 6) = A (10 + 7 * i + 6) := by rw [pk_un (by omega), pk_un (by omega), ← hA, AA_c7 hc (by decide)]
        rw [e6]
        have eW : AA vq vw (upd (upd (upd vc (7 * i + 3) 0) (7 * i + 0) (-1)) (7 * i + 6) (A (10 + 7 * i + 6) + 1)) = upd (upd (upd A (10 + 7 * i + 3) 0) (10 + 7 * i + 0) (-1)) (10 + 7 * i + 6) (A (10 + 7 * i + 6) + 1) := by rw [AA_uc7 hc (by decide), AA_uc7 hc (by decide), eV]
        generalize hM2 : upd (upd (upd A (10 + 7 * i + 3) 0) (10 + 7 * i + 0) (-1)) (10 + 7 * i + 6) (A (10 + 7 * i + 6) + 1) = M at *
        generalize upd (upd (upd vc (7 * i + 3) 0) (7 * i + 0) (-1)) (7 * i + 6) (A (10 + 7 * i + 6) + 1) = V at *
        have m0 : ∀ j, j ≠ 10 + 7 * i + 0 → j ≠ 10 + 7 * i + 3 → j ≠ 10 + 7 * i + 6 → M j = A j := fun j z1 z2 z3 => by rw [← hM2, pk_un z3, pk_un z1, pk_un z2]
        have p0 : M (10 + 7 * i + 0) = -1 := by rw [← hM2, pk_un (by omega), pk_us]
        have p3 : M (10 + 7 * i + 3) = 0 := by rw [← hM2, pk_un (by omega), pk_un (by omega), pk_us]
        have p6 : M (10 + 7 * i + 6) = A (10 + 7 * i + 6) + 1 := by rw [← hM2, pk_us]
        have g0 : ∀ j, j ≠ 8 → j ≠ 10 + 7 * i + 0 → j ≠ 10 + 7 * i + 3 → j ≠ 10 + 7 * i + 6 → A8 M (k + 1) j = A8 (A) k j := fun j z0 z1 z2 z3 => by rw [A8_o z0, A8_o z0, m0 j z1 z2 z3]
        have n2 : CSx (St_set_falls (St_set_under (St_set_went st (upd (St_went st) i 0)) (upd (St_under (St_set_went st (upd (St_went st) i 0))) i (-1))) (upd (St_falls (St_set_under (St_set_went st (upd (St_went st) i 0)) (upd (St_under (St_set_went st (upd (St_went st) i 0))) i (-1)))) i (St_falls (St_set_under (St_set_went st (upd (St_went st) i 0)) (upd (St_under (St_set_went st (upd (St_went st) i 0))) i (-1))) i + 1))) (A8 M (k + 1)) m n p l s r cd := by
          refine h0.put hc hB hL (fun e he => ⟨pk_un he, rfl, rfl, pk_un he, rfl, rfl, pk_un he⟩) (fun j h1 h2 => g0 j (by omega) (by omega) (by omega) (by omega)) ?_ ?_
          · refine ⟨?_, ?_, ?_, ?_, ?_, ?_, ?_, Or.inl pk_us, Or.inl pk_us⟩
            · rw [A8_o (by omega), p0]; exact pk_us.symm
            · rw [A8_o (by omega), m0 _ (by omega) (by omega) (by omega)]; exact c1
            · rw [A8_o (by omega), m0 _ (by omega) (by omega) (by omega)]; exact c2
            · rw [A8_o (by omega), p3]; exact (if_pos (pk_us (f := St_under st))).symm
            · rw [A8_o (by omega), m0 _ (by omega) (by omega) (by omega)]; exact c4
            · rw [A8_o (by omega), m0 _ (by omega) (by omega) (by omega)]; exact c5
            · rw [A8_o (by omega), p6, c6]; exact pk_us.symm
          · obtain ⟨jl, js, jf⟩ := k1 i hc
            refine ⟨?_, ?_, la, sp, (fun e => if e = i then fa i + 1 else fa e), dn, fun e he => ?_, ?_, ?_, k4, ?_, k6, ?_⟩
            · rw [A8_o (by omega), m0 _ (by omega) (by omega) (by omega)]; exact h5
            · rw [A8_o (by omega), m0 _ (by omega) (by omega) (by omega)]; exact h6
            · dsimp only
              obtain ⟨j1, j2, j3⟩ := k1 e he
              by_cases q : e = i
              · subst q
                rw [if_pos rfl]
                exact ⟨j1, j2, by rw [← nI_1, ← jf]; exact pk_us⟩
              · rw [if_neg q]
                exact ⟨j1, j2, (pk_un q).trans j3⟩
            · rw [A8_o (by omega), m0 _ (by omega) (by omega) (by omega)]; exact k2
            · have h8 := S3_upd fa hc (fa i + 1)
              have e1 : A8 M (k + 1) 8 = A8 (A) k 8 + 1 := by
                show upd M 8 (M 8 + nI (k + 1)) 8 = upd (A) 8 (A 8 + nI k) 8 + 1
                rw [pk_us, pk_us, m0 8 (by omega) (by omega) (by omega), ← nI_1, Int32.add_assoc]
              rw [e1, k3, nI_1]
              refine congrArg nI ?_
              show S3 fa + 1 = S3 (fun e => if e = i then fa i + 1 else fa e)
              omega
            · rw [A8_o (by omega), m0 _ (by omega) (by omega) (by omega)]; exact k5
            · have h8 := S3_upd (fun e => onk st e (sp e)) hc 0
              show dn + S3 (fun e => onk _ e (sp e)) ≤ m
              rw [S3_cong (g := fun e => if e = i then 0 else onk st e (sp e)) (fun e he => by
                by_cases q : e = i
                · subst q
                  rw [if_pos rfl]
                  refine onk_off ?_
                  exact pk_us
                · rw [if_neg q]
                  exact onk_cong (pk_un q))]
              have := S3_part (fun e => onk st e (sp e)) hc
              omega
        obtain ⟨st', vc', k', j1, j2, j3, j5⟩ := ih (i + 1) f g (k + 1) _ V (by omega) (by omega) (by omega) (by rw [eW]; exact n2)
        exact ⟨st', vc', k', j1, j2, by omega, j5⟩
      · exact absurd (hba.mp q3) t4
      · rw [hba.mpr t4] at q3; cases q3
      · rw [if_pos (show (0 : Int32) = 0 from rfl), if_pos (show (0 : Int32) = 0 from rfl), pu_pl, pu_ck, pu_bd2, pu_pl, nI_1]
        exact stay
theorem MB.mba8 {vq vw vc : AI} {k n p l s r : Nat} {cd : Nat → Nat} (h : MB (A8 (AA vq vw vc) k) n p l s r cd) : LQ vq vw n p l s r cd := (MB_A8 h).lq
theorem cs_turn {st : St} {vq vw vc : AI} {m n p l s r : Nat} {cd : Nat → Nat} (h : CSx st (AA vq vw vc) m n p l s r cd) : ∃ k st' vq' vc', fX2_passTurn st = some (nI k, st') ∧ fL_turns vq vw vc = some (nI k, vq', vc') ∧ k ≤ 3 ∧ CSx st' (AA vq' vw vc') m n ((p + 1) % 4) ((l + (p + 1) / 4 * s) % 8) s r cd := by
  obtain ⟨hB, hL, hM, hC, h5, h6, la, sp, fa, dn, k1, k2, k3, k4, k5, k6, k7⟩ := h
  have hp := hB.2.2.2.2.2.2.1
  have hl8 := hB.2.2.2.2.2.2.2.1
  have hs8 := hB.2.2.2.2.2.2.2.2.1
  have hQ := hM.lq
  obtain ⟨w0, w1, w2, w3, w4, -⟩ := hQ
  have hl' : (l + (p + 1) / 4 * s) % 8 < 8 := Nat.mod_lt _ (by decide)
  have hp' : (p + 1) % 4 < 4 := Nat.mod_lt _ (by decide)
  generalize hP : (p + 1) % 4 = P at *
  generalize hT : (l + (p + 1) / 4 * s) % 8 = T at *
  -- the law's row ahead of its loop
  have law3 : ∃ vq3, (bd (if upd vq 1 (nI (p + 1)) 1 = (4 : Int32) then (ck true (pl (upd (upd vq 1 (nI (p + 1))) 1 (0 : Int32)) fun (vq24 : AI) => (ck (inb (2 : Int32) 10) (pl (upd vq24 (2 : Int32).toNatClampNeg (((vq24 (2 : Int32).toNatClampNeg) + (vq24 (3 : Int32).toNatClampNeg)) - ((vq24 (2 : Int32).toNatClampNeg) + (vq24 (3 : Int32).toNatClampNeg)) / (8 : Int32) * (8 : Int32))) fun (vq25 : AI) => (some vq25))))) else (some (upd vq 1 (nI (p + 1))))) fun (vq2 : AI) => some vq2) = some vq3 ∧ (∀ k, k ≠ 1 → k ≠ 2 → vq3 k = vq k) ∧ vq3 1 = nI P ∧ vq3 2 = nI T := by
    by_cases e : p + 1 < 4
    · have eP : p + 1 = P := by omega
      have eT : T = l := by
        have : (p + 1) / 4 = 0 := by omega
        rw [this, Nat.zero_mul] at hT
        omega
      rw [pk_us, if_neg (show ¬ nI (p + 1) = (4 : Int32) by rw [show (4 : Int32) = nI 4 from rfl, nI_eq (by omega) (by decide)]; omega), pu_bd]
      exact ⟨_, rfl, fun k z1 z2 => pk_un z1, by rw [pk_us, eP], by rw [pk_un (by decide), w2, eT]⟩
    · have eP : P = 0 := by omega
      have e4 : p + 1 = 4 := by omega
      rw [pk_us, if_pos (show nI (p + 1) = (4 : Int32) by rw [e4]; rfl), pu_ck, pu_pl, i10_2, z10_2, z10_3, pu_ck, pu_pl, pu_bd]
      refine ⟨_, rfl, fun k z1 z2 => by rw [pk_un z2, pk_un z1, pk_un z1], by rw [pk_un (by decide), pk_us, eP]; rfl, ?_⟩
      rw [pk_us, pk_un (show (2 : Nat) ≠ 1 by decide), pk_un (show (2 : Nat) ≠ 1 by decide), pk_un (show (3 : Nat) ≠ 1 by decide), pk_un (show (3 : Nat) ≠ 1 by decide), w2, w3, nI_add, show (8 : Int32) = nI 8 from rfl, pk_rem (by omega) (by decide) (by decide)]
      have : (p + 1) / 4 = 1 := by omega
      rw [this, Nat.one_mul] at hT
      rw [hT]
  obtain ⟨vq3, n1, n2, n3, n4⟩ := law3
  generalize hA : AA vq vw vc = A at *
  have w5 : vq 5 = A 5 := by rw [← hA, AA_q (by decide)]
  generalize hA5 : AA (upd vq3 5 (A 5 + 1)) vw vc = A5 at *
  have hX : ∀ j, j ≠ 1 → j ≠ 2 → j ≠ 5 → A5 j = A j := fun j z1 z2 z3 => by
    rw [← hA5, ← hA]
    unfold AA
    by_cases q : j < 10
    · rw [if_pos q, if_pos q, pk_un z3, n2 j z1 z2]
    · rw [if_neg q, if_neg q]
  have x1 : A5 1 = nI P := by rw [← hA5, AA_q (by decide), pk_un (by decide), n3]
  have x2 : A5 2 = nI T := by rw [← hA5, AA_q (by decide), pk_un (by decide), n4]
  have x5 : A5 5 = A 5 + 1 := by rw [← hA5, AA_q (by decide), pk_us]
  -- the new state before its loop
  have n0 : CSx (St_set_letter (St_set_place (St_set_turns st (St_turns st + 1)) (nI P)) (nI T)) (A8 A5 0) m n P T s r cd := by
    obtain ⟨b1, b2, b3, b4, b5, b6, b7, b8, b9, b10, b11⟩ := hB
    obtain ⟨a1, a2, a3, a4, a5, a6, a7, a8, a9, a10, a11⟩ := hM
    refine ⟨⟨b1, rfl, rfl, b4, b5, b6, hp', hl', b9, b10, b11⟩, hL, ?_, fun e he => ?_, ?_⟩
    · unfold MB
      rw [A8_o (by omega), A8_o (by omega), A8_o (by omega), A8_o (by omega), A8_o (by omega), hX 0 (by omega) (by omega) (by omega), x1, x2, hX 3 (by omega) (by omega) (by omega), hX 4 (by omega) (by omega) (by omega)]
      exact ⟨a1, rfl, rfl, a4, a5, a6, hp', hl', a9, a10, fun w hw => by rw [A8_o (by omega), hX _ (by omega) (by omega) (by omega)]; exact a11 w hw⟩
    · unfold Cl1
      rw [A8_o (by omega), A8_o (by omega), A8_o (by omega), A8_o (by omega), A8_o (by omega), A8_o (by omega), A8_o (by omega), hX _ (by omega) (by omega) (by omega), hX _ (by omega) (by omega) (by omega), hX _ (by omega) (by omega) (by omega), hX _ (by omega) (by omega) (by omega), hX _ (by omega) (by omega) (by omega), hX _ (by omega) (by omega) (by omega), hX _ (by omega) (by omega) (by omega)]
      exact hC e he
    · refine ⟨?_, ?_, la, sp, fa, dn, k1, ?_, ?_, k4, ?_, k6, k7⟩
      · rw [A8_o (by omega), x5, h5]; rfl
      · rw [A8_o (by omega), hX _ (by omega) (by omega) (by omega)]; exact h6
      · rw [A8_o (by omega), hX _ (by omega) (by omega) (by omega)]; exact k2
      · show upd A5 8 (A5 8 + nI 0) 8 = _
        rw [pk_us, hX _ (by omega) (by omega) (by omega), k3, nI_add]
        rfl
      · rw [A8_o (by omega), hX _ (by omega) (by omega) (by omega)]; exact k5
  obtain ⟨b, g1, g2⟩ := pu_barred n0.1 (t := 0) (by decide)
  have g1' : fX2_barredAfter (St_set_letter (St_set_place (St_set_turns st (St_turns st + 1)) (nI P)) (nI T)) (0 : Int32) = some b := g1
  rw [← hA5] at n0
  obtain ⟨st', vc', k, t1, t2, t3, t5⟩ := cs_pt_L n0.2.2.1.mba8 g2 3 0 1000 1000 0 _ _ rfl (by decide) (by decide) n0
  have t1' : fX2_passTurn_L59 b 1000 (0 : Int32) (0 : Int32) (St_set_letter (St_set_place (St_set_turns st (St_turns st + 1)) (nI P)) (nI T)) = some (nI k, st') := t1
  have t2' : fL_turns_L43 vw (upd vq3 5 (A 5 + 1)) 1000 (0 : Int32) (0 : Int32) vc = some (nI k, vc') := t2
  refine ⟨k, st', upd (upd vq3 5 (A 5 + 1)) 8 (upd vq3 5 (A 5 + 1) 8 + nI k), vc', ?_, ?_, by omega, ?_⟩
  · unfold fX2_passTurn
    rw [pu_pl, pu_pl, show St_place (St_set_place (St_set_turns st (St_turns st + (1 : Int32))) (St_place (St_set_turns st (St_turns st + (1 : Int32))) + (1 : Int32))) = nI (p + 1) from by rw [← nI_1, ← hB.2.1]; rfl]
    by_cases e : p + 1 < 4
    · have eP : p + 1 = P := by omega
      have eT : T = l := by
        have : (p + 1) / 4 = 0 := by omega
        rw [this, Nat.zero_mul] at hT
        omega
      rw [if_pos (show nI (p + 1) < (4 : Int32) from nI_lt (b := 4) e (by omega))]
      have est : St_set_place (St_set_turns st (St_turns st + (1 : Int32))) (St_place (St_set_turns st (St_turns st + (1 : Int32))) + (1 : Int32)) = St_set_letter (St_set_place (St_set_turns st (St_turns st + 1)) (nI P)) (nI T) := by
        rw [eT, ← hB.2.2.1, ← eP, ← nI_1, ← hB.2.1]
        rfl
      rw [est, g1', pu_bd, t1', pu_bd2]
    · have eP : P = 0 := by omega
      rw [if_neg (show ¬ nI (p + 1) < (4 : Int32) from nI_nlt (a := p + 1) (b := 4) (by omega) (by omega)), pu_pl, pu_pl]
      have eT : (St_letter (St_set_place (St_set_place (St_set_turns st (St_turns st + (1 : Int32))) (St_place (St_set_turns st (St_turns st + (1 : Int32))) + (1 : Int32))) (0 : Int32)) + St_letterStep (St_set_place (St_set_place (St_set_turns st (St_turns st + (1 : Int32))) (St_place (St_set_turns st (St_turns st + (1 : Int32))) + (1 : Int32))) (0 : Int32))) - (St_letter (St_set_place (St_set_place (St_set_turns st (St_turns st + (1 : Int32))) (St_place (St_set_turns st (St_turns st + (1 : Int32))) + (1 : Int32))) (0 : Int32)) + St_letterStep (St_set_place (St_set_place (St_set_turns st (St_turns st + (1 : Int32))) (St_place (St_set_turns st (St_turns st + (1 : Int32))) + (1 : Int32))) (0 : Int32))) / (8 : Int32) * (8 : Int32) = nI T := by
        show (St_letter st + St_letterStep st) - (St_letter st + St_letterStep st) / (8 : Int32) * (8 : Int32) = nI T
        rw [hB.2.2.1, hB.2.2.2.1, nI_add, show (8 : Int32) = nI 8 from rfl, pk_rem (by omega) (by decide) (by decide)]
        have : (p + 1) / 4 = 1 := by omega
        rw [this, Nat.one_mul] at hT
        rw [hT]
      rw [eT]
      have est : St_set_letter (St_set_place (St_set_place (St_set_turns st (St_turns st + (1 : Int32))) (St_place (St_set_turns st (St_turns st + (1 : Int32))) + (1 : Int32))) (0 : Int32)) (nI T) = St_set_letter (St_set_place (St_set_turns st (St_turns st + 1)) (nI P)) (nI T) := by
        rw [eP]
        rfl
      rw [est, g1', pu_bd, t1', pu_bd2]
  · unfold fL_turns
    rw [i10_1, z10_1, w1, show nI p + (1 : Int32) = nI (p + 1) from nI_1 p, pu_ck, pu_pl]
    generalize hu : upd vq 1 (nI (p + 1)) = u1 at *
    have key : ∀ (X : Option AI) (F : AI → Option (Int32 × AI × AI)), (bd X fun v => some v) = some vq3 → bd X F = F vq3 := by
      intro X F h
      obtain ⟨a, rfl, h2⟩ := bd_ex h
      cases h2
      rfl
    rw [key _ _ n1, i10_5, z10_5, show vq3 5 = A 5 by rw [n2 5 (by decide) (by decide), w5], pu_ck, pu_pl, t2', pu_bd2, i10_8, z10_8, pu_ck, pu_pl]
  · rw [AA_uq (by decide)]
    have e8 : upd vq3 5 (A 5 + 1) 8 = AA (upd vq3 5 (A 5 + 1)) vw vc' 8 := (AA_q (by decide)).symm
    rw [e8]
    exact t5

end TRN
