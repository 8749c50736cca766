section TRN
theorem cs_off {st : St} {mo : Mo} {A : AI} {m n p l s r c : Nat} {cd : Nat → Nat} (h : CSx st A m n p l s r cd) (hc : c < 3) : ∃ st' A', fX2_takeOff st (nI c) = some st' ∧ fX6_takeOff (Mo_set_state mo A) (nI c) = some (Mo_set_state mo A') ∧ CSx st' A' m n p l s r cd := by
  have h0 := h
  obtain ⟨hB, hL, hM, hC, h5, h6, la, sp, fa, dn, k1, k2, k3, k4, k5, k6, k7⟩ := h
  obtain ⟨c0, c1, c2, c3, c4, c5, c6, c7, c8⟩ := hC c hc
  have hsum : S3 (fun e => onk st e (sp e)) = onk st 0 (sp 0) + onk st 1 (sp 1) + onk st 2 (sp 2) := rfl
  unfold fX2_takeOff fX6_takeOff
  rw [pu_clm hc, pu_bd, if_neg (by decide), pu_inb hc (by decide), pu_cl (by omega), pu_ck, pu_pl, pm_s0 hc, pu_bd, pm_s3 hc, pu_bd]
  have m0 : ∀ k, k ≠ 10 + 7 * c + 0 → k ≠ 10 + 7 * c + 3 → upd (upd A (10 + 7 * c + 0) (-1)) (10 + 7 * c + 3) 0 k = A k := fun k h1 h2 => by rw [pk_un h2, pk_un h1]
  refine ⟨_, _, rfl, rfl, h0.put hc hB hL (fun e he => ⟨pk_un he, rfl, rfl, rfl, rfl, rfl, rfl⟩) (fun k h1 h2 => m0 k (by omega) (by omega)) ?_ ?_⟩
  · refine ⟨?_, ?_, ?_, ?_, ?_, ?_, ?_, c7, Or.inl pk_us⟩
    · rw [pk_un (by omega), pk_us]; exact pk_us.symm
    · rw [m0 _ (by omega) (by omega)]; exact c1
    · rw [m0 _ (by omega) (by omega)]; exact c2
    · rw [pk_us]; exact (if_pos (pk_us (f := St_under st))).symm
    · rw [m0 _ (by omega) (by omega)]; exact c4
    · rw [m0 _ (by omega) (by omega)]; exact c5
    · rw [m0 _ (by omega) (by omega)]; exact c6
  · refine ⟨?_, ?_, la, sp, fa, dn, k1, ?_, ?_, k4, ?_, k6, ?_⟩
    · rw [m0 _ (by omega) (by omega)]; exact h5
    · rw [m0 _ (by omega) (by omega)]; exact h6
    · rw [m0 _ (by omega) (by omega)]; exact k2
    · rw [m0 _ (by omega) (by omega)]; exact k3
    · rw [m0 _ (by omega) (by omega)]; exact k5
    · have h8 := S3_upd (fun e => onk st e (sp e)) hc 0
      show dn + S3 (fun e => onk _ e (sp e)) ≤ m
      rw [S3_cong (g := fun e => if e = c then 0 else onk st e (sp e)) (fun e he => by
        by_cases q : e = c
        · subst q
          rw [if_pos rfl]
          refine onk_off ?_
          exact pk_us
        · rw [if_neg q]
          exact onk_cong (pk_un q))]
      have := S3_part (fun e => onk st e (sp e)) hc
      omega
theorem cs_put {st : St} {mo : Mo} {A : AI} {m n p l s r c a z : Nat} {cd : Nat → Nat} (h : CSx st A m n p l s r cd) (hc : c < 3) (ha : a < n) (hz : z < n) (haz : a ≠ z) : ∃ st', fX2_putOn st (nI c) (nI a) (nI z) = some st' ∧ CSx st' (upd (upd (upd (upd (upd A (10 + 7 * c + 0) (nI a)) (10 + 7 * c + 1) (nI a)) (10 + 7 * c + 2) (nI z)) (10 + 7 * c + 3) 0) (10 + 7 * c + 4) 0) m n p l s r cd := by
  have h0 := h
  obtain ⟨hB, hL, hM, hC, h5, h6, la, sp, fa, dn, k1, k2, k3, k4, k5, k6, k7⟩ := h
  have hn := hB.2.2.2.2.2.1
  obtain ⟨c0, c1, c2, c3, c4, c5, c6, c7, c8⟩ := hC c hc
  have hsum : S3 (fun e => onk st e (sp e)) = onk st 0 (sp 0) + onk st 1 (sp 1) + onk st 2 (sp 2) := rfl
  have ha1 : ¬ nI a = -1 := pu_m1_ne (by omega)
  unfold fX2_putOn
  rw [pu_clm hc, pu_bd, if_neg (by decide), pu_inb hc (by decide), pu_cl (by omega), pu_ck, pu_pl, pu_ck, pu_pl, pu_ck, pu_pl, pu_ck, pu_pl, pu_ck, pu_pl]
  generalize hM2 : upd (upd (upd (upd (upd A (10 + 7 * c + 0) (nI a)) (10 + 7 * c + 1) (nI a)) (10 + 7 * c + 2) (nI z)) (10 + 7 * c + 3) 0) (10 + 7 * c + 4) 0 = M
  have m0 : ∀ k, k ≠ 10 + 7 * c + 0 → k ≠ 10 + 7 * c + 1 → k ≠ 10 + 7 * c + 2 → k ≠ 10 + 7 * c + 3 → k ≠ 10 + 7 * c + 4 → M k = A k := fun k q1 q2 q3 q4 q5 => by rw [← hM2, pk_un q5, pk_un q4, pk_un q3, pk_un q2, pk_un q1]
  have p0 : M (10 + 7 * c + 0) = nI a := by rw [← hM2, pk_un (by omega), pk_un (by omega), pk_un (by omega), pk_un (by omega), pk_us]
  have p1 : M (10 + 7 * c + 1) = nI a := by rw [← hM2, pk_un (by omega), pk_un (by omega), pk_un (by omega), pk_us]
  have p2 : M (10 + 7 * c + 2) = nI z := by rw [← hM2, pk_un (by omega), pk_un (by omega), pk_us]
  have p3 : M (10 + 7 * c + 3) = 0 := by rw [← hM2, pk_un (by omega), pk_us]
  have p4 : M (10 + 7 * c + 4) = 0 := by rw [← hM2, pk_us]
  refine ⟨_, rfl, h0.put hc hB hL (fun e he => ⟨pk_un he, pk_un he, pk_un he, pk_un he, pk_un he, rfl, rfl⟩) (fun k h1 h2 => m0 k (by omega) (by omega) (by omega) (by omega) (by omega)) ?_ ?_⟩
  · refine ⟨?_, ?_, ?_, ?_, ?_, ?_, ?_, Or.inl pk_us, Or.inr ⟨a, z, ha, hz, haz, pk_us, pk_us⟩⟩
    · rw [p0]; exact pk_us.symm
    · rw [p1]; exact pk_us.symm
    · rw [p2]; exact pk_us.symm
    · rw [p3]
      refine (if_neg (fun q => ha1 ?_)).trans pk_us |>.symm
      exact (pk_us (f := St_under st)).symm.trans q
    · rw [p4]; exact pk_us.symm
    · rw [m0 _ (by omega) (by omega) (by omega) (by omega) (by omega)]; exact c5
    · rw [m0 _ (by omega) (by omega) (by omega) (by omega) (by omega)]; exact c6
  · refine ⟨?_, ?_, la, (fun e => if e = c then 0 else sp e), fa, dn, fun e he => ?_, ?_, ?_, k4, ?_, k6, ?_⟩
    · rw [m0 _ (by omega) (by omega) (by omega) (by omega) (by omega)]; exact h5
    · rw [m0 _ (by omega) (by omega) (by omega) (by omega) (by omega)]; exact h6
    · dsimp only
      obtain ⟨j1, j2, j3⟩ := k1 e he
      by_cases q : e = c
      · subst q
        rw [if_pos rfl]
        exact ⟨j1, pk_us, j3⟩
      · rw [if_neg q]
        exact ⟨j1, (pk_un q).trans j2, j3⟩
    · rw [m0 _ (by omega) (by omega) (by omega) (by omega) (by omega)]; exact k2
    · rw [m0 _ (by omega) (by omega) (by omega) (by omega) (by omega)]; exact k3
    · rw [m0 _ (by omega) (by omega) (by omega) (by omega) (by omega)]; exact k5
    · have h8 := S3_upd (fun e => onk st e (sp e)) hc 0
      show dn + S3 (fun e => onk _ e (if e = c then 0 else sp e)) ≤ m
      rw [S3_cong (g := fun e => if e = c then 0 else onk st e (sp e)) (fun e he => by
        by_cases q : e = c
        · subst q
          rw [if_pos rfl, if_pos rfl]
          exact onk_on (fun q => ha1 ((pk_us (f := St_under st)).symm.trans q))
        · rw [if_neg q, if_neg q]
          exact onk_cong (pk_un q))]
      have := S3_part (fun e => onk st e (sp e)) hc
      omega
/-! a turn passes -/
/-- nothing but the state, and what is for looks -/
def Ksame (a b : Mo) : Prop := ∃ A L P T, b = Mo_set_letter (Mo_set_place (Mo_set_links (Mo_set_state a A) L) P) T
theorem Ksame.refl (a : Mo) : Ksame a a := ⟨Mo_state a, Mo_links a, Mo_place a, Mo_letter a, rfl⟩
theorem Ksame.trans {a b c : Mo} (h1 : Ksame a b) (h2 : Ksame b c) : Ksame a c := by
  obtain ⟨A, L, P, T, rfl⟩ := h1
  obtain ⟨A2, L2, P2, T2, rfl⟩ := h2
  exact ⟨A2, L2, P2, T2, rfl⟩
theorem Same.k {a b : Mo} (h : Same a b) : Ksame a b := by
  obtain ⟨L, P, T, rfl⟩ := h
  exact ⟨Mo_state a, L, P, T, rfl⟩
theorem Ksame_st (a : Mo) (A : AI) : Ksame a (Mo_set_state a A) := ⟨A, Mo_links a, Mo_place a, Mo_letter a, rfl⟩
/-- the numbers with the falls of this turn counted -/
def A8 (A : AI) (k : Nat) : AI := upd A 8 (A 8 + nI k)
theorem A8_o {A : AI} {k j : Nat} (h : j ≠ 8) : A8 A k j = A j := pk_un h
theorem MB_A8 {A : AI} {k n p l s r : Nat} {cd : Nat → Nat} (h : MB (A8 A k) n p l s r cd) : MB A n p l s r cd := h.cong (fun j hj => (A8_o (by omega)).symm)
theorem pu_hasU {x : Int32} {u : Int32} {n : Nat} (hn : n ≤ 24) (h : u = -1 ∨ ∃ a, a < n ∧ u = nI a) : ∃ y, fX5_has x u = some y ∧ ((u = -1 ∧ y = 0) ∨ ∃ a, a < n ∧ u = nI a ∧ ((y = 1 ∧ bt x a = true) ∨ (y = 0 ∧ bt x a = false))) := by
  rcases h with rfl | ⟨a, h1, rfl⟩
  · exact ⟨0, pu_hasm x, Or.inl ⟨rfl, rfl⟩⟩
  · refine ⟨_, pu_has (by omega), Or.inr ⟨a, h1, rfl, ?_⟩⟩
    cases bt x a
    · exact Or.inr ⟨rfl, rfl⟩
    · exact Or.inl ⟨rfl, rfl⟩
theorem cs_pt_L {m n p l s r : Nat} {cd : Nat → Nat} {b : Int32} (hb : ∀ j, j < 32 → (bt b j = true ↔ Bar n p l s cd 0 j)) : ∀ (d i f g k : Nat) (st : St) (mo : Mo), i + d = 3 → d < f → d < g → CSx st (A8 (Mo_state mo) k) m n p l s r cd → ∃ st' mo' k', fX2_passTurn_L59 b f (nI k) (nI i) st = some (nI k', st') ∧ fX6_passes_L42 g (nI k) (nI i) mo = some (nI k', mo') ∧ k' ≤ k + d ∧ Ksame mo mo' ∧ CSx st' (A8 (Mo_state mo') k') m n p l s r cd := by
  intro d
  induction d with
  | zero =>
    intro i f g k st mo hi hf hg h
    obtain ⟨f, rfl, -⟩ := pu_fuel hf
    obtain ⟨g, rfl, -⟩ := pu_fuel hg
    refine ⟨st, mo, k, ?_, ?_, Nat.le_refl k, Ksame.refl mo, h⟩
    · rw [fX2_passTurn_L59, if_pos (show (3 : Int32) ≤ nI i from nI_le (a := 3) (by omega) (by omega))]
    · rw [fX6_passes_L42, if_pos (show (3 : Int32) ≤ nI i from nI_le (a := 3) (by omega) (by omega))]
  | succ d ih =>
    intro i f g k st mo hi hf hg h
    obtain ⟨f, rfl, hf⟩ := pu_fuel hf
    obtain ⟨g, rfl, hg⟩ := pu_fuel hg
    have hc : i < 3 := by omega
    have h0 := h
    obtain ⟨hB, hL, hM, hC, h5, h6, la, sp, fa, dn, k1, k2, k3, k4, k5, k6, k7⟩ := h
    have hn := hB.2.2.2.2.2.1
    obtain ⟨c0, c1, c2, c3, c4, c5, c6, c7, c8⟩ := hC i hc
    rw [A8_o (by omega)] at c0 c1 c2 c3 c4 c5 c6 h5 h6 k2 k5
    have hsum : S3 (fun e => onk st e (sp e)) = onk st 0 (sp 0) + onk st 1 (sp 1) + onk st 2 (sp 2) := rfl
    -- the state with the one's mark taken away
    have hA1 : ∀ j, j ≠ 10 + 7 * i + 3 → upd (Mo_state mo) (10 + 7 * i + 3) 0 j = Mo_state mo j := fun j hj => pk_un hj
    have n1 : CSx (St_set_went st (upd (St_went st) i 0)) (A8 (upd (Mo_state mo) (10 + 7 * i + 3) 0) k) m n p l s r cd := by
      have g0 : ∀ j, j ≠ 10 + 7 * i + 3 → A8 (upd (Mo_state mo) (10 + 7 * i + 3) 0) k j = A8 (Mo_state mo) k j := fun j hj => by
        by_cases q : j = 8
        · subst q
          show upd _ 8 _ 8 = upd _ 8 _ 8
          rw [pk_us, pk_us, pk_un hj]
        · rw [A8_o q, A8_o q, pk_un hj]
      refine h0.put hc hB hL (fun e he => ⟨rfl, rfl, rfl, pk_un he, rfl, rfl, rfl⟩) (fun j h1 h2 => g0 j (by omega)) ?_ ?_
      · refine ⟨?_, ?_, ?_, ?_, ?_, ?_, ?_, Or.inl pk_us, c8⟩
        · rw [A8_o (by omega), hA1 _ (by omega)]; exact c0
        · rw [A8_o (by omega), hA1 _ (by omega)]; exact c1
        · rw [A8_o (by omega), hA1 _ (by omega)]; exact c2
        · rw [A8_o (by omega), pk_us]
          show (0 : Int32) = if St_under st i = -1 then 0 else upd (St_went st) i 0 i
          rw [pk_us]; split <;> rfl
        · rw [A8_o (by omega), hA1 _ (by omega)]; exact c4
        · rw [A8_o (by omega), hA1 _ (by omega)]; exact c5
        · rw [A8_o (by omega), hA1 _ (by omega)]; exact c6
      · refine ⟨?_, ?_, la, sp, fa, dn, k1, ?_, ?_, k4, ?_, k6, k7⟩
        · rw [A8_o (by omega), hA1 _ (by omega)]; exact h5
        · rw [A8_o (by omega), hA1 _ (by omega)]; exact h6
        · rw [A8_o (by omega), hA1 _ (by omega)]; exact k2
        · rw [g0 8 (by omega)]; exact k3
        · rw [A8_o (by omega), hA1 _ (by omega)]; exact k5
    have hM1 : MB (upd (Mo_state mo) (10 + 7 * i + 3) 0) n p l s r cd := MB_A8 n1.2.2.1
    -- both sides
    have u8 : St_under st i = -1 ∨ ∃ a, a < n ∧ St_under st i = nI a := by
      rcases c8 with q | ⟨a, z, q1, q2, q3, q4, q5⟩
      · exact Or.inl q
      · exact Or.inr ⟨a, q1, q4⟩
    obtain ⟨y, y1, y2⟩ := pu_hasU (x := b) hn u8
    have es3 : fX6_setOf mo (nI i) (3 : Int32) 0 = some (Mo_set_state mo (upd (Mo_state mo) (10 + 7 * i + 3) 0)) := pm_setOf (k := 3) hc (by decide)
    have eo : upd (Mo_state mo) (10 + 7 * i + 3) 0 (10 + 7 * i + 0) = St_under st i := by rw [hA1 _ (by omega), c0]
    have y1' : fX5_has b (St_under (St_set_went st (upd (St_went st) i 0)) i) = some y := y1
    rw [fX2_passTurn_L59, if_neg (show ¬ (3 : Int32) ≤ nI i from nI_ge (b := 3) (by omega) (by omega)), pu_inb hc (by decide), pu_cl (by omega), pu_ck, pu_pl, pu_ck, y1', pu_bd]
    rw [fX6_passes_L42, if_neg (show ¬ (3 : Int32) ≤ nI i from nI_ge (b := 3) (by omega) (by omega)), es3, pu_bd, pm_o0 hc, pu_bd, eo]
    have stay : ∀ mo2, Same (Mo_set_state mo (upd (Mo_state mo) (10 + 7 * i + 3) 0)) mo2 → ∃ st' mo' k', fX2_passTurn_L59 b f (nI k) (nI (i + 1)) (St_set_went st (upd (St_went st) i 0)) = some (nI k', st') ∧ fX6_passes_L42 g (nI k) (nI (i + 1)) mo2 = some (nI k', mo') ∧ k' ≤ k + (d + 1) ∧ Ksame mo mo' ∧ CSx st' (A8 (Mo_state mo') k') m n p l s r cd := by
      intro mo2 hs
      obtain ⟨st', mo', k', j1, j2, j3, j4, j5⟩ := ih (i + 1) f g k (St_set_went st (upd (St_went st) i 0)) mo2 (by omega) (by omega) (by omega) (by rw [hs.state]; exact n1)
      exact ⟨st', mo', k', j1, j2, by omega, ((Ksame_st mo _).trans hs.k).trans j4, j5⟩
    rcases y2 with ⟨q1, rfl⟩ | ⟨a, q1, q2, q3⟩
    · rw [if_pos (show (0 : Int32) = 0 from rfl), if_pos q1, pu_pl, pu_pl, nI_1]
      exact stay _ (Same.refl _)
    · have hne : ¬ St_under st i = -1 := by rw [q2]; exact pu_m1_ne (by omega)
      rw [if_neg hne, pu_bd, q2]
      obtain ⟨y6, mo2, t1, t2, -, t4⟩ := pm_isBarred (mo := Mo_set_state mo (upd (Mo_state mo) (10 + 7 * i + 3) 0)) hM1 q1
      rw [t1, pu_bd2]
      have hba := hb a (by omega)
      rcases q3 with ⟨rfl, q3⟩ | ⟨rfl, q3⟩ <;> rcases t4 with ⟨rfl, t4⟩ | ⟨rfl, t4⟩
      · -- it falls
        rw [if_neg (show ¬ (1 : Int32) = 0 by decide), if_neg (show ¬ (1 : Int32) = 0 by decide), pu_ck, pu_pl, pu_ck, pu_ck, pu_pl, pu_pl, pu_pl, nI_1, nI_1]
        obtain ⟨L, P, T, rfl⟩ := t2
        have ms : ∀ X, Mo_set_state (Mo_set_letter (Mo_set_place (Mo_set_links (Mo_set_state mo (upd (Mo_state mo) (10 + 7 * i + 3) 0)) L) P) T) X = Mo_set_letter (Mo_set_place (Mo_set_links (Mo_set_state mo X) L) P) T := fun X => rfl
        have me : Mo_set_letter (Mo_set_place (Mo_set_links (Mo_set_state mo (upd (Mo_state mo) (10 + 7 * i + 3) 0)) L) P) T = Mo_set_state (Mo_set_letter (Mo_set_place (Mo_set_links mo L) P) T) (upd (Mo_state mo) (10 + 7 * i + 3) 0) := rfl
        rw [me]
        unfold fX6_takeOff
        rw [pm_s0 hc, pu_bd, pm_s3 hc, pu_bd, pu_bd, pm_o6 hc, pu_bd, pm_s6 hc, pu_bd, pu_pl, pu_pl]
        generalize hM2 : upd (upd (upd (upd (Mo_state mo) (10 + 7 * i + 3) 0) (10 + 7 * i + 0) (-1)) (10 + 7 * i + 3) 0) (10 + 7 * i + 6) (upd (upd (upd (Mo_state mo) (10 + 7 * i + 3) 0) (10 + 7 * i + 0) (-1)) (10 + 7 * i + 3) 0 (10 + 7 * i + 6) + 1) = M
        have m0 : ∀ j, j ≠ 10 + 7 * i + 0 → j ≠ 10 + 7 * i + 3 → j ≠ 10 + 7 * i + 6 → M j = Mo_state mo j := fun j z1 z2 z3 => by rw [← hM2, pk_un z3, pk_un z2, pk_un z1, pk_un z2]
        have p0 : M (10 + 7 * i + 0) = -1 := by rw [← hM2, pk_un (by omega), pk_un (by omega), pk_us]
        have p3 : M (10 + 7 * i + 3) = 0 := by rw [← hM2, pk_un (by omega), pk_us]
        have p6 : M (10 + 7 * i + 6) = Mo_state mo (10 + 7 * i + 6) + 1 := by rw [← hM2, pk_us, pk_un (by omega), pk_un (by omega), pk_un (by omega)]
        have g0 : ∀ j, j ≠ 8 → j ≠ 10 + 7 * i + 0 → j ≠ 10 + 7 * i + 3 → j ≠ 10 + 7 * i + 6 → A8 M (k + 1) j = A8 (Mo_state mo) k j := fun j z0 z1 z2 z3 => by rw [A8_o z0, A8_o z0, m0 j z1 z2 z3]
        have n2 : CSx (St_set_falls (St_set_under (St_set_went st (upd (St_went st) i 0)) (upd (St_under (St_set_went st (upd (St_went st) i 0))) i (-1))) (upd (St_falls (St_set_under (St_set_went st (upd (St_went st) i 0)) (upd (St_under (St_set_went st (upd (St_went st) i 0))) i (-1)))) i (St_falls (St_set_under (St_set_went st (upd (St_went st) i 0)) (upd (St_under (St_set_went st (upd (St_went st) i 0))) i (-1))) i + 1))) (A8 M (k + 1)) m n p l s r cd := by
          refine h0.put hc hB hL (fun e he => ⟨pk_un he, rfl, rfl, pk_un he, rfl, rfl, pk_un he⟩) (fun j h1 h2 => g0 j (by omega) (by omega) (by omega) (by omega)) ?_ ?_
          · refine ⟨?_, ?_, ?_, ?_, ?_, ?_, ?_, Or.inl pk_us, Or.inl pk_us⟩
            · rw [A8_o (by omega), p0]; exact pk_us.symm
            · rw [A8_o (by omega), m0 _ (by omega) (by omega) (by omega)]; exact c1
            · rw [A8_o (by omega), m0 _ (by omega) (by omega) (by omega)]; exact c2
            · rw [A8_o (by omega), p3]; exact (if_pos (pk_us (f := St_under st))).symm
            · rw [A8_o (by omega), m0 _ (by omega) (by omega) (by omega)]; exact c4
            · rw [A8_o (by omega), m0 _ (by omega) (by omega) (by omega)]; exact c5
            · rw [A8_o (by omega), p6, c6]; exact pk_us.symm
          · obtain ⟨jl, js, jf⟩ := k1 i hc
            refine ⟨?_, ?_, la, sp, (fun e => if e = i then fa i + 1 else fa e), dn, fun e he => ?_, ?_, ?_, k4, ?_, k6, ?_⟩
            · rw [A8_o (by omega), m0 _ (by omega) (by omega) (by omega)]; exact h5
            · rw [A8_o (by omega), m0 _ (by omega) (by omega) (by omega)]; exact h6
            · dsimp only
              obtain ⟨j1, j2, j3⟩ := k1 e he
              by_cases q : e = i
              · subst q
                rw [if_pos rfl]
                exact ⟨j1, j2, by rw [← nI_1, ← jf]; exact pk_us⟩
              · rw [if_neg q]
                exact ⟨j1, j2, (pk_un q).trans j3⟩
            · rw [A8_o (by omega), m0 _ (by omega) (by omega) (by omega)]; exact k2
            · have h8 := S3_upd fa hc (fa i + 1)
              have e1 : A8 M (k + 1) 8 = A8 (Mo_state mo) k 8 + 1 := by
                show upd M 8 (M 8 + nI (k + 1)) 8 = upd (Mo_state mo) 8 (Mo_state mo 8 + nI k) 8 + 1
                rw [pk_us, pk_us, m0 8 (by omega) (by omega) (by omega), ← nI_1, Int32.add_assoc]
              rw [e1, k3, nI_1]
              refine congrArg nI ?_
              show S3 fa + 1 = S3 (fun e => if e = i then fa i + 1 else fa e)
              omega
            · rw [A8_o (by omega), m0 _ (by omega) (by omega) (by omega)]; exact k5
            · have h8 := S3_upd (fun e => onk st e (sp e)) hc 0
              show dn + S3 (fun e => onk _ e (sp e)) ≤ m
              rw [S3_cong (g := fun e => if e = i then 0 else onk st e (sp e)) (fun e he => by
                by_cases q : e = i
                · subst q
                  rw [if_pos rfl]
                  refine onk_off ?_
                  exact pk_us
                · rw [if_neg q]
                  exact onk_cong (pk_un q))]
              have := S3_part (fun e => onk st e (sp e)) hc
              omega
        obtain ⟨st', mo', k', j1, j2, j3, j4, j5⟩ := ih (i + 1) f g (k + 1) _ (Mo_set_state (Mo_set_letter (Mo_set_place (Mo_set_links mo L) P) T) M) (by omega) (by omega) (by omega) n2
        refine ⟨st', mo', k', j1, j2, by omega, Ksame.trans ?_ j4, j5⟩
        exact ⟨M, L, P, T, rfl⟩
      · exact absurd (hba.mp q3) t4
      · rw [hba.mpr t4] at q3; cases q3
      · rw [if_pos (show (0 : Int32) = 0 from rfl), if_pos (show (0 : Int32) = 0 from rfl), pu_pl, pu_pl, nI_1]
        exact stay _ t2
end TRN
