section ADD
/-! what calls may change beside the history: the state, the reading, the looks -/
def Psame (a b : Mo) : Prop := Mo_thrown b = Mo_thrown a ∧ Mo_saved b = Mo_saved a ∧ Mo_savedMany b = Mo_savedMany a ∧ Mo_snapshot b = Mo_snapshot a ∧ Mo_hasSnapshot b = Mo_hasSnapshot a ∧ Mo_buffer b = Mo_buffer a ∧ Mo_length b = Mo_length a ∧ Mo_hash b = Mo_hash a
theorem Psame.refl (a : Mo) : Psame a a := ⟨rfl, rfl, rfl, rfl, rfl, rfl, rfl, rfl⟩
theorem Psame.trans {a b c : Mo} (h1 : Psame a b) (h2 : Psame b c) : Psame a c := by
  obtain ⟨a1, a2, a3, a4, a5, a6, a7, a8⟩ := h1
  obtain ⟨b1, b2, b3, b4, b5, b6, b7, b8⟩ := h2
  exact ⟨b1.trans a1, b2.trans a2, b3.trans a3, b4.trans a4, b5.trans a5, b6.trans a6, b7.trans a7, b8.trans a8⟩
theorem Ksame.p {a b : Mo} (h : Ksame a b) : Psame a b := by
  obtain ⟨A, L, P, T, rfl⟩ := h
  exact ⟨rfl, rfl, rfl, rfl, rfl, rfl, rfl, rfl⟩
theorem Same.p {a b : Mo} (h : Same a b) : Psame a b := h.k.p
theorem Tsame.p {a b : Mo} (h : Tsame a b) : Psame a b := by
  obtain ⟨X, C, W, rfl⟩ := h
  exact ⟨rfl, rfl, rfl, rfl, rfl, rfl, rfl, rfl⟩
theorem Psame.rest {a b : Mo} (h : Psame a b) : Mo_thrown b = Mo_thrown a ∧ Mo_saved b = Mo_saved a ∧ Mo_savedMany b = Mo_savedMany a ∧ Mo_snapshot b = Mo_snapshot a ∧ Mo_hasSnapshot b = Mo_hasSnapshot a ∧ Mo_buffer b = Mo_buffer a ∧ Mo_length b = Mo_length a ∧ Mo_hash b = Mo_hash a := h
theorem TB.p {tx : Tx} {a b : Mo} {len : Nat} {c : Nat → Nat} (h : TB tx a len c) (hs : Psame a b) : TB tx b len c := by
  obtain ⟨-, -, -, -, -, h1, h2, -⟩ := hs.rest
  unfold TB
  rw [h1, h2]
  exact h
theorem Ksame.rd {a b : Mo} (h : Ksame a b) : Mo_at b = Mo_at a ∧ Mo_readClimber b = Mo_readClimber a ∧ Mo_readWord b = Mo_readWord a := by
  obtain ⟨A, L, P, T, rfl⟩ := h
  exact ⟨rfl, rfl, rfl⟩
/-! a turn -/
theorem cs_turn {st : St} {mo : Mo} {m n p l s r : Nat} {cd : Nat → Nat} (h : CSx st (Mo_state mo) m n p l s r cd) : ∃ k st' mo', fX2_passTurn st = some (nI k, st') ∧ fX6_passes mo = some (nI k, mo') ∧ k ≤ 3 ∧ Ksame mo mo' ∧ CSx st' (Mo_state mo') m n ((p + 1) % 4) ((l + (p + 1) / 4 * s) % 8) s r cd := by
  obtain ⟨hB, hL, hM, hC, h5, h6, la, sp, fa, dn, k1, k2, k3, k4, k5, k6, k7⟩ := h
  have hp := hB.2.2.2.2.2.2.1
  have hl8 := hB.2.2.2.2.2.2.2.1
  have hs8 := hB.2.2.2.2.2.2.2.2.1
  -- the reference until its loop
  obtain ⟨mo1, e1, e2, e3, e4⟩ := pm_barNow hM
  obtain ⟨mo2, f1, f2, f3, f4, f5⟩ := pm_moveBar (mo := mo1) (by rw [e2.state]; exact hM) e4
  have es : Mo_state mo2 = Mo_state mo := by rw [f2.state, e2.state]
  have ks := (e2.trans f2).k
  rw [show p + (0 + 1) = p + 1 from rfl] at f4 f5
  have hl' : (l + (p + 1) / 4 * s) % 8 < 8 := Nat.mod_lt _ (by decide)
  have hp' : (p + 1) % 4 < 4 := Nat.mod_lt _ (by decide)
  generalize hP : (p + 1) % 4 = P at *
  generalize hT : (l + (p + 1) / 4 * s) % 8 = T at *
  generalize hA : Mo_state mo = A at *
  have hX : ∀ j, j ≠ 1 → j ≠ 2 → j ≠ 5 → upd (upd (upd A 1 (nI P)) 2 (nI T)) 5 (upd (upd A 1 (nI P)) 2 (nI T) 5 + 1) j = A j := fun j z1 z2 z3 => by rw [pk_un z3, pk_un z2, pk_un z1]
  generalize hA5 : upd (upd (upd A 1 (nI P)) 2 (nI T)) 5 (upd (upd A 1 (nI P)) 2 (nI T) 5 + 1) = A5 at *
  have x1 : A5 1 = nI P := by rw [← hA5, pk_un (by omega), pk_un (by omega), pk_us]
  have x2 : A5 2 = nI T := by rw [← hA5, pk_un (by omega), pk_us]
  have x5 : A5 5 = A 5 + 1 := by rw [← hA5, pk_us, pk_un (by omega), pk_un (by omega)]
  -- the new state before its loop
  have n0 : CSx (St_set_letter (St_set_place (St_set_turns st (St_turns st + 1)) (nI P)) (nI T)) (A8 A5 0) m n P T s r cd := by
    obtain ⟨b1, b2, b3, b4, b5, b6, b7, b8, b9, b10, b11⟩ := hB
    obtain ⟨a1, a2, a3, a4, a5, a6, a7, a8, a9, a10, a11⟩ := hM
    refine ⟨⟨b1, rfl, rfl, b4, b5, b6, hp', hl', b9, b10, b11⟩, hL, ?_, fun e he => ?_, ?_⟩
    · unfold MB
      rw [A8_o (by omega), A8_o (by omega), A8_o (by omega), A8_o (by omega), A8_o (by omega), hX 0 (by omega) (by omega) (by omega), x1, x2, hX 3 (by omega) (by omega) (by omega), hX 4 (by omega) (by omega) (by omega)]
      exact ⟨a1, rfl, rfl, a4, a5, a6, hp', hl', a9, a10, fun w hw => by rw [A8_o (by omega), hX _ (by omega) (by omega) (by omega)]; exact a11 w hw⟩
    · unfold Cl1
      rw [A8_o (by omega), A8_o (by omega), A8_o (by omega), A8_o (by omega), A8_o (by omega), A8_o (by omega), A8_o (by omega), hX _ (by omega) (by omega) (by omega), hX _ (by omega) (by omega) (by omega), hX _ (by omega) (by omega) (by omega), hX _ (by omega) (by omega) (by omega), hX _ (by omega) (by omega) (by omega), hX _ (by omega) (by omega) (by omega), hX _ (by omega) (by omega) (by omega)]
      exact hC e he
    · refine ⟨?_, ?_, la, sp, fa, dn, k1, ?_, ?_, k4, ?_, k6, k7⟩
      · rw [A8_o (by omega), x5, h5]; rfl
      · rw [A8_o (by omega), hX _ (by omega) (by omega) (by omega)]; exact h6
      · rw [A8_o (by omega), hX _ (by omega) (by omega) (by omega)]; exact k2
      · show upd A5 8 (A5 8 + nI 0) 8 = _
        rw [pk_us, hX _ (by omega) (by omega) (by omega), k3, nI_add]
        rfl
      · rw [A8_o (by omega), hX _ (by omega) (by omega) (by omega)]; exact k5
  obtain ⟨b, g1, g2⟩ := pu_barred n0.1 (t := 0) (by decide)
  have g1' : fX2_barredAfter (St_set_letter (St_set_place (St_set_turns st (St_turns st + 1)) (nI P)) (nI T)) (0 : Int32) = some b := g1
  have n0' : CSx (St_set_letter (St_set_place (St_set_turns st (St_turns st + 1)) (nI P)) (nI T)) (A8 (Mo_state (Mo_set_state mo2 A5)) 0) m n P T s r cd := n0
  obtain ⟨st', mo', k, t1, t2, t3, t4, t5⟩ := cs_pt_L g2 3 0 1000 1000 0 _ _ rfl (by decide) (by decide) n0'
  have t1' : fX2_passTurn_L59 b 1000 (0 : Int32) (0 : Int32) (St_set_letter (St_set_place (St_set_turns st (St_turns st + 1)) (nI P)) (nI T)) = some (nI k, st') := t1
  have t2' : fX6_passes_L42 1000 (0 : Int32) (0 : Int32) (Mo_set_state mo2 A5) = some (nI k, mo') := t2
  refine ⟨k, st', Mo_set_state mo' (A8 (Mo_state mo') k), ?_, ?_, by omega, ?_, t5⟩
  · unfold fX2_passTurn
    rw [pu_pl, pu_pl, show St_place (St_set_place (St_set_turns st (St_turns st + (1 : Int32))) (St_place (St_set_turns st (St_turns st + (1 : Int32))) + (1 : Int32))) = nI (p + 1) from by rw [← nI_1, ← hB.2.1]; rfl]
    by_cases e : p + 1 < 4
    · have eP : p + 1 = P := by omega
      have eT : T = l := by
        have : (p + 1) / 4 = 0 := by omega
        rw [this, Nat.zero_mul] at hT
        omega
      rw [if_pos (show nI (p + 1) < (4 : Int32) from nI_lt (b := 4) e (by omega))]
      have est : St_set_place (St_set_turns st (St_turns st + (1 : Int32))) (St_place (St_set_turns st (St_turns st + (1 : Int32))) + (1 : Int32)) = St_set_letter (St_set_place (St_set_turns st (St_turns st + 1)) (nI P)) (nI T) := by
        rw [eT, ← hB.2.2.1, ← eP, ← nI_1, ← hB.2.1]
        rfl
      rw [est, g1', pu_bd, t1', pu_bd2]
    · have eP : P = 0 := by omega
      rw [if_neg (show ¬ nI (p + 1) < (4 : Int32) from nI_nlt (a := p + 1) (b := 4) (by omega) (by omega)), pu_pl, pu_pl]
      have eT : (St_letter (St_set_place (St_set_place (St_set_turns st (St_turns st + (1 : Int32))) (St_place (St_set_turns st (St_turns st + (1 : Int32))) + (1 : Int32))) (0 : Int32)) + St_letterStep (St_set_place (St_set_place (St_set_turns st (St_turns st + (1 : Int32))) (St_place (St_set_turns st (St_turns st + (1 : Int32))) + (1 : Int32))) (0 : Int32))) - (St_letter (St_set_place (St_set_place (St_set_turns st (St_turns st + (1 : Int32))) (St_place (St_set_turns st (St_turns st + (1 : Int32))) + (1 : Int32))) (0 : Int32)) + St_letterStep (St_set_place (St_set_place (St_set_turns st (St_turns st + (1 : Int32))) (St_place (St_set_turns st (St_turns st + (1 : Int32))) + (1 : Int32))) (0 : Int32))) / (8 : Int32) * (8 : Int32) = nI T := by
        show (St_letter st + St_letterStep st) - (St_letter st + St_letterStep st) / (8 : Int32) * (8 : Int32) = nI T
        rw [hB.2.2.1, hB.2.2.2.1, nI_add, show (8 : Int32) = nI 8 from rfl, pk_rem (by omega) (by decide) (by decide)]
        have : (p + 1) / 4 = 1 := by omega
        rw [this, Nat.one_mul] at hT
        rw [hT]
      rw [eT]
      have est : St_set_letter (St_set_place (St_set_place (St_set_turns st (St_turns st + (1 : Int32))) (St_place (St_set_turns st (St_turns st + (1 : Int32))) + (1 : Int32))) (0 : Int32)) (nI T) = St_set_letter (St_set_place (St_set_turns st (St_turns st + 1)) (nI P)) (nI T) := by
        rw [eP]
        rfl
      rw [est, g1', pu_bd, t1', pu_bd2]
  · unfold fX6_passes
    rw [e1, pu_bd, f1, pu_bd, i55_1, c55_1, pu_ck, pu_pl, i55_2, c55_2, pu_ck, pu_pl, i55_5, c55_5, pu_ck, pu_ck, pu_pl]
    have em : Mo_set_state (Mo_set_state (Mo_set_state mo2 (upd (Mo_state mo2) 1 (Mo_place mo2))) (upd (Mo_state (Mo_set_state mo2 (upd (Mo_state mo2) 1 (Mo_place mo2)))) 2 (Mo_letter (Mo_set_state mo2 (upd (Mo_state mo2) 1 (Mo_place mo2)))))) (upd (Mo_state (Mo_set_state (Mo_set_state mo2 (upd (Mo_state mo2) 1 (Mo_place mo2))) (upd (Mo_state (Mo_set_state mo2 (upd (Mo_state mo2) 1 (Mo_place mo2)))) 2 (Mo_letter (Mo_set_state mo2 (upd (Mo_state mo2) 1 (Mo_place mo2))))))) 5 (Mo_state (Mo_set_state (Mo_set_state mo2 (upd (Mo_state mo2) 1 (Mo_place mo2))) (upd (Mo_state (Mo_set_state mo2 (upd (Mo_state mo2) 1 (Mo_place mo2)))) 2 (Mo_letter (Mo_set_state mo2 (upd (Mo_state mo2) 1 (Mo_place mo2)))))) 5 + (1 : Int32))) = Mo_set_state mo2 A5 := by
      rw [← hA5, ← f4, ← f5, ← es]
      rfl
    rw [em, t2', pu_bd2, i55_8, c55_8, pu_ck, pu_ck, pu_pl]
    rfl
  · exact (ks.trans (Ksame_st mo2 A5)).trans (t4.trans (Ksame_st mo' _))
/-! words taken in -/
theorem pm_found_L {mo : Mo} {n p l s r q : Nat} {cd : Nat → Nat} (h : MB (Mo_state mo) n p l s r cd) (hq : q < 4096) (hr : Mo_readWord mo = nI q) : ∀ (d i f : Nat), i + d = n → d < f → (∀ v, v < i → cd v ≠ q) → ∃ y, fX6_found_L2 mo f (nI i) = some y ∧ ((∃ w, w < n ∧ cd w = q ∧ (∀ v, v < w → cd v ≠ q) ∧ y = nI w) ∨ ((∀ w, w < n → cd w ≠ q) ∧ y = -1)) := by
  have hn := h.2.2.2.2.2.1
  intro d
  induction d with
  | zero =>
    intro i f hi hf g
    obtain ⟨f, rfl, -⟩ := pu_fuel hf
    refine ⟨-1, ?_, Or.inr ⟨fun w hw => g w (by omega), rfl⟩⟩
    rw [fX6_found_L2, i55_0, c55_0, h.1, pu_ck, if_pos (nI_le (by omega) (by omega))]
  | succ d ih =>
    intro i f hi hf g
    obtain ⟨f, rfl, hf⟩ := pu_fuel hf
    have hin : i < n := by omega
    obtain ⟨h3, h4⟩ := h.2.2.2.2.2.2.2.2.2.2 i hin
    rw [fX6_found_L2, i55_0, c55_0, h.1, pu_ck, if_neg (nI_ge hin (by omega)), pm_31, pu_inb (by omega) (by decide), pu_cl (by omega), h3, hr, pu_ck]
    by_cases e : cd i = q
    · rw [if_pos (by rw [e])]
      exact ⟨_, rfl, Or.inl ⟨i, hin, e, g, rfl⟩⟩
    · rw [if_neg (by rw [nI_eq (by omega) (by omega)]; exact e), pu_pl, nI_1]
      exact ih (i + 1) f (by omega) (by omega) (fun v hv => by
        by_cases e2 : v = i
        · rw [e2]; exact e
        · exact g v (by omega))
theorem pm_found {mo : Mo} {n p l s r q : Nat} {cd : Nat → Nat} (h : MB (Mo_state mo) n p l s r cd) (hq : q < 4096) (hr : Mo_readWord mo = nI q) : ∃ y, fX6_found mo = some y ∧ ((∃ w, w < n ∧ cd w = q ∧ (∀ v, v < w → cd v ≠ q) ∧ y = nI w) ∨ ((∀ w, w < n → cd w ≠ q) ∧ y = -1)) := by
  have hn := h.2.2.2.2.2.1
  exact pm_found_L h hq hr n 0 1000 (by omega) (by omega) (fun v hv => by omega)
theorem cs_take {st st' : St} {A : AI} {m n p l s r q : Nat} {cd : Nat → Nat} (h : CSx st A m n p l s r cd) (hq : q < 4096) (hn24 : n < 24) (hB' : Base st' (n + 1) p l s r (cd_add n q cd)) (hL' : Lks (St_links st') (n + 1) r (cd_add n q cd)) (hsame : ∃ C W L, st' = St_set_links (St_set_words (St_set_codes st C) W) L) : CSx st' (upd (upd A (31 + n) (nI q)) 0 (nI (n + 1))) m (n + 1) p l s r (cd_add n q cd) := by
  obtain ⟨C, W, L, rfl⟩ := hsame
  obtain ⟨hB, hL, hM, hC, h5, h6, la, sp, fa, dn, k1, k2, k3, k4, k5, k6, k7⟩ := h
  obtain ⟨a1, a2, a3, a4, a5, a6, a7, a8, a9, a10, a11⟩ := hM
  have hX : ∀ j, j ≠ 0 → j ≠ 31 + n → upd (upd A (31 + n) (nI q)) 0 (nI (n + 1)) j = A j := fun j z1 z2 => by rw [pk_un z1, pk_un z2]
  refine ⟨hB', hL', ?_, fun e he => ?_, ?_⟩
  · unfold MB
    rw [pk_us, hX 1 (by omega) (by omega), hX 2 (by omega) (by omega), hX 3 (by omega) (by omega), hX 4 (by omega) (by omega)]
    refine ⟨rfl, a2, a3, a4, a5, by omega, a7, a8, a9, a10, fun w hw => ?_⟩
    unfold cd_add
    by_cases e : w = n
    · subst e
      rw [pk_un (by omega), pk_us, if_pos rfl]
      exact ⟨rfl, hq⟩
    · rw [hX _ (by omega) (by omega), if_neg e]
      exact a11 w (by omega)
  · obtain ⟨c0, c1, c2, c3, c4, c5, c6, c7, c8⟩ := hC e he
    unfold Cl1
    rw [hX _ (by omega) (by omega), hX _ (by omega) (by omega), hX _ (by omega) (by omega), hX _ (by omega) (by omega), hX _ (by omega) (by omega), hX _ (by omega) (by omega), hX _ (by omega) (by omega)]
    refine ⟨c0, c1, c2, c3, c4, c5, c6, c7, ?_⟩
    rcases c8 with c8 | ⟨a, z, z1, z2, z3, z4, z5⟩
    · exact Or.inl c8
    · exact Or.inr ⟨a, z, by omega, by omega, z3, z4, z5⟩
  · refine ⟨?_, ?_, la, sp, fa, dn, k1, ?_, ?_, k4, ?_, k6, k7⟩
    · rw [hX _ (by omega) (by omega)]; exact h5
    · rw [hX _ (by omega) (by omega)]; exact h6
    · rw [hX _ (by omega) (by omega)]; exact k2
    · rw [hX _ (by omega) (by omega)]; exact k3
    · rw [hX _ (by omega) (by omega)]; exact k5
end ADD
