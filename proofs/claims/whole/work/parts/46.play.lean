section PLY
theorem dS_live {what len : Nat} {c : Nat → Nat} (h : dS what c len = 0) {i : Nat} (hi : i ≤ len) : dS what c i ≠ 6 := fun q => by
  have := dS_dead q (len - i)
  rw [show i + (len - i) = len by omega, h] at this
  cases this
theorem dS_l1 {what len i k : Nat} {c : Nat → Nat} (h : dS what c len = 0) (hi : i ≤ len) (hk : dS what c i = k) (h1 : 1 ≤ k) (h2 : k ≤ 4) : i < len ∧ (97 ≤ c i ∧ c i ≤ 104) ∧ dS what c (i + 1) = k - 1 := by
  have hi2 : i < len := by
    refine Nat.lt_of_le_of_ne hi fun q => ?_
    rw [q, h] at hk
    omega
  have hl := dS_live h (i := i + 1) (by omega)
  have e := dS_1 what c i
  rw [hk, dl_letter h1 h2] at e
  by_cases q : 97 ≤ c i ∧ c i ≤ 104
  · rw [if_pos q] at e
    exact ⟨hi2, q, e⟩
  · rw [if_neg q] at e
    exact absurd e hl
theorem dS_l4 {what len i : Nat} {c : Nat → Nat} (h : dS what c len = 0) (hi : i ≤ len) (hk : dS what c i = 4) : i + 4 ≤ len ∧ (∀ j, j < 4 → 97 ≤ c (i + j) ∧ c (i + j) ≤ 104) ∧ dS what c (i + 4) = 0 := by
  obtain ⟨a1, a2, a3⟩ := dS_l1 h hi hk (by decide) (by decide)
  obtain ⟨b1, b2, b3⟩ := dS_l1 h (by omega) a3 (by decide) (by decide)
  obtain ⟨c1, c2, c3⟩ := dS_l1 h (by omega) b3 (by decide) (by decide)
  obtain ⟨d1, d2, d3⟩ := dS_l1 h (by omega) c3 (by decide) (by decide)
  refine ⟨by omega, fun j hj => ?_, d3⟩
  rcases (show j = 0 ∨ j = 1 ∨ j = 2 ∨ j = 3 by omega) with rfl | rfl | rfl | rfl
  · exact a2
  · exact b2
  · exact c2
  · exact d2
theorem dS_sep {what len e : Nat} {c : Nat → Nat} (h : dS what c len = 0) (he : e ≤ len) (hk : dS what c e = 0) : e = len ∨ (dS what c (e + 1) = 5 ∧ e + 1 < len) := by
  by_cases q : e = len
  · exact Or.inl q
  · refine Or.inr ?_
    have hl := dS_live h (i := e + 1) (by omega)
    have e1 := dS_1 what c e
    rw [hk, dl_sep] at e1
    have : dS what c (e + 1) = 5 := by
      by_cases z : c e = (if what = 1 then 44 else 59)
      · rw [if_pos z] at e1; exact e1
      · rw [if_neg z] at e1; exact absurd e1 hl
    refine ⟨this, Nat.lt_of_le_of_ne (by omega) fun z => ?_⟩
    rw [z, h] at this
    cases this
theorem dS_pw {len i : Nat} {c : Nat → Nat} (h : dS 1 c len = 0) (hi : i < len) (hk : dS 1 c i = 5) : i + 4 ≤ len ∧ (∀ j, j < 4 → 97 ≤ c (i + j) ∧ c (i + j) ≤ 104) ∧ (i + 4 = len ∨ (dS 1 c (i + 5) = 5 ∧ i + 5 < len)) := by
  have hl := dS_live h (i := i + 1) (by omega)
  have e := dS_1 1 c i
  rw [hk, dl_word] at e
  have q : 97 ≤ c i ∧ c i ≤ 104 := by
    by_cases q : 97 ≤ c i ∧ c i ≤ 104
    · exact q
    · rw [if_neg q] at e; exact absurd e hl
  rw [if_pos q] at e
  obtain ⟨b1, b2, b3⟩ := dS_l1 h (by omega) e (by decide) (by decide)
  obtain ⟨c1, c2, c3⟩ := dS_l1 h (by omega) b3 (by decide) (by decide)
  obtain ⟨d1, d2, d3⟩ := dS_l1 h (by omega) c3 (by decide) (by decide)
  refine ⟨by omega, fun j hj => ?_, dS_sep h (by omega) d3⟩
  rcases (show j = 0 ∨ j = 1 ∨ j = 2 ∨ j = 3 by omega) with rfl | rfl | rfl | rfl
  · exact q
  · exact b2
  · exact c2
  · exact d2
theorem dS_pc {len i : Nat} {c : Nat → Nat} (h : dS 0 c len = 0) (hi : i < len) (hk : dS 0 c i = 5) : (c i = 116 ∧ (i + 1 = len ∨ (dS 0 c (i + 2) = 5 ∧ i + 2 < len))) ∨ (c i ≠ 116 ∧ (48 ≤ c i ∧ c i < 51) ∧ i + 1 + 4 ≤ len ∧ (∀ j, j < 4 → 97 ≤ c (i + 1 + j) ∧ c (i + 1 + j) ≤ 104) ∧ (i + 1 + 4 = len ∨ (dS 0 c (i + 6) = 5 ∧ i + 6 < len))) := by
  have hl := dS_live h (i := i + 1) (by omega)
  have e := dS_1 0 c i
  rw [hk, dl_climb] at e
  by_cases q : c i = 116
  · rw [if_pos q] at e
    exact Or.inl ⟨q, dS_sep h (by omega) e⟩
  · rw [if_neg q] at e
    by_cases q2 : 48 ≤ c i ∧ c i < 51
    · rw [if_pos q2] at e
      obtain ⟨a1, a2, a3⟩ := dS_l4 h (by omega) e
      exact Or.inr ⟨q, q2, a1, a2, dS_sep h a1 a3⟩
    · rw [if_neg q2] at e
      exact absurd e hl
theorem cs_add_L {tx : Tx} {len n0 m p l s r : Nat} {c : Nat → Nat} (hd0 : dS 1 c len = 0) : ∀ (D i f g : Nat) (st : St) (mo : Mo) (n : Nat) (cd : Nat → Nat), len + 1 - i ≤ D → D < f → D + 1 < g → TB tx mo len c → i ≤ len + 1 → (i < len → dS 1 c i = 5) → CSx st (Mo_state mo) m n p l s r cd → Mo_at mo = nI i → n0 ≤ n → ∃ n' cd' st' mo', fX5_takeInWords_L10 tx (nI n0) f (nI i) st = some (nI (n' - n0), st') ∧ fX6_add_L33 g (nI (n - n0)) (1 : Int32) mo = some (nI (n' - n0), mo') ∧ Psame mo mo' ∧ CSx st' (Mo_state mo') m n' p l s r cd' := by
  intro D
  induction D with
  | zero =>
    intro i f g st mo n cd hD hf hg hT hi hdi h ha hn0
    obtain ⟨f, rfl, -⟩ := pu_fuel hf
    obtain ⟨g, rfl, -⟩ := pu_fuel hg
    have hl := hT.1
    refine ⟨n, cd, st, mo, ?_, ?_, Psame.refl mo, h⟩
    · rw [fX5_takeInWords_L10, hT.2.1, if_pos (nI_le (by omega) (by omega)), h.1.1, pk_sub hn0]
    · rw [fX6_add_L33, if_neg (show ¬ (1 : Int32) = 0 by decide), hT.2.2.1, ha, if_pos (nI_le (by omega) (by omega))]
  | succ D ih =>
    intro i f g st mo n cd hD hf hg hT hi hdi h ha hn0
    obtain ⟨f, rfl, hf⟩ := pu_fuel hf
    obtain ⟨g, rfl, hg⟩ := pu_fuel hg
    have hl := hT.1
    by_cases hil : i < len
    · have hD5 : len + 1 - (i + 5) ≤ D := by omega
      have hg5 : D + 1 < g := by omega
      have hf5 : D < f := by omega
      have hn5 : n0 ≤ n + 1 := by omega
      obtain ⟨w1, w2, w3⟩ := dS_pw hd0 hil (hdi hil)
      have hq := wcd4 w2
      have hM := h.2.2.1
      obtain ⟨y, mo1, e1, e2, e3, e4⟩ := mt_letters hT.mt ha (by omega)
      have e5 : y = 1 ∧ Mo_at mo1 = nI (i + 4) ∧ Mo_readWord mo1 = nI (wcd c i 4) := by
        rcases e4 with ⟨q1, q2, q3, q4, q5⟩ | ⟨q1, q, q2, q3, q4, q5, q6⟩
        · exact ⟨q1, q4, q5⟩
        · exact absurd (w2 q q2) (q6 (by omega))
      obtain ⟨rfl, a1, r1⟩ := e5
      have hn := h.1.2.2.2.2.2.1
      have hM1 : MB (Mo_state mo1) n p l s r cd := by rw [e2.state]; exact hM
      obtain ⟨y, f1, f2⟩ := pm_found hM1 hq r1
      have hnext : i + 5 ≤ len + 1 ∧ (i + 5 < len → dS 1 c (i + 5) = 5) := by
        rcases w3 with q | ⟨q1, q2⟩
        · exact ⟨by omega, fun z => by omega⟩
        · exact ⟨by omega, fun _ => q1⟩
      have hat : ∀ X : Mo, Mo_at X = nI (i + 4) → Mo_at X + (1 : Int32) = nI (i + 5) := fun X hX => by rw [hX, nI_1]
      rw [fX5_takeInWords_L10, hT.2.1, if_neg (nI_ge hil (by omega)), tx_wc hT w1 w2, pu_bd]
      rw [fX6_add_L33, if_neg (show ¬ (1 : Int32) = 0 by decide), hT.2.2.1, ha, if_neg (nI_ge hil (by omega)), e1, pu_bd2, if_neg (show ¬ (1 : Int32) = 0 by decide), f1, pu_bd]
      rcases pu_takeIn h.1 h.2.1 hq with ⟨⟨w, v1, v2⟩, t1⟩ | ⟨v1, v2, t1⟩ | ⟨v1, v2, A', t1, t2, t3⟩
      · -- it is there
        have hy : ¬ y = -1 := by
          rcases f2 with ⟨w', z1, z2, z3, rfl⟩ | ⟨z1, z2⟩
          · exact pu_m1_ne (by omega)
          · exact absurd v2 (z1 w v1)
        rw [t1, pu_bd2, if_neg (show ¬ (1 : Int32) = 0 by decide), pu_pl, if_neg hy, pu_pl, hat mo1 a1, show nI i + (5 : Int32) = nI (i + 5) from nI_add i 5]
        have s1 : Psame mo (Mo_set_at mo1 (nI (i + 5))) := (e2.trans (Tsame_at mo1 _)).p
        obtain ⟨n', cd', st', mo', k1, k2, k3, k4⟩ := ih (i + 5) f g st (Mo_set_at mo1 (nI (i + 5))) n cd hD5 hf5 hg5 (hT.p s1) hnext.1 hnext.2 (by rw [show Mo_state (Mo_set_at mo1 (nI (i + 5))) = Mo_state mo1 from rfl, e2.state]; exact h) rfl hn0
        exact ⟨n', cd', st', mo', k1, k2, s1.trans k3, k4⟩
      · -- no room
        have hy : y = -1 := by
          rcases f2 with ⟨w', z1, z2, z3, z4⟩ | ⟨z1, z2⟩
          · exact absurd z2 (v1 w' z1)
          · exact z2
        have h24 : (24 : Int32) ≤ Mo_state mo1 0 := by
          rw [hM1.1]
          exact nI_le (a := 24) (by omega) (by omega)
        rw [t1, pu_bd2, if_pos (show (0 : Int32) = 0 from rfl), if_pos hy, i55_0, c55_0, pu_ck, if_pos h24, pu_pl]
        obtain ⟨g, rfl, -⟩ := pu_fuel (show 0 < g by omega)
        refine ⟨n, cd, st, Mo_set_at mo1 (Mo_at mo1 + (1 : Int32)), ?_, ?_, (e2.trans (Tsame_at mo1 _)).p, ?_⟩
        · rw [h.1.1, pk_sub hn0]
        · rw [fX6_add_L33, if_pos rfl]
        · rw [show Mo_state (Mo_set_at mo1 (Mo_at mo1 + (1 : Int32))) = Mo_state mo1 from rfl, e2.state]
          exact h
      · -- a new word
        have hy : y = -1 := by
          rcases f2 with ⟨w', z1, z2, z3, z4⟩ | ⟨z1, z2⟩
          · exact absurd z2 (v1 w' z1)
          · exact z2
        have h24 : ¬ (24 : Int32) ≤ Mo_state mo1 0 := by
          rw [hM1.1]
          exact nI_ge (b := 24) v2 (by omega)
        rw [t1, pu_bd2, if_neg (show ¬ (1 : Int32) = 0 by decide), pu_pl, if_pos hy, i55_0, c55_0, pu_ck, if_neg h24, pu_ck, hM1.1, pm_31, pu_inb (by omega) (by decide), pu_cl (by omega), pu_ck, pu_pl, pu_ck, pu_ck, pu_pl, pu_pl, pu_pl, r1, nI_1, show nI i + (5 : Int32) = nI (i + 5) from nI_add i 5]
        have em : Mo_set_state (Mo_set_state mo1 (upd (Mo_state mo1) (31 + n) (nI (wcd c i 4)))) (upd (Mo_state (Mo_set_state mo1 (upd (Mo_state mo1) (31 + n) (nI (wcd c i 4))))) 0 (Mo_state (Mo_set_state mo1 (upd (Mo_state mo1) (31 + n) (nI (wcd c i 4)))) 0 + (1 : Int32))) = Mo_set_state mo1 (upd (upd (Mo_state mo) (31 + n) (nI (wcd c i 4))) 0 (nI (n + 1))) := by
          rw [← nI_1, ← hM1.1, ← e2.state]
          show Mo_set_state mo1 (upd (upd (Mo_state mo1) (31 + n) (nI (wcd c i 4))) 0 (upd (Mo_state mo1) (31 + n) (nI (wcd c i 4)) 0 + 1)) = Mo_set_state mo1 (upd (upd (Mo_state mo1) (31 + n) (nI (wcd c i 4))) 0 (Mo_state mo1 0 + 1))
          rw [pk_un (by omega)]
        rw [em, show Mo_at (Mo_set_state mo1 (upd (upd (Mo_state mo) (31 + n) (nI (wcd c i 4))) 0 (nI (n + 1)))) = nI (i + 4) from a1, nI_1, show n - n0 + 1 = n + 1 - n0 by omega]
        have s1 : Psame mo (Mo_set_at (Mo_set_state mo1 (upd (upd (Mo_state mo) (31 + n) (nI (wcd c i 4))) 0 (nI (n + 1)))) (nI (i + 4 + 1))) := e2.p.trans ((Ksame_st mo1 _).p.trans (Tsame_at _ _).p)
        have h1 := cs_take h hq v2 t3 t2 ⟨_, _, _, rfl⟩
        obtain ⟨n', cd', st', mo', k1, k2, k3, k4⟩ := ih (i + 5) f g _ (Mo_set_at (Mo_set_state mo1 (upd (upd (Mo_state mo) (31 + n) (nI (wcd c i 4))) 0 (nI (n + 1)))) (nI (i + 4 + 1))) (n + 1) _ hD5 hf5 hg5 (hT.p s1) hnext.1 hnext.2 h1 rfl hn5
        exact ⟨n', cd', st', mo', k1, k2, s1.trans k3, k4⟩
    · refine ⟨n, cd, st, mo, ?_, ?_, Psame.refl mo, h⟩
      · rw [fX5_takeInWords_L10, hT.2.1, if_pos (nI_le (by omega) (by omega)), h.1.1, pk_sub hn0]
      · rw [fX6_add_L33, if_neg (show ¬ (1 : Int32) = 0 by decide), hT.2.2.1, ha, if_pos (nI_le (by omega) (by omega))]
theorem nI_k0 (k : Nat) : nI k + (0 : Int32) = nI k := nI_add k 0
theorem cs_play_L {tx : Tx} {is : Is} {wa : Wa} {hi : Hi} {len : Nat} {c : Nat → Nat} (hd0 : dS 0 c len = 0) : ∀ (D i f g k : Nat) (st : St) (mo : Mo) (m : Nat), len + 1 - i ≤ D → D < f → D + 1 < g → TB tx mo len c → i ≤ len + 1 → (i < len → dS 0 c i = 5) → CS st (Mo_state mo) m → Mo_at mo = nI i → ∃ k' st' mo', fX5_doParts_L4 tx is wa hi f (nI k) (nI i) st = some (nI k', st') ∧ fX6_play_L33 g (nI k) (1 : Int32) mo = some (nI k', mo') ∧ Psame mo mo' ∧ CS st' (Mo_state mo') (m + D) := by
  intro D
  induction D with
  | zero =>
    intro i f g k st mo m hD hf hg hT hi2 hdi h ha
    obtain ⟨f, rfl, -⟩ := pu_fuel hf
    obtain ⟨g, rfl, -⟩ := pu_fuel hg
    have hl := hT.1
    refine ⟨k, st, mo, ?_, ?_, Psame.refl mo, h⟩
    · rw [fX5_doParts_L4, hT.2.1, if_pos (nI_le (by omega) (by omega))]
    · rw [fX6_play_L33, if_neg (show ¬ (1 : Int32) = 0 by decide), hT.2.2.1, ha, if_pos (nI_le (by omega) (by omega))]
  | succ D ih =>
    intro i f g k st mo m hD hf hg hT hi2 hdi h ha
    obtain ⟨f, rfl, hf⟩ := pu_fuel hf
    obtain ⟨g, rfl, hg⟩ := pu_fuel hg
    have hl := hT.1
    by_cases hil : i < len
    · have hD6 : len + 1 - (i + 6) ≤ D := by omega
      have hD2 : len + 1 - (i + 2) ≤ D := by omega
      have hg5 : D + 1 < g := by omega
      have hf5 : D < f := by omega
      have hci := hT.2.2.2 i hil
      obtain ⟨n, p, l, s, r, cd, hx⟩ := h
      have hn := hx.1.2.2.2.2.2.1
      rw [fX5_doParts_L4, hT.2.1, if_neg (nI_ge hil (by omega)), tx_codeAt hT hil, pu_bd]
      rw [fX6_play_L33, if_neg (show ¬ (1 : Int32) = 0 by decide), hT.2.2.1, ha, if_neg (nI_ge hil (by omega))]
      obtain ⟨y, mo1, e1, e2, e3⟩ := mt_climb hT.mt ha (by omega)
      rw [e1, pu_bd2]
      have hx1 : CSx st (Mo_state mo1) m n p l s r cd := by rw [e2.state]; exact hx
      rcases dS_pc hd0 hil (hdi hil) with ⟨w1, w2⟩ | ⟨w1, w2, w3, w4, w5⟩
      · -- a turn
        have e4 : y = 1 ∧ Mo_at mo1 = nI (i + 1) ∧ Mo_readClimber mo1 = -1 := by
          rcases e3 with ⟨q1, q2, q3, q4, q5⟩ | ⟨q1, q2, q3, q4, q5⟩ | ⟨q1, q2, q3⟩ | ⟨q1, q2, q3, q4, q5⟩
          · exact ⟨q1, q4, q5⟩
          · exact absurd w1 q3
          · exact absurd w1 (q3 hil).1
          · exact absurd w1 q3
        obtain ⟨rfl, a1, a2⟩ := e4
        obtain ⟨kf, st2, mo2, t1, t2, t3, t4, t5⟩ := cs_turn hx1
        have hnext : i + 2 ≤ len + 1 ∧ (i + 2 < len → dS 0 c (i + 2) = 5) := by
          rcases w2 with q | ⟨q1, q2⟩
          · exact ⟨by omega, fun z => by omega⟩
          · exact ⟨by omega, fun _ => q1⟩
        have ed : fX6_doesClimb mo1 = some (1, mo2) := by
          unfold fX6_doesClimb
          rw [if_pos a2, t2, pu_bd2, if_neg (nI_pos (by omega))]
        rw [if_pos (show nI (c i) = (116 : Int32) by rw [w1]; rfl), t1, pu_bd2, pu_pl, pu_pl, nI_1, show nI i + (2 : Int32) = nI (i + 2) from nI_add i 2]
        rw [if_neg (show ¬ (1 : Int32) = 0 by decide), ed, pu_bd2, if_neg (show ¬ (1 : Int32) = 0 by decide), pu_pl, pu_pl, t4.rd.1, a1, nI_1]
        have s1 : Psame mo (Mo_set_at mo2 (nI (i + 1 + 1))) := e2.p.trans (t4.p.trans (Tsame_at _ _).p)
        obtain ⟨k', st', mo', k1, k2, k3, k4⟩ := ih (i + 2) f g (k + 1) st2 (Mo_set_at mo2 (nI (i + 1 + 1))) m hD2 hf5 hg5 (hT.p s1) hnext.1 hnext.2 ⟨_, _, _, _, _, _, t5⟩ rfl
        exact ⟨k', st', mo', k1, k2, s1.trans k3, k4.mono (by omega)⟩
      · -- a climb
        have e4 : y = 1 ∧ Mo_at mo1 = nI (i + 1 + 4) ∧ Mo_readClimber mo1 = nI (c i - 48) ∧ Mo_readWord mo1 = nI (wcd c (i + 1) 4) := by
          rcases e3 with ⟨q1, q2, q3, q4, q5⟩ | ⟨q1, q2, q3, q4, q5, q6, q7, q8, q9⟩ | ⟨q1, q2, q3⟩ | ⟨q1, q2, q3, q4, q, q5, q6, q7, q8, q9⟩
          · exact absurd q3 w1
          · exact ⟨q1, q8, q5, q9⟩
          · exact absurd w2 (q3 hil).2
          · exact absurd (w4 q q5) (q9 (by omega))
        obtain ⟨rfl, a1, a2, a3⟩ := e4
        have hq := wcd4 w4
        have hc3 : c i - 48 < 3 := by omega
        obtain ⟨v, f1, f2⟩ := pm_found hx1.2.2.1 hq a3
        obtain ⟨v', g1, g2⟩ := pu_wwc hx.1 (c := wcd c (i + 1) 4) (by omega)
        have hv : v = v' := by
          rcases f2 with ⟨a, z1, z2, z3, rfl⟩ | ⟨z1, rfl⟩ <;> rcases g2 with ⟨b, y1, y2, y3, rfl⟩ | ⟨y1, rfl⟩
          · have : a = b := by
              rcases Nat.lt_trichotomy a b with q | q | q
              · exact absurd z2 (y3 a q)
              · exact q
              · exact absurd y2 (z3 b q)
            rw [this]
          · exact absurd z2 (y1 a z1)
          · exact absurd y2 (z1 b y1)
          · rfl
        subst hv
        have hnext : i + 6 ≤ len + 1 ∧ (i + 6 < len → dS 0 c (i + 6) = 5) := by
          rcases w5 with q | ⟨q1, q2⟩
          · exact ⟨by omega, fun z => by omega⟩
          · exact ⟨by omega, fun _ => q1⟩
        have hrc : ¬ Mo_readClimber mo1 = -1 := by rw [a2]; exact pu_m1_ne (by omega)
        have stop : ∀ mo2, Same mo1 mo2 → ∃ k' st' mo', some (nI k, st) = some (nI k', st') ∧ fX6_play_L33 g (nI k) (0 : Int32) (Mo_set_at mo2 (Mo_at mo2 + (1 : Int32))) = some (nI k', mo') ∧ Psame mo mo' ∧ CS st' (Mo_state mo') (m + (D + 1)) := by
          intro mo2 hs
          obtain ⟨g, rfl, -⟩ := pu_fuel (show 0 < g by omega)
          refine ⟨k, st, Mo_set_at mo2 (Mo_at mo2 + (1 : Int32)), rfl, ?_, e2.p.trans (hs.p.trans (Tsame_at _ _).p), ?_⟩
          · rw [fX6_play_L33, if_pos rfl]
          · rw [show Mo_state (Mo_set_at mo2 (Mo_at mo2 + (1 : Int32))) = Mo_state mo2 from rfl, hs.state]
            exact CS.mono ⟨_, _, _, _, _, _, hx1⟩ (by omega)
        have hcc : ¬ nI (c i) = (116 : Int32) := fun q => w1 ((nI_eq (b := 116) (by omega) (by omega)).mp q)
        rw [if_neg hcc, if_neg (show ¬ (1 : Int32) = 0 by decide)]
        unfold fX5_goAsTold fX6_doesClimb
        rw [tx_codeAt hT hil, pu_bd, pu_pl, show nI (c i) - (48 : Int32) = nI (c i - 48) from pk_sub (b := 48) (by omega), nI_1, tx_wc hT w3 w4, pu_bd, g1, pu_bd, if_neg hrc, f1, pu_bd]
        rcases f2 with ⟨w, z1, z2, z3, rfl⟩ | ⟨z1, rfl⟩
        · obtain ⟨y, mo2, j1, j2, j3, j4⟩ := cs_why hx1 hc3 z1
          rw [if_neg (pu_m1_ne (by omega)), if_neg (pu_m1_ne (by omega)), j1, pu_bd, a2, j2, pu_bd2]
          by_cases hy : y = 0
          · have hx2 : CSx st (Mo_state mo2) m n p l s r cd := by rw [j3.state]; exact hx1
            obtain ⟨b, st2, A2, b1, b2, b3, b4⟩ := cs_move (mo := mo2) hx2 hc3 z1 (j4 hy)
            have b2' : fX6_goes mo2 (nI (c i - 48)) (nI w) = some (b, Mo_set_state mo2 A2) := b2
            have hb : ¬ b < 0 := by rcases b4 with rfl | rfl <;> decide
            rw [if_pos hy, if_pos hy, b1, pu_bd2, pu_bd2, if_neg (show ¬ (1 : Int32) = 0 by decide), pu_pl, pu_pl, nI_1, show nI i + (6 : Int32) = nI (i + 6) from nI_add i 6]
            rw [j3.k.rd.2.1, a2, b2', pu_bd2, if_neg hb, pu_bd2, if_neg (show ¬ (1 : Int32) = 0 by decide), pu_pl, pu_pl]
            have hat : Mo_at (Mo_set_state mo2 A2) + (1 : Int32) = nI (i + 6) := by
              rw [show Mo_at (Mo_set_state mo2 A2) = Mo_at mo2 from rfl, j3.k.rd.1, a1, nI_1]
            rw [hat]
            have s1 : Psame mo (Mo_set_at (Mo_set_state mo2 A2) (nI (i + 6))) := e2.p.trans (j3.p.trans ((Ksame_st _ _).p.trans (Tsame_at _ _).p))
            obtain ⟨k', st', mo', k1, k2, k3, k4⟩ := ih (i + 6) f g (k + 1) st2 (Mo_set_at (Mo_set_state mo2 A2) (nI (i + 6))) (m + 1) hD6 hf5 hg5 (hT.p s1) hnext.1 hnext.2 ⟨_, _, _, _, _, _, b3⟩ rfl
            exact ⟨k', st', mo', k1, k2, s1.trans k3, k4.mono (by omega)⟩
          · rw [if_neg hy, if_neg hy, pu_bd2, if_pos (show (0 : Int32) = 0 from rfl), pu_bd2, if_pos (show (0 : Int32) = 0 from rfl), pu_pl, pu_pl, nI_k0]
            exact stop mo2 j3
        · rw [if_pos rfl, if_pos rfl, pu_bd2, if_pos (show (0 : Int32) = 0 from rfl), pu_bd2, if_pos (show (0 : Int32) = 0 from rfl), pu_pl, pu_pl, nI_k0]
          exact stop mo1 (Same.refl mo1)
    · refine ⟨k, st, mo, ?_, ?_, Psame.refl mo, h.mono (by omega)⟩
      · rw [fX5_doParts_L4, hT.2.1, if_pos (nI_le (by omega) (by omega))]
      · rw [fX6_play_L33, if_neg (show ¬ (1 : Int32) = 0 by decide), hT.2.2.1, ha, if_pos (nI_le (by omega) (by omega))]
end PLY
