section BWD
theorem pu_sb_L105 {K B : Nat → Nat → Prop} {z k : Nat} : ∀ (d i f : Nat) (wa : Wa), i + d = 32 → d < f → (∀ t, t < 32 → ∀ j, j < 32 → (bt (Wa_barred wa t) j = true ↔ B t j) ∧ (bt (Wa_nextLayer wa t) j = true ↔ Ly K B z t (k + 1) j)) → (∀ t, t < i → ∀ j, j < 32 → (bt (Wa_layer wa t) j = true ↔ Ly K B z t (k + 1) j) ∧ (bt (Wa_known wa t) j = true ↔ ∃ m, m ≤ k + 1 ∧ Ly K B z t m j)) → (∀ t, i ≤ t → t < 32 → ∀ j, j < 32 → (bt (Wa_known wa t) j = true ↔ ∃ m, m ≤ k ∧ Ly K B z t m j)) → ∃ wa', fX4_stepBack_L105 f (nI i) wa = some wa' ∧ WB K B z (k + 1) wa' := by
  intro d
  induction d with
  | zero =>
    intro i f wa hi hf hb g g2
    obtain ⟨f, rfl, -⟩ := pu_fuel hf
    refine ⟨wa, ?_, fun t ht j hj => ⟨(hb t ht j hj).1, (g t (by omega) j hj).1, (g t (by omega) j hj).2⟩⟩
    rw [fX4_stepBack_L105, if_pos (show (32 : Int32) ≤ nI i from nI_le (a := 32) (by omega) (by omega))]
  | succ d ih =>
    intro i f wa hi hf hb g g2
    obtain ⟨f, rfl, hf⟩ := pu_fuel hf
    have hi32 : i < 32 := by omega
    rw [fX4_stepBack_L105, if_neg (show ¬ (32 : Int32) ≤ nI i from nI_ge (b := 32) (by omega) (by omega)), pu_inb hi32 (by decide), pu_cl (by omega)]
    simp only [pu_ck, pu_pl, nI_1]
    refine ih (i + 1) f _ (by omega) (by omega) hb (fun t ht j hj => ?_) (fun t h1 h2 j hj => ?_)
    · show (bt (upd (Wa_layer wa) i (Wa_nextLayer wa i) t) j = true ↔ _) ∧ (bt (upd (Wa_known wa) i (Wa_known wa i ||| Wa_nextLayer wa i) t) j = true ↔ _)
      by_cases e : t = i
      · subst e
        rw [pk_us, pk_us, b_or, Bool.or_eq_true, (hb t hi32 j hj).2, g2 t (Nat.le_refl t) hi32 j hj]
        refine ⟨Iff.rfl, ?_⟩
        constructor
        · rintro (⟨m, m1, m2⟩ | q)
          · exact ⟨m, by omega, m2⟩
          · exact ⟨k + 1, Nat.le_refl _, q⟩
        · rintro ⟨m, m1, m2⟩
          by_cases e : m = k + 1
          · exact Or.inr (e ▸ m2)
          · exact Or.inl ⟨m, by omega, m2⟩
      · rw [pk_un e, pk_un e]
        exact g t (by omega) j hj
    · show bt (upd (Wa_known wa) i _ t) j = true ↔ _
      rw [pk_un (by omega)]
      exact g2 t (by omega) h2 j hj
theorem pu_sb {st : St} {n p l s r z k : Nat} {cd : Nat → Nat} (h : Base st n p l s r cd) (hl : Lks (St_links st) n r cd) (hz : z < n) {wa : Wa} (hw : WB (Kw n r cd) (Bar n p l s cd) z k wa) : ∃ y wa', fX4_stepBack wa st (nI z) = some (y, wa') ∧ WB (Kw n r cd) (Bar n p l s cd) z (k + 1) wa' ∧ ((y = 0 ∧ ∀ t, t < 32 → ∀ j, j < 32 → ¬ Ly (Kw n r cd) (Bar n p l s cd) z t (k + 1) j) ∨ (y = 1 ∧ ∃ t, t < 32 ∧ ∃ j, Ly (Kw n r cd) (Bar n p l s cd) z t (k + 1) j)) := by
  obtain ⟨x, wa1, e1, e2, e3, e4⟩ := pu_sb_L5 (k := k) h hl hz 32 0 1000 0 wa rfl (by decide) hw (fun t ht => by omega) (fun j hj => by
    rw [b_0]
    exact ⟨(fun q => by cases q), (fun ⟨t, t1, _⟩ => by omega)⟩)
  obtain ⟨wa2, f1, f2⟩ := pu_sb_L105 (K := Kw n r cd) (B := Bar n p l s cd) (z := z) (k := k) 32 0 1000 wa1 rfl (by decide) (fun t ht j hj => ⟨(e2 t ht j hj).1, e3 t ht j hj⟩) (fun t ht => by omega) (fun t _ ht j hj => (e2 t ht j hj).2.2)
  unfold fX4_stepBack
  have e1' : fX4_stepBack_L5 st (nI z) 1000 (0 : Int32) (0 : Int32) wa = some (x, wa1) := e1
  have f1' : fX4_stepBack_L105 1000 (0 : Int32) wa1 = some wa2 := f1
  rw [e1']
  simp only [pu_bd2]
  rw [f1']
  simp only [pu_bd]
  by_cases hx : x = 0
  · rw [if_pos hx]
    refine ⟨0, wa2, rfl, f2, Or.inl ⟨rfl, fun t ht j hj q => ?_⟩⟩
    have := (e4 j hj).mpr ⟨t, ht, q⟩
    rw [hx, b_0] at this
    cases this
  · rw [if_neg hx]
    refine ⟨1, wa2, rfl, f2, Or.inr ⟨rfl, ?_⟩⟩
    obtain ⟨j, j1, j2⟩ := pu_nz hx
    obtain ⟨t, t1, t2⟩ := (e4 j j1).mp j2
    exact ⟨t, t1, j, t2⟩
theorem Bs_per {B : Nat → Nat → Prop} (hB : ∀ t w, B (t % 32) w ↔ B t w) (t : Nat) : ∀ u w, Bs B t (u % 32) w ↔ Bs B t u w := fun u w => B_congr hB (by omega) w
theorem Ly_le {K B : Nat → Nat → Prop} {z t m a : Nat} (hB : ∀ t w, B (t % 32) w ↔ B t w) (ha : a < 24) (hK : ∀ v w, K v w → w < 24) (h : Ly K B z t m a) : m ≤ 768 := by
  obtain ⟨i, i1, i2⟩ := Hit_cit (Bs_per hB t) h.2.1
  have h1 := Cit_le ha hK i2
  by_cases e : i < m
  · exact absurd i2.hit (h.2.2 i e)
  · omega
theorem Hit_own {K B : Nat → Nat → Prop} {z n : Nat} (hK : ∀ v w, K v w → v < n) : ∀ (k t w : Nat), Hit K (Bs B t) w True z k → w < n := by
  intro k
  induction k with
  | zero => intro t w h; exact hK _ _ (Hit_0.mp h).2
  | succ k ih =>
    intro t w h
    obtain ⟨v, ⟨v1, -⟩, v2⟩ := Hit_first.mp h
    rcases v1 with rfl | ⟨-, v1⟩
    · exact ih _ _ v2
    · exact hK _ _ v1
theorem pu_bw_L {st : St} {n p l s r a z q : Nat} {cd : Nat → Nat} (h : Base st n p l s r cd) (hl : Lks (St_links st) n r cd) (ha : a < n) (hz : z < n) (hq : q < 2) : ∀ (d k f : Nat) (wa : Wa), k + d = 770 → d < f → WB (Kw n r cd) (Bar n p l s cd) z k wa → (∀ i, i < k → ¬ Ly (Kw n r cd) (Bar n p l s cd) z q i a) → ∃ y wa', fX4_backwards_L46 st (nI a) (nI z) f (nI q) (nI k) wa = some (y, wa') ∧ ((∃ m, Ly (Kw n r cd) (Bar n p l s cd) z q m a ∧ y = nI (m + q)) ∨ ((∀ m, m ≤ 769 → ¬ Ly (Kw n r cd) (Bar n p l s cd) z q m a) ∧ y = -1)) := by
  have hn := h.2.2.2.2.2.1
  intro d
  induction d with
  | zero =>
    intro k f wa hi hf hw g
    obtain ⟨f, rfl, -⟩ := pu_fuel hf
    refine ⟨-1, wa, ?_, Or.inr ⟨fun m hm => g m (by omega), rfl⟩⟩
    rw [fX4_backwards_L46, if_pos (show (769 : Int32) < nI k from nI_lt (a := 769) (by omega) (by omega))]
  | succ d ih =>
    intro k f wa hi hf hw g
    obtain ⟨f, rfl, hf⟩ := pu_fuel hf
    rw [fX4_backwards_L46, if_neg (show ¬ (769 : Int32) < nI k from nI_nlt (a := 769) (by omega) (by omega)), pu_inb (k := q) (by omega) (by decide), pu_cl (k := q) (by omega), pu_has (by omega)]
    simp only [pu_ck, pu_bd]
    have hwa := (hw q (by omega) a (by omega)).2.1
    cases hc : bt (Wa_layer wa q) a
    · rw [hc] at hwa
      rw [if_pos (show (if false = true then (1 : Int32) else 0) = 0 by decide)]
      have g' : ∀ i, i < k + 1 → ¬ Ly (Kw n r cd) (Bar n p l s cd) z q i a := fun i hi2 q2 => by
        by_cases e : i = k
        · subst e
          cases hwa.mpr q2
        · exact g i (by omega) q2
      obtain ⟨y, wa', e1, e2, e3⟩ := pu_sb h hl hz hw
      rw [e1]
      simp only [pu_bd2]
      rcases e3 with ⟨rfl, e3⟩ | ⟨rfl, -⟩
      · rw [if_pos rfl]
        refine ⟨-1, wa', rfl, Or.inr ⟨fun m _ q2 => ?_, rfl⟩⟩
        by_cases e : m < k + 1
        · exact g' m e q2
        · refine Ly_none (k := k + 1) (fun t w q3 => ?_) (m - (k + 1)) q a (by rw [show k + 1 + (m - (k + 1)) = m by omega]; exact q2)
          have hw32 := Hit_own (n := n) (fun v w q => q.1) _ _ _ q3.2.1
          exact e3 (t % 32) (Nat.mod_lt _ (by decide)) w (by omega) ((Ly_mod (fun t w => Bar_mod t w) _ _ _).mpr q3)
      · rw [if_neg (by decide)]
        simp only [pu_pl, nI_1]
        exact ih (k + 1) f wa' (by omega) (by omega) e2 g'
    · rw [if_neg (show ¬ (if true = true then (1 : Int32) else 0) = 0 by decide), nI_add]
      exact ⟨_, wa, rfl, Or.inl ⟨k, hwa.mp hc, rfl⟩⟩
end BWD
