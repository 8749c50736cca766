section BWD
theorem pu_sb_L105 {K B : Nat → Nat → Prop} {z k : Nat} : ∀ (d i f : Nat) (wa : Wa), i + d = 32 → d < f → (∀ t, t < 32 → ∀ j, j < 32 → (bt (Wa_barred wa t) j = true ↔ B t j) ∧ (bt (Wa_nextLayer wa t) j = true ↔ Ly K B z t (k + 1) j)) → (∀ t, t < i → ∀ j, j < 32 → (bt (Wa_layer wa t) j = true ↔ Ly K B z t (k + 1) j) ∧ (bt (Wa_known wa t) j = true ↔ ∃ m, m ≤ k + 1 ∧ Ly K B z t m j)) → (∀ t, i ≤ t → t < 32 → ∀ j, j < 32 → (bt (Wa_known wa t) j = true ↔ ∃ m, m ≤ k ∧ Ly K B z t m j)) → ∃ wa', fX4_stepBack_L105 f (nI i) wa = some wa' ∧ WB K B z (k + 1) wa' := by
  intro d
  induction d with
  | zero =>
    intro i f wa hi hf hb g g2
    obtain ⟨f, rfl, -⟩ := pu_fuel hf
    refine ⟨wa, ?_, fun t ht j hj => ⟨(hb t ht j hj).1, (g t (by omega) j hj).1, (g t (by omega) j hj).2⟩⟩
    rw [fX4_stepBack_L105, if_pos (show (32 : Int32) ≤ nI i from nI_le (a := 32) (by omega) (by omega))]
  | succ d ih =>
    intro i f wa hi hf hb g g2
    obtain ⟨f, rfl, hf⟩ := pu_fuel hf
    have hi32 : i < 32 := by omega
    rw [fX4_stepBack_L105, if_neg (show ¬ (32 : Int32) ≤ nI i from nI_ge (b := 32) (by omega) (by omega)), pu_inb hi32 (by decide), pu_cl (by omega)]
    simp only [pu_ck, pu_pl, nI_1]
    refine ih (i + 1) f _ (by omega) (by omega) hb (fun t ht j hj => ?_) (fun t h1 h2 j hj => ?_)
    · show (bt (upd (Wa_layer wa) i (Wa_nextLayer wa i) t) j = true ↔ _) ∧ (bt (upd (Wa_known wa) i (Wa_known wa i ||| Wa_nextLayer wa i) t) j = true ↔ _)
      by_cases e : t = i
      · subst e
        rw [pk_us, pk_us, b_or, Bool.or_eq_true, (hb t hi32 j hj).2, g2 t (Nat.le_refl t) hi32 j hj]
        refine ⟨Iff.rfl, ?_⟩
        constructor
        · rintro (⟨m, m1, m2⟩ | q)
          · exact ⟨m, by omega, m2⟩
          · exact ⟨k + 1, Nat.le_refl _, q⟩
        · rintro ⟨m, m1, m2⟩
          by_cases e : m = k + 1
          · exact Or.inr (e ▸ m2)
          · exact Or.inl ⟨m, by omega, m2⟩
      · rw [pk_un e, pk_un e]
        exact g t (by omega) j hj
    · show bt (upd (Wa_known wa) i _ t) j = true ↔ _
      rw [pk_un (by omega)]
      exact g2 t (by omega) h2 j hj
theorem pu_sb {st : St} {n p l s r z k : Nat} {cd : Nat → Nat} (h : Base st n p l s r cd) (hl : Lks (St_links st) n r cd) (hz : z < n) {wa : Wa} (hw : WB (Kw n r cd) (Bar n p l s cd) z k wa) : ∃ y wa', fX4_stepBack wa st (nI z) = some (y, wa') ∧ WB (Kw n r cd) (Bar n p l s cd) z (k + 1) wa' ∧ ((y = 0 ∧ ∀ t, t < 32 → ∀ j, j < 32 → ¬ Ly (Kw n r cd) (Bar n p l s cd) z t (k + 1) j) ∨ (y = 1 ∧ ∃ t, t < 32 ∧ ∃ j, Ly (Kw n r cd) (Bar n p l s cd) z t (k + 1) j)) := by
  obtain ⟨x, wa1, e1, e2, e3, e4⟩ := pu_sb_L5 (k := k) h hl hz 32 0 1000 0 wa rfl (by decide) hw (fun t ht => by omega) (fun j hj => by
    rw [b_0]
    exact ⟨(fun q => by cases q), (fun ⟨t, t1, _⟩ => by omega)⟩)
  obtain ⟨wa2, f1, f2⟩ := pu_sb_L105 (K := Kw n r cd) (B := Bar n p l s cd) (z := z) (k := k) 32 0 1000 wa1 rfl (by decide) (fun t ht j hj => ⟨(e2 t ht j hj).1, e3 t ht j hj⟩) (fun t ht => by omega) (fun t _ ht j hj => (e2 t ht j hj).2.2)
  unfold fX4_stepBack
  have e1' : fX4_stepBack_L5 st (nI z) 1000 (0 : Int32) (0 : Int32) wa = some (x, wa1) := e1
  have f1' : fX4_stepBack_L105 1000 (0 : Int32) wa1 = some wa2 := f1
  rw [e1']
  simp only [pu_bd2]
  rw [f1']
  simp only [pu_bd]
  by_cases hx : x = 0
  · rw [if_pos hx]
    refine ⟨0, wa2, rfl, f2, Or.inl ⟨rfl, fun t ht j hj q => ?_⟩⟩
    have := (e4 j hj).mpr ⟨t, ht, q⟩
    rw [hx, b_0] at this
    cases this
  · rw [if_neg hx]
    refine ⟨1, wa2, rfl, f2, Or.inr ⟨rfl, ?_⟩⟩
    obtain ⟨j, j1, j2⟩ := pu_nz hx
    obtain ⟨t, t1, t2⟩ := (e4 j j1).mp j2
    exact ⟨t, t1, j, t2⟩
end BWD
