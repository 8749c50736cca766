section BCL
theorem Bs_mod {B : Nat → Nat → Prop} (hB : ∀ t w, B (t % 32) w ↔ B t w) (t : Nat) : Bs B (t % 32) = Bs B t := by
  funext u w
  exact propext (B_congr hB (by omega) w)
theorem Ly_mod {K B : Nat → Nat → Prop} {z : Nat} (hB : ∀ t w, B (t % 32) w ↔ B t w) (t k w : Nat) : Ly K B z (t % 32) k w ↔ Ly K B z t k w := by
  unfold Ly
  rw [Bs_mod hB]
/-- the sets of Ways behind k steps back from z -/
def WB (K B : Nat → Nat → Prop) (z k : Nat) (wa : Wa) : Prop := ∀ t, t < 32 → ∀ j, j < 32 → (bt (Wa_barred wa t) j = true ↔ B t j) ∧ (bt (Wa_layer wa t) j = true ↔ Ly K B z t k j) ∧ (bt (Wa_known wa t) j = true ↔ ∃ i, i ≤ k ∧ Ly K B z t i j)
theorem pu_linksOf {st : St} {n p l s r w : Nat} {cd : Nat → Nat} (h : Base st n p l s r cd) (hw : w < n) : fX2_linksOf st (nI w) = some (St_links st w) := by
  have hn := h.2.2.2.2.2.1
  unfold fX2_linksOf
  rw [pu_hasWord h hw, pu_inb (by omega) (by omega), pu_cl (by omega)]
  simp only [pu_bd, pu_ck]
  rw [if_neg (by decide)]
theorem Kw_symm {n r : Nat} {cd : Nat → Nat} {u j : Nat} (h : Kw n r cd u j) : Kw n r cd j u := ⟨h.2.1, h.1, h.2.2.symm⟩
theorem Kw_self {n r : Nat} {cd : Nat → Nat} {u : Nat} : ¬ Kw n r cd u u := fun h => Lkc_self _ _ h.2.2
theorem pu_sae_L {st : St} {n p l s r z : Nat} {cd : Nat → Nat} (h : Base st n p l s r cd) (hl : Lks (St_links st) n r cd) (hz : z < n) : ∀ (d i f : Nat) (wa : Wa), i + d = 32 → d < f → (∀ t, t < 32 → ∀ j, j < 32 → (bt (Wa_barred wa t) j = true ↔ Bar n p l s cd t j)) → (∀ t, t < i → ∀ j, j < 32 → (bt (Wa_layer wa t) j = true ↔ Ly (Kw n r cd) (Bar n p l s cd) z t 0 j) ∧ Wa_known wa t = Wa_layer wa t) → ∃ wa', fX4_startAtEnd_L2 st (nI z) f (nI i) wa = some wa' ∧ WB (Kw n r cd) (Bar n p l s cd) z 0 wa' := by
  have hn := h.2.2.2.2.2.1
  intro d
  induction d with
  | zero =>
    intro i f wa hi hf hb g
    obtain ⟨f, rfl, -⟩ := pu_fuel hf
    refine ⟨wa, ?_, fun t ht j hj => ?_⟩
    · rw [fX4_startAtEnd_L2, if_pos (show (32 : Int32) ≤ nI i from nI_le (a := 32) (by omega) (by omega))]
    · obtain ⟨g1, g2⟩ := g t (by omega) j hj
      refine ⟨hb t ht j hj, g1, ?_⟩
      rw [g2, g1]
      exact ⟨fun q => ⟨0, Nat.le_refl 0, q⟩, fun ⟨i, i1, i2⟩ => by rw [show i = 0 by omega] at i2; exact i2⟩
  | succ d ih =>
    intro i f wa hi hf hb g
    obtain ⟨f, rfl, hf⟩ := pu_fuel hf
    have hi32 : i < 32 := by omega
    rw [fX4_startAtEnd_L2, if_neg (show ¬ (32 : Int32) ≤ nI i from nI_ge (b := 32) (by omega) (by omega)), pu_inb (by omega) (by omega), pu_cl (by omega), pu_has (by omega), pu_linksOf h hz]
    simp only [pu_bd, pu_ck, pu_pl, nI_1]
    have hbi := hb i hi32 z (by omega)
    have step : ∀ x : Int32, (∀ j, j < 32 → (bt x j = true ↔ Ly (Kw n r cd) (Bar n p l s cd) z i 0 j)) → ∃ wa', fX4_startAtEnd_L2 st (nI z) f (nI (i + 1)) (Wa_set_known (Wa_set_layer wa (upd (Wa_layer wa) i x)) (upd (Wa_known (Wa_set_layer wa (upd (Wa_layer wa) i x))) i (Wa_layer (Wa_set_layer wa (upd (Wa_layer wa) i x)) i))) = some wa' ∧ WB (Kw n r cd) (Bar n p l s cd) z 0 wa' := by
      intro x hx
      refine ih (i + 1) f _ (by omega) (by omega) hb (fun t ht j hj => ?_)
      show (bt (upd (Wa_layer wa) i x t) j = true ↔ _) ∧ upd (Wa_known wa) i (upd (Wa_layer wa) i x i) t = upd (Wa_layer wa) i x t
      by_cases e : t = i
      · subst e
        rw [pk_us, pk_us]
        exact ⟨hx j hj, rfl⟩
      · rw [pk_un e, pk_un e]
        exact g t (by omega) j hj
    cases hc : bt (Wa_barred wa i) z
    · rw [if_pos (show (if false = true then (1 : Int32) else 0) = 0 by decide)]
      refine step _ (fun j hj => ?_)
      rw [Ly_0 Kw_self, hl z j (by omega) hj]
      rw [hc] at hbi
      exact ⟨(fun q => ⟨(fun q2 => by cases hbi.mpr q2), Kw_symm q⟩), (fun q => Kw_symm q.2)⟩
    · rw [if_neg (show ¬ (if true = true then (1 : Int32) else 0) = 0 by decide)]
      refine step _ (fun j hj => ?_)
      rw [Ly_0 Kw_self, b_0]
      exact ⟨(fun q => by cases q), (fun q => absurd (hbi.mp hc) q.1)⟩
theorem pu_sae {st : St} {n p l s r z : Nat} {cd : Nat → Nat} (h : Base st n p l s r cd) (hl : Lks (St_links st) n r cd) (hz : z < n) {wa : Wa} (hb : ∀ t, t < 32 → ∀ j, j < 32 → (bt (Wa_barred wa t) j = true ↔ Bar n p l s cd t j)) : ∃ wa', fX4_startAtEnd wa st (nI z) = some wa' ∧ WB (Kw n r cd) (Bar n p l s cd) z 0 wa' := by
  obtain ⟨wa', e1, e2⟩ := pu_sae_L h hl hz 32 0 1000 wa rfl (by decide) hb (fun t ht => by omega)
  refine ⟨wa', ?_, e2⟩
  unfold fX4_startAtEnd
  show bd (fX4_startAtEnd_L2 st (nI z) 1000 (nI 0) wa) (fun v => some v) = _
  rw [e1]
  rfl
/-- the next layer out of the sets of one step -/
theorem Ly_next {n p l s r z k t j : Nat} {cd : Nat → Nat} : Ly (Kw n r cd) (Bar n p l s cd) z t (k + 1) j ↔ (((Ly (Kw n r cd) (Bar n p l s cd) z ((t + 1) % 32) k j ∧ ¬ Bar n p l s cd ((t + 1) % 32) j) ∨ ∃ v, ((Ly (Kw n r cd) (Bar n p l s cd) z ((t + 1) % 32) k v ∧ ¬ Bar n p l s cd ((t + 1) % 32) v) ∧ ¬ Bar n p l s cd t v) ∧ Kw n r cd v j) ∧ ¬ (∃ i, i ≤ k ∧ Ly (Kw n r cd) (Bar n p l s cd) z t i j)) ∧ ¬ j = z := by
  have e1 : ∀ v, Ly (Kw n r cd) (Bar n p l s cd) z ((t + 1) % 32) k v ↔ Ly (Kw n r cd) (Bar n p l s cd) z (t + 1) k v := fun v => Ly_mod (fun t w => Bar_mod t w) _ _ _
  have e2 : ∀ v, Bar n p l s cd ((t + 1) % 32) v ↔ Bar n p l s cd (t + 1) v := fun v => Bar_mod _ _
  simp only [e1, e2]
  rw [Ly_step]
  constructor
  · rintro ⟨⟨v, ⟨v1, v2⟩, v3⟩, h2, h3⟩
    refine ⟨⟨?_, fun ⟨i, i1, i2⟩ => h2 i i1 i2⟩, h3⟩
    rcases v1 with rfl | ⟨v4, v5⟩
    · exact Or.inl ⟨v3, v2⟩
    · exact Or.inr ⟨v, ⟨⟨v3, v2⟩, v4⟩, Kw_symm v5⟩
  · rintro ⟨⟨h1, h2⟩, h3⟩
    refine ⟨?_, fun i i1 i2 => h2 ⟨i, i1, i2⟩, h3⟩
    rcases h1 with ⟨v3, v2⟩ | ⟨v, ⟨⟨v3, v2⟩, v4⟩, v5⟩
    · exact ⟨j, ⟨Or.inl rfl, v2⟩, v3⟩
    · exact ⟨v, ⟨Or.inr ⟨v4, Kw_symm v5⟩, v2⟩, v3⟩
theorem pu_sb_L5 {st : St} {n p l s r z k : Nat} {cd : Nat → Nat} (h : Base st n p l s r cd) (hl : Lks (St_links st) n r cd) (hz : z < n) : ∀ (d i f : Nat) (x : Int32) (wa : Wa), i + d = 32 → d < f → WB (Kw n r cd) (Bar n p l s cd) z k wa → (∀ t, t < i → ∀ j, j < 32 → (bt (Wa_nextLayer wa t) j = true ↔ Ly (Kw n r cd) (Bar n p l s cd) z t (k + 1) j)) → (∀ j, j < 32 → (bt x j = true ↔ ∃ t, t < i ∧ Ly (Kw n r cd) (Bar n p l s cd) z t (k + 1) j)) → ∃ x' wa', fX4_stepBack_L5 st (nI z) f x (nI i) wa = some (x', wa') ∧ WB (Kw n r cd) (Bar n p l s cd) z k wa' ∧ (∀ t, t < 32 → ∀ j, j < 32 → (bt (Wa_nextLayer wa' t) j = true ↔ Ly (Kw n r cd) (Bar n p l s cd) z t (k + 1) j)) ∧ (∀ j, j < 32 → (bt x' j = true ↔ ∃ t, t < 32 ∧ Ly (Kw n r cd) (Bar n p l s cd) z t (k + 1) j)) := by
  have hn := h.2.2.2.2.2.1
  intro d
  induction d with
  | zero =>
    intro i f x wa hi hf hw g hx
    obtain ⟨f, rfl, -⟩ := pu_fuel hf
    have : i = 32 := hi
    subst this
    refine ⟨x, wa, ?_, hw, g, hx⟩
    rw [fX4_stepBack_L5, if_pos (show (32 : Int32) ≤ nI 32 from nI_le (a := 32) (by omega) (by omega))]
  | succ d ih =>
    intro i f x wa hi hf hw g hx
    obtain ⟨f, rfl, hf⟩ := pu_fuel hf
    have hi32 : i < 32 := by omega
    have hm : (i + 1) % 32 < 32 := Nat.mod_lt _ (by decide)
    rw [fX4_stepBack_L5, if_neg (show ¬ (32 : Int32) ≤ nI i from nI_ge (b := 32) (by omega) (by omega)), nI_1, pu_rem32 _ (by omega)]
    simp only [pu_pl]
    rw [pu_inb hm (by decide), pu_cl (by omega), pu_inb hi32 (by decide), pu_cl (by omega)]
    simp only [pu_ck]
    have hs : ∀ j, j < 32 → (bt (Wa_layer wa ((i + 1) % 32) &&& (Wa_barred wa ((i + 1) % 32) ^^^ (-1 : Int32))) j = true ↔ (Ly (Kw n r cd) (Bar n p l s cd) z ((i + 1) % 32) k j ∧ ¬ Bar n p l s cd ((i + 1) % 32) j)) := fun j hj => by
      obtain ⟨w1, w2, -⟩ := hw _ hm j hj
      rw [b_and, pu_not _ hj, ← w1, ← w2]
      simp
    generalize hS : (Wa_layer wa ((i + 1) % 32) &&& (Wa_barred wa ((i + 1) % 32) ^^^ (-1 : Int32))) = sf at hs ⊢
    obtain ⟨y, e1, e2⟩ := pu_loaK hn hl (x := sf &&& (Wa_barred wa i ^^^ (-1 : Int32))) (S := fun v => (Ly (Kw n r cd) (Bar n p l s cd) z ((i + 1) % 32) k v ∧ ¬ Bar n p l s cd ((i + 1) % 32) v) ∧ ¬ Bar n p l s cd i v) (fun j hj => by
      obtain ⟨w1, -, -⟩ := hw _ hi32 j hj
      rw [b_and, pu_not _ hj, ← w1, ← hs j hj]
      simp)
    rw [e1]
    simp only [pu_bd]
    have hN : ∀ j, j < 32 → (bt (((sf ||| y) &&& (Wa_known wa i ^^^ (-1 : Int32))) &&& (((1 : Int32) <<< (nI z &&& 31)) ^^^ (-1 : Int32))) j = true ↔ Ly (Kw n r cd) (Bar n p l s cd) z i (k + 1) j) := fun j hj => by
      obtain ⟨-, -, w3⟩ := hw _ hi32 j hj
      rw [Ly_next, ← hs j hj, ← e2 j hj, ← w3, b_and, b_and, b_or, pu_not _ hj, pu_not _ hj, pu_one (by omega) hj]
      simp
    generalize hNX : (((sf ||| y) &&& (Wa_known wa i ^^^ (-1 : Int32))) &&& (((1 : Int32) <<< (nI z &&& 31)) ^^^ (-1 : Int32))) = nx at hN ⊢
    refine ih (i + 1) f _ _ (by omega) (by omega) hw (fun t ht j hj => ?_) (fun j hj => ?_)
    · show bt (upd (Wa_nextLayer wa) i nx t) j = true ↔ _
      by_cases e : t = i
      · subst e
        rw [pk_us]
        exact hN j hj
      · rw [pk_un e]
        exact g t (by omega) j hj
    · show bt (x ||| upd (Wa_nextLayer wa) i nx i) j = true ↔ _
      rw [pk_us, b_or, Bool.or_eq_true, hx j hj, hN j hj]
      constructor
      · rintro (⟨t, t1, t2⟩ | q)
        · exact ⟨t, by omega, t2⟩
        · exact ⟨i, by omega, q⟩
      · rintro ⟨t, t1, t2⟩
        by_cases e : t = i
        · exact Or.inr (e ▸ t2)
        · exact Or.inl ⟨t, by omega, t2⟩
end BCL
