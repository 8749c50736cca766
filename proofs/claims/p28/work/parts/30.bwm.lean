section BWM
section
variable {K B : Nat → Nat → Prop} {a z : Nat} {y : Int32}
theorem Bs_0 : Bs B 0 = B := by
  funext u w
  unfold Bs
  rw [Nat.zero_add]
theorem min_go (hB : ∀ t w, B (t % 32) w ↔ B t w) (ha : a < 24) (hK : ∀ v w, K v w → w < 24) (haz : a ≠ z) (h : (∃ m, Ly K B z 0 m a ∧ y = nI (m + 0)) ∨ ((∀ m, m ≤ 769 → ¬ Ly K B z 0 m a) ∧ y = -1)) : IsMin (Hit K B a True z) y := by
  rcases h with ⟨m, h1, h2⟩ | ⟨h1, h2⟩
  · have h3 := Ly_le hB ha hK h1
    unfold Ly at h1
    rw [Bs_0] at h1
    exact Or.inl ⟨m, by omega, h1.2.1, h1.2.2, h2⟩
  · refine Or.inr ⟨fun k _ q => ?_, h2⟩
    obtain ⟨j, -, j2⟩ := Hit_Ly (K := K) (B := B) (t := 0) haz k (by rw [Bs_0]; exact q)
    exact h1 j (by have := Ly_le hB ha hK j2; omega) j2
theorem min_went (hB : ∀ t w, B (t % 32) w ↔ B t w) (ha : a < 24) (hK : ∀ v w, K v w → w < 24) (haz : a ≠ z) (hb : ¬ B 1 a) (h : (∃ m, Ly K B z 1 m a ∧ y = nI (m + 1)) ∨ ((∀ m, m ≤ 769 → ¬ Ly K B z 1 m a) ∧ y = -1)) : IsMin (Hit K B a False z) y := by
  rcases h with ⟨m, h1, h2⟩ | ⟨h1, h2⟩
  · have h3 := Ly_le hB ha hK h1
    refine Or.inl ⟨m + 1, by omega, Hit_went.mpr ⟨hb, h1.2.1⟩, fun j hj q => ?_, h2⟩
    cases j with
    | zero => exact Hit_went0 q
    | succ i => exact h1.2.2 i (by omega) (Hit_went.mp q).2
  · refine Or.inr ⟨fun k _ q => ?_, h2⟩
    cases k with
    | zero => exact Hit_went0 q
    | succ i =>
      obtain ⟨j, -, j2⟩ := Hit_Ly (K := K) (B := B) (t := 1) haz i (Hit_went.mp q).2
      exact h1 j (by have := Ly_le hB ha hK j2; omega) j2
theorem min_stuck (hb : B 1 a) : IsMin (Hit K B a False z) (-1) := by
  refine Or.inr ⟨fun k _ q => ?_, rfl⟩
  cases k with
  | zero => exact Hit_went0 q
  | succ i => exact (Hit_went.mp q).1 hb
end
theorem pu_bw {st : St} {n p l s r a z : Nat} {cd : Nat → Nat} {p4 : Int32} {go : Prop} (h : Base st n p l s r cd) (hl : Lks (St_links st) n r cd) (ha : a < n) (hz : z < n) (haz : a ≠ z) (hgo : p4 = 0 ↔ go) (wa : Wa) : ∃ y wa', fX4_backwards wa st (nI a) (nI z) p4 = some (y, wa') ∧ IsMin (Hit (Kw n r cd) (Bar n p l s cd) a go z) y := by
  have hn := h.2.2.2.2.2.1
  have hB : ∀ t w, Bar n p l s cd (t % 32) w ↔ Bar n p l s cd t w := fun t w => Bar_mod t w
  have hK : ∀ v w, Kw n r cd v w → w < 24 := fun v w q => by have := q.2.1; omega
  obtain ⟨wa1, e1, e2⟩ := pu_look h wa
  obtain ⟨wa2, f1, f2⟩ := pu_sae h hl hz (wa := wa1) (fun t ht => (e2 t ht).1)
  unfold fX4_backwards
  rw [e1]
  simp only [pu_bd]
  by_cases hg : p4 = 0
  · have g : go = True := eq_true (hgo.mp hg)
    subst g
    rw [if_pos hg, if_pos hg, f1]
    simp only [pu_bd]
    obtain ⟨y, wa', k1, k2⟩ := pu_bw_L (q := 0) h hl ha hz (by decide) 770 0 1000 wa2 rfl (by decide) f2 (fun i hi => by omega)
    exact ⟨y, wa', k1, min_go hB (by omega) hK haz k2⟩
  · have g : go = False := eq_false (fun q => hg (hgo.mpr q))
    subst g
    have hb1 := (e2 1 (by decide)).1 a (by omega)
    rw [if_neg hg, show inb (1 : Int32) 32 = true from by decide, show (1 : Int32).toNatClampNeg = 1 from by decide, pu_has (by omega)]
    simp only [pu_ck, pu_bd]
    cases hc : bt (Wa_barred wa1 1) a
    · rw [if_pos (show (if false = true then (1 : Int32) else 0) = 0 by decide), if_neg hg, f1]
      simp only [pu_bd]
      obtain ⟨y, wa', k1, k2⟩ := pu_bw_L (q := 1) h hl ha hz (by decide) 770 0 1000 wa2 rfl (by decide) f2 (fun i hi => by omega)
      refine ⟨y, wa', k1, min_went hB (by omega) hK haz (fun q => ?_) k2⟩
      rw [hb1.mpr q] at hc
      cases hc
    · rw [if_neg (show ¬ (if true = true then (1 : Int32) else 0) = 0 by decide)]
      exact ⟨-1, wa1, rfl, min_stuck (hb1.mp hc)⟩
end BWM
